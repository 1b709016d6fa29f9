def rm_X8_tellHouse : Room := { frames := 1, cells := 0, slots := 0, locals := 64 }
def m_X8_tellHouse (r1 : Nat) (σ : Mem) (x2 : Int32) : Option (Mem) := (gd ((0 : Int32) + x2) 64 (gd (0 : Int32) 10 (lt (ms σ 35 (Int32.toNatClampNeg (0 : Int32)) ((σ r1 (Int32.toNatClampNeg ((0 : Int32) + x2))))) fun σ1 => (gd ((8 : Int32) + x2) 64 (gd (1 : Int32) 10 (lt (ms σ1 35 (Int32.toNatClampNeg (1 : Int32)) ((σ1 r1 (Int32.toNatClampNeg ((8 : Int32) + x2))))) fun σ2 => (gd (63 : Int32) 64 (gd (2 : Int32) 10 (lt (ms σ2 35 (Int32.toNatClampNeg (2 : Int32)) ((σ2 r1 (Int32.toNatClampNeg (63 : Int32))))) fun σ3 => (gd x2 8 (gd (3 : Int32) 10 (lt (ms σ3 35 (Int32.toNatClampNeg (3 : Int32)) ((σ3 24 (Int32.toNatClampNeg x2)))) fun σ4 => (some σ4)))))))))))))
set_option maxHeartbeats 4000000 in
set_option maxRecDepth 100000 in
theorem w_X8_tellHouse_0 {p : Program} {l : Launch} {e : Env} {s : State} {m : MethodId} {args : Array Value} {below : List Frame} {meth : Method} {c : Code} {A : Nat → Prop} {E : CE} {q : Mem} (X : CX p s m meth c args cX8_tellHouse 3 RX8 none) {r1 : Nat} (hr1 : KCaI E r1 64) : ∀ (σ : Mem) (x2 : Int32) , m_X8_tellHouse r1 σ x2 = some q → ∀ (H : Heap) (locs : List Loc) (ls : Array Slot), WI (vC E) A s H locs σ → lv_has ls 3 [(0, .ref (ca E 22)), (1, .ref (ca E r1)), (2, .int x2)] → W p l e rm_X8_tellHouse s m args below meth c H locs 0 0 (MQ below (QV (vC E) A q) args s 0 0 A) (F0 m 0 ls []) := by
  have hx := X.1
  have hb := X.2.1
  intro σ x2 h H locs ls I hl
  unfold m_X8_tellHouse at h
  refine lv_aload_n hx hb dX8_tellHouse_0 rfl (lv_at hl 0 rfl) ?_
  refine gfC_X8_18 X I (kC_22 E) (k' := 35) rfl dX8_tellHouse_1 ?_
  refine lv_iconst (v := 0) hx hb dX8_tellHouse_4 (by decide) ?_
  refine lv_aload_n hx hb dX8_tellHouse_5 rfl (lv_at hl 1 rfl) ?_
  refine lv_iconst (v := 0) hx hb dX8_tellHouse_6 (by decide) ?_
  refine lv_iload_n hx hb dX8_tellHouse_7 rfl (lv_at hl 2 rfl) ?_
  refine lv_iadd hx hb dX8_tellHouse_8 ?_
  obtain ⟨hin, h⟩ := gd_some h
  refine ialdC X I hr1 hin dX8_tellHouse_9 ?_
  obtain ⟨hin, h⟩ := gd_some h
  refine iastC X I (kC_35 E) hin dX8_tellHouse_10 (fun H locs I => ?_)
  obtain ⟨σ1, eσ1, h⟩ := lt_e h
  replace I := wi_nm eσ1 I
  refine lv_aload_n hx hb dX8_tellHouse_11 rfl (lv_at hl 0 rfl) ?_
  refine gfC_X8_18 X I (kC_22 E) (k' := 35) rfl dX8_tellHouse_12 ?_
  refine lv_iconst (v := 1) hx hb dX8_tellHouse_15 (by decide) ?_
  refine lv_aload_n hx hb dX8_tellHouse_16 rfl (lv_at hl 1 rfl) ?_
  refine lv_bipush (v := 8) hx hb dX8_tellHouse_17 (by decide) ?_
  refine lv_iload_n hx hb dX8_tellHouse_19 rfl (lv_at hl 2 rfl) ?_
  refine lv_iadd hx hb dX8_tellHouse_20 ?_
  obtain ⟨hin, h⟩ := gd_some h
  refine ialdC X I hr1 hin dX8_tellHouse_21 ?_
  obtain ⟨hin, h⟩ := gd_some h
  refine iastC X I (kC_35 E) hin dX8_tellHouse_22 (fun H locs I => ?_)
  obtain ⟨σ2, eσ2, h⟩ := lt_e h
  replace I := wi_nm eσ2 I
  refine lv_aload_n hx hb dX8_tellHouse_23 rfl (lv_at hl 0 rfl) ?_
  refine gfC_X8_18 X I (kC_22 E) (k' := 35) rfl dX8_tellHouse_24 ?_
  refine lv_iconst (v := 2) hx hb dX8_tellHouse_27 (by decide) ?_
  refine lv_aload_n hx hb dX8_tellHouse_28 rfl (lv_at hl 1 rfl) ?_
  refine lv_bipush (v := 63) hx hb dX8_tellHouse_29 (by decide) ?_
  obtain ⟨hin, h⟩ := gd_some h
  refine ialdC X I hr1 hin dX8_tellHouse_31 ?_
  obtain ⟨hin, h⟩ := gd_some h
  refine iastC X I (kC_35 E) hin dX8_tellHouse_32 (fun H locs I => ?_)
  obtain ⟨σ3, eσ3, h⟩ := lt_e h
  replace I := wi_nm eσ3 I
  refine lv_aload_n hx hb dX8_tellHouse_33 rfl (lv_at hl 0 rfl) ?_
  refine gfC_X8_18 X I (kC_22 E) (k' := 35) rfl dX8_tellHouse_34 ?_
  refine lv_iconst (v := 3) hx hb dX8_tellHouse_37 (by decide) ?_
  refine lv_aload_n hx hb dX8_tellHouse_38 rfl (lv_at hl 0 rfl) ?_
  refine gfC_X8_12 X I (kC_22 E) (k' := 23) rfl dX8_tellHouse_39 ?_
  refine gfC_X8_62 X I (kC_23 E) (k' := 24) rfl dX8_tellHouse_42 ?_
  refine lv_iload_n hx hb dX8_tellHouse_45 rfl (lv_at hl 2 rfl) ?_
  obtain ⟨hin, h⟩ := gd_some h
  refine ialdC X I (kC_24 E) hin dX8_tellHouse_46 ?_
  obtain ⟨hin, h⟩ := gd_some h
  refine iastC X I (kC_35 E) hin dX8_tellHouse_47 (fun H locs I => ?_)
  obtain ⟨σ4, eσ4, h⟩ := lt_e h
  replace I := wi_nm eσ4 I
  exact r_vret X I (Option.some.inj h).symm dX8_tellHouse_48
theorem c_X8_tellHouse {l : Launch} {E : CE} {r1 : Nat} {σ : Mem} {x2 : Int32} (hr1 : KCaI E r1 64) {q : Mem} (h : m_X8_tellHouse r1 σ x2 = some q) : CV l (vC E) yX8_tellHouse (.code yX8_tellHouse cX8_tellHouse 3 none :: GG) rm_X8_tellHouse [.ref (ca E 22), .ref (ca E r1), .int x2] σ q :=
  mk_CV (by decide +kernel) (Nat.le_of_ble_eq_true rfl) (fun p e s m args below meth c A ls X I hl => w_X8_tellHouse_0 X hr1 σ x2 h s.heap [] ls I (lv_sub hl [0, 1, 2] rfl))

def rm_X8_tellTenant : Room := { frames := 1, cells := 0, slots := 0, locals := 64 }
def f_X8_tellTenant_71 (r1 : Nat) (σ : Mem) (x2 : Int32) (x3 : Int32) (z0 : Int32) : Option (Mem) := (if (8 : Int32) ≤ (x2 + (1 : Int32)) then (gd (9 : Int32) 10 (lt (ms σ 35 (Int32.toNatClampNeg (9 : Int32)) (z0)) fun σ2 => (some σ2))) else (gd (x2 + (1 : Int32)) 8 (if (σ 36 (Int32.toNatClampNeg (x2 + (1 : Int32)))) = x3 then (gd (9 : Int32) 10 (lt (ms σ 35 (Int32.toNatClampNeg (9 : Int32)) ((z0 + (1 : Int32)))) fun σ5 => (some σ5))) else (gd (9 : Int32) 10 (lt (ms σ 35 (Int32.toNatClampNeg (9 : Int32)) (z0)) fun σ4 => (some σ4))))))
def m_X8_tellTenant (r1 : Nat) (σ : Mem) (x2 : Int32) (x3 : Int32) : Option (Mem) := (gd ((40 : Int32) + x3) 64 (gd (4 : Int32) 10 (lt (ms σ 35 (Int32.toNatClampNeg (4 : Int32)) ((σ r1 (Int32.toNatClampNeg ((40 : Int32) + x3))))) fun σ1 => (gd ((47 : Int32) + x3) 64 (gd (5 : Int32) 10 (lt (ms σ1 35 (Int32.toNatClampNeg (5 : Int32)) ((σ1 r1 (Int32.toNatClampNeg ((47 : Int32) + x3))))) fun σ2 => (gd ((54 : Int32) + x3) 64 (gd (6 : Int32) 10 (lt (ms σ2 35 (Int32.toNatClampNeg (6 : Int32)) ((σ2 r1 (Int32.toNatClampNeg ((54 : Int32) + x3))))) fun σ3 => (gd x3 7 (gd (8 : Int32) 10 (lt (ms σ3 35 (Int32.toNatClampNeg (8 : Int32)) ((σ3 37 (Int32.toNatClampNeg x3)))) fun σ4 => (if x2 ≤ (0 : Int32) then (f_X8_tellTenant_71 r1 σ4 x2 x3 (0 : Int32)) else (gd (x2 - (1 : Int32)) 8 (if (σ4 36 (Int32.toNatClampNeg (x2 - (1 : Int32)))) = x3 then (f_X8_tellTenant_71 r1 σ4 x2 x3 (1 : Int32)) else (f_X8_tellTenant_71 r1 σ4 x2 x3 (0 : Int32)))))))))))))))))
set_option maxHeartbeats 4000000 in
set_option maxRecDepth 100000 in
theorem w_X8_tellTenant_71 {p : Program} {l : Launch} {e : Env} {s : State} {m : MethodId} {args : Array Value} {below : List Frame} {meth : Method} {c : Code} {A : Nat → Prop} {E : CE} {q : Mem} (X : CX p s m meth c args cX8_tellTenant 5 RX8 none) {r1 : Nat} (hr1 : KCaI E r1 64) : ∀ (σ : Mem) (x2 : Int32) (x3 : Int32) (z0 : Int32), f_X8_tellTenant_71 r1 σ x2 x3 z0 = some q → ∀ (H : Heap) (locs : List Loc) (ls : Array Slot), WI (vC E) A s H locs σ → lv_has ls 5 [(0, .ref (ca E 22)), (2, .int x2), (3, .int x3)] → W p l e rm_X8_tellTenant s m args below meth c H locs 0 0 (MQ below (QV (vC E) A q) args s 0 0 A) (F0 m 71 ls [.int z0]) := by
  have hx := X.1
  have hb := X.2.1
  intro σ x2 x3 z0 h H locs ls I hl
  unfold f_X8_tellTenant_71 at h
  refine lv_istore (lv' := [(4, .int z0), (0, .ref (ca E 22)), (2, .int x2), (3, .int x3)]) hx hb dX8_tellTenant_71 hl (by decide) rfl (fun ls hl => ?_)
  refine lv_aload_n hx hb dX8_tellTenant_73 rfl (lv_at hl 1 rfl) ?_
  refine gfC_X8_18 X I (kC_22 E) (k' := 35) rfl dX8_tellTenant_74 ?_
  refine lv_bipush (v := 9) hx hb dX8_tellTenant_77 (by decide) ?_
  refine lv_iload_n hx hb dX8_tellTenant_79 rfl (lv_at hl 2 rfl) ?_
  refine lv_iconst (v := 1) hx hb dX8_tellTenant_80 (by decide) ?_
  refine lv_iadd hx hb dX8_tellTenant_81 ?_
  refine lv_bipush (v := 8) hx hb dX8_tellTenant_82 (by decide) ?_
  refine lv_icmp_ge (tgt := 106) hx hb dX8_tellTenant_84 (by decide) (fun c1 => ?_) (fun c1 => ?_)
  · have h := ite_t h c1
    refine lv_iload hx hb dX8_tellTenant_106 (lv_at hl 0 rfl) ?_
    obtain ⟨hin, h⟩ := gd_some h
    refine iastC X I (kC_35 E) hin dX8_tellTenant_108 (fun H locs I => ?_)
    obtain ⟨σ2, eσ2, h⟩ := lt_e h
    replace I := wi_nm eσ2 I
    exact r_vret X I (Option.some.inj h).symm dX8_tellTenant_109
  · have h := ite_f h c1
    refine lv_aload_n hx hb dX8_tellTenant_87 rfl (lv_at hl 1 rfl) ?_
    refine gfC_X8_22 X I (kC_22 E) (k' := 36) rfl dX8_tellTenant_88 ?_
    refine lv_iload_n hx hb dX8_tellTenant_91 rfl (lv_at hl 2 rfl) ?_
    refine lv_iconst (v := 1) hx hb dX8_tellTenant_92 (by decide) ?_
    refine lv_iadd hx hb dX8_tellTenant_93 ?_
    obtain ⟨hin, h⟩ := gd_some h
    refine ialdC X I (kC_36 E) hin dX8_tellTenant_94 ?_
    refine lv_iload_n hx hb dX8_tellTenant_95 rfl (lv_at hl 3 rfl) ?_
    refine lv_icmp_ne (tgt := 106) hx hb dX8_tellTenant_96 (by decide) (fun c3 => ?_) (fun c3 => ?_)
    · have h := ite_f h c3
      refine lv_iload hx hb dX8_tellTenant_106 (lv_at hl 0 rfl) ?_
      obtain ⟨hin, h⟩ := gd_some h
      refine iastC X I (kC_35 E) hin dX8_tellTenant_108 (fun H locs I => ?_)
      obtain ⟨σ4, eσ4, h⟩ := lt_e h
      replace I := wi_nm eσ4 I
      exact r_vret X I (Option.some.inj h).symm dX8_tellTenant_109
    · have h := ite_t h c3
      refine lv_iload hx hb dX8_tellTenant_99 (lv_at hl 0 rfl) ?_
      refine lv_iconst (v := 1) hx hb dX8_tellTenant_101 (by decide) ?_
      refine lv_iadd hx hb dX8_tellTenant_102 ?_
      refine lv_goto (tgt := 108) hx hb dX8_tellTenant_103 (by decide) ?_
      obtain ⟨hin, h⟩ := gd_some h
      refine iastC X I (kC_35 E) hin dX8_tellTenant_108 (fun H locs I => ?_)
      obtain ⟨σ5, eσ5, h⟩ := lt_e h
      replace I := wi_nm eσ5 I
      exact r_vret X I (Option.some.inj h).symm dX8_tellTenant_109
set_option maxHeartbeats 4000000 in
set_option maxRecDepth 100000 in
theorem w_X8_tellTenant_0 {p : Program} {l : Launch} {e : Env} {s : State} {m : MethodId} {args : Array Value} {below : List Frame} {meth : Method} {c : Code} {A : Nat → Prop} {E : CE} {q : Mem} (X : CX p s m meth c args cX8_tellTenant 5 RX8 none) {r1 : Nat} (hr1 : KCaI E r1 64) : ∀ (σ : Mem) (x2 : Int32) (x3 : Int32) , m_X8_tellTenant r1 σ x2 x3 = some q → ∀ (H : Heap) (locs : List Loc) (ls : Array Slot), WI (vC E) A s H locs σ → lv_has ls 5 [(0, .ref (ca E 22)), (1, .ref (ca E r1)), (2, .int x2), (3, .int x3)] → W p l e rm_X8_tellTenant s m args below meth c H locs 0 0 (MQ below (QV (vC E) A q) args s 0 0 A) (F0 m 0 ls []) := by
  have hx := X.1
  have hb := X.2.1
  intro σ x2 x3 h H locs ls I hl
  unfold m_X8_tellTenant at h
  refine lv_aload_n hx hb dX8_tellTenant_0 rfl (lv_at hl 0 rfl) ?_
  refine gfC_X8_18 X I (kC_22 E) (k' := 35) rfl dX8_tellTenant_1 ?_
  refine lv_iconst (v := 4) hx hb dX8_tellTenant_4 (by decide) ?_
  refine lv_aload_n hx hb dX8_tellTenant_5 rfl (lv_at hl 1 rfl) ?_
  refine lv_bipush (v := 40) hx hb dX8_tellTenant_6 (by decide) ?_
  refine lv_iload_n hx hb dX8_tellTenant_8 rfl (lv_at hl 3 rfl) ?_
  refine lv_iadd hx hb dX8_tellTenant_9 ?_
  obtain ⟨hin, h⟩ := gd_some h
  refine ialdC X I hr1 hin dX8_tellTenant_10 ?_
  obtain ⟨hin, h⟩ := gd_some h
  refine iastC X I (kC_35 E) hin dX8_tellTenant_11 (fun H locs I => ?_)
  obtain ⟨σ1, eσ1, h⟩ := lt_e h
  replace I := wi_nm eσ1 I
  refine lv_aload_n hx hb dX8_tellTenant_12 rfl (lv_at hl 0 rfl) ?_
  refine gfC_X8_18 X I (kC_22 E) (k' := 35) rfl dX8_tellTenant_13 ?_
  refine lv_iconst (v := 5) hx hb dX8_tellTenant_16 (by decide) ?_
  refine lv_aload_n hx hb dX8_tellTenant_17 rfl (lv_at hl 1 rfl) ?_
  refine lv_bipush (v := 47) hx hb dX8_tellTenant_18 (by decide) ?_
  refine lv_iload_n hx hb dX8_tellTenant_20 rfl (lv_at hl 3 rfl) ?_
  refine lv_iadd hx hb dX8_tellTenant_21 ?_
  obtain ⟨hin, h⟩ := gd_some h
  refine ialdC X I hr1 hin dX8_tellTenant_22 ?_
  obtain ⟨hin, h⟩ := gd_some h
  refine iastC X I (kC_35 E) hin dX8_tellTenant_23 (fun H locs I => ?_)
  obtain ⟨σ2, eσ2, h⟩ := lt_e h
  replace I := wi_nm eσ2 I
  refine lv_aload_n hx hb dX8_tellTenant_24 rfl (lv_at hl 0 rfl) ?_
  refine gfC_X8_18 X I (kC_22 E) (k' := 35) rfl dX8_tellTenant_25 ?_
  refine lv_bipush (v := 6) hx hb dX8_tellTenant_28 (by decide) ?_
  refine lv_aload_n hx hb dX8_tellTenant_30 rfl (lv_at hl 1 rfl) ?_
  refine lv_bipush (v := 54) hx hb dX8_tellTenant_31 (by decide) ?_
  refine lv_iload_n hx hb dX8_tellTenant_33 rfl (lv_at hl 3 rfl) ?_
  refine lv_iadd hx hb dX8_tellTenant_34 ?_
  obtain ⟨hin, h⟩ := gd_some h
  refine ialdC X I hr1 hin dX8_tellTenant_35 ?_
  obtain ⟨hin, h⟩ := gd_some h
  refine iastC X I (kC_35 E) hin dX8_tellTenant_36 (fun H locs I => ?_)
  obtain ⟨σ3, eσ3, h⟩ := lt_e h
  replace I := wi_nm eσ3 I
  refine lv_aload_n hx hb dX8_tellTenant_37 rfl (lv_at hl 0 rfl) ?_
  refine gfC_X8_18 X I (kC_22 E) (k' := 35) rfl dX8_tellTenant_38 ?_
  refine lv_bipush (v := 8) hx hb dX8_tellTenant_41 (by decide) ?_
  refine lv_aload_n hx hb dX8_tellTenant_43 rfl (lv_at hl 0 rfl) ?_
  refine gfC_X8_25 X I (kC_22 E) (k' := 37) rfl dX8_tellTenant_44 ?_
  refine lv_iload_n hx hb dX8_tellTenant_47 rfl (lv_at hl 3 rfl) ?_
  obtain ⟨hin, h⟩ := gd_some h
  refine ialdC X I (kC_37 E) hin dX8_tellTenant_48 ?_
  obtain ⟨hin, h⟩ := gd_some h
  refine iastC X I (kC_35 E) hin dX8_tellTenant_49 (fun H locs I => ?_)
  obtain ⟨σ4, eσ4, h⟩ := lt_e h
  replace I := wi_nm eσ4 I
  refine lv_iload_n hx hb dX8_tellTenant_50 rfl (lv_at hl 2 rfl) ?_
  refine lv_if_le (tgt := 70) hx hb dX8_tellTenant_51 (by decide) (fun c5 => ?_) (fun c5 => ?_)
  · have h := ite_t h c5
    refine lv_iconst (v := 0) hx hb dX8_tellTenant_70 (by decide) ?_
    exact w_X8_tellTenant_71 X hr1  σ4 x2 x3 (0 : Int32) h H locs ls I (lv_sub hl [0, 2, 3] rfl)
  · have h := ite_f h c5
    refine lv_aload_n hx hb dX8_tellTenant_54 rfl (lv_at hl 0 rfl) ?_
    refine gfC_X8_22 X I (kC_22 E) (k' := 36) rfl dX8_tellTenant_55 ?_
    refine lv_iload_n hx hb dX8_tellTenant_58 rfl (lv_at hl 2 rfl) ?_
    refine lv_iconst (v := 1) hx hb dX8_tellTenant_59 (by decide) ?_
    refine lv_isub hx hb dX8_tellTenant_60 ?_
    obtain ⟨hin, h⟩ := gd_some h
    refine ialdC X I (kC_36 E) hin dX8_tellTenant_61 ?_
    refine lv_iload_n hx hb dX8_tellTenant_62 rfl (lv_at hl 3 rfl) ?_
    refine lv_icmp_ne (tgt := 70) hx hb dX8_tellTenant_63 (by decide) (fun c6 => ?_) (fun c6 => ?_)
    · have h := ite_f h c6
      refine lv_iconst (v := 0) hx hb dX8_tellTenant_70 (by decide) ?_
      exact w_X8_tellTenant_71 X hr1  σ4 x2 x3 (0 : Int32) h H locs ls I (lv_sub hl [0, 2, 3] rfl)
    · have h := ite_t h c6
      refine lv_iconst (v := 1) hx hb dX8_tellTenant_66 (by decide) ?_
      refine lv_goto (tgt := 71) hx hb dX8_tellTenant_67 (by decide) ?_
      exact w_X8_tellTenant_71 X hr1  σ4 x2 x3 (1 : Int32) h H locs ls I (lv_sub hl [0, 2, 3] rfl)
theorem c_X8_tellTenant {l : Launch} {E : CE} {r1 : Nat} {σ : Mem} {x2 : Int32} {x3 : Int32} (hr1 : KCaI E r1 64) {q : Mem} (h : m_X8_tellTenant r1 σ x2 x3 = some q) : CV l (vC E) yX8_tellTenant (.code yX8_tellTenant cX8_tellTenant 5 none :: GG) rm_X8_tellTenant [.ref (ca E 22), .ref (ca E r1), .int x2, .int x3] σ q :=
  mk_CV (by decide +kernel) (Nat.le_of_ble_eq_true rfl) (fun p e s m args below meth c A ls X I hl => w_X8_tellTenant_0 X hr1 σ x2 x3 h s.heap [] ls I (lv_sub hl [0, 1, 2, 3] rfl))

def rm_X8_isAsleep : Room := { frames := 3, cells := 0, slots := 0, locals := 110 }
def m_X8_isAsleep (r1 : Nat) (σ : Mem) (x2 : Int32) : Option (Int32 × Mem) := ((m_X8_tellHouse r1 σ x2).bind fun q1 => ((m_X4_isTold 31 q1).bind fun q2 => (if q2 = (0 : Int32) then (gd ((0 : Int32) + x2) 64 (if (q1 r1 (Int32.toNatClampNeg ((0 : Int32) + x2))) < (30 : Int32) then (some ((0 : Int32), q1)) else (some ((1 : Int32), q1)))) else ((m_X4_value 31 35 q1).bind fun q5 => (if q5.1 ≤ (0 : Int32) then (some ((0 : Int32), q5.2)) else (some ((1 : Int32), q5.2)))))))
set_option maxHeartbeats 4000000 in
set_option maxRecDepth 100000 in
theorem w_X8_isAsleep_0 {p : Program} {l : Launch} {e : Env} {s : State} {m : MethodId} {args : Array Value} {below : List Frame} {meth : Method} {c : Code} {A : Nat → Prop} {E : CE} {q : Int32 × Mem} (X : CX p s m meth c args cX8_isAsleep 3 RX8 (some .boolean)) {r1 : Nat} (hr1 : KCaI E r1 64) : ∀ (σ : Mem) (x2 : Int32) , m_X8_isAsleep r1 σ x2 = some q → ∀ (H : Heap) (locs : List Loc) (ls : Array Slot), WI (vC E) A s H locs σ → lv_has ls 3 [(0, .ref (ca E 22)), (1, .ref (ca E r1)), (2, .int x2)] → W p l e rm_X8_isAsleep s m args below meth c H locs 0 0 (MQ below (QI (vC E) A q) args s 0 0 A) (F0 m 0 ls []) := by
  have hx := X.1
  have hb := X.2.1
  intro σ x2 h H locs ls I hl
  unfold m_X8_isAsleep at h
  refine lv_aload_n hx hb dX8_isAsleep_0 rfl (lv_at hl 0 rfl) ?_
  refine lv_aload_n hx hb dX8_isAsleep_1 rfl (lv_at hl 1 rfl) ?_
  refine lv_iload_n hx hb dX8_isAsleep_2 rfl (lv_at hl 2 rfl) ?_
  obtain ⟨q1, hq1, h⟩ := bd h
  refine r_callVV (V := (vC E)) (k := 22) (As := [.ref (ca E r1), .int x2]) (rest := []) X I hl (c_X8_tellHouse hr1 hq1) yv_X8_tellHouse tw_65 ⟨rfl, rfl, Nat.le_of_ble_eq_true rfl, Nat.le_of_ble_eq_true rfl⟩ (kC_22 E).1 ((kC_22 E).2 (σ 22)) rfl rfl rfl (Nat.le_of_ble_eq_true rfl) dX8_isAsleep_3 (fun H locs I => ?_)
  refine lv_aload_n hx hb dX8_isAsleep_6 rfl (lv_at hl 0 rfl) ?_
  refine gfC_X8_12 X I (kC_22 E) (k' := 23) rfl dX8_isAsleep_7 ?_
  refine gfC_X8_85 X I (kC_23 E) (k' := 31) rfl dX8_isAsleep_10 ?_
  obtain ⟨q2, hq2, h⟩ := bd h
  refine r_callVI (V := (vC E)) (k := 31) (As := []) (rest := []) X I hl (c_X4_isTold (kC_31 E) (kC_32 E) (kC_33 E) hq2) yv_X4_isTold tw_71 ⟨rfl, rfl, Nat.le_of_ble_eq_true rfl, Nat.le_of_ble_eq_true rfl⟩ (kC_31 E).1 ((kC_31 E).2 (q1 31)) rfl rfl rfl (Nat.le_of_ble_eq_true rfl) dX8_isAsleep_13 (fun H locs I => ?_)
  refine lv_if_eq (tgt := 44) hx hb dX8_isAsleep_16 (by decide) (fun c3 => ?_) (fun c3 => ?_)
  · have h := ite_t h c3
    refine lv_aload_n hx hb dX8_isAsleep_44 rfl (lv_at hl 1 rfl) ?_
    refine lv_iconst (v := 0) hx hb dX8_isAsleep_45 (by decide) ?_
    refine lv_iload_n hx hb dX8_isAsleep_46 rfl (lv_at hl 2 rfl) ?_
    refine lv_iadd hx hb dX8_isAsleep_47 ?_
    obtain ⟨hin, h⟩ := gd_some h
    refine ialdC X I hr1 hin dX8_isAsleep_48 ?_
    refine lv_bipush (v := 30) hx hb dX8_isAsleep_49 (by decide) ?_
    refine lv_icmp_lt (tgt := 58) hx hb dX8_isAsleep_51 (by decide) (fun c4 => ?_) (fun c4 => ?_)
    · have h := ite_t h c4
      refine lv_iconst (v := 0) hx hb dX8_isAsleep_58 (by decide) ?_
      exact r_zret X I (Option.some.inj h).symm rfl dX8_isAsleep_59
    · have h := ite_f h c4
      refine lv_iconst (v := 1) hx hb dX8_isAsleep_54 (by decide) ?_
      refine lv_goto (tgt := 59) hx hb dX8_isAsleep_55 (by decide) ?_
      exact r_zret X I (Option.some.inj h).symm rfl dX8_isAsleep_59
  · have h := ite_f h c3
    refine lv_aload_n hx hb dX8_isAsleep_19 rfl (lv_at hl 0 rfl) ?_
    refine gfC_X8_12 X I (kC_22 E) (k' := 23) rfl dX8_isAsleep_20 ?_
    refine gfC_X8_85 X I (kC_23 E) (k' := 31) rfl dX8_isAsleep_23 ?_
    refine lv_aload_n hx hb dX8_isAsleep_26 rfl (lv_at hl 0 rfl) ?_
    refine gfC_X8_18 X I (kC_22 E) (k' := 35) rfl dX8_isAsleep_27 ?_
    obtain ⟨q5, hq5, h⟩ := bd h
    refine r_callVI (V := (vC E)) (k := 31) (As := [.ref (ca E 35)]) (rest := []) X I hl (c_X4_value (kC_31 E) (kC_32 E) (kC_33 E) (kC_35 E) hq5) yv_X4_value tw_76 ⟨rfl, rfl, Nat.le_of_ble_eq_true rfl, Nat.le_of_ble_eq_true rfl⟩ (kC_31 E).1 ((kC_31 E).2 (q1 31)) rfl rfl rfl (Nat.le_of_ble_eq_true rfl) dX8_isAsleep_30 (fun H locs I => ?_)
    refine lv_if_le (tgt := 40) hx hb dX8_isAsleep_33 (by decide) (fun c6 => ?_) (fun c6 => ?_)
    · have h := ite_t h c6
      refine lv_iconst (v := 0) hx hb dX8_isAsleep_40 (by decide) ?_
      refine lv_goto (tgt := 59) hx hb dX8_isAsleep_41 (by decide) ?_
      exact r_zret X I (Option.some.inj h).symm rfl dX8_isAsleep_59
    · have h := ite_f h c6
      refine lv_iconst (v := 1) hx hb dX8_isAsleep_36 (by decide) ?_
      refine lv_goto (tgt := 59) hx hb dX8_isAsleep_37 (by decide) ?_
      exact r_zret X I (Option.some.inj h).symm rfl dX8_isAsleep_59
theorem c_X8_isAsleep {l : Launch} {E : CE} {r1 : Nat} {σ : Mem} {x2 : Int32} (hr1 : KCaI E r1 64) {q : Int32 × Mem} (h : m_X8_isAsleep r1 σ x2 = some q) : CI l (vC E) yX8_isAsleep (.code yX8_isAsleep cX8_isAsleep 3 (some .boolean) :: GG) rm_X8_isAsleep [.ref (ca E 22), .ref (ca E r1), .int x2] σ q :=
  mk_CI (by decide +kernel) (Nat.le_of_ble_eq_true rfl) (fun p e s m args below meth c A ls X I hl => w_X8_isAsleep_0 X hr1 σ x2 h s.heap [] ls I (lv_sub hl [0, 1, 2] rfl))

def rm_X8_likingOf : Room := { frames := 3, cells := 0, slots := 0, locals := 110 }
def f_X8_likingOf_97 (r1 : Nat) (σ : Mem) (x3 : Int32) (x5 : Int32) : Option (Int32 × Mem) := (lt (imax (-999 : Int32) (imin (999 : Int32) x5)) fun y1 => (gd x3 7 (if (σ 27 (Int32.toNatClampNeg x3)) = (1 : Int32) then (some ((y1 + (2 : Int32)), σ)) else (some (y1, σ)))))
def f_X8_likingOf_20 (r1 : Nat) (σ : Mem) (x2 : Int32) (x3 : Int32) (z0 : Int32) : Option (Int32 × Mem) := ((m_X4_isTold 28 σ).bind fun q1 => (if q1 = (0 : Int32) then (gd ((40 : Int32) + x3) 64 (gd ((47 : Int32) + x3) 64 (gd ((8 : Int32) + x2) 64 (lt ((((3 : Int32) * (σ r1 (Int32.toNatClampNeg ((40 : Int32) + x3)))) + z0) - ((σ r1 (Int32.toNatClampNeg ((47 : Int32) + x3))) * (σ r1 (Int32.toNatClampNeg ((8 : Int32) + x2))))) fun y3 => (f_X8_likingOf_97 r1 σ x3 y3))))) else (gd (7 : Int32) 10 (lt (ms σ 35 (Int32.toNatClampNeg (7 : Int32)) (z0)) fun σ4 => ((m_X8_tellTenant r1 σ4 x2 x3).bind fun q5 => ((m_X4_value 28 35 q5).bind fun q6 => (f_X8_likingOf_97 r1 q6.2 x3 q6.1)))))))
def m_X8_likingOf (r1 : Nat) (σ : Mem) (x2 : Int32) (x3 : Int32) : Option (Int32 × Mem) := (gd x2 8 (if (σ 36 (Int32.toNatClampNeg x2)) = x3 then (gd ((32 : Int32) + x2) 64 (f_X8_likingOf_20 r1 σ x2 x3 (σ r1 (Int32.toNatClampNeg ((32 : Int32) + x2))))) else (f_X8_likingOf_20 r1 σ x2 x3 (0 : Int32))))
set_option maxHeartbeats 4000000 in
set_option maxRecDepth 100000 in
theorem w_X8_likingOf_97 {p : Program} {l : Launch} {e : Env} {s : State} {m : MethodId} {args : Array Value} {below : List Frame} {meth : Method} {c : Code} {A : Nat → Prop} {E : CE} {q : Int32 × Mem} (X : CX p s m meth c args cX8_likingOf 6 RX8 (some .int)) {r1 : Nat} (hr1 : KCaI E r1 64) : ∀ (σ : Mem) (x3 : Int32) (x5 : Int32) , f_X8_likingOf_97 r1 σ x3 x5 = some q → ∀ (H : Heap) (locs : List Loc) (ls : Array Slot), WI (vC E) A s H locs σ → lv_has ls 6 [(0, .ref (ca E 22)), (3, .int x3), (5, .int x5)] → W p l e rm_X8_likingOf s m args below meth c H locs 0 0 (MQ below (QI (vC E) A q) args s 0 0 A) (F0 m 97 ls []) := by
  have hx := X.1
  have hb := X.2.1
  intro σ x3 x5 h H locs ls I hl
  unfold f_X8_likingOf_97 at h
  refine lv_sipush (v := -999) hx hb dX8_likingOf_97 (by decide) ?_
  refine lv_sipush (v := 999) hx hb dX8_likingOf_100 (by decide) ?_
  refine lv_iload hx hb dX8_likingOf_103 (lv_at hl 2 rfl) ?_
  refine r_min X hl tw_82 ⟨Nat.le_of_ble_eq_true rfl, Nat.le_of_ble_eq_true rfl⟩ dX8_likingOf_105 ?_
  refine r_max X hl tw_61 ⟨Nat.le_of_ble_eq_true rfl, Nat.le_of_ble_eq_true rfl⟩ dX8_likingOf_108 ?_
  obtain ⟨y1, ey1, h⟩ := lt_e h
  refine nm_i ey1 ?_
  refine lv_istore (lv' := [(5, .int y1), (0, .ref (ca E 22)), (3, .int x3)]) hx hb dX8_likingOf_111 hl (by decide) rfl (fun ls hl => ?_)
  refine lv_aload_n hx hb dX8_likingOf_113 rfl (lv_at hl 1 rfl) ?_
  refine gfC_X8_12 X I (kC_22 E) (k' := 23) rfl dX8_likingOf_114 ?_
  refine gfC_X8_119 X I (kC_23 E) (k' := 27) rfl dX8_likingOf_117 ?_
  refine lv_iload_n hx hb dX8_likingOf_120 rfl (lv_at hl 2 rfl) ?_
  obtain ⟨hin, h⟩ := gd_some h
  refine ialdC X I (kC_27 E) hin dX8_likingOf_121 ?_
  refine lv_iconst (v := 1) hx hb dX8_likingOf_122 (by decide) ?_
  refine lv_icmp_ne (tgt := 133) hx hb dX8_likingOf_123 (by decide) (fun c2 => ?_) (fun c2 => ?_)
  · have h := ite_f h c2
    refine lv_iload hx hb dX8_likingOf_133 (lv_at hl 0 rfl) ?_
    exact r_iret X I (Option.some.inj h).symm dX8_likingOf_135
  · have h := ite_t h c2
    refine lv_iload hx hb dX8_likingOf_126 (lv_at hl 0 rfl) ?_
    refine lv_iconst (v := 2) hx hb dX8_likingOf_128 (by decide) ?_
    refine lv_iadd hx hb dX8_likingOf_129 ?_
    refine lv_goto (tgt := 135) hx hb dX8_likingOf_130 (by decide) ?_
    exact r_iret X I (Option.some.inj h).symm dX8_likingOf_135
set_option maxHeartbeats 4000000 in
set_option maxRecDepth 100000 in
theorem w_X8_likingOf_20 {p : Program} {l : Launch} {e : Env} {s : State} {m : MethodId} {args : Array Value} {below : List Frame} {meth : Method} {c : Code} {A : Nat → Prop} {E : CE} {q : Int32 × Mem} (X : CX p s m meth c args cX8_likingOf 6 RX8 (some .int)) {r1 : Nat} (hr1 : KCaI E r1 64) : ∀ (σ : Mem) (x2 : Int32) (x3 : Int32) (z0 : Int32), f_X8_likingOf_20 r1 σ x2 x3 z0 = some q → ∀ (H : Heap) (locs : List Loc) (ls : Array Slot), WI (vC E) A s H locs σ → lv_has ls 6 [(0, .ref (ca E 22)), (1, .ref (ca E r1)), (2, .int x2), (3, .int x3)] → W p l e rm_X8_likingOf s m args below meth c H locs 0 0 (MQ below (QI (vC E) A q) args s 0 0 A) (F0 m 20 ls [.int z0]) := by
  have hx := X.1
  have hb := X.2.1
  intro σ x2 x3 z0 h H locs ls I hl
  unfold f_X8_likingOf_20 at h
  refine lv_istore (lv' := [(4, .int z0), (0, .ref (ca E 22)), (1, .ref (ca E r1)), (2, .int x2), (3, .int x3)]) hx hb dX8_likingOf_20 hl (by decide) rfl (fun ls hl => ?_)
  refine lv_aload_n hx hb dX8_likingOf_22 rfl (lv_at hl 1 rfl) ?_
  refine gfC_X8_12 X I (kC_22 E) (k' := 23) rfl dX8_likingOf_23 ?_
  refine gfC_X8_110 X I (kC_23 E) (k' := 28) rfl dX8_likingOf_26 ?_
  obtain ⟨q1, hq1, h⟩ := bd h
  refine r_callVI (V := (vC E)) (k := 28) (As := []) (rest := []) X I hl (c_X4_isTold (kC_28 E) (kC_29 E) (kC_30 E) hq1) yv_X4_isTold tw_71 ⟨rfl, rfl, Nat.le_of_ble_eq_true rfl, Nat.le_of_ble_eq_true rfl⟩ (kC_28 E).1 ((kC_28 E).2 (σ 28)) rfl rfl rfl (Nat.le_of_ble_eq_true rfl) dX8_likingOf_29 (fun H locs I => ?_)
  refine lv_if_eq (tgt := 70) hx hb dX8_likingOf_32 (by decide) (fun c2 => ?_) (fun c2 => ?_)
  · have h := ite_t h c2
    refine lv_iconst (v := 3) hx hb dX8_likingOf_70 (by decide) ?_
    refine lv_aload_n hx hb dX8_likingOf_71 rfl (lv_at hl 2 rfl) ?_
    refine lv_bipush (v := 40) hx hb dX8_likingOf_72 (by decide) ?_
    refine lv_iload_n hx hb dX8_likingOf_74 rfl (lv_at hl 4 rfl) ?_
    refine lv_iadd hx hb dX8_likingOf_75 ?_
    obtain ⟨hin, h⟩ := gd_some h
    refine ialdC X I hr1 hin dX8_likingOf_76 ?_
    refine lv_imul hx hb dX8_likingOf_77 ?_
    refine lv_iload hx hb dX8_likingOf_78 (lv_at hl 0 rfl) ?_
    refine lv_iadd hx hb dX8_likingOf_80 ?_
    refine lv_aload_n hx hb dX8_likingOf_81 rfl (lv_at hl 2 rfl) ?_
    refine lv_bipush (v := 47) hx hb dX8_likingOf_82 (by decide) ?_
    refine lv_iload_n hx hb dX8_likingOf_84 rfl (lv_at hl 4 rfl) ?_
    refine lv_iadd hx hb dX8_likingOf_85 ?_
    obtain ⟨hin, h⟩ := gd_some h
    refine ialdC X I hr1 hin dX8_likingOf_86 ?_
    refine lv_aload_n hx hb dX8_likingOf_87 rfl (lv_at hl 2 rfl) ?_
    refine lv_bipush (v := 8) hx hb dX8_likingOf_88 (by decide) ?_
    refine lv_iload_n hx hb dX8_likingOf_90 rfl (lv_at hl 3 rfl) ?_
    refine lv_iadd hx hb dX8_likingOf_91 ?_
    obtain ⟨hin, h⟩ := gd_some h
    refine ialdC X I hr1 hin dX8_likingOf_92 ?_
    refine lv_imul hx hb dX8_likingOf_93 ?_
    refine lv_isub hx hb dX8_likingOf_94 ?_
    obtain ⟨y3, ey3, h⟩ := lt_e h
    refine nm_i ey3 ?_
    refine lv_istore (lv' := [(5, .int y3), (4, .int z0), (0, .ref (ca E 22)), (1, .ref (ca E r1)), (2, .int x2), (3, .int x3)]) hx hb dX8_likingOf_95 hl (by decide) rfl (fun ls hl => ?_)
    exact w_X8_likingOf_97 X hr1  σ x3 y3 h H locs ls I (lv_sub hl [2, 5, 0] rfl)
  · have h := ite_f h c2
    refine lv_aload_n hx hb dX8_likingOf_35 rfl (lv_at hl 1 rfl) ?_
    refine gfC_X8_18 X I (kC_22 E) (k' := 35) rfl dX8_likingOf_36 ?_
    refine lv_bipush (v := 7) hx hb dX8_likingOf_39 (by decide) ?_
    refine lv_iload hx hb dX8_likingOf_41 (lv_at hl 0 rfl) ?_
    obtain ⟨hin, h⟩ := gd_some h
    refine iastC X I (kC_35 E) hin dX8_likingOf_43 (fun H locs I => ?_)
    obtain ⟨σ4, eσ4, h⟩ := lt_e h
    replace I := wi_nm eσ4 I
    refine lv_aload_n hx hb dX8_likingOf_44 rfl (lv_at hl 1 rfl) ?_
    refine lv_aload_n hx hb dX8_likingOf_45 rfl (lv_at hl 2 rfl) ?_
    refine lv_iload_n hx hb dX8_likingOf_46 rfl (lv_at hl 3 rfl) ?_
    refine lv_iload_n hx hb dX8_likingOf_47 rfl (lv_at hl 4 rfl) ?_
    obtain ⟨q5, hq5, h⟩ := bd h
    refine r_callVV (V := (vC E)) (k := 22) (As := [.ref (ca E r1), .int x2, .int x3]) (rest := []) X I hl (c_X8_tellTenant hr1 hq5) yv_X8_tellTenant tw_84 ⟨rfl, rfl, Nat.le_of_ble_eq_true rfl, Nat.le_of_ble_eq_true rfl⟩ (kC_22 E).1 ((kC_22 E).2 (σ4 22)) rfl rfl rfl (Nat.le_of_ble_eq_true rfl) dX8_likingOf_48 (fun H locs I => ?_)
    refine lv_aload_n hx hb dX8_likingOf_51 rfl (lv_at hl 1 rfl) ?_
    refine gfC_X8_12 X I (kC_22 E) (k' := 23) rfl dX8_likingOf_52 ?_
    refine gfC_X8_110 X I (kC_23 E) (k' := 28) rfl dX8_likingOf_55 ?_
    refine lv_aload_n hx hb dX8_likingOf_58 rfl (lv_at hl 1 rfl) ?_
    refine gfC_X8_18 X I (kC_22 E) (k' := 35) rfl dX8_likingOf_59 ?_
    obtain ⟨q6, hq6, h⟩ := bd h
    refine r_callVI (V := (vC E)) (k := 28) (As := [.ref (ca E 35)]) (rest := []) X I hl (c_X4_value (kC_28 E) (kC_29 E) (kC_30 E) (kC_35 E) hq6) yv_X4_value tw_76 ⟨rfl, rfl, Nat.le_of_ble_eq_true rfl, Nat.le_of_ble_eq_true rfl⟩ (kC_28 E).1 ((kC_28 E).2 (q5 28)) rfl rfl rfl (Nat.le_of_ble_eq_true rfl) dX8_likingOf_62 (fun H locs I => ?_)
    refine lv_istore (lv' := [(5, .int q6.1), (4, .int z0), (0, .ref (ca E 22)), (1, .ref (ca E r1)), (2, .int x2), (3, .int x3)]) hx hb dX8_likingOf_65 hl (by decide) rfl (fun ls hl => ?_)
    refine lv_goto (tgt := 97) hx hb dX8_likingOf_67 (by decide) ?_
    exact w_X8_likingOf_97 X hr1  q6.2 x3 q6.1 h H locs ls I (lv_sub hl [2, 5, 0] rfl)
set_option maxHeartbeats 4000000 in
set_option maxRecDepth 100000 in
theorem w_X8_likingOf_0 {p : Program} {l : Launch} {e : Env} {s : State} {m : MethodId} {args : Array Value} {below : List Frame} {meth : Method} {c : Code} {A : Nat → Prop} {E : CE} {q : Int32 × Mem} (X : CX p s m meth c args cX8_likingOf 6 RX8 (some .int)) {r1 : Nat} (hr1 : KCaI E r1 64) : ∀ (σ : Mem) (x2 : Int32) (x3 : Int32) , m_X8_likingOf r1 σ x2 x3 = some q → ∀ (H : Heap) (locs : List Loc) (ls : Array Slot), WI (vC E) A s H locs σ → lv_has ls 6 [(0, .ref (ca E 22)), (1, .ref (ca E r1)), (2, .int x2), (3, .int x3)] → W p l e rm_X8_likingOf s m args below meth c H locs 0 0 (MQ below (QI (vC E) A q) args s 0 0 A) (F0 m 0 ls []) := by
  have hx := X.1
  have hb := X.2.1
  intro σ x2 x3 h H locs ls I hl
  unfold m_X8_likingOf at h
  refine lv_aload_n hx hb dX8_likingOf_0 rfl (lv_at hl 0 rfl) ?_
  refine gfC_X8_22 X I (kC_22 E) (k' := 36) rfl dX8_likingOf_1 ?_
  refine lv_iload_n hx hb dX8_likingOf_4 rfl (lv_at hl 2 rfl) ?_
  obtain ⟨hin, h⟩ := gd_some h
  refine ialdC X I (kC_36 E) hin dX8_likingOf_5 ?_
  refine lv_iload_n hx hb dX8_likingOf_6 rfl (lv_at hl 3 rfl) ?_
  refine lv_icmp_ne (tgt := 19) hx hb dX8_likingOf_7 (by decide) (fun c1 => ?_) (fun c1 => ?_)
  · have h := ite_f h c1
    refine lv_iconst (v := 0) hx hb dX8_likingOf_19 (by decide) ?_
    exact w_X8_likingOf_20 X hr1  σ x2 x3 (0 : Int32) h H locs ls I (lv_sub hl [0, 1, 2, 3] rfl)
  · have h := ite_t h c1
    refine lv_aload_n hx hb dX8_likingOf_10 rfl (lv_at hl 1 rfl) ?_
    refine lv_bipush (v := 32) hx hb dX8_likingOf_11 (by decide) ?_
    refine lv_iload_n hx hb dX8_likingOf_13 rfl (lv_at hl 2 rfl) ?_
    refine lv_iadd hx hb dX8_likingOf_14 ?_
    obtain ⟨hin, h⟩ := gd_some h
    refine ialdC X I hr1 hin dX8_likingOf_15 ?_
    refine lv_goto (tgt := 20) hx hb dX8_likingOf_16 (by decide) ?_
    exact w_X8_likingOf_20 X hr1  σ x2 x3 (σ r1 (Int32.toNatClampNeg ((32 : Int32) + x2))) h H locs ls I (lv_sub hl [0, 1, 2, 3] rfl)
theorem c_X8_likingOf {l : Launch} {E : CE} {r1 : Nat} {σ : Mem} {x2 : Int32} {x3 : Int32} (hr1 : KCaI E r1 64) {q : Int32 × Mem} (h : m_X8_likingOf r1 σ x2 x3 = some q) : CI l (vC E) yX8_likingOf (.code yX8_likingOf cX8_likingOf 6 (some .int) :: GG) rm_X8_likingOf [.ref (ca E 22), .ref (ca E r1), .int x2, .int x3] σ q :=
  mk_CI (by decide +kernel) (Nat.le_of_ble_eq_true rfl) (fun p e s m args below meth c A ls X I hl => w_X8_likingOf_0 X hr1 σ x2 x3 h s.heap [] ls I (lv_sub hl [0, 1, 2, 3] rfl))

def rm_X8_rememberOwners : Room := { frames := 1, cells := 0, slots := 0, locals := 64 }
def f_X8_rememberOwners_23 (r1 : Nat) : Nat → Mem → Int32 → Option (Mem)
  | 0, _, _ => none
  | n + 1, σ, x2 => (if (8 : Int32) ≤ x2 then (some σ) else (gd ((24 : Int32) + x2) 64 (lt (σ r1 (Int32.toNatClampNeg ((24 : Int32) + x2))) fun y2 => (gd x2 8 (lt (ms σ 36 (Int32.toNatClampNeg x2) (y2)) fun σ3 => (if y2 < (0 : Int32) then f_X8_rememberOwners_23 r1 n σ3 (x2 + 1) else (if (7 : Int32) ≤ y2 then f_X8_rememberOwners_23 r1 n σ3 (x2 + 1) else (gd y2 7 (gd y2 7 (lt (ms σ3 37 (Int32.toNatClampNeg y2) (((σ3 37 (Int32.toNatClampNeg y2)) + (1 : Int32)))) fun σ6 => f_X8_rememberOwners_23 r1 n σ6 (x2 + 1)))))))))))
def f_X8_rememberOwners_2 (r1 : Nat) : Nat → Mem → Int32 → Option (Mem)
  | 0, _, _ => none
  | n + 1, σ, x2 => (if (7 : Int32) ≤ x2 then (f_X8_rememberOwners_23 r1 KF σ (0 : Int32)) else (gd x2 7 (lt (ms σ 37 (Int32.toNatClampNeg x2) ((0 : Int32))) fun σ2 => f_X8_rememberOwners_2 r1 n σ2 (x2 + 1))))
def m_X8_rememberOwners (r1 : Nat) (σ : Mem) : Option (Mem) := (f_X8_rememberOwners_2 r1 KF σ (0 : Int32))
set_option maxHeartbeats 4000000 in
set_option maxRecDepth 100000 in
theorem w_X8_rememberOwners_23 {p : Program} {l : Launch} {e : Env} {s : State} {m : MethodId} {args : Array Value} {below : List Frame} {meth : Method} {c : Code} {A : Nat → Prop} {E : CE} {q : Mem} (X : CX p s m meth c args cX8_rememberOwners 4 RX8 none) {r1 : Nat} (hr1 : KCaI E r1 64) : ∀ (n : Nat), ∀ (σ : Mem) (x2 : Int32) , f_X8_rememberOwners_23 r1 n σ x2 = some q → ∀ (H : Heap) (locs : List Loc) (ls : Array Slot), WI (vC E) A s H locs σ → lv_has ls 4 [(0, .ref (ca E 22)), (1, .ref (ca E r1)), (2, .int x2)] → W p l e rm_X8_rememberOwners s m args below meth c H locs 0 0 (MQ below (QV (vC E) A q) args s 0 0 A) (F0 m 23 ls []) := by
  have hx := X.1
  have hb := X.2.1
  intro n
  induction n with
  | zero =>
    intro σ x2 h
    cases h
  | succ n ih =>
    intro σ x2 h H locs ls I hl
    rw [f_X8_rememberOwners_23] at h
    refine lv_iload_n hx hb dX8_rememberOwners_23 rfl (lv_at hl 2 rfl) ?_
    refine lv_bipush (v := 8) hx hb dX8_rememberOwners_24 (by decide) ?_
    refine lv_icmp_ge (tgt := 69) hx hb dX8_rememberOwners_26 (by decide) (fun c1 => ?_) (fun c1 => ?_)
    · have h := ite_t h c1
      exact r_vret X I (Option.some.inj h).symm dX8_rememberOwners_69
    · have h := ite_f h c1
      refine lv_aload_n hx hb dX8_rememberOwners_29 rfl (lv_at hl 1 rfl) ?_
      refine lv_bipush (v := 24) hx hb dX8_rememberOwners_30 (by decide) ?_
      refine lv_iload_n hx hb dX8_rememberOwners_32 rfl (lv_at hl 2 rfl) ?_
      refine lv_iadd hx hb dX8_rememberOwners_33 ?_
      obtain ⟨hin, h⟩ := gd_some h
      refine ialdC X I hr1 hin dX8_rememberOwners_34 ?_
      obtain ⟨y2, ey2, h⟩ := lt_e h
      refine nm_i ey2 ?_
      refine lv_istore_n (lv' := [(3, .int y2), (0, .ref (ca E 22)), (1, .ref (ca E r1)), (2, .int x2)]) hx hb dX8_rememberOwners_35 rfl hl (by decide) rfl (fun ls hl => ?_)
      refine lv_aload_n hx hb dX8_rememberOwners_36 rfl (lv_at hl 1 rfl) ?_
      refine gfC_X8_22 X I (kC_22 E) (k' := 36) rfl dX8_rememberOwners_37 ?_
      refine lv_iload_n hx hb dX8_rememberOwners_40 rfl (lv_at hl 3 rfl) ?_
      refine lv_iload_n hx hb dX8_rememberOwners_41 rfl (lv_at hl 0 rfl) ?_
      obtain ⟨hin, h⟩ := gd_some h
      refine iastC X I (kC_36 E) hin dX8_rememberOwners_42 (fun H locs I => ?_)
      obtain ⟨σ3, eσ3, h⟩ := lt_e h
      replace I := wi_nm eσ3 I
      refine lv_iload_n hx hb dX8_rememberOwners_43 rfl (lv_at hl 0 rfl) ?_
      refine lv_if_lt (tgt := 63) hx hb dX8_rememberOwners_44 (by decide) (fun c4 => ?_) (fun c4 => ?_)
      · have h := ite_t h c4
        refine lv_iinc (v := (x2 + 1)) (lv' := [(2, .int (x2 + 1)), (3, .int y2), (0, .ref (ca E 22)), (1, .ref (ca E r1))]) hx hb dX8_rememberOwners_63 hl (k := 3) rfl rfl (by decide) rfl (fun ls hl => ?_)
        refine lv_goto (tgt := 23) hx hb dX8_rememberOwners_66 (by decide) ?_
        exact ih σ3 (x2 + 1) h H locs ls I (lv_sub hl [2, 3, 0] rfl)
      · have h := ite_f h c4
        refine lv_iload_n hx hb dX8_rememberOwners_47 rfl (lv_at hl 0 rfl) ?_
        refine lv_bipush (v := 7) hx hb dX8_rememberOwners_48 (by decide) ?_
        refine lv_icmp_ge (tgt := 63) hx hb dX8_rememberOwners_50 (by decide) (fun c5 => ?_) (fun c5 => ?_)
        · have h := ite_t h c5
          refine lv_iinc (v := (x2 + 1)) (lv' := [(2, .int (x2 + 1)), (3, .int y2), (0, .ref (ca E 22)), (1, .ref (ca E r1))]) hx hb dX8_rememberOwners_63 hl (k := 3) rfl rfl (by decide) rfl (fun ls hl => ?_)
          refine lv_goto (tgt := 23) hx hb dX8_rememberOwners_66 (by decide) ?_
          exact ih σ3 (x2 + 1) h H locs ls I (lv_sub hl [2, 3, 0] rfl)
        · have h := ite_f h c5
          refine lv_aload_n hx hb dX8_rememberOwners_53 rfl (lv_at hl 1 rfl) ?_
          refine gfC_X8_25 X I (kC_22 E) (k' := 37) rfl dX8_rememberOwners_54 ?_
          refine lv_iload_n hx hb dX8_rememberOwners_57 rfl (lv_at hl 0 rfl) ?_
          refine lv_dup2_11 hx hb dX8_rememberOwners_58 rfl rfl ?_
          obtain ⟨hin, h⟩ := gd_some h
          refine ialdC X I (kC_37 E) hin dX8_rememberOwners_59 ?_
          refine lv_iconst (v := 1) hx hb dX8_rememberOwners_60 (by decide) ?_
          refine lv_iadd hx hb dX8_rememberOwners_61 ?_
          obtain ⟨hin, h⟩ := gd_some h
          refine iastC X I (kC_37 E) hin dX8_rememberOwners_62 (fun H locs I => ?_)
          obtain ⟨σ6, eσ6, h⟩ := lt_e h
          replace I := wi_nm eσ6 I
          refine lv_iinc (v := (x2 + 1)) (lv' := [(2, .int (x2 + 1)), (3, .int y2), (0, .ref (ca E 22)), (1, .ref (ca E r1))]) hx hb dX8_rememberOwners_63 hl (k := 3) rfl rfl (by decide) rfl (fun ls hl => ?_)
          refine lv_goto (tgt := 23) hx hb dX8_rememberOwners_66 (by decide) ?_
          exact ih σ6 (x2 + 1) h H locs ls I (lv_sub hl [2, 3, 0] rfl)
set_option maxHeartbeats 4000000 in
set_option maxRecDepth 100000 in
theorem w_X8_rememberOwners_2 {p : Program} {l : Launch} {e : Env} {s : State} {m : MethodId} {args : Array Value} {below : List Frame} {meth : Method} {c : Code} {A : Nat → Prop} {E : CE} {q : Mem} (X : CX p s m meth c args cX8_rememberOwners 4 RX8 none) {r1 : Nat} (hr1 : KCaI E r1 64) : ∀ (n : Nat), ∀ (σ : Mem) (x2 : Int32) , f_X8_rememberOwners_2 r1 n σ x2 = some q → ∀ (H : Heap) (locs : List Loc) (ls : Array Slot), WI (vC E) A s H locs σ → lv_has ls 4 [(0, .ref (ca E 22)), (1, .ref (ca E r1)), (2, .int x2)] → W p l e rm_X8_rememberOwners s m args below meth c H locs 0 0 (MQ below (QV (vC E) A q) args s 0 0 A) (F0 m 2 ls []) := by
  have hx := X.1
  have hb := X.2.1
  intro n
  induction n with
  | zero =>
    intro σ x2 h
    cases h
  | succ n ih =>
    intro σ x2 h H locs ls I hl
    rw [f_X8_rememberOwners_2] at h
    refine lv_iload_n hx hb dX8_rememberOwners_2 rfl (lv_at hl 2 rfl) ?_
    refine lv_bipush (v := 7) hx hb dX8_rememberOwners_3 (by decide) ?_
    refine lv_icmp_ge (tgt := 21) hx hb dX8_rememberOwners_5 (by decide) (fun c1 => ?_) (fun c1 => ?_)
    · have h := ite_t h c1
      refine lv_iconst (v := 0) hx hb dX8_rememberOwners_21 (by decide) ?_
      refine lv_istore_n (lv' := [(2, .int (0 : Int32)), (0, .ref (ca E 22)), (1, .ref (ca E r1))]) hx hb dX8_rememberOwners_22 rfl hl (by decide) rfl (fun ls hl => ?_)
      exact w_X8_rememberOwners_23 X hr1  KF σ (0 : Int32) h H locs ls I (lv_sub hl [1, 2, 0] rfl)
    · have h := ite_f h c1
      refine lv_aload_n hx hb dX8_rememberOwners_8 rfl (lv_at hl 0 rfl) ?_
      refine gfC_X8_25 X I (kC_22 E) (k' := 37) rfl dX8_rememberOwners_9 ?_
      refine lv_iload_n hx hb dX8_rememberOwners_12 rfl (lv_at hl 2 rfl) ?_
      refine lv_iconst (v := 0) hx hb dX8_rememberOwners_13 (by decide) ?_
      obtain ⟨hin, h⟩ := gd_some h
      refine iastC X I (kC_37 E) hin dX8_rememberOwners_14 (fun H locs I => ?_)
      obtain ⟨σ2, eσ2, h⟩ := lt_e h
      replace I := wi_nm eσ2 I
      refine lv_iinc (v := (x2 + 1)) (lv' := [(2, .int (x2 + 1)), (0, .ref (ca E 22)), (1, .ref (ca E r1))]) hx hb dX8_rememberOwners_15 hl (k := 2) rfl rfl (by decide) rfl (fun ls hl => ?_)
      refine lv_goto (tgt := 2) hx hb dX8_rememberOwners_18 (by decide) ?_
      exact ih σ2 (x2 + 1) h H locs ls I (lv_sub hl [1, 2, 0] rfl)
set_option maxHeartbeats 4000000 in
set_option maxRecDepth 100000 in
theorem w_X8_rememberOwners_0 {p : Program} {l : Launch} {e : Env} {s : State} {m : MethodId} {args : Array Value} {below : List Frame} {meth : Method} {c : Code} {A : Nat → Prop} {E : CE} {q : Mem} (X : CX p s m meth c args cX8_rememberOwners 4 RX8 none) {r1 : Nat} (hr1 : KCaI E r1 64) : ∀ (σ : Mem)  , m_X8_rememberOwners r1 σ = some q → ∀ (H : Heap) (locs : List Loc) (ls : Array Slot), WI (vC E) A s H locs σ → lv_has ls 4 [(0, .ref (ca E 22)), (1, .ref (ca E r1))] → W p l e rm_X8_rememberOwners s m args below meth c H locs 0 0 (MQ below (QV (vC E) A q) args s 0 0 A) (F0 m 0 ls []) := by
  have hx := X.1
  have hb := X.2.1
  intro σ  h H locs ls I hl
  unfold m_X8_rememberOwners at h
  refine lv_iconst (v := 0) hx hb dX8_rememberOwners_0 (by decide) ?_
  refine lv_istore_n (lv' := [(2, .int (0 : Int32)), (0, .ref (ca E 22)), (1, .ref (ca E r1))]) hx hb dX8_rememberOwners_1 rfl hl (by decide) rfl (fun ls hl => ?_)
  exact w_X8_rememberOwners_2 X hr1  KF σ (0 : Int32) h H locs ls I (lv_sub hl [1, 2, 0] rfl)
theorem c_X8_rememberOwners {l : Launch} {E : CE} {r1 : Nat} {σ : Mem} (hr1 : KCaI E r1 64) {q : Mem} (h : m_X8_rememberOwners r1 σ = some q) : CV l (vC E) yX8_rememberOwners (.code yX8_rememberOwners cX8_rememberOwners 4 none :: GG) rm_X8_rememberOwners [.ref (ca E 22), .ref (ca E r1)] σ q :=
  mk_CV (by decide +kernel) (Nat.le_of_ble_eq_true rfl) (fun p e s m args below meth c A ls X I hl => w_X8_rememberOwners_0 X hr1 σ  h s.heap [] ls I (lv_sub hl [0, 1] rfl))

def rm_X8_likingNow : Room := { frames := 4, cells := 0, slots := 0, locals := 135 }
def m_X8_likingNow (r1 : Nat) (σ : Mem) (x2 : Int32) (x3 : Int32) : Option (Int32 × Mem) := (gd (62 : Int32) 64 (if (((σ r1 (Int32.toNatClampNeg (62 : Int32))) >>> (x2 &&& 31)) &&& (1 : Int32)) = (1 : Int32) then (some ((0 : Int32), σ)) else ((m_X8_rememberOwners r1 σ).bind fun q2 => ((m_X8_tellHouse r1 q2 x2).bind fun q3 => ((m_X8_likingOf r1 q3 x2 x3).bind fun q4 => (some (q4.1, q4.2)))))))
set_option maxHeartbeats 4000000 in
set_option maxRecDepth 100000 in
theorem w_X8_likingNow_0 {p : Program} {l : Launch} {e : Env} {s : State} {m : MethodId} {args : Array Value} {below : List Frame} {meth : Method} {c : Code} {A : Nat → Prop} {E : CE} {q : Int32 × Mem} (X : CX p s m meth c args cX8_likingNow 4 RX8 (some .int)) {r1 : Nat} (hr1 : KCaI E r1 64) : ∀ (σ : Mem) (x2 : Int32) (x3 : Int32) , m_X8_likingNow r1 σ x2 x3 = some q → ∀ (H : Heap) (locs : List Loc) (ls : Array Slot), WI (vC E) A s H locs σ → lv_has ls 4 [(0, .ref (ca E 22)), (1, .ref (ca E r1)), (2, .int x2), (3, .int x3)] → W p l e rm_X8_likingNow s m args below meth c H locs 0 0 (MQ below (QI (vC E) A q) args s 0 0 A) (F0 m 0 ls []) := by
  have hx := X.1
  have hb := X.2.1
  intro σ x2 x3 h H locs ls I hl
  unfold m_X8_likingNow at h
  refine lv_aload_n hx hb dX8_likingNow_0 rfl (lv_at hl 1 rfl) ?_
  refine lv_bipush (v := 62) hx hb dX8_likingNow_1 (by decide) ?_
  obtain ⟨hin, h⟩ := gd_some h
  refine ialdC X I hr1 hin dX8_likingNow_3 ?_
  refine lv_iload_n hx hb dX8_likingNow_4 rfl (lv_at hl 2 rfl) ?_
  refine lv_ishr hx hb dX8_likingNow_5 ?_
  refine lv_iconst (v := 1) hx hb dX8_likingNow_6 (by decide) ?_
  refine lv_iand hx hb dX8_likingNow_7 ?_
  refine lv_iconst (v := 1) hx hb dX8_likingNow_8 (by decide) ?_
  refine lv_icmp_ne (tgt := 14) hx hb dX8_likingNow_9 (by decide) (fun c1 => ?_) (fun c1 => ?_)
  · have h := ite_f h c1
    refine lv_aload_n hx hb dX8_likingNow_14 rfl (lv_at hl 0 rfl) ?_
    refine lv_aload_n hx hb dX8_likingNow_15 rfl (lv_at hl 1 rfl) ?_
    obtain ⟨q2, hq2, h⟩ := bd h
    refine r_callVV (V := (vC E)) (k := 22) (As := [.ref (ca E r1)]) (rest := []) X I hl (c_X8_rememberOwners hr1 hq2) yv_X8_rememberOwners tw_89 ⟨rfl, rfl, Nat.le_of_ble_eq_true rfl, Nat.le_of_ble_eq_true rfl⟩ (kC_22 E).1 ((kC_22 E).2 (σ 22)) rfl rfl rfl (Nat.le_of_ble_eq_true rfl) dX8_likingNow_16 (fun H locs I => ?_)
    refine lv_aload_n hx hb dX8_likingNow_19 rfl (lv_at hl 0 rfl) ?_
    refine lv_aload_n hx hb dX8_likingNow_20 rfl (lv_at hl 1 rfl) ?_
    refine lv_iload_n hx hb dX8_likingNow_21 rfl (lv_at hl 2 rfl) ?_
    obtain ⟨q3, hq3, h⟩ := bd h
    refine r_callVV (V := (vC E)) (k := 22) (As := [.ref (ca E r1), .int x2]) (rest := []) X I hl (c_X8_tellHouse hr1 hq3) yv_X8_tellHouse tw_65 ⟨rfl, rfl, Nat.le_of_ble_eq_true rfl, Nat.le_of_ble_eq_true rfl⟩ (kC_22 E).1 ((kC_22 E).2 (q2 22)) rfl rfl rfl (Nat.le_of_ble_eq_true rfl) dX8_likingNow_22 (fun H locs I => ?_)
    refine lv_aload_n hx hb dX8_likingNow_25 rfl (lv_at hl 0 rfl) ?_
    refine lv_aload_n hx hb dX8_likingNow_26 rfl (lv_at hl 1 rfl) ?_
    refine lv_iload_n hx hb dX8_likingNow_27 rfl (lv_at hl 2 rfl) ?_
    refine lv_iload_n hx hb dX8_likingNow_28 rfl (lv_at hl 3 rfl) ?_
    obtain ⟨q4, hq4, h⟩ := bd h
    refine r_callVI (V := (vC E)) (k := 22) (As := [.ref (ca E r1), .int x2, .int x3]) (rest := []) X I hl (c_X8_likingOf hr1 hq4) yv_X8_likingOf tw_94 ⟨rfl, rfl, Nat.le_of_ble_eq_true rfl, Nat.le_of_ble_eq_true rfl⟩ (kC_22 E).1 ((kC_22 E).2 (q3 22)) rfl rfl rfl (Nat.le_of_ble_eq_true rfl) dX8_likingNow_29 (fun H locs I => ?_)
    exact r_iret X I (Option.some.inj h).symm dX8_likingNow_32
  · have h := ite_t h c1
    refine lv_iconst (v := 0) hx hb dX8_likingNow_12 (by decide) ?_
    exact r_iret X I (Option.some.inj h).symm dX8_likingNow_13
theorem c_X8_likingNow {l : Launch} {E : CE} {r1 : Nat} {σ : Mem} {x2 : Int32} {x3 : Int32} (hr1 : KCaI E r1 64) {q : Int32 × Mem} (h : m_X8_likingNow r1 σ x2 x3 = some q) : CI l (vC E) yX8_likingNow (.code yX8_likingNow cX8_likingNow 4 (some .int) :: GG) rm_X8_likingNow [.ref (ca E 22), .ref (ca E r1), .int x2, .int x3] σ q :=
  mk_CI (by decide +kernel) (Nat.le_of_ble_eq_true rfl) (fun p e s m args below meth c A ls X I hl => w_X8_likingNow_0 X hr1 σ x2 x3 h s.heap [] ls I (lv_sub hl [0, 1, 2, 3] rfl))

def rm_X8_bury : Room := { frames := 1, cells := 0, slots := 0, locals := 64 }
def m_X8_bury (r1 : Nat) (σ : Mem) (x2 : Int32) : Option (Mem) := (gd ((16 : Int32) + x2) 64 (if (σ r1 (Int32.toNatClampNeg ((16 : Int32) + x2))) ≤ (0 : Int32) then (gd (62 : Int32) 64 (gd (62 : Int32) 64 (lt (ms σ r1 (Int32.toNatClampNeg (62 : Int32)) (((σ r1 (Int32.toNatClampNeg (62 : Int32))) ||| ((1 : Int32) <<< (x2 &&& 31))))) fun σ2 => (gd ((24 : Int32) + x2) 64 (lt (ms σ2 r1 (Int32.toNatClampNeg ((24 : Int32) + x2)) ((-1 : Int32))) fun σ3 => (gd ((32 : Int32) + x2) 64 (lt (ms σ3 r1 (Int32.toNatClampNeg ((32 : Int32) + x2)) ((0 : Int32))) fun σ4 => (some σ4)))))))) else (lt ((16 : Int32) + x2) fun y5 => (gd y5 64 (gd y5 64 (lt (ms σ r1 (Int32.toNatClampNeg y5) (((σ r1 (Int32.toNatClampNeg y5)) - (1 : Int32)))) fun σ6 => (gd ((0 : Int32) + x2) 64 (lt (ms σ6 r1 (Int32.toNatClampNeg ((0 : Int32) + x2)) ((0 : Int32))) fun σ7 => (some σ7)))))))))
set_option maxHeartbeats 4000000 in
set_option maxRecDepth 100000 in
theorem w_X8_bury_0 {p : Program} {l : Launch} {e : Env} {s : State} {m : MethodId} {args : Array Value} {below : List Frame} {meth : Method} {c : Code} {A : Nat → Prop} {E : CE} {q : Mem} (X : CX p s m meth c args cX8_bury 3 RX8 none) {r1 : Nat} (hr1 : KCaI E r1 64) : ∀ (σ : Mem) (x2 : Int32) , m_X8_bury r1 σ x2 = some q → ∀ (H : Heap) (locs : List Loc) (ls : Array Slot), WI (vC E) A s H locs σ → lv_has ls 3 [(1, .ref (ca E r1)), (2, .int x2)] → W p l e rm_X8_bury s m args below meth c H locs 0 0 (MQ below (QV (vC E) A q) args s 0 0 A) (F0 m 0 ls []) := by
  have hx := X.1
  have hb := X.2.1
  intro σ x2 h H locs ls I hl
  unfold m_X8_bury at h
  refine lv_aload_n hx hb dX8_bury_0 rfl (lv_at hl 0 rfl) ?_
  refine lv_bipush (v := 16) hx hb dX8_bury_1 (by decide) ?_
  refine lv_iload_n hx hb dX8_bury_3 rfl (lv_at hl 1 rfl) ?_
  refine lv_iadd hx hb dX8_bury_4 ?_
  obtain ⟨hin, h⟩ := gd_some h
  refine ialdC X I hr1 hin dX8_bury_5 ?_
  refine lv_if_le (tgt := 28) hx hb dX8_bury_6 (by decide) (fun c1 => ?_) (fun c1 => ?_)
  · have h := ite_t h c1
    refine lv_aload_n hx hb dX8_bury_28 rfl (lv_at hl 0 rfl) ?_
    refine lv_bipush (v := 62) hx hb dX8_bury_29 (by decide) ?_
    refine lv_dup2_11 hx hb dX8_bury_31 rfl rfl ?_
    obtain ⟨hin, h⟩ := gd_some h
    refine ialdC X I hr1 hin dX8_bury_32 ?_
    refine lv_iconst (v := 1) hx hb dX8_bury_33 (by decide) ?_
    refine lv_iload_n hx hb dX8_bury_34 rfl (lv_at hl 1 rfl) ?_
    refine lv_ishl hx hb dX8_bury_35 ?_
    refine lv_ior hx hb dX8_bury_36 ?_
    obtain ⟨hin, h⟩ := gd_some h
    refine iastC X I hr1 hin dX8_bury_37 (fun H locs I => ?_)
    obtain ⟨σ2, eσ2, h⟩ := lt_e h
    replace I := wi_nm eσ2 I
    refine lv_aload_n hx hb dX8_bury_38 rfl (lv_at hl 0 rfl) ?_
    refine lv_bipush (v := 24) hx hb dX8_bury_39 (by decide) ?_
    refine lv_iload_n hx hb dX8_bury_41 rfl (lv_at hl 1 rfl) ?_
    refine lv_iadd hx hb dX8_bury_42 ?_
    refine lv_iconst (v := -1) hx hb dX8_bury_43 (by decide) ?_
    obtain ⟨hin, h⟩ := gd_some h
    refine iastC X I hr1 hin dX8_bury_44 (fun H locs I => ?_)
    obtain ⟨σ3, eσ3, h⟩ := lt_e h
    replace I := wi_nm eσ3 I
    refine lv_aload_n hx hb dX8_bury_45 rfl (lv_at hl 0 rfl) ?_
    refine lv_bipush (v := 32) hx hb dX8_bury_46 (by decide) ?_
    refine lv_iload_n hx hb dX8_bury_48 rfl (lv_at hl 1 rfl) ?_
    refine lv_iadd hx hb dX8_bury_49 ?_
    refine lv_iconst (v := 0) hx hb dX8_bury_50 (by decide) ?_
    obtain ⟨hin, h⟩ := gd_some h
    refine iastC X I hr1 hin dX8_bury_51 (fun H locs I => ?_)
    obtain ⟨σ4, eσ4, h⟩ := lt_e h
    replace I := wi_nm eσ4 I
    exact r_vret X I (Option.some.inj h).symm dX8_bury_52
  · have h := ite_f h c1
    refine lv_aload_n hx hb dX8_bury_9 rfl (lv_at hl 0 rfl) ?_
    refine lv_bipush (v := 16) hx hb dX8_bury_10 (by decide) ?_
    refine lv_iload_n hx hb dX8_bury_12 rfl (lv_at hl 1 rfl) ?_
    refine lv_iadd hx hb dX8_bury_13 ?_
    obtain ⟨y5, ey5, h⟩ := lt_e h
    refine nm_i ey5 ?_
    refine lv_dup2_11 hx hb dX8_bury_14 rfl rfl ?_
    obtain ⟨hin, h⟩ := gd_some h
    refine ialdC X I hr1 hin dX8_bury_15 ?_
    refine lv_iconst (v := 1) hx hb dX8_bury_16 (by decide) ?_
    refine lv_isub hx hb dX8_bury_17 ?_
    obtain ⟨hin, h⟩ := gd_some h
    refine iastC X I hr1 hin dX8_bury_18 (fun H locs I => ?_)
    obtain ⟨σ6, eσ6, h⟩ := lt_e h
    replace I := wi_nm eσ6 I
    refine lv_aload_n hx hb dX8_bury_19 rfl (lv_at hl 0 rfl) ?_
    refine lv_iconst (v := 0) hx hb dX8_bury_20 (by decide) ?_
    refine lv_iload_n hx hb dX8_bury_21 rfl (lv_at hl 1 rfl) ?_
    refine lv_iadd hx hb dX8_bury_22 ?_
    refine lv_iconst (v := 0) hx hb dX8_bury_23 (by decide) ?_
    obtain ⟨hin, h⟩ := gd_some h
    refine iastC X I hr1 hin dX8_bury_24 (fun H locs I => ?_)
    obtain ⟨σ7, eσ7, h⟩ := lt_e h
    replace I := wi_nm eσ7 I
    refine lv_goto (tgt := 52) hx hb dX8_bury_25 (by decide) ?_
    exact r_vret X I (Option.some.inj h).symm dX8_bury_52
theorem c_X8_bury {l : Launch} {E : CE} {r1 : Nat} {σ : Mem} {x2 : Int32} (hr1 : KCaI E r1 64) {q : Mem} (h : m_X8_bury r1 σ x2 = some q) : CV l (vC E) yX8_bury (.code yX8_bury cX8_bury 3 none :: GG) rm_X8_bury [.ref (ca E 22), .ref (ca E r1), .int x2] σ q :=
  mk_CV (by decide +kernel) (Nat.le_of_ble_eq_true rfl) (fun p e s m args below meth c A ls X I hl => w_X8_bury_0 X hr1 σ x2 h s.heap [] ls I (lv_sub hl [1, 2] rfl))

def rm_X8_growOld : Room := { frames := 2, cells := 0, slots := 0, locals := 86 }
def f_X8_growOld_2 (r1 : Nat) : Nat → Mem → Int32 → Option (Mem)
  | 0, _, _ => none
  | n + 1, σ, x2 => (if (σ 23 0) ≤ x2 then (some σ) else (gd (62 : Int32) 64 (if (((σ r1 (Int32.toNatClampNeg (62 : Int32))) >>> (x2 &&& 31)) &&& (1 : Int32)) = (0 : Int32) then (lt ((0 : Int32) + x2) fun y3 => (gd y3 64 (gd y3 64 (lt (ms σ r1 (Int32.toNatClampNeg y3) (((σ r1 (Int32.toNatClampNeg y3)) + (1 : Int32)))) fun σ4 => (gd ((0 : Int32) + x2) 64 ((m_X8_lifeOf σ4 x2).bind fun q5 => (if (σ4 r1 (Int32.toNatClampNeg ((0 : Int32) + x2))) < q5 then f_X8_growOld_2 r1 n σ4 (x2 + 1) else ((m_X8_bury r1 σ4 x2).bind fun q7 => f_X8_growOld_2 r1 n q7 (x2 + 1))))))))) else f_X8_growOld_2 r1 n σ (x2 + 1))))
def m_X8_growOld (r1 : Nat) (σ : Mem) : Option (Mem) := (f_X8_growOld_2 r1 KF σ (0 : Int32))
set_option maxHeartbeats 4000000 in
set_option maxRecDepth 100000 in
theorem w_X8_growOld_2 {p : Program} {l : Launch} {e : Env} {s : State} {m : MethodId} {args : Array Value} {below : List Frame} {meth : Method} {c : Code} {A : Nat → Prop} {E : CE} {q : Mem} (X : CX p s m meth c args cX8_growOld 3 RX8 none) {r1 : Nat} (hr1 : KCaI E r1 64) : ∀ (n : Nat), ∀ (σ : Mem) (x2 : Int32) , f_X8_growOld_2 r1 n σ x2 = some q → ∀ (H : Heap) (locs : List Loc) (ls : Array Slot), WI (vC E) A s H locs σ → lv_has ls 3 [(0, .ref (ca E 22)), (1, .ref (ca E r1)), (2, .int x2)] → W p l e rm_X8_growOld s m args below meth c H locs 0 0 (MQ below (QV (vC E) A q) args s 0 0 A) (F0 m 2 ls []) := by
  have hx := X.1
  have hb := X.2.1
  intro n
  induction n with
  | zero =>
    intro σ x2 h
    cases h
  | succ n ih =>
    intro σ x2 h H locs ls I hl
    rw [f_X8_growOld_2] at h
    refine lv_iload_n hx hb dX8_growOld_2 rfl (lv_at hl 2 rfl) ?_
    refine lv_aload_n hx hb dX8_growOld_3 rfl (lv_at hl 0 rfl) ?_
    refine gfC_X8_12 X I (kC_22 E) (k' := 23) rfl dX8_growOld_4 ?_
    refine gfC_X8_42 X I (kC_23 E) dX8_growOld_7 ?_
    refine lv_icmp_ge (tgt := 58) hx hb dX8_growOld_10 (by decide) (fun c1 => ?_) (fun c1 => ?_)
    · have h := ite_t h c1
      exact r_vret X I (Option.some.inj h).symm dX8_growOld_58
    · have h := ite_f h c1
      refine lv_aload_n hx hb dX8_growOld_13 rfl (lv_at hl 1 rfl) ?_
      refine lv_bipush (v := 62) hx hb dX8_growOld_14 (by decide) ?_
      obtain ⟨hin, h⟩ := gd_some h
      refine ialdC X I hr1 hin dX8_growOld_16 ?_
      refine lv_iload_n hx hb dX8_growOld_17 rfl (lv_at hl 2 rfl) ?_
      refine lv_ishr hx hb dX8_growOld_18 ?_
      refine lv_iconst (v := 1) hx hb dX8_growOld_19 (by decide) ?_
      refine lv_iand hx hb dX8_growOld_20 ?_
      refine lv_if_ne (tgt := 52) hx hb dX8_growOld_21 (by decide) (fun c2 => ?_) (fun c2 => ?_)
      · have h := ite_f h c2
        refine lv_iinc (v := (x2 + 1)) (lv' := [(2, .int (x2 + 1)), (0, .ref (ca E 22)), (1, .ref (ca E r1))]) hx hb dX8_growOld_52 hl (k := 2) rfl rfl (by decide) rfl (fun ls hl => ?_)
        refine lv_goto (tgt := 2) hx hb dX8_growOld_55 (by decide) ?_
        exact ih σ (x2 + 1) h H locs ls I (lv_sub hl [1, 2, 0] rfl)
      · have h := ite_t h c2
        refine lv_aload_n hx hb dX8_growOld_24 rfl (lv_at hl 1 rfl) ?_
        refine lv_iconst (v := 0) hx hb dX8_growOld_25 (by decide) ?_
        refine lv_iload_n hx hb dX8_growOld_26 rfl (lv_at hl 2 rfl) ?_
        refine lv_iadd hx hb dX8_growOld_27 ?_
        obtain ⟨y3, ey3, h⟩ := lt_e h
        refine nm_i ey3 ?_
        refine lv_dup2_11 hx hb dX8_growOld_28 rfl rfl ?_
        obtain ⟨hin, h⟩ := gd_some h
        refine ialdC X I hr1 hin dX8_growOld_29 ?_
        refine lv_iconst (v := 1) hx hb dX8_growOld_30 (by decide) ?_
        refine lv_iadd hx hb dX8_growOld_31 ?_
        obtain ⟨hin, h⟩ := gd_some h
        refine iastC X I hr1 hin dX8_growOld_32 (fun H locs I => ?_)
        obtain ⟨σ4, eσ4, h⟩ := lt_e h
        replace I := wi_nm eσ4 I
        refine lv_aload_n hx hb dX8_growOld_33 rfl (lv_at hl 1 rfl) ?_
        refine lv_iconst (v := 0) hx hb dX8_growOld_34 (by decide) ?_
        refine lv_iload_n hx hb dX8_growOld_35 rfl (lv_at hl 2 rfl) ?_
        refine lv_iadd hx hb dX8_growOld_36 ?_
        obtain ⟨hin, h⟩ := gd_some h
        refine ialdC X I hr1 hin dX8_growOld_37 ?_
        refine lv_aload_n hx hb dX8_growOld_38 rfl (lv_at hl 0 rfl) ?_
        refine lv_iload_n hx hb dX8_growOld_39 rfl (lv_at hl 2 rfl) ?_
        obtain ⟨q5, hq5, h⟩ := bd h
        refine r_callVI (V := (vC E)) (k := 22) (As := [.int x2]) (rest := [.int (σ4 r1 (Int32.toNatClampNeg ((0 : Int32) + x2)))]) X I hl (c_X8_lifeOf  hq5) yv_X8_lifeOf tw_56 ⟨rfl, rfl, Nat.le_of_ble_eq_true rfl, Nat.le_of_ble_eq_true rfl⟩ (kC_22 E).1 ((kC_22 E).2 (σ4 22)) rfl rfl rfl (Nat.le_of_ble_eq_true rfl) dX8_growOld_40 (fun H locs I => ?_)
        refine lv_icmp_lt (tgt := 52) hx hb dX8_growOld_43 (by decide) (fun c6 => ?_) (fun c6 => ?_)
        · have h := ite_t h c6
          refine lv_iinc (v := (x2 + 1)) (lv' := [(2, .int (x2 + 1)), (0, .ref (ca E 22)), (1, .ref (ca E r1))]) hx hb dX8_growOld_52 hl (k := 2) rfl rfl (by decide) rfl (fun ls hl => ?_)
          refine lv_goto (tgt := 2) hx hb dX8_growOld_55 (by decide) ?_
          exact ih σ4 (x2 + 1) h H locs ls I (lv_sub hl [1, 2, 0] rfl)
        · have h := ite_f h c6
          refine lv_aload_n hx hb dX8_growOld_46 rfl (lv_at hl 0 rfl) ?_
          refine lv_aload_n hx hb dX8_growOld_47 rfl (lv_at hl 1 rfl) ?_
          refine lv_iload_n hx hb dX8_growOld_48 rfl (lv_at hl 2 rfl) ?_
          obtain ⟨q7, hq7, h⟩ := bd h
          refine r_callVV (V := (vC E)) (k := 22) (As := [.ref (ca E r1), .int x2]) (rest := []) X I hl (c_X8_bury hr1 hq7) yv_X8_bury tw_99 ⟨rfl, rfl, Nat.le_of_ble_eq_true rfl, Nat.le_of_ble_eq_true rfl⟩ (kC_22 E).1 ((kC_22 E).2 (σ4 22)) rfl rfl rfl (Nat.le_of_ble_eq_true rfl) dX8_growOld_49 (fun H locs I => ?_)
          refine lv_iinc (v := (x2 + 1)) (lv' := [(2, .int (x2 + 1)), (0, .ref (ca E 22)), (1, .ref (ca E r1))]) hx hb dX8_growOld_52 hl (k := 2) rfl rfl (by decide) rfl (fun ls hl => ?_)
          refine lv_goto (tgt := 2) hx hb dX8_growOld_55 (by decide) ?_
          exact ih q7 (x2 + 1) h H locs ls I (lv_sub hl [1, 2, 0] rfl)
set_option maxHeartbeats 4000000 in
set_option maxRecDepth 100000 in
theorem w_X8_growOld_0 {p : Program} {l : Launch} {e : Env} {s : State} {m : MethodId} {args : Array Value} {below : List Frame} {meth : Method} {c : Code} {A : Nat → Prop} {E : CE} {q : Mem} (X : CX p s m meth c args cX8_growOld 3 RX8 none) {r1 : Nat} (hr1 : KCaI E r1 64) : ∀ (σ : Mem)  , m_X8_growOld r1 σ = some q → ∀ (H : Heap) (locs : List Loc) (ls : Array Slot), WI (vC E) A s H locs σ → lv_has ls 3 [(0, .ref (ca E 22)), (1, .ref (ca E r1))] → W p l e rm_X8_growOld s m args below meth c H locs 0 0 (MQ below (QV (vC E) A q) args s 0 0 A) (F0 m 0 ls []) := by
  have hx := X.1
  have hb := X.2.1
  intro σ  h H locs ls I hl
  unfold m_X8_growOld at h
  refine lv_iconst (v := 0) hx hb dX8_growOld_0 (by decide) ?_
  refine lv_istore_n (lv' := [(2, .int (0 : Int32)), (0, .ref (ca E 22)), (1, .ref (ca E r1))]) hx hb dX8_growOld_1 rfl hl (by decide) rfl (fun ls hl => ?_)
  exact w_X8_growOld_2 X hr1  KF σ (0 : Int32) h H locs ls I (lv_sub hl [1, 2, 0] rfl)
theorem c_X8_growOld {l : Launch} {E : CE} {r1 : Nat} {σ : Mem} (hr1 : KCaI E r1 64) {q : Mem} (h : m_X8_growOld r1 σ = some q) : CV l (vC E) yX8_growOld (.code yX8_growOld cX8_growOld 3 none :: GG) rm_X8_growOld [.ref (ca E 22), .ref (ca E r1)] σ q :=
  mk_CV (by decide +kernel) (Nat.le_of_ble_eq_true rfl) (fun p e s m args below meth c A ls X I hl => w_X8_growOld_0 X hr1 σ  h s.heap [] ls I (lv_sub hl [0, 1] rfl))

def rm_X8_settle : Room := { frames := 2, cells := 0, slots := 0, locals := 85 }
def f_X8_settle_42 (r1 : Nat) (σ : Mem) (x2 : Int32) (x3 : Int32) (z1 : Int32) (z2 : Int32) : Option (Mem) := (gd z1 64 (lt (ms σ r1 (Int32.toNatClampNeg z1) (z2)) fun σ1 => (gd ((40 : Int32) + x3) 64 (gd ((40 : Int32) + x3) 64 (lt (ms σ1 r1 (Int32.toNatClampNeg ((40 : Int32) + x3)) ((imax (0 : Int32) ((σ1 r1 (Int32.toNatClampNeg ((40 : Int32) + x3))) - (1 : Int32))))) fun σ2 => (gd ((24 : Int32) + x2) 64 (lt (ms σ2 r1 (Int32.toNatClampNeg ((24 : Int32) + x2)) (x3)) fun σ3 => (some σ3))))))))
def m_X8_settle (r1 : Nat) (σ : Mem) (x2 : Int32) (x3 : Int32) : Option (Mem) := (if x3 = (-1 : Int32) then (gd ((32 : Int32) + x2) 64 (lt (ms σ r1 (Int32.toNatClampNeg ((32 : Int32) + x2)) ((0 : Int32))) fun σ3 => (gd ((24 : Int32) + x2) 64 (lt (ms σ3 r1 (Int32.toNatClampNeg ((24 : Int32) + x2)) (x3)) fun σ4 => (some σ4))))) else (gd x2 8 (if x3 = (σ 36 (Int32.toNatClampNeg x2)) then (gd ((32 : Int32) + x2) 64 (f_X8_settle_42 r1 σ x2 x3 ((32 : Int32) + x2) ((σ r1 (Int32.toNatClampNeg ((32 : Int32) + x2))) + (1 : Int32)))) else (f_X8_settle_42 r1 σ x2 x3 ((32 : Int32) + x2) (1 : Int32)))))
set_option maxHeartbeats 4000000 in
set_option maxRecDepth 100000 in
theorem w_X8_settle_42 {p : Program} {l : Launch} {e : Env} {s : State} {m : MethodId} {args : Array Value} {below : List Frame} {meth : Method} {c : Code} {A : Nat → Prop} {E : CE} {q : Mem} (X : CX p s m meth c args cX8_settle 4 RX8 none) {r1 : Nat} (hr1 : KCaI E r1 64) : ∀ (σ : Mem) (x2 : Int32) (x3 : Int32) (z1 : Int32) (z2 : Int32), f_X8_settle_42 r1 σ x2 x3 z1 z2 = some q → ∀ (H : Heap) (locs : List Loc) (ls : Array Slot), WI (vC E) A s H locs σ → lv_has ls 4 [(1, .ref (ca E r1)), (2, .int x2), (3, .int x3)] → W p l e rm_X8_settle s m args below meth c H locs 0 0 (MQ below (QV (vC E) A q) args s 0 0 A) (F0 m 42 ls [.int z2, .int z1, .ref (ca E r1)]) := by
  have hx := X.1
  have hb := X.2.1
  intro σ x2 x3 z1 z2 h H locs ls I hl
  unfold f_X8_settle_42 at h
  obtain ⟨hin, h⟩ := gd_some h
  refine iastC X I hr1 hin dX8_settle_42 (fun H locs I => ?_)
  obtain ⟨σ1, eσ1, h⟩ := lt_e h
  replace I := wi_nm eσ1 I
  refine lv_aload_n hx hb dX8_settle_43 rfl (lv_at hl 0 rfl) ?_
  refine lv_bipush (v := 40) hx hb dX8_settle_44 (by decide) ?_
  refine lv_iload_n hx hb dX8_settle_46 rfl (lv_at hl 2 rfl) ?_
  refine lv_iadd hx hb dX8_settle_47 ?_
  refine lv_iconst (v := 0) hx hb dX8_settle_48 (by decide) ?_
  refine lv_aload_n hx hb dX8_settle_49 rfl (lv_at hl 0 rfl) ?_
  refine lv_bipush (v := 40) hx hb dX8_settle_50 (by decide) ?_
  refine lv_iload_n hx hb dX8_settle_52 rfl (lv_at hl 2 rfl) ?_
  refine lv_iadd hx hb dX8_settle_53 ?_
  obtain ⟨hin, h⟩ := gd_some h
  refine ialdC X I hr1 hin dX8_settle_54 ?_
  refine lv_iconst (v := 1) hx hb dX8_settle_55 (by decide) ?_
  refine lv_isub hx hb dX8_settle_56 ?_
  refine r_max X hl tw_61 ⟨Nat.le_of_ble_eq_true rfl, Nat.le_of_ble_eq_true rfl⟩ dX8_settle_57 ?_
  obtain ⟨hin, h⟩ := gd_some h
  refine iastC X I hr1 hin dX8_settle_60 (fun H locs I => ?_)
  obtain ⟨σ2, eσ2, h⟩ := lt_e h
  replace I := wi_nm eσ2 I
  refine lv_aload_n hx hb dX8_settle_61 rfl (lv_at hl 0 rfl) ?_
  refine lv_bipush (v := 24) hx hb dX8_settle_62 (by decide) ?_
  refine lv_iload_n hx hb dX8_settle_64 rfl (lv_at hl 1 rfl) ?_
  refine lv_iadd hx hb dX8_settle_65 ?_
  refine lv_iload_n hx hb dX8_settle_66 rfl (lv_at hl 2 rfl) ?_
  obtain ⟨hin, h⟩ := gd_some h
  refine iastC X I hr1 hin dX8_settle_67 (fun H locs I => ?_)
  obtain ⟨σ3, eσ3, h⟩ := lt_e h
  replace I := wi_nm eσ3 I
  exact r_vret X I (Option.some.inj h).symm dX8_settle_68
set_option maxHeartbeats 4000000 in
set_option maxRecDepth 100000 in
theorem w_X8_settle_0 {p : Program} {l : Launch} {e : Env} {s : State} {m : MethodId} {args : Array Value} {below : List Frame} {meth : Method} {c : Code} {A : Nat → Prop} {E : CE} {q : Mem} (X : CX p s m meth c args cX8_settle 4 RX8 none) {r1 : Nat} (hr1 : KCaI E r1 64) : ∀ (σ : Mem) (x2 : Int32) (x3 : Int32) , m_X8_settle r1 σ x2 x3 = some q → ∀ (H : Heap) (locs : List Loc) (ls : Array Slot), WI (vC E) A s H locs σ → lv_has ls 4 [(0, .ref (ca E 22)), (1, .ref (ca E r1)), (2, .int x2), (3, .int x3)] → W p l e rm_X8_settle s m args below meth c H locs 0 0 (MQ below (QV (vC E) A q) args s 0 0 A) (F0 m 0 ls []) := by
  have hx := X.1
  have hb := X.2.1
  intro σ x2 x3 h H locs ls I hl
  unfold m_X8_settle at h
  refine lv_iload_n hx hb dX8_settle_0 rfl (lv_at hl 3 rfl) ?_
  refine lv_iconst (v := -1) hx hb dX8_settle_1 (by decide) ?_
  refine lv_icmp_ne (tgt := 15) hx hb dX8_settle_2 (by decide) (fun c1 => ?_) (fun c1 => ?_)
  · have h := ite_f h c1
    refine lv_aload_n hx hb dX8_settle_15 rfl (lv_at hl 1 rfl) ?_
    refine lv_bipush (v := 32) hx hb dX8_settle_16 (by decide) ?_
    refine lv_iload_n hx hb dX8_settle_18 rfl (lv_at hl 2 rfl) ?_
    refine lv_iadd hx hb dX8_settle_19 ?_
    refine lv_iload_n hx hb dX8_settle_20 rfl (lv_at hl 3 rfl) ?_
    refine lv_aload_n hx hb dX8_settle_21 rfl (lv_at hl 0 rfl) ?_
    refine gfC_X8_22 X I (kC_22 E) (k' := 36) rfl dX8_settle_22 ?_
    refine lv_iload_n hx hb dX8_settle_25 rfl (lv_at hl 2 rfl) ?_
    obtain ⟨hin, h⟩ := gd_some h
    refine ialdC X I (kC_36 E) hin dX8_settle_26 ?_
    refine lv_icmp_ne (tgt := 41) hx hb dX8_settle_27 (by decide) (fun c2 => ?_) (fun c2 => ?_)
    · have h := ite_f h c2
      refine lv_iconst (v := 1) hx hb dX8_settle_41 (by decide) ?_
      exact w_X8_settle_42 X hr1  σ x2 x3 ((32 : Int32) + x2) (1 : Int32) h H locs ls I (lv_sub hl [1, 2, 3] rfl)
    · have h := ite_t h c2
      refine lv_aload_n hx hb dX8_settle_30 rfl (lv_at hl 1 rfl) ?_
      refine lv_bipush (v := 32) hx hb dX8_settle_31 (by decide) ?_
      refine lv_iload_n hx hb dX8_settle_33 rfl (lv_at hl 2 rfl) ?_
      refine lv_iadd hx hb dX8_settle_34 ?_
      obtain ⟨hin, h⟩ := gd_some h
      refine ialdC X I hr1 hin dX8_settle_35 ?_
      refine lv_iconst (v := 1) hx hb dX8_settle_36 (by decide) ?_
      refine lv_iadd hx hb dX8_settle_37 ?_
      refine lv_goto (tgt := 42) hx hb dX8_settle_38 (by decide) ?_
      exact w_X8_settle_42 X hr1  σ x2 x3 ((32 : Int32) + x2) ((σ r1 (Int32.toNatClampNeg ((32 : Int32) + x2))) + (1 : Int32)) h H locs ls I (lv_sub hl [1, 2, 3] rfl)
  · have h := ite_t h c1
    refine lv_aload_n hx hb dX8_settle_5 rfl (lv_at hl 1 rfl) ?_
    refine lv_bipush (v := 32) hx hb dX8_settle_6 (by decide) ?_
    refine lv_iload_n hx hb dX8_settle_8 rfl (lv_at hl 2 rfl) ?_
    refine lv_iadd hx hb dX8_settle_9 ?_
    refine lv_iconst (v := 0) hx hb dX8_settle_10 (by decide) ?_
    obtain ⟨hin, h⟩ := gd_some h
    refine iastC X I hr1 hin dX8_settle_11 (fun H locs I => ?_)
    obtain ⟨σ3, eσ3, h⟩ := lt_e h
    replace I := wi_nm eσ3 I
    refine lv_goto (tgt := 61) hx hb dX8_settle_12 (by decide) ?_
    refine lv_aload_n hx hb dX8_settle_61 rfl (lv_at hl 1 rfl) ?_
    refine lv_bipush (v := 24) hx hb dX8_settle_62 (by decide) ?_
    refine lv_iload_n hx hb dX8_settle_64 rfl (lv_at hl 2 rfl) ?_
    refine lv_iadd hx hb dX8_settle_65 ?_
    refine lv_iload_n hx hb dX8_settle_66 rfl (lv_at hl 3 rfl) ?_
    obtain ⟨hin, h⟩ := gd_some h
    refine iastC X I hr1 hin dX8_settle_67 (fun H locs I => ?_)
    obtain ⟨σ4, eσ4, h⟩ := lt_e h
    replace I := wi_nm eσ4 I
    exact r_vret X I (Option.some.inj h).symm dX8_settle_68
theorem c_X8_settle {l : Launch} {E : CE} {r1 : Nat} {σ : Mem} {x2 : Int32} {x3 : Int32} (hr1 : KCaI E r1 64) {q : Mem} (h : m_X8_settle r1 σ x2 x3 = some q) : CV l (vC E) yX8_settle (.code yX8_settle cX8_settle 4 none :: GG) rm_X8_settle [.ref (ca E 22), .ref (ca E r1), .int x2, .int x3] σ q :=
  mk_CV (by decide +kernel) (Nat.le_of_ble_eq_true rfl) (fun p e s m args below meth c A ls X I hl => w_X8_settle_0 X hr1 σ x2 x3 h s.heap [] ls I (lv_sub hl [0, 1, 2, 3] rfl))

def rm_X8_sitsBy : Room := { frames := 4, cells := 0, slots := 0, locals := 135 }
def f_X8_sitsBy_31 (r1 : Nat) (x2 : Int32) : Nat → Mem → Int32 → Int32 → Int32 → Option (Int32 × Mem)
  | 0, _, _, _, _ => none
  | n + 1, σ, x3, x4, x5 => (if (σ 23 1) ≤ x5 then (some (x3, σ)) else ((m_X8_likingOf r1 σ x2 x5).bind fun q2 => (if q2.1 ≤ x4 then f_X8_sitsBy_31 r1 x2 n q2.2 x3 x4 (x5 + 1) else f_X8_sitsBy_31 r1 x2 n q2.2 x5 q2.1 (x5 + 1))))
def m_X8_sitsBy (r1 : Nat) (σ : Mem) (x2 : Int32) : Option (Int32 × Mem) := (gd (61 : Int32) 64 (if (((σ r1 (Int32.toNatClampNeg (61 : Int32))) >>> (x2 &&& 31)) &&& (1 : Int32)) = (1 : Int32) then (some ((-1 : Int32), σ)) else ((m_X8_isAsleep r1 σ x2).bind fun q2 => (if q2.1 = (0 : Int32) then (f_X8_sitsBy_31 r1 x2 KF q2.2 (-1 : Int32) (0 : Int32) (0 : Int32)) else (some ((-1 : Int32), q2.2))))))
set_option maxHeartbeats 4000000 in
set_option maxRecDepth 100000 in
theorem w_X8_sitsBy_31 {p : Program} {l : Launch} {e : Env} {s : State} {m : MethodId} {args : Array Value} {below : List Frame} {meth : Method} {c : Code} {A : Nat → Prop} {E : CE} {q : Int32 × Mem} (X : CX p s m meth c args cX8_sitsBy 7 RX8 (some .int)) {r1 : Nat} {x2 : Int32} (hr1 : KCaI E r1 64) : ∀ (n : Nat), ∀ (σ : Mem) (x3 : Int32) (x4 : Int32) (x5 : Int32) , f_X8_sitsBy_31 r1 x2 n σ x3 x4 x5 = some q → ∀ (H : Heap) (locs : List Loc) (ls : Array Slot), WI (vC E) A s H locs σ → lv_has ls 7 [(0, .ref (ca E 22)), (1, .ref (ca E r1)), (2, .int x2), (3, .int x3), (4, .int x4), (5, .int x5)] → W p l e rm_X8_sitsBy s m args below meth c H locs 0 0 (MQ below (QI (vC E) A q) args s 0 0 A) (F0 m 31 ls []) := by
  have hx := X.1
  have hb := X.2.1
  intro n
  induction n with
  | zero =>
    intro σ x3 x4 x5 h
    cases h
  | succ n ih =>
    intro σ x3 x4 x5 h H locs ls I hl
    rw [f_X8_sitsBy_31] at h
    refine lv_iload hx hb dX8_sitsBy_31 (lv_at hl 5 rfl) ?_
    refine lv_aload_n hx hb dX8_sitsBy_33 rfl (lv_at hl 0 rfl) ?_
    refine gfC_X8_12 X I (kC_22 E) (k' := 23) rfl dX8_sitsBy_34 ?_
    refine gfC_X8_56 X I (kC_23 E) dX8_sitsBy_37 ?_
    refine lv_icmp_ge (tgt := 73) hx hb dX8_sitsBy_40 (by decide) (fun c1 => ?_) (fun c1 => ?_)
    · have h := ite_t h c1
      refine lv_iload_n hx hb dX8_sitsBy_73 rfl (lv_at hl 3 rfl) ?_
      exact r_iret X I (Option.some.inj h).symm dX8_sitsBy_74
    · have h := ite_f h c1
      refine lv_aload_n hx hb dX8_sitsBy_43 rfl (lv_at hl 0 rfl) ?_
      refine lv_aload_n hx hb dX8_sitsBy_44 rfl (lv_at hl 1 rfl) ?_
      refine lv_iload_n hx hb dX8_sitsBy_45 rfl (lv_at hl 2 rfl) ?_
      refine lv_iload hx hb dX8_sitsBy_46 (lv_at hl 5 rfl) ?_
      obtain ⟨q2, hq2, h⟩ := bd h
      refine r_callVI (V := (vC E)) (k := 22) (As := [.ref (ca E r1), .int x2, .int x5]) (rest := []) X I hl (c_X8_likingOf hr1 hq2) yv_X8_likingOf tw_94 ⟨rfl, rfl, Nat.le_of_ble_eq_true rfl, Nat.le_of_ble_eq_true rfl⟩ (kC_22 E).1 ((kC_22 E).2 (σ 22)) rfl rfl rfl (Nat.le_of_ble_eq_true rfl) dX8_sitsBy_48 (fun H locs I => ?_)
      refine lv_istore (lv' := [(6, .int q2.1), (0, .ref (ca E 22)), (1, .ref (ca E r1)), (2, .int x2), (3, .int x3), (4, .int x4), (5, .int x5)]) hx hb dX8_sitsBy_51 hl (by decide) rfl (fun ls hl => ?_)
      refine lv_iload hx hb dX8_sitsBy_53 (lv_at hl 0 rfl) ?_
      refine lv_iload hx hb dX8_sitsBy_55 (lv_at hl 5 rfl) ?_
      refine lv_icmp_le (tgt := 67) hx hb dX8_sitsBy_57 (by decide) (fun c3 => ?_) (fun c3 => ?_)
      · have h := ite_t h c3
        refine lv_iinc (v := (x5 + 1)) (lv' := [(5, .int (x5 + 1)), (6, .int q2.1), (0, .ref (ca E 22)), (1, .ref (ca E r1)), (2, .int x2), (3, .int x3), (4, .int x4)]) hx hb dX8_sitsBy_67 hl (k := 6) rfl rfl (by decide) rfl (fun ls hl => ?_)
        refine lv_goto (tgt := 31) hx hb dX8_sitsBy_70 (by decide) ?_
        exact ih q2.2 x3 x4 (x5 + 1) h H locs ls I (lv_sub hl [2, 3, 4, 5, 6, 0] rfl)
      · have h := ite_f h c3
        refine lv_iload hx hb dX8_sitsBy_60 (lv_at hl 0 rfl) ?_
        refine lv_istore (lv' := [(4, .int q2.1), (6, .int q2.1), (0, .ref (ca E 22)), (1, .ref (ca E r1)), (2, .int x2), (3, .int x3), (5, .int x5)]) hx hb dX8_sitsBy_62 hl (by decide) rfl (fun ls hl => ?_)
        refine lv_iload hx hb dX8_sitsBy_64 (lv_at hl 6 rfl) ?_
        refine lv_istore_n (lv' := [(3, .int x5), (4, .int q2.1), (6, .int q2.1), (0, .ref (ca E 22)), (1, .ref (ca E r1)), (2, .int x2), (5, .int x5)]) hx hb dX8_sitsBy_66 rfl hl (by decide) rfl (fun ls hl => ?_)
        refine lv_iinc (v := (x5 + 1)) (lv' := [(5, .int (x5 + 1)), (3, .int x5), (4, .int q2.1), (6, .int q2.1), (0, .ref (ca E 22)), (1, .ref (ca E r1)), (2, .int x2)]) hx hb dX8_sitsBy_67 hl (k := 6) rfl rfl (by decide) rfl (fun ls hl => ?_)
        refine lv_goto (tgt := 31) hx hb dX8_sitsBy_70 (by decide) ?_
        exact ih q2.2 x5 q2.1 (x5 + 1) h H locs ls I (lv_sub hl [4, 5, 6, 1, 2, 0] rfl)
set_option maxHeartbeats 4000000 in
set_option maxRecDepth 100000 in
theorem w_X8_sitsBy_0 {p : Program} {l : Launch} {e : Env} {s : State} {m : MethodId} {args : Array Value} {below : List Frame} {meth : Method} {c : Code} {A : Nat → Prop} {E : CE} {q : Int32 × Mem} (X : CX p s m meth c args cX8_sitsBy 7 RX8 (some .int)) {r1 : Nat} (hr1 : KCaI E r1 64) : ∀ (σ : Mem) (x2 : Int32) , m_X8_sitsBy r1 σ x2 = some q → ∀ (H : Heap) (locs : List Loc) (ls : Array Slot), WI (vC E) A s H locs σ → lv_has ls 7 [(0, .ref (ca E 22)), (1, .ref (ca E r1)), (2, .int x2)] → W p l e rm_X8_sitsBy s m args below meth c H locs 0 0 (MQ below (QI (vC E) A q) args s 0 0 A) (F0 m 0 ls []) := by
  have hx := X.1
  have hb := X.2.1
  intro σ x2 h H locs ls I hl
  unfold m_X8_sitsBy at h
  refine lv_aload_n hx hb dX8_sitsBy_0 rfl (lv_at hl 1 rfl) ?_
  refine lv_bipush (v := 61) hx hb dX8_sitsBy_1 (by decide) ?_
  obtain ⟨hin, h⟩ := gd_some h
  refine ialdC X I hr1 hin dX8_sitsBy_3 ?_
  refine lv_iload_n hx hb dX8_sitsBy_4 rfl (lv_at hl 2 rfl) ?_
  refine lv_ishr hx hb dX8_sitsBy_5 ?_
  refine lv_iconst (v := 1) hx hb dX8_sitsBy_6 (by decide) ?_
  refine lv_iand hx hb dX8_sitsBy_7 ?_
  refine lv_iconst (v := 1) hx hb dX8_sitsBy_8 (by decide) ?_
  refine lv_icmp_eq (tgt := 21) hx hb dX8_sitsBy_9 (by decide) (fun c1 => ?_) (fun c1 => ?_)
  · have h := ite_t h c1
    refine lv_iconst (v := -1) hx hb dX8_sitsBy_21 (by decide) ?_
    exact r_iret X I (Option.some.inj h).symm dX8_sitsBy_22
  · have h := ite_f h c1
    refine lv_aload_n hx hb dX8_sitsBy_12 rfl (lv_at hl 0 rfl) ?_
    refine lv_aload_n hx hb dX8_sitsBy_13 rfl (lv_at hl 1 rfl) ?_
    refine lv_iload_n hx hb dX8_sitsBy_14 rfl (lv_at hl 2 rfl) ?_
    obtain ⟨q2, hq2, h⟩ := bd h
    refine r_callVI (V := (vC E)) (k := 22) (As := [.ref (ca E r1), .int x2]) (rest := []) X I hl (c_X8_isAsleep hr1 hq2) yv_X8_isAsleep tw_104 ⟨rfl, rfl, Nat.le_of_ble_eq_true rfl, Nat.le_of_ble_eq_true rfl⟩ (kC_22 E).1 ((kC_22 E).2 (σ 22)) rfl rfl rfl (Nat.le_of_ble_eq_true rfl) dX8_sitsBy_15 (fun H locs I => ?_)
    refine lv_if_eq (tgt := 23) hx hb dX8_sitsBy_18 (by decide) (fun c3 => ?_) (fun c3 => ?_)
    · have h := ite_t h c3
      refine lv_iconst (v := -1) hx hb dX8_sitsBy_23 (by decide) ?_
      refine lv_istore_n (lv' := [(3, .int (-1 : Int32)), (0, .ref (ca E 22)), (1, .ref (ca E r1)), (2, .int x2)]) hx hb dX8_sitsBy_24 rfl hl (by decide) rfl (fun ls hl => ?_)
      refine lv_iconst (v := 0) hx hb dX8_sitsBy_25 (by decide) ?_
      refine lv_istore (lv' := [(4, .int (0 : Int32)), (3, .int (-1 : Int32)), (0, .ref (ca E 22)), (1, .ref (ca E r1)), (2, .int x2)]) hx hb dX8_sitsBy_26 hl (by decide) rfl (fun ls hl => ?_)
      refine lv_iconst (v := 0) hx hb dX8_sitsBy_28 (by decide) ?_
      refine lv_istore (lv' := [(5, .int (0 : Int32)), (4, .int (0 : Int32)), (3, .int (-1 : Int32)), (0, .ref (ca E 22)), (1, .ref (ca E r1)), (2, .int x2)]) hx hb dX8_sitsBy_29 hl (by decide) rfl (fun ls hl => ?_)
      exact w_X8_sitsBy_31 X hr1  KF q2.2 (-1 : Int32) (0 : Int32) (0 : Int32) h H locs ls I (lv_sub hl [3, 4, 5, 2, 1, 0] rfl)
    · have h := ite_f h c3
      refine lv_iconst (v := -1) hx hb dX8_sitsBy_21 (by decide) ?_
      exact r_iret X I (Option.some.inj h).symm dX8_sitsBy_22
theorem c_X8_sitsBy {l : Launch} {E : CE} {r1 : Nat} {σ : Mem} {x2 : Int32} (hr1 : KCaI E r1 64) {q : Int32 × Mem} (h : m_X8_sitsBy r1 σ x2 = some q) : CI l (vC E) yX8_sitsBy (.code yX8_sitsBy cX8_sitsBy 7 (some .int) :: GG) rm_X8_sitsBy [.ref (ca E 22), .ref (ca E r1), .int x2] σ q :=
  mk_CI (by decide +kernel) (Nat.le_of_ble_eq_true rfl) (fun p e s m args below meth c A ls X I hl => w_X8_sitsBy_0 X hr1 σ x2 h s.heap [] ls I (lv_sub hl [0, 1, 2] rfl))

def rm_X8_pay : Room := { frames := 2, cells := 0, slots := 0, locals := 88 }
def f_X8_pay_2 (r1 : Nat) : Nat → Mem → Int32 → Option (Mem)
  | 0, _, _ => none
  | n + 1, σ, x2 => (if (σ 23 1) ≤ x2 then (some σ) else (gd ((54 : Int32) + x2) 64 ((m_X8_rentOf r1 σ x2).bind fun q2 => (gd ((54 : Int32) + x2) 64 (lt (ms σ r1 (Int32.toNatClampNeg ((54 : Int32) + x2)) ((imin (9999 : Int32) ((σ r1 (Int32.toNatClampNeg ((54 : Int32) + x2))) + q2)))) fun σ3 => (gd ((40 : Int32) + x2) 64 (gd x2 7 (gd ((40 : Int32) + x2) 64 (lt (ms σ3 r1 (Int32.toNatClampNeg ((40 : Int32) + x2)) ((imin (20 : Int32) ((σ3 r1 (Int32.toNatClampNeg ((40 : Int32) + x2))) + (σ3 26 (Int32.toNatClampNeg x2)))))) fun σ4 => f_X8_pay_2 r1 n σ4 (x2 + 1))))))))))
def m_X8_pay (r1 : Nat) (σ : Mem) : Option (Mem) := (f_X8_pay_2 r1 KF σ (0 : Int32))
set_option maxHeartbeats 4000000 in
set_option maxRecDepth 100000 in
theorem w_X8_pay_2 {p : Program} {l : Launch} {e : Env} {s : State} {m : MethodId} {args : Array Value} {below : List Frame} {meth : Method} {c : Code} {A : Nat → Prop} {E : CE} {q : Mem} (X : CX p s m meth c args cX8_pay 3 RX8 none) {r1 : Nat} (hr1 : KCaI E r1 64) : ∀ (n : Nat), ∀ (σ : Mem) (x2 : Int32) , f_X8_pay_2 r1 n σ x2 = some q → ∀ (H : Heap) (locs : List Loc) (ls : Array Slot), WI (vC E) A s H locs σ → lv_has ls 3 [(0, .ref (ca E 22)), (1, .ref (ca E r1)), (2, .int x2)] → W p l e rm_X8_pay s m args below meth c H locs 0 0 (MQ below (QV (vC E) A q) args s 0 0 A) (F0 m 2 ls []) := by
  have hx := X.1
  have hb := X.2.1
  intro n
  induction n with
  | zero =>
    intro σ x2 h
    cases h
  | succ n ih =>
    intro σ x2 h H locs ls I hl
    rw [f_X8_pay_2] at h
    refine lv_iload_n hx hb dX8_pay_2 rfl (lv_at hl 2 rfl) ?_
    refine lv_aload_n hx hb dX8_pay_3 rfl (lv_at hl 0 rfl) ?_
    refine gfC_X8_12 X I (kC_22 E) (k' := 23) rfl dX8_pay_4 ?_
    refine gfC_X8_56 X I (kC_23 E) dX8_pay_7 ?_
    refine lv_icmp_ge (tgt := 71) hx hb dX8_pay_10 (by decide) (fun c1 => ?_) (fun c1 => ?_)
    · have h := ite_t h c1
      exact r_vret X I (Option.some.inj h).symm dX8_pay_71
    · have h := ite_f h c1
      refine lv_aload_n hx hb dX8_pay_13 rfl (lv_at hl 1 rfl) ?_
      refine lv_bipush (v := 54) hx hb dX8_pay_14 (by decide) ?_
      refine lv_iload_n hx hb dX8_pay_16 rfl (lv_at hl 2 rfl) ?_
      refine lv_iadd hx hb dX8_pay_17 ?_
      refine lv_sipush (v := 9999) hx hb dX8_pay_18 (by decide) ?_
      refine lv_aload_n hx hb dX8_pay_21 rfl (lv_at hl 1 rfl) ?_
      refine lv_bipush (v := 54) hx hb dX8_pay_22 (by decide) ?_
      refine lv_iload_n hx hb dX8_pay_24 rfl (lv_at hl 2 rfl) ?_
      refine lv_iadd hx hb dX8_pay_25 ?_
      obtain ⟨hin, h⟩ := gd_some h
      refine ialdC X I hr1 hin dX8_pay_26 ?_
      refine lv_aload_n hx hb dX8_pay_27 rfl (lv_at hl 0 rfl) ?_
      refine lv_aload_n hx hb dX8_pay_28 rfl (lv_at hl 1 rfl) ?_
      refine lv_iload_n hx hb dX8_pay_29 rfl (lv_at hl 2 rfl) ?_
      obtain ⟨q2, hq2, h⟩ := bd h
      refine r_callVI (V := (vC E)) (k := 22) (As := [.ref (ca E r1), .int x2]) (rest := [.int (σ r1 (Int32.toNatClampNeg ((54 : Int32) + x2))), .int (9999 : Int32), .int ((54 : Int32) + x2), .ref (ca E r1)]) X I hl (c_X8_rentOf hr1 hq2) yv_X8_rentOf tw_109 ⟨rfl, rfl, Nat.le_of_ble_eq_true rfl, Nat.le_of_ble_eq_true rfl⟩ (kC_22 E).1 ((kC_22 E).2 (σ 22)) rfl rfl rfl (Nat.le_of_ble_eq_true rfl) dX8_pay_30 (fun H locs I => ?_)
      refine lv_iadd hx hb dX8_pay_33 ?_
      refine r_min X hl tw_82 ⟨Nat.le_of_ble_eq_true rfl, Nat.le_of_ble_eq_true rfl⟩ dX8_pay_34 ?_
      obtain ⟨hin, h⟩ := gd_some h
      refine iastC X I hr1 hin dX8_pay_37 (fun H locs I => ?_)
      obtain ⟨σ3, eσ3, h⟩ := lt_e h
      replace I := wi_nm eσ3 I
      refine lv_aload_n hx hb dX8_pay_38 rfl (lv_at hl 1 rfl) ?_
      refine lv_bipush (v := 40) hx hb dX8_pay_39 (by decide) ?_
      refine lv_iload_n hx hb dX8_pay_41 rfl (lv_at hl 2 rfl) ?_
      refine lv_iadd hx hb dX8_pay_42 ?_
      refine lv_bipush (v := 20) hx hb dX8_pay_43 (by decide) ?_
      refine lv_aload_n hx hb dX8_pay_45 rfl (lv_at hl 1 rfl) ?_
      refine lv_bipush (v := 40) hx hb dX8_pay_46 (by decide) ?_
      refine lv_iload_n hx hb dX8_pay_48 rfl (lv_at hl 2 rfl) ?_
      refine lv_iadd hx hb dX8_pay_49 ?_
      obtain ⟨hin, h⟩ := gd_some h
      refine ialdC X I hr1 hin dX8_pay_50 ?_
      refine lv_aload_n hx hb dX8_pay_51 rfl (lv_at hl 0 rfl) ?_
      refine gfC_X8_12 X I (kC_22 E) (k' := 23) rfl dX8_pay_52 ?_
      refine gfC_X8_125 X I (kC_23 E) (k' := 26) rfl dX8_pay_55 ?_
      refine lv_iload_n hx hb dX8_pay_58 rfl (lv_at hl 2 rfl) ?_
      obtain ⟨hin, h⟩ := gd_some h
      refine ialdC X I (kC_26 E) hin dX8_pay_59 ?_
      refine lv_iadd hx hb dX8_pay_60 ?_
      refine r_min X hl tw_82 ⟨Nat.le_of_ble_eq_true rfl, Nat.le_of_ble_eq_true rfl⟩ dX8_pay_61 ?_
      obtain ⟨hin, h⟩ := gd_some h
      refine iastC X I hr1 hin dX8_pay_64 (fun H locs I => ?_)
      obtain ⟨σ4, eσ4, h⟩ := lt_e h
      replace I := wi_nm eσ4 I
      refine lv_iinc (v := (x2 + 1)) (lv' := [(2, .int (x2 + 1)), (0, .ref (ca E 22)), (1, .ref (ca E r1))]) hx hb dX8_pay_65 hl (k := 2) rfl rfl (by decide) rfl (fun ls hl => ?_)
      refine lv_goto (tgt := 2) hx hb dX8_pay_68 (by decide) ?_
      exact ih σ4 (x2 + 1) h H locs ls I (lv_sub hl [1, 2, 0] rfl)
set_option maxHeartbeats 4000000 in
set_option maxRecDepth 100000 in
theorem w_X8_pay_0 {p : Program} {l : Launch} {e : Env} {s : State} {m : MethodId} {args : Array Value} {below : List Frame} {meth : Method} {c : Code} {A : Nat → Prop} {E : CE} {q : Mem} (X : CX p s m meth c args cX8_pay 3 RX8 none) {r1 : Nat} (hr1 : KCaI E r1 64) : ∀ (σ : Mem)  , m_X8_pay r1 σ = some q → ∀ (H : Heap) (locs : List Loc) (ls : Array Slot), WI (vC E) A s H locs σ → lv_has ls 3 [(0, .ref (ca E 22)), (1, .ref (ca E r1))] → W p l e rm_X8_pay s m args below meth c H locs 0 0 (MQ below (QV (vC E) A q) args s 0 0 A) (F0 m 0 ls []) := by
  have hx := X.1
  have hb := X.2.1
  intro σ  h H locs ls I hl
  unfold m_X8_pay at h
  refine lv_iconst (v := 0) hx hb dX8_pay_0 (by decide) ?_
  refine lv_istore_n (lv' := [(2, .int (0 : Int32)), (0, .ref (ca E 22)), (1, .ref (ca E r1))]) hx hb dX8_pay_1 rfl hl (by decide) rfl (fun ls hl => ?_)
  exact w_X8_pay_2 X hr1  KF σ (0 : Int32) h H locs ls I (lv_sub hl [1, 2, 0] rfl)
theorem c_X8_pay {l : Launch} {E : CE} {r1 : Nat} {σ : Mem} (hr1 : KCaI E r1 64) {q : Mem} (h : m_X8_pay r1 σ = some q) : CV l (vC E) yX8_pay (.code yX8_pay cX8_pay 3 none :: GG) rm_X8_pay [.ref (ca E 22), .ref (ca E r1)] σ q :=
  mk_CV (by decide +kernel) (Nat.le_of_ble_eq_true rfl) (fun p e s m args below meth c A ls X I hl => w_X8_pay_0 X hr1 σ  h s.heap [] ls I (lv_sub hl [0, 1] rfl))

def rm_X8_draw : Room := { frames := 1, cells := 0, slots := 0, locals := 64 }
def m_X8_draw (σ : Mem) (x1 : Int32) : Option (Int32 × Mem) := (lt (ms σ 22 4 (((σ 22 4) * (1103515245 : Int32)) + (12345 : Int32))) fun σ1 => (if (0 : Int32) < x1 then (gnz x1 (some (((((Int32.toUInt32 (σ1 22 4) >>> (Int32.toUInt32 (16 : Int32) &&& Int32.toUInt32 31)).toInt32) &&& (32767 : Int32)) - (((Int32.toUInt32 (σ1 22 4) >>> (Int32.toUInt32 (16 : Int32) &&& Int32.toUInt32 31)).toInt32) &&& (32767 : Int32)) / x1 * x1), σ1))) else (some ((0 : Int32), σ1))))
set_option maxHeartbeats 4000000 in
set_option maxRecDepth 100000 in
theorem w_X8_draw_0 {p : Program} {l : Launch} {e : Env} {s : State} {m : MethodId} {args : Array Value} {below : List Frame} {meth : Method} {c : Code} {A : Nat → Prop} {E : CE} {q : Int32 × Mem} (X : CX p s m meth c args cX8_draw 2 RX8 (some .int)) : ∀ (σ : Mem) (x1 : Int32) , m_X8_draw σ x1 = some q → ∀ (H : Heap) (locs : List Loc) (ls : Array Slot), WI (vC E) A s H locs σ → lv_has ls 2 [(0, .ref (ca E 22)), (1, .int x1)] → W p l e rm_X8_draw s m args below meth c H locs 0 0 (MQ below (QI (vC E) A q) args s 0 0 A) (F0 m 0 ls []) := by
  have hx := X.1
  have hb := X.2.1
  intro σ x1 h H locs ls I hl
  unfold m_X8_draw at h
  refine lv_aload_n hx hb dX8_draw_0 rfl (lv_at hl 0 rfl) ?_
  refine lv_aload_n hx hb dX8_draw_1 rfl (lv_at hl 0 rfl) ?_
  refine gfC_X8_28 X I (kC_22 E) dX8_draw_2 ?_
  refine lv_ldc hx hb X.2.2.2.1 (X.2.2.2.2.1 _ tw_116) dX8_draw_5 ?_
  refine lv_imul hx hb dX8_draw_7 ?_
  refine lv_sipush (v := 12345) hx hb dX8_draw_8 (by decide) ?_
  refine lv_iadd hx hb dX8_draw_11 ?_
  refine pfC_X8_28 X I (kC_22 E) dX8_draw_12 (fun H locs I => ?_)
  obtain ⟨σ1, eσ1, h⟩ := lt_e h
  replace I := wi_nm eσ1 I
  refine lv_iload_n hx hb dX8_draw_15 rfl (lv_at hl 1 rfl) ?_
  refine lv_if_gt (tgt := 23) hx hb dX8_draw_16 (by decide) (fun c2 => ?_) (fun c2 => ?_)
  · have h := ite_t h c2
    refine lv_aload_n hx hb dX8_draw_23 rfl (lv_at hl 0 rfl) ?_
    refine gfC_X8_28 X I (kC_22 E) dX8_draw_24 ?_
    refine lv_bipush (v := 16) hx hb dX8_draw_27 (by decide) ?_
    refine lv_iushr hx hb dX8_draw_29 rfl ?_
    refine lv_sipush (v := 32767) hx hb dX8_draw_30 (by decide) ?_
    refine lv_iand hx hb dX8_draw_33 ?_
    refine lv_iload_n hx hb dX8_draw_34 rfl (lv_at hl 1 rfl) ?_
    obtain ⟨hnz, h⟩ := gnz_some h
    refine lv_irem hx hb dX8_draw_35 hnz ?_
    exact r_iret X I (Option.some.inj h).symm dX8_draw_36
  · have h := ite_f h c2
    refine lv_iconst (v := 0) hx hb dX8_draw_19 (by decide) ?_
    refine lv_goto (tgt := 36) hx hb dX8_draw_20 (by decide) ?_
    exact r_iret X I (Option.some.inj h).symm dX8_draw_36
theorem c_X8_draw {l : Launch} {E : CE} {σ : Mem} {x1 : Int32} {q : Int32 × Mem} (h : m_X8_draw σ x1 = some q) : CI l (vC E) yX8_draw (.code yX8_draw cX8_draw 2 (some .int) :: GG) rm_X8_draw [.ref (ca E 22), .int x1] σ q :=
  mk_CI (by decide +kernel) (Nat.le_of_ble_eq_true rfl) (fun p e s m args below meth c A ls X I hl => w_X8_draw_0 X  σ x1 h s.heap [] ls I (lv_sub hl [0, 1] rfl))

def rm_X8_disturb : Room := { frames := 2, cells := 0, slots := 0, locals := 85 }
def m_X8_disturb (r1 : Nat) (σ : Mem) : Option (Mem) := ((m_X8_draw σ (σ 23 0)).bind fun q1 => (gd (62 : Int32) 64 (if (((q1.2 r1 (Int32.toNatClampNeg (62 : Int32))) >>> (q1.1 &&& 31)) &&& (1 : Int32)) = (0 : Int32) then (gd (61 : Int32) 64 (gd (61 : Int32) 64 (lt (ms q1.2 r1 (Int32.toNatClampNeg (61 : Int32)) (((q1.2 r1 (Int32.toNatClampNeg (61 : Int32))) ||| ((1 : Int32) <<< (q1.1 &&& 31))))) fun σ6 => ((m_X8_draw σ6 (σ6 23 1)).bind fun q7 => ((m_X8_draw q7.2 (21 : Int32)).bind fun q8 => (gd ((40 : Int32) + q7.1) 64 (lt (ms q8.2 r1 (Int32.toNatClampNeg ((40 : Int32) + q7.1)) (q8.1)) fun σ9 => (some σ9)))))))) else ((m_X8_draw q1.2 (q1.2 23 1)).bind fun q3 => ((m_X8_draw q3.2 (21 : Int32)).bind fun q4 => (gd ((40 : Int32) + q3.1) 64 (lt (ms q4.2 r1 (Int32.toNatClampNeg ((40 : Int32) + q3.1)) (q4.1)) fun σ5 => (some σ5))))))))
set_option maxHeartbeats 4000000 in
set_option maxRecDepth 100000 in
theorem w_X8_disturb_0 {p : Program} {l : Launch} {e : Env} {s : State} {m : MethodId} {args : Array Value} {below : List Frame} {meth : Method} {c : Code} {A : Nat → Prop} {E : CE} {q : Mem} (X : CX p s m meth c args cX8_disturb 4 RX8 none) {r1 : Nat} (hr1 : KCaI E r1 64) : ∀ (σ : Mem)  , m_X8_disturb r1 σ = some q → ∀ (H : Heap) (locs : List Loc) (ls : Array Slot), WI (vC E) A s H locs σ → lv_has ls 4 [(0, .ref (ca E 22)), (1, .ref (ca E r1))] → W p l e rm_X8_disturb s m args below meth c H locs 0 0 (MQ below (QV (vC E) A q) args s 0 0 A) (F0 m 0 ls []) := by
  have hx := X.1
  have hb := X.2.1
  intro σ  h H locs ls I hl
  unfold m_X8_disturb at h
  refine lv_aload_n hx hb dX8_disturb_0 rfl (lv_at hl 0 rfl) ?_
  refine lv_aload_n hx hb dX8_disturb_1 rfl (lv_at hl 0 rfl) ?_
  refine gfC_X8_12 X I (kC_22 E) (k' := 23) rfl dX8_disturb_2 ?_
  refine gfC_X8_42 X I (kC_23 E) dX8_disturb_5 ?_
  obtain ⟨q1, hq1, h⟩ := bd h
  refine r_callVI (V := (vC E)) (k := 22) (As := [.int (σ 23 0)]) (rest := []) X I hl (c_X8_draw  hq1) yv_X8_draw tw_117 ⟨rfl, rfl, Nat.le_of_ble_eq_true rfl, Nat.le_of_ble_eq_true rfl⟩ (kC_22 E).1 ((kC_22 E).2 (σ 22)) rfl rfl rfl (Nat.le_of_ble_eq_true rfl) dX8_disturb_8 (fun H locs I => ?_)
  refine lv_istore_n (lv' := [(2, .int q1.1), (0, .ref (ca E 22)), (1, .ref (ca E r1))]) hx hb dX8_disturb_11 rfl hl (by decide) rfl (fun ls hl => ?_)
  refine lv_aload_n hx hb dX8_disturb_12 rfl (lv_at hl 2 rfl) ?_
  refine lv_bipush (v := 62) hx hb dX8_disturb_13 (by decide) ?_
  obtain ⟨hin, h⟩ := gd_some h
  refine ialdC X I hr1 hin dX8_disturb_15 ?_
  refine lv_iload_n hx hb dX8_disturb_16 rfl (lv_at hl 0 rfl) ?_
  refine lv_ishr hx hb dX8_disturb_17 ?_
  refine lv_iconst (v := 1) hx hb dX8_disturb_18 (by decide) ?_
  refine lv_iand hx hb dX8_disturb_19 ?_
  refine lv_if_ne (tgt := 33) hx hb dX8_disturb_20 (by decide) (fun c2 => ?_) (fun c2 => ?_)
  · have h := ite_f h c2
    refine lv_aload_n hx hb dX8_disturb_33 rfl (lv_at hl 1 rfl) ?_
    refine lv_aload_n hx hb dX8_disturb_34 rfl (lv_at hl 1 rfl) ?_
    refine gfC_X8_12 X I (kC_22 E) (k' := 23) rfl dX8_disturb_35 ?_
    refine gfC_X8_56 X I (kC_23 E) dX8_disturb_38 ?_
    obtain ⟨q3, hq3, h⟩ := bd h
    refine r_callVI (V := (vC E)) (k := 22) (As := [.int (q1.2 23 1)]) (rest := []) X I hl (c_X8_draw  hq3) yv_X8_draw tw_117 ⟨rfl, rfl, Nat.le_of_ble_eq_true rfl, Nat.le_of_ble_eq_true rfl⟩ (kC_22 E).1 ((kC_22 E).2 (q1.2 22)) rfl rfl rfl (Nat.le_of_ble_eq_true rfl) dX8_disturb_41 (fun H locs I => ?_)
    refine lv_istore_n (lv' := [(3, .int q3.1), (2, .int q1.1), (0, .ref (ca E 22)), (1, .ref (ca E r1))]) hx hb dX8_disturb_44 rfl hl (by decide) rfl (fun ls hl => ?_)
    refine lv_aload_n hx hb dX8_disturb_45 rfl (lv_at hl 3 rfl) ?_
    refine lv_bipush (v := 40) hx hb dX8_disturb_46 (by decide) ?_
    refine lv_iload_n hx hb dX8_disturb_48 rfl (lv_at hl 0 rfl) ?_
    refine lv_iadd hx hb dX8_disturb_49 ?_
    refine lv_aload_n hx hb dX8_disturb_50 rfl (lv_at hl 2 rfl) ?_
    refine lv_bipush (v := 21) hx hb dX8_disturb_51 (by decide) ?_
    obtain ⟨q4, hq4, h⟩ := bd h
    refine r_callVI (V := (vC E)) (k := 22) (As := [.int (21 : Int32)]) (rest := [.int ((40 : Int32) + q3.1), .ref (ca E r1)]) X I hl (c_X8_draw  hq4) yv_X8_draw tw_117 ⟨rfl, rfl, Nat.le_of_ble_eq_true rfl, Nat.le_of_ble_eq_true rfl⟩ (kC_22 E).1 ((kC_22 E).2 (q3.2 22)) rfl rfl rfl (Nat.le_of_ble_eq_true rfl) dX8_disturb_53 (fun H locs I => ?_)
    obtain ⟨hin, h⟩ := gd_some h
    refine iastC X I hr1 hin dX8_disturb_56 (fun H locs I => ?_)
    obtain ⟨σ5, eσ5, h⟩ := lt_e h
    replace I := wi_nm eσ5 I
    exact r_vret X I (Option.some.inj h).symm dX8_disturb_57
  · have h := ite_t h c2
    refine lv_aload_n hx hb dX8_disturb_23 rfl (lv_at hl 2 rfl) ?_
    refine lv_bipush (v := 61) hx hb dX8_disturb_24 (by decide) ?_
    refine lv_dup2_11 hx hb dX8_disturb_26 rfl rfl ?_
    obtain ⟨hin, h⟩ := gd_some h
    refine ialdC X I hr1 hin dX8_disturb_27 ?_
    refine lv_iconst (v := 1) hx hb dX8_disturb_28 (by decide) ?_
    refine lv_iload_n hx hb dX8_disturb_29 rfl (lv_at hl 0 rfl) ?_
    refine lv_ishl hx hb dX8_disturb_30 ?_
    refine lv_ior hx hb dX8_disturb_31 ?_
    obtain ⟨hin, h⟩ := gd_some h
    refine iastC X I hr1 hin dX8_disturb_32 (fun H locs I => ?_)
    obtain ⟨σ6, eσ6, h⟩ := lt_e h
    replace I := wi_nm eσ6 I
    refine lv_aload_n hx hb dX8_disturb_33 rfl (lv_at hl 1 rfl) ?_
    refine lv_aload_n hx hb dX8_disturb_34 rfl (lv_at hl 1 rfl) ?_
    refine gfC_X8_12 X I (kC_22 E) (k' := 23) rfl dX8_disturb_35 ?_
    refine gfC_X8_56 X I (kC_23 E) dX8_disturb_38 ?_
    obtain ⟨q7, hq7, h⟩ := bd h
    refine r_callVI (V := (vC E)) (k := 22) (As := [.int (σ6 23 1)]) (rest := []) X I hl (c_X8_draw  hq7) yv_X8_draw tw_117 ⟨rfl, rfl, Nat.le_of_ble_eq_true rfl, Nat.le_of_ble_eq_true rfl⟩ (kC_22 E).1 ((kC_22 E).2 (σ6 22)) rfl rfl rfl (Nat.le_of_ble_eq_true rfl) dX8_disturb_41 (fun H locs I => ?_)
    refine lv_istore_n (lv' := [(3, .int q7.1), (2, .int q1.1), (0, .ref (ca E 22)), (1, .ref (ca E r1))]) hx hb dX8_disturb_44 rfl hl (by decide) rfl (fun ls hl => ?_)
    refine lv_aload_n hx hb dX8_disturb_45 rfl (lv_at hl 3 rfl) ?_
    refine lv_bipush (v := 40) hx hb dX8_disturb_46 (by decide) ?_
    refine lv_iload_n hx hb dX8_disturb_48 rfl (lv_at hl 0 rfl) ?_
    refine lv_iadd hx hb dX8_disturb_49 ?_
    refine lv_aload_n hx hb dX8_disturb_50 rfl (lv_at hl 2 rfl) ?_
    refine lv_bipush (v := 21) hx hb dX8_disturb_51 (by decide) ?_
    obtain ⟨q8, hq8, h⟩ := bd h
    refine r_callVI (V := (vC E)) (k := 22) (As := [.int (21 : Int32)]) (rest := [.int ((40 : Int32) + q7.1), .ref (ca E r1)]) X I hl (c_X8_draw  hq8) yv_X8_draw tw_117 ⟨rfl, rfl, Nat.le_of_ble_eq_true rfl, Nat.le_of_ble_eq_true rfl⟩ (kC_22 E).1 ((kC_22 E).2 (q7.2 22)) rfl rfl rfl (Nat.le_of_ble_eq_true rfl) dX8_disturb_53 (fun H locs I => ?_)
    obtain ⟨hin, h⟩ := gd_some h
    refine iastC X I hr1 hin dX8_disturb_56 (fun H locs I => ?_)
    obtain ⟨σ9, eσ9, h⟩ := lt_e h
    replace I := wi_nm eσ9 I
    exact r_vret X I (Option.some.inj h).symm dX8_disturb_57
theorem c_X8_disturb {l : Launch} {E : CE} {r1 : Nat} {σ : Mem} (hr1 : KCaI E r1 64) {q : Mem} (h : m_X8_disturb r1 σ = some q) : CV l (vC E) yX8_disturb (.code yX8_disturb cX8_disturb 4 none :: GG) rm_X8_disturb [.ref (ca E 22), .ref (ca E r1)] σ q :=
  mk_CV (by decide +kernel) (Nat.le_of_ble_eq_true rfl) (fun p e s m args below meth c A ls X I hl => w_X8_disturb_0 X hr1 σ  h s.heap [] ls I (lv_sub hl [0, 1] rfl))

def rm_X8_passQuarter : Room := { frames := 5, cells := 0, slots := 0, locals := 161 }
def f_X8_passQuarter_12 (r1 : Nat) : Nat → Mem → Int32 → Option (Mem)
  | 0, _, _ => none
  | n + 1, σ, x2 => (if (σ 23 0) ≤ x2 then ((m_X8_pay r1 σ).bind fun q2 => (gd (61 : Int32) 64 (lt (ms q2 r1 (Int32.toNatClampNeg (61 : Int32)) ((0 : Int32))) fun σ3 => (gd (63 : Int32) 64 (gd (63 : Int32) 64 (lt (ms σ3 r1 (Int32.toNatClampNeg (63 : Int32)) (((σ3 r1 (Int32.toNatClampNeg (63 : Int32))) + (1 : Int32)))) fun σ4 => (some σ4))))))) else (gd (62 : Int32) 64 (if (((σ r1 (Int32.toNatClampNeg (62 : Int32))) >>> (x2 &&& 31)) &&& (1 : Int32)) = (0 : Int32) then ((m_X8_sitsBy r1 σ x2).bind fun q6 => ((m_X8_settle r1 q6.2 x2 q6.1).bind fun q7 => f_X8_passQuarter_12 r1 n q7 (x2 + 1))) else f_X8_passQuarter_12 r1 n σ (x2 + 1))))
def m_X8_passQuarter (r1 : Nat) (σ : Mem) : Option (Mem) := ((m_X8_rememberOwners r1 σ).bind fun q1 => ((m_X8_growOld r1 q1).bind fun q2 => (f_X8_passQuarter_12 r1 KF q2 (0 : Int32))))
set_option maxHeartbeats 4000000 in
set_option maxRecDepth 100000 in
theorem w_X8_passQuarter_12 {p : Program} {l : Launch} {e : Env} {s : State} {m : MethodId} {args : Array Value} {below : List Frame} {meth : Method} {c : Code} {A : Nat → Prop} {E : CE} {q : Mem} (X : CX p s m meth c args cX8_passQuarter 3 RX8 none) {r1 : Nat} (hr1 : KCaI E r1 64) : ∀ (n : Nat), ∀ (σ : Mem) (x2 : Int32) , f_X8_passQuarter_12 r1 n σ x2 = some q → ∀ (H : Heap) (locs : List Loc) (ls : Array Slot), WI (vC E) A s H locs σ → lv_has ls 3 [(0, .ref (ca E 22)), (1, .ref (ca E r1)), (2, .int x2)] → W p l e rm_X8_passQuarter s m args below meth c H locs 0 0 (MQ below (QV (vC E) A q) args s 0 0 A) (F0 m 12 ls []) := by
  have hx := X.1
  have hb := X.2.1
  intro n
  induction n with
  | zero =>
    intro σ x2 h
    cases h
  | succ n ih =>
    intro σ x2 h H locs ls I hl
    rw [f_X8_passQuarter_12] at h
    refine lv_iload_n hx hb dX8_passQuarter_12 rfl (lv_at hl 2 rfl) ?_
    refine lv_aload_n hx hb dX8_passQuarter_13 rfl (lv_at hl 0 rfl) ?_
    refine gfC_X8_12 X I (kC_22 E) (k' := 23) rfl dX8_passQuarter_14 ?_
    refine gfC_X8_42 X I (kC_23 E) dX8_passQuarter_17 ?_
    refine lv_icmp_ge (tgt := 52) hx hb dX8_passQuarter_20 (by decide) (fun c1 => ?_) (fun c1 => ?_)
    · have h := ite_t h c1
      refine lv_aload_n hx hb dX8_passQuarter_52 rfl (lv_at hl 0 rfl) ?_
      refine lv_aload_n hx hb dX8_passQuarter_53 rfl (lv_at hl 1 rfl) ?_
      obtain ⟨q2, hq2, h⟩ := bd h
      refine r_callVV (V := (vC E)) (k := 22) (As := [.ref (ca E r1)]) (rest := []) X I hl (c_X8_pay hr1 hq2) yv_X8_pay tw_127 ⟨rfl, rfl, Nat.le_of_ble_eq_true rfl, Nat.le_of_ble_eq_true rfl⟩ (kC_22 E).1 ((kC_22 E).2 (σ 22)) rfl rfl rfl (Nat.le_of_ble_eq_true rfl) dX8_passQuarter_54 (fun H locs I => ?_)
      refine lv_aload_n hx hb dX8_passQuarter_57 rfl (lv_at hl 1 rfl) ?_
      refine lv_bipush (v := 61) hx hb dX8_passQuarter_58 (by decide) ?_
      refine lv_iconst (v := 0) hx hb dX8_passQuarter_60 (by decide) ?_
      obtain ⟨hin, h⟩ := gd_some h
      refine iastC X I hr1 hin dX8_passQuarter_61 (fun H locs I => ?_)
      obtain ⟨σ3, eσ3, h⟩ := lt_e h
      replace I := wi_nm eσ3 I
      refine lv_aload_n hx hb dX8_passQuarter_62 rfl (lv_at hl 1 rfl) ?_
      refine lv_bipush (v := 63) hx hb dX8_passQuarter_63 (by decide) ?_
      refine lv_dup2_11 hx hb dX8_passQuarter_65 rfl rfl ?_
      obtain ⟨hin, h⟩ := gd_some h
      refine ialdC X I hr1 hin dX8_passQuarter_66 ?_
      refine lv_iconst (v := 1) hx hb dX8_passQuarter_67 (by decide) ?_
      refine lv_iadd hx hb dX8_passQuarter_68 ?_
      obtain ⟨hin, h⟩ := gd_some h
      refine iastC X I hr1 hin dX8_passQuarter_69 (fun H locs I => ?_)
      obtain ⟨σ4, eσ4, h⟩ := lt_e h
      replace I := wi_nm eσ4 I
      exact r_vret X I (Option.some.inj h).symm dX8_passQuarter_70
    · have h := ite_f h c1
      refine lv_aload_n hx hb dX8_passQuarter_23 rfl (lv_at hl 1 rfl) ?_
      refine lv_bipush (v := 62) hx hb dX8_passQuarter_24 (by decide) ?_
      obtain ⟨hin, h⟩ := gd_some h
      refine ialdC X I hr1 hin dX8_passQuarter_26 ?_
      refine lv_iload_n hx hb dX8_passQuarter_27 rfl (lv_at hl 2 rfl) ?_
      refine lv_ishr hx hb dX8_passQuarter_28 ?_
      refine lv_iconst (v := 1) hx hb dX8_passQuarter_29 (by decide) ?_
      refine lv_iand hx hb dX8_passQuarter_30 ?_
      refine lv_if_ne (tgt := 46) hx hb dX8_passQuarter_31 (by decide) (fun c5 => ?_) (fun c5 => ?_)
      · have h := ite_f h c5
        refine lv_iinc (v := (x2 + 1)) (lv' := [(2, .int (x2 + 1)), (0, .ref (ca E 22)), (1, .ref (ca E r1))]) hx hb dX8_passQuarter_46 hl (k := 2) rfl rfl (by decide) rfl (fun ls hl => ?_)
        refine lv_goto (tgt := 12) hx hb dX8_passQuarter_49 (by decide) ?_
        exact ih σ (x2 + 1) h H locs ls I (lv_sub hl [1, 2, 0] rfl)
      · have h := ite_t h c5
        refine lv_aload_n hx hb dX8_passQuarter_34 rfl (lv_at hl 0 rfl) ?_
        refine lv_aload_n hx hb dX8_passQuarter_35 rfl (lv_at hl 1 rfl) ?_
        refine lv_iload_n hx hb dX8_passQuarter_36 rfl (lv_at hl 2 rfl) ?_
        refine lv_aload_n hx hb dX8_passQuarter_37 rfl (lv_at hl 0 rfl) ?_
        refine lv_aload_n hx hb dX8_passQuarter_38 rfl (lv_at hl 1 rfl) ?_
        refine lv_iload_n hx hb dX8_passQuarter_39 rfl (lv_at hl 2 rfl) ?_
        obtain ⟨q6, hq6, h⟩ := bd h
        refine r_callVI (V := (vC E)) (k := 22) (As := [.ref (ca E r1), .int x2]) (rest := [.int x2, .ref (ca E r1), .ref (ca E 22)]) X I hl (c_X8_sitsBy hr1 hq6) yv_X8_sitsBy tw_132 ⟨rfl, rfl, Nat.le_of_ble_eq_true rfl, Nat.le_of_ble_eq_true rfl⟩ (kC_22 E).1 ((kC_22 E).2 (σ 22)) rfl rfl rfl (Nat.le_of_ble_eq_true rfl) dX8_passQuarter_40 (fun H locs I => ?_)
        obtain ⟨q7, hq7, h⟩ := bd h
        refine r_callVV (V := (vC E)) (k := 22) (As := [.ref (ca E r1), .int x2, .int q6.1]) (rest := []) X I hl (c_X8_settle hr1 hq7) yv_X8_settle tw_137 ⟨rfl, rfl, Nat.le_of_ble_eq_true rfl, Nat.le_of_ble_eq_true rfl⟩ (kC_22 E).1 ((kC_22 E).2 (q6.2 22)) rfl rfl rfl (Nat.le_of_ble_eq_true rfl) dX8_passQuarter_43 (fun H locs I => ?_)
        refine lv_iinc (v := (x2 + 1)) (lv' := [(2, .int (x2 + 1)), (0, .ref (ca E 22)), (1, .ref (ca E r1))]) hx hb dX8_passQuarter_46 hl (k := 2) rfl rfl (by decide) rfl (fun ls hl => ?_)
        refine lv_goto (tgt := 12) hx hb dX8_passQuarter_49 (by decide) ?_
        exact ih q7 (x2 + 1) h H locs ls I (lv_sub hl [1, 2, 0] rfl)
set_option maxHeartbeats 4000000 in
set_option maxRecDepth 100000 in
theorem w_X8_passQuarter_0 {p : Program} {l : Launch} {e : Env} {s : State} {m : MethodId} {args : Array Value} {below : List Frame} {meth : Method} {c : Code} {A : Nat → Prop} {E : CE} {q : Mem} (X : CX p s m meth c args cX8_passQuarter 3 RX8 none) {r1 : Nat} (hr1 : KCaI E r1 64) : ∀ (σ : Mem)  , m_X8_passQuarter r1 σ = some q → ∀ (H : Heap) (locs : List Loc) (ls : Array Slot), WI (vC E) A s H locs σ → lv_has ls 3 [(0, .ref (ca E 22)), (1, .ref (ca E r1))] → W p l e rm_X8_passQuarter s m args below meth c H locs 0 0 (MQ below (QV (vC E) A q) args s 0 0 A) (F0 m 0 ls []) := by
  have hx := X.1
  have hb := X.2.1
  intro σ  h H locs ls I hl
  unfold m_X8_passQuarter at h
  refine lv_aload_n hx hb dX8_passQuarter_0 rfl (lv_at hl 0 rfl) ?_
  refine lv_aload_n hx hb dX8_passQuarter_1 rfl (lv_at hl 1 rfl) ?_
  obtain ⟨q1, hq1, h⟩ := bd h
  refine r_callVV (V := (vC E)) (k := 22) (As := [.ref (ca E r1)]) (rest := []) X I hl (c_X8_rememberOwners hr1 hq1) yv_X8_rememberOwners tw_89 ⟨rfl, rfl, Nat.le_of_ble_eq_true rfl, Nat.le_of_ble_eq_true rfl⟩ (kC_22 E).1 ((kC_22 E).2 (σ 22)) rfl rfl rfl (Nat.le_of_ble_eq_true rfl) dX8_passQuarter_2 (fun H locs I => ?_)
  refine lv_aload_n hx hb dX8_passQuarter_5 rfl (lv_at hl 0 rfl) ?_
  refine lv_aload_n hx hb dX8_passQuarter_6 rfl (lv_at hl 1 rfl) ?_
  obtain ⟨q2, hq2, h⟩ := bd h
  refine r_callVV (V := (vC E)) (k := 22) (As := [.ref (ca E r1)]) (rest := []) X I hl (c_X8_growOld hr1 hq2) yv_X8_growOld tw_122 ⟨rfl, rfl, Nat.le_of_ble_eq_true rfl, Nat.le_of_ble_eq_true rfl⟩ (kC_22 E).1 ((kC_22 E).2 (q1 22)) rfl rfl rfl (Nat.le_of_ble_eq_true rfl) dX8_passQuarter_7 (fun H locs I => ?_)
  refine lv_iconst (v := 0) hx hb dX8_passQuarter_10 (by decide) ?_
  refine lv_istore_n (lv' := [(2, .int (0 : Int32)), (0, .ref (ca E 22)), (1, .ref (ca E r1))]) hx hb dX8_passQuarter_11 rfl hl (by decide) rfl (fun ls hl => ?_)
  exact w_X8_passQuarter_12 X hr1  KF q2 (0 : Int32) h H locs ls I (lv_sub hl [1, 2, 0] rfl)
theorem c_X8_passQuarter {l : Launch} {E : CE} {r1 : Nat} {σ : Mem} (hr1 : KCaI E r1 64) {q : Mem} (h : m_X8_passQuarter r1 σ = some q) : CV l (vC E) yX8_passQuarter (.code yX8_passQuarter cX8_passQuarter 3 none :: GG) rm_X8_passQuarter [.ref (ca E 22), .ref (ca E r1)] σ q :=
  mk_CV (by decide +kernel) (Nat.le_of_ble_eq_true rfl) (fun p e s m args below meth c A ls X I hl => w_X8_passQuarter_0 X hr1 σ  h s.heap [] ls I (lv_sub hl [0, 1] rfl))

def rm_X8_passQuarters : Room := { frames := 6, cells := 0, slots := 0, locals := 183 }
def f_X8_passQuarters_2 (r1 : Nat) (x2 : Int32) : Nat → Mem → Int32 → Option (Mem)
  | 0, _, _ => none
  | n + 1, σ, x3 => (if x2 ≤ x3 then (some σ) else ((m_X8_passQuarter r1 σ).bind fun q2 => f_X8_passQuarters_2 r1 x2 n q2 (x3 + 1)))
def m_X8_passQuarters (r1 : Nat) (σ : Mem) (x2 : Int32) : Option (Mem) := (f_X8_passQuarters_2 r1 x2 KF σ (0 : Int32))
set_option maxHeartbeats 4000000 in
set_option maxRecDepth 100000 in
theorem w_X8_passQuarters_2 {p : Program} {l : Launch} {e : Env} {s : State} {m : MethodId} {args : Array Value} {below : List Frame} {meth : Method} {c : Code} {A : Nat → Prop} {E : CE} {q : Mem} (X : CX p s m meth c args cX8_passQuarters 4 RX8 none) {r1 : Nat} {x2 : Int32} (hr1 : KCaI E r1 64) : ∀ (n : Nat), ∀ (σ : Mem) (x3 : Int32) , f_X8_passQuarters_2 r1 x2 n σ x3 = some q → ∀ (H : Heap) (locs : List Loc) (ls : Array Slot), WI (vC E) A s H locs σ → lv_has ls 4 [(0, .ref (ca E 22)), (1, .ref (ca E r1)), (2, .int x2), (3, .int x3)] → W p l e rm_X8_passQuarters s m args below meth c H locs 0 0 (MQ below (QV (vC E) A q) args s 0 0 A) (F0 m 2 ls []) := by
  have hx := X.1
  have hb := X.2.1
  intro n
  induction n with
  | zero =>
    intro σ x3 h
    cases h
  | succ n ih =>
    intro σ x3 h H locs ls I hl
    rw [f_X8_passQuarters_2] at h
    refine lv_iload_n hx hb dX8_passQuarters_2 rfl (lv_at hl 3 rfl) ?_
    refine lv_iload_n hx hb dX8_passQuarters_3 rfl (lv_at hl 2 rfl) ?_
    refine lv_icmp_ge (tgt := 18) hx hb dX8_passQuarters_4 (by decide) (fun c1 => ?_) (fun c1 => ?_)
    · have h := ite_t h c1
      exact r_vret X I (Option.some.inj h).symm dX8_passQuarters_18
    · have h := ite_f h c1
      refine lv_aload_n hx hb dX8_passQuarters_7 rfl (lv_at hl 0 rfl) ?_
      refine lv_aload_n hx hb dX8_passQuarters_8 rfl (lv_at hl 1 rfl) ?_
      obtain ⟨q2, hq2, h⟩ := bd h
      refine r_callVV (V := (vC E)) (k := 22) (As := [.ref (ca E r1)]) (rest := []) X I hl (c_X8_passQuarter hr1 hq2) yv_X8_passQuarter tw_142 ⟨rfl, rfl, Nat.le_of_ble_eq_true rfl, Nat.le_of_ble_eq_true rfl⟩ (kC_22 E).1 ((kC_22 E).2 (σ 22)) rfl rfl rfl (Nat.le_of_ble_eq_true rfl) dX8_passQuarters_9 (fun H locs I => ?_)
      refine lv_iinc (v := (x3 + 1)) (lv' := [(3, .int (x3 + 1)), (0, .ref (ca E 22)), (1, .ref (ca E r1)), (2, .int x2)]) hx hb dX8_passQuarters_12 hl (k := 3) rfl rfl (by decide) rfl (fun ls hl => ?_)
      refine lv_goto (tgt := 2) hx hb dX8_passQuarters_15 (by decide) ?_
      exact ih q2 (x3 + 1) h H locs ls I (lv_sub hl [1, 2, 3, 0] rfl)
set_option maxHeartbeats 4000000 in
set_option maxRecDepth 100000 in
theorem w_X8_passQuarters_0 {p : Program} {l : Launch} {e : Env} {s : State} {m : MethodId} {args : Array Value} {below : List Frame} {meth : Method} {c : Code} {A : Nat → Prop} {E : CE} {q : Mem} (X : CX p s m meth c args cX8_passQuarters 4 RX8 none) {r1 : Nat} (hr1 : KCaI E r1 64) : ∀ (σ : Mem) (x2 : Int32) , m_X8_passQuarters r1 σ x2 = some q → ∀ (H : Heap) (locs : List Loc) (ls : Array Slot), WI (vC E) A s H locs σ → lv_has ls 4 [(0, .ref (ca E 22)), (1, .ref (ca E r1)), (2, .int x2)] → W p l e rm_X8_passQuarters s m args below meth c H locs 0 0 (MQ below (QV (vC E) A q) args s 0 0 A) (F0 m 0 ls []) := by
  have hx := X.1
  have hb := X.2.1
  intro σ x2 h H locs ls I hl
  unfold m_X8_passQuarters at h
  refine lv_iconst (v := 0) hx hb dX8_passQuarters_0 (by decide) ?_
  refine lv_istore_n (lv' := [(3, .int (0 : Int32)), (0, .ref (ca E 22)), (1, .ref (ca E r1)), (2, .int x2)]) hx hb dX8_passQuarters_1 rfl hl (by decide) rfl (fun ls hl => ?_)
  exact w_X8_passQuarters_2 X hr1  KF σ (0 : Int32) h H locs ls I (lv_sub hl [1, 2, 3, 0] rfl)
theorem c_X8_passQuarters {l : Launch} {E : CE} {r1 : Nat} {σ : Mem} {x2 : Int32} (hr1 : KCaI E r1 64) {q : Mem} (h : m_X8_passQuarters r1 σ x2 = some q) : CV l (vC E) yX8_passQuarters (.code yX8_passQuarters cX8_passQuarters 4 none :: GG) rm_X8_passQuarters [.ref (ca E 22), .ref (ca E r1), .int x2] σ q :=
  mk_CV (by decide +kernel) (Nat.le_of_ble_eq_true rfl) (fun p e s m args below meth c A ls X I hl => w_X8_passQuarters_0 X hr1 σ x2 h s.heap [] ls I (lv_sub hl [0, 1, 2] rfl))

def rm_X8_passYears : Room := { frames := 6, cells := 0, slots := 0, locals := 183 }
def f_X8_passYears_50 (r1 : Nat) (k11 : Mem → Int32 → Int32 → Option (Int32 × Mem)) (x3 : Int32) (x5 : Int32) : Nat → Mem → Int32 → Int32 → Option (Int32 × Mem)
  | 0, _, _, _ => none
  | n + 1, σ, x4, x6 => (if (σ 23 0) ≤ x6 then (k11 σ x4 (x5 + 1)) else (gd ((24 : Int32) + x6) 64 (gd x6 8 (if (σ r1 (Int32.toNatClampNeg ((24 : Int32) + x6))) = (σ 36 (Int32.toNatClampNeg x6)) then (lt (x4 + (0 : Int32)) fun y4 => f_X8_passYears_50 r1 k11 x3 x5 n σ y4 (x6 + 1)) else (lt (x4 + (1 : Int32)) fun y3 => f_X8_passYears_50 r1 k11 x3 x5 n σ y3 (x6 + 1))))))
def f_X8_passYears_11 (r1 : Nat) (x3 : Int32) : Nat → Mem → Int32 → Int32 → Option (Int32 × Mem)
  | 0, _, _, _ => none
  | n + 1, σ, x4, x5 => (if x3 ≤ x5 then (some (x4, σ)) else (if (σ 23 0) ≤ (0 : Int32) then ((m_X8_passQuarter r1 σ).bind fun q3 => (f_X8_passYears_50 r1 (f_X8_passYears_11 r1 x3 n) x3 x5 KF q3 x4 (0 : Int32))) else (if (σ 23 1) ≤ (0 : Int32) then ((m_X8_passQuarter r1 σ).bind fun q5 => (f_X8_passYears_50 r1 (f_X8_passYears_11 r1 x3 n) x3 x5 KF q5 x4 (0 : Int32))) else ((m_X8_disturb r1 σ).bind fun q6 => ((m_X8_passQuarter r1 q6).bind fun q7 => (f_X8_passYears_50 r1 (f_X8_passYears_11 r1 x3 n) x3 x5 KF q7 x4 (0 : Int32)))))))
def m_X8_passYears (r1 : Nat) (σ : Mem) (x2 : Int32) (x3 : Int32) : Option (Int32 × Mem) := (lt (ms σ 22 4 x2) fun σ1 => (f_X8_passYears_11 r1 x3 KF σ1 (0 : Int32) (0 : Int32)))
set_option maxHeartbeats 4000000 in
set_option maxRecDepth 100000 in
theorem w_X8_passYears_50 {p : Program} {l : Launch} {e : Env} {s : State} {m : MethodId} {args : Array Value} {below : List Frame} {meth : Method} {c : Code} {A : Nat → Prop} {E : CE} {q : Int32 × Mem} (X : CX p s m meth c args cX8_passYears 7 RX8 (some .int)) {r1 : Nat} {x3 : Int32} {x5 : Int32} (hr1 : KCaI E r1 64) {k11 : Mem → Int32 → Int32 → Option (Int32 × Mem)} (hk11 : ∀ (σ : Mem) (x4 : Int32) (x5 : Int32) , k11 σ x4 x5 = some q → ∀ (H : Heap) (locs : List Loc) (ls : Array Slot), WI (vC E) A s H locs σ → lv_has ls 7 [(0, .ref (ca E 22)), (1, .ref (ca E r1)), (3, .int x3), (4, .int x4), (5, .int x5)] → W p l e rm_X8_passYears s m args below meth c H locs 0 0 (MQ below (QI (vC E) A q) args s 0 0 A) (F0 m 11 ls [])) : ∀ (n : Nat), ∀ (σ : Mem) (x4 : Int32) (x6 : Int32) , f_X8_passYears_50 r1 k11 x3 x5 n σ x4 x6 = some q → ∀ (H : Heap) (locs : List Loc) (ls : Array Slot), WI (vC E) A s H locs σ → lv_has ls 7 [(0, .ref (ca E 22)), (1, .ref (ca E r1)), (3, .int x3), (4, .int x4), (5, .int x5), (6, .int x6)] → W p l e rm_X8_passYears s m args below meth c H locs 0 0 (MQ below (QI (vC E) A q) args s 0 0 A) (F0 m 50 ls []) := by
  have hx := X.1
  have hb := X.2.1
  intro n
  induction n with
  | zero =>
    intro σ x4 x6 h
    cases h
  | succ n ih =>
    intro σ x4 x6 h H locs ls I hl
    rw [f_X8_passYears_50] at h
    refine lv_iload hx hb dX8_passYears_50 (lv_at hl 5 rfl) ?_
    refine lv_aload_n hx hb dX8_passYears_52 rfl (lv_at hl 0 rfl) ?_
    refine gfC_X8_12 X I (kC_22 E) (k' := 23) rfl dX8_passYears_53 ?_
    refine gfC_X8_42 X I (kC_23 E) dX8_passYears_56 ?_
    refine lv_icmp_ge (tgt := 95) hx hb dX8_passYears_59 (by decide) (fun c1 => ?_) (fun c1 => ?_)
    · have h := ite_t h c1
      refine lv_iinc (v := (x5 + 1)) (lv' := [(5, .int (x5 + 1)), (0, .ref (ca E 22)), (1, .ref (ca E r1)), (3, .int x3), (4, .int x4), (6, .int x6)]) hx hb dX8_passYears_95 hl (k := 4) rfl rfl (by decide) rfl (fun ls hl => ?_)
      refine lv_goto (tgt := 11) hx hb dX8_passYears_98 (by decide) ?_
      exact hk11 σ x4 (x5 + 1) h H locs ls I (lv_sub hl [1, 2, 3, 4, 0] rfl)
    · have h := ite_f h c1
      refine lv_iload hx hb dX8_passYears_62 (lv_at hl 3 rfl) ?_
      refine lv_aload_n hx hb dX8_passYears_64 rfl (lv_at hl 1 rfl) ?_
      refine lv_bipush (v := 24) hx hb dX8_passYears_65 (by decide) ?_
      refine lv_iload hx hb dX8_passYears_67 (lv_at hl 5 rfl) ?_
      refine lv_iadd hx hb dX8_passYears_69 ?_
      obtain ⟨hin, h⟩ := gd_some h
      refine ialdC X I hr1 hin dX8_passYears_70 ?_
      refine lv_aload_n hx hb dX8_passYears_71 rfl (lv_at hl 0 rfl) ?_
      refine gfC_X8_22 X I (kC_22 E) (k' := 36) rfl dX8_passYears_72 ?_
      refine lv_iload hx hb dX8_passYears_75 (lv_at hl 5 rfl) ?_
      obtain ⟨hin, h⟩ := gd_some h
      refine ialdC X I (kC_36 E) hin dX8_passYears_77 ?_
      refine lv_icmp_ne (tgt := 85) hx hb dX8_passYears_78 (by decide) (fun c2 => ?_) (fun c2 => ?_)
      · have h := ite_f h c2
        refine lv_iconst (v := 1) hx hb dX8_passYears_85 (by decide) ?_
        refine lv_iadd hx hb dX8_passYears_86 ?_
        obtain ⟨y3, ey3, h⟩ := lt_e h
        refine nm_i ey3 ?_
        refine lv_istore (lv' := [(4, .int y3), (0, .ref (ca E 22)), (1, .ref (ca E r1)), (3, .int x3), (5, .int x5), (6, .int x6)]) hx hb dX8_passYears_87 hl (by decide) rfl (fun ls hl => ?_)
        refine lv_iinc (v := (x6 + 1)) (lv' := [(6, .int (x6 + 1)), (4, .int y3), (0, .ref (ca E 22)), (1, .ref (ca E r1)), (3, .int x3), (5, .int x5)]) hx hb dX8_passYears_89 hl (k := 5) rfl rfl (by decide) rfl (fun ls hl => ?_)
        refine lv_goto (tgt := 50) hx hb dX8_passYears_92 (by decide) ?_
        exact ih σ y3 (x6 + 1) h H locs ls I (lv_sub hl [2, 3, 4, 1, 5, 0] rfl)
      · have h := ite_t h c2
        refine lv_iconst (v := 0) hx hb dX8_passYears_81 (by decide) ?_
        refine lv_goto (tgt := 86) hx hb dX8_passYears_82 (by decide) ?_
        refine lv_iadd hx hb dX8_passYears_86 ?_
        obtain ⟨y4, ey4, h⟩ := lt_e h
        refine nm_i ey4 ?_
        refine lv_istore (lv' := [(4, .int y4), (0, .ref (ca E 22)), (1, .ref (ca E r1)), (3, .int x3), (5, .int x5), (6, .int x6)]) hx hb dX8_passYears_87 hl (by decide) rfl (fun ls hl => ?_)
        refine lv_iinc (v := (x6 + 1)) (lv' := [(6, .int (x6 + 1)), (4, .int y4), (0, .ref (ca E 22)), (1, .ref (ca E r1)), (3, .int x3), (5, .int x5)]) hx hb dX8_passYears_89 hl (k := 5) rfl rfl (by decide) rfl (fun ls hl => ?_)
        refine lv_goto (tgt := 50) hx hb dX8_passYears_92 (by decide) ?_
        exact ih σ y4 (x6 + 1) h H locs ls I (lv_sub hl [2, 3, 4, 1, 5, 0] rfl)
set_option maxHeartbeats 4000000 in
set_option maxRecDepth 100000 in
theorem w_X8_passYears_11 {p : Program} {l : Launch} {e : Env} {s : State} {m : MethodId} {args : Array Value} {below : List Frame} {meth : Method} {c : Code} {A : Nat → Prop} {E : CE} {q : Int32 × Mem} (X : CX p s m meth c args cX8_passYears 7 RX8 (some .int)) {r1 : Nat} {x3 : Int32} (hr1 : KCaI E r1 64) : ∀ (n : Nat), ∀ (σ : Mem) (x4 : Int32) (x5 : Int32) , f_X8_passYears_11 r1 x3 n σ x4 x5 = some q → ∀ (H : Heap) (locs : List Loc) (ls : Array Slot), WI (vC E) A s H locs σ → lv_has ls 7 [(0, .ref (ca E 22)), (1, .ref (ca E r1)), (3, .int x3), (4, .int x4), (5, .int x5)] → W p l e rm_X8_passYears s m args below meth c H locs 0 0 (MQ below (QI (vC E) A q) args s 0 0 A) (F0 m 11 ls []) := by
  have hx := X.1
  have hb := X.2.1
  intro n
  induction n with
  | zero =>
    intro σ x4 x5 h
    cases h
  | succ n ih =>
    intro σ x4 x5 h H locs ls I hl
    rw [f_X8_passYears_11] at h
    refine lv_iload hx hb dX8_passYears_11 (lv_at hl 4 rfl) ?_
    refine lv_iload_n hx hb dX8_passYears_13 rfl (lv_at hl 2 rfl) ?_
    refine lv_icmp_ge (tgt := 101) hx hb dX8_passYears_14 (by decide) (fun c1 => ?_) (fun c1 => ?_)
    · have h := ite_t h c1
      refine lv_iload hx hb dX8_passYears_101 (lv_at hl 3 rfl) ?_
      exact r_iret X I (Option.some.inj h).symm dX8_passYears_103
    · have h := ite_f h c1
      refine lv_aload_n hx hb dX8_passYears_17 rfl (lv_at hl 0 rfl) ?_
      refine gfC_X8_12 X I (kC_22 E) (k' := 23) rfl dX8_passYears_18 ?_
      refine gfC_X8_42 X I (kC_23 E) dX8_passYears_21 ?_
      refine lv_if_le (tgt := 42) hx hb dX8_passYears_24 (by decide) (fun c2 => ?_) (fun c2 => ?_)
      · have h := ite_t h c2
        refine lv_aload_n hx hb dX8_passYears_42 rfl (lv_at hl 0 rfl) ?_
        refine lv_aload_n hx hb dX8_passYears_43 rfl (lv_at hl 1 rfl) ?_
        obtain ⟨q3, hq3, h⟩ := bd h
        refine r_callVV (V := (vC E)) (k := 22) (As := [.ref (ca E r1)]) (rest := []) X I hl (c_X8_passQuarter hr1 hq3) yv_X8_passQuarter tw_142 ⟨rfl, rfl, Nat.le_of_ble_eq_true rfl, Nat.le_of_ble_eq_true rfl⟩ (kC_22 E).1 ((kC_22 E).2 (σ 22)) rfl rfl rfl (Nat.le_of_ble_eq_true rfl) dX8_passYears_44 (fun H locs I => ?_)
        refine lv_iconst (v := 0) hx hb dX8_passYears_47 (by decide) ?_
        refine lv_istore (lv' := [(6, .int (0 : Int32)), (0, .ref (ca E 22)), (1, .ref (ca E r1)), (3, .int x3), (4, .int x4), (5, .int x5)]) hx hb dX8_passYears_48 hl (by decide) rfl (fun ls hl => ?_)
        exact w_X8_passYears_50 X hr1 (fun σ a4 a5 h H locs ls I hl => ih σ a4 a5 h H locs ls I hl) KF q3 x4 (0 : Int32) h H locs ls I (lv_sub hl [1, 2, 3, 4, 5, 0] rfl)
      · have h := ite_f h c2
        refine lv_aload_n hx hb dX8_passYears_27 rfl (lv_at hl 0 rfl) ?_
        refine gfC_X8_12 X I (kC_22 E) (k' := 23) rfl dX8_passYears_28 ?_
        refine gfC_X8_56 X I (kC_23 E) dX8_passYears_31 ?_
        refine lv_if_le (tgt := 42) hx hb dX8_passYears_34 (by decide) (fun c4 => ?_) (fun c4 => ?_)
        · have h := ite_t h c4
          refine lv_aload_n hx hb dX8_passYears_42 rfl (lv_at hl 0 rfl) ?_
          refine lv_aload_n hx hb dX8_passYears_43 rfl (lv_at hl 1 rfl) ?_
          obtain ⟨q5, hq5, h⟩ := bd h
          refine r_callVV (V := (vC E)) (k := 22) (As := [.ref (ca E r1)]) (rest := []) X I hl (c_X8_passQuarter hr1 hq5) yv_X8_passQuarter tw_142 ⟨rfl, rfl, Nat.le_of_ble_eq_true rfl, Nat.le_of_ble_eq_true rfl⟩ (kC_22 E).1 ((kC_22 E).2 (σ 22)) rfl rfl rfl (Nat.le_of_ble_eq_true rfl) dX8_passYears_44 (fun H locs I => ?_)
          refine lv_iconst (v := 0) hx hb dX8_passYears_47 (by decide) ?_
          refine lv_istore (lv' := [(6, .int (0 : Int32)), (0, .ref (ca E 22)), (1, .ref (ca E r1)), (3, .int x3), (4, .int x4), (5, .int x5)]) hx hb dX8_passYears_48 hl (by decide) rfl (fun ls hl => ?_)
          exact w_X8_passYears_50 X hr1 (fun σ a4 a5 h H locs ls I hl => ih σ a4 a5 h H locs ls I hl) KF q5 x4 (0 : Int32) h H locs ls I (lv_sub hl [1, 2, 3, 4, 5, 0] rfl)
        · have h := ite_f h c4
          refine lv_aload_n hx hb dX8_passYears_37 rfl (lv_at hl 0 rfl) ?_
          refine lv_aload_n hx hb dX8_passYears_38 rfl (lv_at hl 1 rfl) ?_
          obtain ⟨q6, hq6, h⟩ := bd h
          refine r_callVV (V := (vC E)) (k := 22) (As := [.ref (ca E r1)]) (rest := []) X I hl (c_X8_disturb hr1 hq6) yv_X8_disturb tw_147 ⟨rfl, rfl, Nat.le_of_ble_eq_true rfl, Nat.le_of_ble_eq_true rfl⟩ (kC_22 E).1 ((kC_22 E).2 (σ 22)) rfl rfl rfl (Nat.le_of_ble_eq_true rfl) dX8_passYears_39 (fun H locs I => ?_)
          refine lv_aload_n hx hb dX8_passYears_42 rfl (lv_at hl 0 rfl) ?_
          refine lv_aload_n hx hb dX8_passYears_43 rfl (lv_at hl 1 rfl) ?_
          obtain ⟨q7, hq7, h⟩ := bd h
          refine r_callVV (V := (vC E)) (k := 22) (As := [.ref (ca E r1)]) (rest := []) X I hl (c_X8_passQuarter hr1 hq7) yv_X8_passQuarter tw_142 ⟨rfl, rfl, Nat.le_of_ble_eq_true rfl, Nat.le_of_ble_eq_true rfl⟩ (kC_22 E).1 ((kC_22 E).2 (q6 22)) rfl rfl rfl (Nat.le_of_ble_eq_true rfl) dX8_passYears_44 (fun H locs I => ?_)
          refine lv_iconst (v := 0) hx hb dX8_passYears_47 (by decide) ?_
          refine lv_istore (lv' := [(6, .int (0 : Int32)), (0, .ref (ca E 22)), (1, .ref (ca E r1)), (3, .int x3), (4, .int x4), (5, .int x5)]) hx hb dX8_passYears_48 hl (by decide) rfl (fun ls hl => ?_)
          exact w_X8_passYears_50 X hr1 (fun σ a4 a5 h H locs ls I hl => ih σ a4 a5 h H locs ls I hl) KF q7 x4 (0 : Int32) h H locs ls I (lv_sub hl [1, 2, 3, 4, 5, 0] rfl)
set_option maxHeartbeats 4000000 in
set_option maxRecDepth 100000 in
theorem w_X8_passYears_0 {p : Program} {l : Launch} {e : Env} {s : State} {m : MethodId} {args : Array Value} {below : List Frame} {meth : Method} {c : Code} {A : Nat → Prop} {E : CE} {q : Int32 × Mem} (X : CX p s m meth c args cX8_passYears 7 RX8 (some .int)) {r1 : Nat} (hr1 : KCaI E r1 64) : ∀ (σ : Mem) (x2 : Int32) (x3 : Int32) , m_X8_passYears r1 σ x2 x3 = some q → ∀ (H : Heap) (locs : List Loc) (ls : Array Slot), WI (vC E) A s H locs σ → lv_has ls 7 [(0, .ref (ca E 22)), (1, .ref (ca E r1)), (2, .int x2), (3, .int x3)] → W p l e rm_X8_passYears s m args below meth c H locs 0 0 (MQ below (QI (vC E) A q) args s 0 0 A) (F0 m 0 ls []) := by
  have hx := X.1
  have hb := X.2.1
  intro σ x2 x3 h H locs ls I hl
  unfold m_X8_passYears at h
  refine lv_aload_n hx hb dX8_passYears_0 rfl (lv_at hl 0 rfl) ?_
  refine lv_iload_n hx hb dX8_passYears_1 rfl (lv_at hl 2 rfl) ?_
  refine pfC_X8_28 X I (kC_22 E) dX8_passYears_2 (fun H locs I => ?_)
  obtain ⟨σ1, eσ1, h⟩ := lt_e h
  replace I := wi_nm eσ1 I
  refine lv_iconst (v := 0) hx hb dX8_passYears_5 (by decide) ?_
  refine lv_istore (lv' := [(4, .int (0 : Int32)), (0, .ref (ca E 22)), (1, .ref (ca E r1)), (2, .int x2), (3, .int x3)]) hx hb dX8_passYears_6 hl (by decide) rfl (fun ls hl => ?_)
  refine lv_iconst (v := 0) hx hb dX8_passYears_8 (by decide) ?_
  refine lv_istore (lv' := [(5, .int (0 : Int32)), (4, .int (0 : Int32)), (0, .ref (ca E 22)), (1, .ref (ca E r1)), (2, .int x2), (3, .int x3)]) hx hb dX8_passYears_9 hl (by decide) rfl (fun ls hl => ?_)
  exact w_X8_passYears_11 X hr1  KF σ1 (0 : Int32) (0 : Int32) h H locs ls I (lv_sub hl [2, 3, 5, 1, 0] rfl)
theorem c_X8_passYears {l : Launch} {E : CE} {r1 : Nat} {σ : Mem} {x2 : Int32} {x3 : Int32} (hr1 : KCaI E r1 64) {q : Int32 × Mem} (h : m_X8_passYears r1 σ x2 x3 = some q) : CI l (vC E) yX8_passYears (.code yX8_passYears cX8_passYears 7 (some .int) :: GG) rm_X8_passYears [.ref (ca E 22), .ref (ca E r1), .int x2, .int x3] σ q :=
  mk_CI (by decide +kernel) (Nat.le_of_ble_eq_true rfl) (fun p e s m args below meth c A ls X I hl => w_X8_passYears_0 X hr1 σ x2 x3 h s.heap [] ls I (lv_sub hl [0, 1, 2, 3] rfl))

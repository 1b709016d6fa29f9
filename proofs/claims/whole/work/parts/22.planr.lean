def rm_X3_readNumbers : Room := { frames := 4, cells := 0, slots := 0, locals := 124 }
def f_X3_readNumbers_9 (t2 : Nat) (x1 : Int32) : Nat → Mem → Int32 → Option (Int32 × Mem)
  | 0, _, _ => none
  | n + 1, σ, x3 => (if (tLen t2) ≤ x3 then (some ((0 : Int32), σ)) else (if (4 : Int32) ≤ x3 then (some ((0 : Int32), σ)) else (if (σ 3 5) = (2 : Int32) then (if (σ 3 6) < x1 then (some ((2 : Int32), σ)) else (gd x3 (tNum t2) (if (σ 3 6) ≤ (tv t2 (Int32.toNatClampNeg x3)) then (gd x3 4 (lt (ms σ 21 (Int32.toNatClampNeg x3) ((σ 3 6))) fun σ6 => ((m_X9_next σ6).bind fun q7 => f_X3_readNumbers_9 t2 x1 n q7 (x3 + 1)))) else (some ((2 : Int32), σ))))) else (some ((1 : Int32), σ)))))
def m_X3_readNumbers (t2 : Nat) (σ : Mem) (x1 : Int32) : Option (Int32 × Mem) := ((m_X9_next σ).bind fun q1 => (f_X3_readNumbers_9 t2 x1 KF q1 (0 : Int32)))
set_option maxHeartbeats 4000000 in
set_option maxRecDepth 100000 in
theorem w_X3_readNumbers_9 {p : Program} {l : Launch} {e : Env} {s : State} {m : MethodId} {args : Array Value} {below : List Frame} {meth : Method} {c : Code} {A : Nat → Prop} {E : CE} {q : Int32 × Mem} (X : CX p s m meth c args cX3_readNumbers 4 RX3 (some .int)) {t2 : Nat} {x1 : Int32} (ht2 : t2 < 3) : ∀ (n : Nat), ∀ (σ : Mem) (x3 : Int32) , f_X3_readNumbers_9 t2 x1 n σ x3 = some q → ∀ (H : Heap) (locs : List Loc) (ls : Array Slot), WI (vC E) A s H locs σ → lv_has ls 4 [(0, .ref (ca E 1)), (1, .int x1), (2, .ref (taC E t2)), (3, .int x3)] → W p l e rm_X3_readNumbers s m args below meth c H locs 0 0 (MQ below (QI (vC E) A q) args s 0 0 A) (F0 m 9 ls []) := by
  have hx := X.1
  have hb := X.2.1
  intro n
  induction n with
  | zero =>
    intro σ x3 h
    cases h
  | succ n ih =>
    intro σ x3 h H locs ls I hl
    rw [f_X3_readNumbers_9] at h
    refine lv_iload_n hx hb dX3_readNumbers_9 rfl (lv_at hl 3 rfl) ?_
    refine lv_aload_n hx hb dX3_readNumbers_10 rfl (lv_at hl 2 rfl) ?_
    refine tlenC X I ht2 dX3_readNumbers_11 ?_
    refine lv_icmp_ge (tgt := 89) hx hb dX3_readNumbers_12 (by decide) (fun c1 => ?_) (fun c1 => ?_)
    · have h := ite_t h c1
      refine lv_iconst (v := 0) hx hb dX3_readNumbers_89 (by decide) ?_
      exact r_iret X I (Option.some.inj h).symm dX3_readNumbers_90
    · have h := ite_f h c1
      refine lv_iload_n hx hb dX3_readNumbers_15 rfl (lv_at hl 3 rfl) ?_
      refine lv_aload_n hx hb dX3_readNumbers_16 rfl (lv_at hl 0 rfl) ?_
      refine gfC_X3_30 X I (kC_1 E) (k' := 21) rfl dX3_readNumbers_17 ?_
      refine alenIC X I (kC_21 E) (v := 4) rfl dX3_readNumbers_20 ?_
      refine lv_icmp_ge (tgt := 89) hx hb dX3_readNumbers_21 (by decide) (fun c2 => ?_) (fun c2 => ?_)
      · have h := ite_t h c2
        refine lv_iconst (v := 0) hx hb dX3_readNumbers_89 (by decide) ?_
        exact r_iret X I (Option.some.inj h).symm dX3_readNumbers_90
      · have h := ite_f h c2
        refine lv_aload_n hx hb dX3_readNumbers_24 rfl (lv_at hl 0 rfl) ?_
        refine gfC_X3_22 X I (kC_1 E) (k' := 3) rfl dX3_readNumbers_25 ?_
        refine gfC_X3_46 X I (kC_3 E) dX3_readNumbers_28 ?_
        refine lv_iconst (v := 2) hx hb dX3_readNumbers_31 (by decide) ?_
        refine lv_icmp_eq (tgt := 37) hx hb dX3_readNumbers_32 (by decide) (fun c3 => ?_) (fun c3 => ?_)
        · have h := ite_t h c3
          refine lv_aload_n hx hb dX3_readNumbers_37 rfl (lv_at hl 0 rfl) ?_
          refine gfC_X3_22 X I (kC_1 E) (k' := 3) rfl dX3_readNumbers_38 ?_
          refine gfC_X3_124 X I (kC_3 E) dX3_readNumbers_41 ?_
          refine lv_iload_n hx hb dX3_readNumbers_44 rfl (lv_at hl 1 rfl) ?_
          refine lv_icmp_lt (tgt := 61) hx hb dX3_readNumbers_45 (by decide) (fun c4 => ?_) (fun c4 => ?_)
          · have h := ite_t h c4
            refine lv_iconst (v := 2) hx hb dX3_readNumbers_61 (by decide) ?_
            exact r_iret X I (Option.some.inj h).symm dX3_readNumbers_62
          · have h := ite_f h c4
            refine lv_aload_n hx hb dX3_readNumbers_48 rfl (lv_at hl 0 rfl) ?_
            refine gfC_X3_22 X I (kC_1 E) (k' := 3) rfl dX3_readNumbers_49 ?_
            refine gfC_X3_124 X I (kC_3 E) dX3_readNumbers_52 ?_
            refine lv_aload_n hx hb dX3_readNumbers_55 rfl (lv_at hl 2 rfl) ?_
            refine lv_iload_n hx hb dX3_readNumbers_56 rfl (lv_at hl 3 rfl) ?_
            obtain ⟨hin, h⟩ := gd_some h
            refine taldC X I ht2 hin dX3_readNumbers_57 ?_
            refine lv_icmp_le (tgt := 63) hx hb dX3_readNumbers_58 (by decide) (fun c5 => ?_) (fun c5 => ?_)
            · have h := ite_t h c5
              refine lv_aload_n hx hb dX3_readNumbers_63 rfl (lv_at hl 0 rfl) ?_
              refine gfC_X3_30 X I (kC_1 E) (k' := 21) rfl dX3_readNumbers_64 ?_
              refine lv_iload_n hx hb dX3_readNumbers_67 rfl (lv_at hl 3 rfl) ?_
              refine lv_aload_n hx hb dX3_readNumbers_68 rfl (lv_at hl 0 rfl) ?_
              refine gfC_X3_22 X I (kC_1 E) (k' := 3) rfl dX3_readNumbers_69 ?_
              refine gfC_X3_124 X I (kC_3 E) dX3_readNumbers_72 ?_
              obtain ⟨hin, h⟩ := gd_some h
              refine iastC X I (kC_21 E) hin dX3_readNumbers_75 (fun H locs I => ?_)
              obtain ⟨σ6, eσ6, h⟩ := lt_e h
              replace I := wi_nm eσ6 I
              refine lv_aload_n hx hb dX3_readNumbers_76 rfl (lv_at hl 0 rfl) ?_
              refine gfC_X3_22 X I (kC_1 E) (k' := 3) rfl dX3_readNumbers_77 ?_
              obtain ⟨q7, hq7, h⟩ := bd h
              refine r_callVV (V := (vC E)) (k := 3) (As := []) (rest := []) X I hl (c_X9_next  hq7) yv_X9_next tw_364 ⟨rfl, rfl, Nat.le_of_ble_eq_true rfl, Nat.le_of_ble_eq_true rfl⟩ (kC_3 E).1 ((kC_3 E).2 (σ6 3)) rfl rfl rfl (Nat.le_of_ble_eq_true rfl) dX3_readNumbers_80 (fun H locs I => ?_)
              refine lv_iinc (v := (x3 + 1)) (lv' := [(3, .int (x3 + 1)), (0, .ref (ca E 1)), (1, .int x1), (2, .ref (taC E t2))]) hx hb dX3_readNumbers_83 hl (k := 3) rfl rfl (by decide) rfl (fun ls hl => ?_)
              refine lv_goto (tgt := 9) hx hb dX3_readNumbers_86 (by decide) ?_
              exact ih q7 (x3 + 1) h H locs ls I (lv_sub hl [1, 2, 3, 0] rfl)
            · have h := ite_f h c5
              refine lv_iconst (v := 2) hx hb dX3_readNumbers_61 (by decide) ?_
              exact r_iret X I (Option.some.inj h).symm dX3_readNumbers_62
        · have h := ite_f h c3
          refine lv_iconst (v := 1) hx hb dX3_readNumbers_35 (by decide) ?_
          exact r_iret X I (Option.some.inj h).symm dX3_readNumbers_36
set_option maxHeartbeats 4000000 in
set_option maxRecDepth 100000 in
theorem w_X3_readNumbers_0 {p : Program} {l : Launch} {e : Env} {s : State} {m : MethodId} {args : Array Value} {below : List Frame} {meth : Method} {c : Code} {A : Nat → Prop} {E : CE} {q : Int32 × Mem} (X : CX p s m meth c args cX3_readNumbers 4 RX3 (some .int)) {t2 : Nat} (ht2 : t2 < 3) : ∀ (σ : Mem) (x1 : Int32) , m_X3_readNumbers t2 σ x1 = some q → ∀ (H : Heap) (locs : List Loc) (ls : Array Slot), WI (vC E) A s H locs σ → lv_has ls 4 [(0, .ref (ca E 1)), (1, .int x1), (2, .ref (taC E t2))] → W p l e rm_X3_readNumbers s m args below meth c H locs 0 0 (MQ below (QI (vC E) A q) args s 0 0 A) (F0 m 0 ls []) := by
  have hx := X.1
  have hb := X.2.1
  intro σ x1 h H locs ls I hl
  unfold m_X3_readNumbers at h
  refine lv_aload_n hx hb dX3_readNumbers_0 rfl (lv_at hl 0 rfl) ?_
  refine gfC_X3_22 X I (kC_1 E) (k' := 3) rfl dX3_readNumbers_1 ?_
  obtain ⟨q1, hq1, h⟩ := bd h
  refine r_callVV (V := (vC E)) (k := 3) (As := []) (rest := []) X I hl (c_X9_next  hq1) yv_X9_next tw_364 ⟨rfl, rfl, Nat.le_of_ble_eq_true rfl, Nat.le_of_ble_eq_true rfl⟩ (kC_3 E).1 ((kC_3 E).2 (σ 3)) rfl rfl rfl (Nat.le_of_ble_eq_true rfl) dX3_readNumbers_4 (fun H locs I => ?_)
  refine lv_iconst (v := 0) hx hb dX3_readNumbers_7 (by decide) ?_
  refine lv_istore_n (lv' := [(3, .int (0 : Int32)), (0, .ref (ca E 1)), (1, .int x1), (2, .ref (taC E t2))]) hx hb dX3_readNumbers_8 rfl hl (by decide) rfl (fun ls hl => ?_)
  exact w_X3_readNumbers_9 X ht2  KF q1 (0 : Int32) h H locs ls I (lv_sub hl [1, 2, 3, 0] rfl)
theorem c_X3_readNumbers {l : Launch} {E : CE} {t2 : Nat} {σ : Mem} {x1 : Int32} (ht2 : t2 < 3) {q : Int32 × Mem} (h : m_X3_readNumbers t2 σ x1 = some q) : CI l (vC E) yX3_readNumbers (.code yX3_readNumbers cX3_readNumbers 4 (some .int) :: GG) rm_X3_readNumbers [.ref (ca E 1), .int x1, .ref (taC E t2)] σ q :=
  mk_CI (by decide +kernel) (Nat.le_of_ble_eq_true rfl) (fun p e s m args below meth c A ls X I hl => w_X3_readNumbers_0 X ht2 σ x1 h s.heap [] ls I (lv_sub hl [0, 1, 2] rfl))

def rm_X3_readHouse : Room := { frames := 7, cells := 0, slots := 0, locals := 192 }
def f_X3_readHouse_54 (σ : Mem) (x1 : Int32) (z1 : Int32) (z2 : Int32) : Option (Int32 × Mem) := (gd z1 8 (lt (ms σ 11 (Int32.toNatClampNeg z1) (z2)) fun σ1 => ((m_X3_readNumbers 0 σ1 (0 : Int32)).bind fun q2 => (gd (0 : Int32) 4 (gd x1 8 (lt (ms q2.2 10 (Int32.toNatClampNeg x1) ((q2.2 21 (Int32.toNatClampNeg (0 : Int32))))) fun σ3 => (gd (1 : Int32) 4 (gd ((0 : Int32) + x1) 64 (lt (ms σ3 20 (Int32.toNatClampNeg ((0 : Int32) + x1)) ((σ3 21 (Int32.toNatClampNeg (1 : Int32))))) fun σ4 => (gd (2 : Int32) 4 (gd ((8 : Int32) + x1) 64 (lt (ms σ4 20 (Int32.toNatClampNeg ((8 : Int32) + x1)) ((σ4 21 (Int32.toNatClampNeg (2 : Int32))))) fun σ5 => (gd (3 : Int32) 4 (gd ((16 : Int32) + x1) 64 (lt (ms σ5 20 (Int32.toNatClampNeg ((16 : Int32) + x1)) ((σ5 21 (Int32.toNatClampNeg (3 : Int32))))) fun σ6 => (some (q2.1, σ6)))))))))))))))))
def m_X3_readHouse (σ : Mem) : Option (Int32 × Mem) := (lt (σ 9 0) fun y1 => (if y1 < (8 : Int32) then (lt (ms σ 9 0 ((σ 9 0) + (1 : Int32))) fun σ3 => ((m_X9_isWord 11 σ3).bind fun q4 => (if q4 = (0 : Int32) then (f_X3_readHouse_54 σ3 y1 y1 (0 : Int32)) else (f_X3_readHouse_54 σ3 y1 y1 (1 : Int32))))) else (some ((2 : Int32), σ))))
set_option maxHeartbeats 4000000 in
set_option maxRecDepth 100000 in
theorem w_X3_readHouse_54 {p : Program} {l : Launch} {e : Env} {s : State} {m : MethodId} {args : Array Value} {below : List Frame} {meth : Method} {c : Code} {A : Nat → Prop} {E : CE} {q : Int32 × Mem} (X : CX p s m meth c args cX3_readHouse 3 RX3 (some .int)) : ∀ (σ : Mem) (x1 : Int32) (z1 : Int32) (z2 : Int32), f_X3_readHouse_54 σ x1 z1 z2 = some q → ∀ (H : Heap) (locs : List Loc) (ls : Array Slot), WI (vC E) A s H locs σ → lv_has ls 3 [(0, .ref (ca E 1)), (1, .int x1)] → W p l e rm_X3_readHouse s m args below meth c H locs 0 0 (MQ below (QI (vC E) A q) args s 0 0 A) (F0 m 54 ls [.int z2, .int z1, .ref (ca E 11)]) := by
  have hx := X.1
  have hb := X.2.1
  intro σ x1 z1 z2 h H locs ls I hl
  unfold f_X3_readHouse_54 at h
  obtain ⟨hin, h⟩ := gd_some h
  refine iastC X I (kC_11 E) hin dX3_readHouse_54 (fun H locs I => ?_)
  obtain ⟨σ1, eσ1, h⟩ := lt_e h
  replace I := wi_nm eσ1 I
  refine lv_aload_n hx hb dX3_readHouse_55 rfl (lv_at hl 0 rfl) ?_
  refine lv_iconst (v := 0) hx hb dX3_readHouse_56 (by decide) ?_
  refine getsC X I (t := 0) (by decide) tw_372 dX3_readHouse_57 ?_
  obtain ⟨q2, hq2, h⟩ := bd h
  refine r_callVI (V := (vC E)) (k := 1) (As := [.int (0 : Int32), .ref (taC E 0)]) (rest := []) X I hl (c_X3_readNumbers (by decide) hq2) yv_X3_readNumbers tw_373 ⟨rfl, rfl, Nat.le_of_ble_eq_true rfl, Nat.le_of_ble_eq_true rfl⟩ (kC_1 E).1 ((kC_1 E).2 (σ1 1)) rfl rfl rfl (Nat.le_of_ble_eq_true rfl) dX3_readHouse_60 (fun H locs I => ?_)
  refine lv_istore_n (lv' := [(2, .int q2.1), (0, .ref (ca E 1)), (1, .int x1)]) hx hb dX3_readHouse_63 rfl hl (by decide) rfl (fun ls hl => ?_)
  refine lv_aload_n hx hb dX3_readHouse_64 rfl (lv_at hl 1 rfl) ?_
  refine gfC_X3_26 X I (kC_1 E) (k' := 9) rfl dX3_readHouse_65 ?_
  refine gfC_X3_102 X I (kC_9 E) (k' := 10) rfl dX3_readHouse_68 ?_
  refine lv_iload_n hx hb dX3_readHouse_71 rfl (lv_at hl 2 rfl) ?_
  refine lv_aload_n hx hb dX3_readHouse_72 rfl (lv_at hl 1 rfl) ?_
  refine gfC_X3_30 X I (kC_1 E) (k' := 21) rfl dX3_readHouse_73 ?_
  refine lv_iconst (v := 0) hx hb dX3_readHouse_76 (by decide) ?_
  obtain ⟨hin, h⟩ := gd_some h
  refine ialdC X I (kC_21 E) hin dX3_readHouse_77 ?_
  obtain ⟨hin, h⟩ := gd_some h
  refine iastC X I (kC_10 E) hin dX3_readHouse_78 (fun H locs I => ?_)
  obtain ⟨σ3, eσ3, h⟩ := lt_e h
  replace I := wi_nm eσ3 I
  refine lv_aload_n hx hb dX3_readHouse_79 rfl (lv_at hl 1 rfl) ?_
  refine gfC_X3_26 X I (kC_1 E) (k' := 9) rfl dX3_readHouse_80 ?_
  refine gfC_X3_105 X I (kC_9 E) (k' := 20) rfl dX3_readHouse_83 ?_
  refine lv_iconst (v := 0) hx hb dX3_readHouse_86 (by decide) ?_
  refine lv_iload_n hx hb dX3_readHouse_87 rfl (lv_at hl 2 rfl) ?_
  refine lv_iadd hx hb dX3_readHouse_88 ?_
  refine lv_aload_n hx hb dX3_readHouse_89 rfl (lv_at hl 1 rfl) ?_
  refine gfC_X3_30 X I (kC_1 E) (k' := 21) rfl dX3_readHouse_90 ?_
  refine lv_iconst (v := 1) hx hb dX3_readHouse_93 (by decide) ?_
  obtain ⟨hin, h⟩ := gd_some h
  refine ialdC X I (kC_21 E) hin dX3_readHouse_94 ?_
  obtain ⟨hin, h⟩ := gd_some h
  refine iastC X I (kC_20 E) hin dX3_readHouse_95 (fun H locs I => ?_)
  obtain ⟨σ4, eσ4, h⟩ := lt_e h
  replace I := wi_nm eσ4 I
  refine lv_aload_n hx hb dX3_readHouse_96 rfl (lv_at hl 1 rfl) ?_
  refine gfC_X3_26 X I (kC_1 E) (k' := 9) rfl dX3_readHouse_97 ?_
  refine gfC_X3_105 X I (kC_9 E) (k' := 20) rfl dX3_readHouse_100 ?_
  refine lv_bipush (v := 8) hx hb dX3_readHouse_103 (by decide) ?_
  refine lv_iload_n hx hb dX3_readHouse_105 rfl (lv_at hl 2 rfl) ?_
  refine lv_iadd hx hb dX3_readHouse_106 ?_
  refine lv_aload_n hx hb dX3_readHouse_107 rfl (lv_at hl 1 rfl) ?_
  refine gfC_X3_30 X I (kC_1 E) (k' := 21) rfl dX3_readHouse_108 ?_
  refine lv_iconst (v := 2) hx hb dX3_readHouse_111 (by decide) ?_
  obtain ⟨hin, h⟩ := gd_some h
  refine ialdC X I (kC_21 E) hin dX3_readHouse_112 ?_
  obtain ⟨hin, h⟩ := gd_some h
  refine iastC X I (kC_20 E) hin dX3_readHouse_113 (fun H locs I => ?_)
  obtain ⟨σ5, eσ5, h⟩ := lt_e h
  replace I := wi_nm eσ5 I
  refine lv_aload_n hx hb dX3_readHouse_114 rfl (lv_at hl 1 rfl) ?_
  refine gfC_X3_26 X I (kC_1 E) (k' := 9) rfl dX3_readHouse_115 ?_
  refine gfC_X3_105 X I (kC_9 E) (k' := 20) rfl dX3_readHouse_118 ?_
  refine lv_bipush (v := 16) hx hb dX3_readHouse_121 (by decide) ?_
  refine lv_iload_n hx hb dX3_readHouse_123 rfl (lv_at hl 2 rfl) ?_
  refine lv_iadd hx hb dX3_readHouse_124 ?_
  refine lv_aload_n hx hb dX3_readHouse_125 rfl (lv_at hl 1 rfl) ?_
  refine gfC_X3_30 X I (kC_1 E) (k' := 21) rfl dX3_readHouse_126 ?_
  refine lv_iconst (v := 3) hx hb dX3_readHouse_129 (by decide) ?_
  obtain ⟨hin, h⟩ := gd_some h
  refine ialdC X I (kC_21 E) hin dX3_readHouse_130 ?_
  obtain ⟨hin, h⟩ := gd_some h
  refine iastC X I (kC_20 E) hin dX3_readHouse_131 (fun H locs I => ?_)
  obtain ⟨σ6, eσ6, h⟩ := lt_e h
  replace I := wi_nm eσ6 I
  refine lv_iload_n hx hb dX3_readHouse_132 rfl (lv_at hl 0 rfl) ?_
  exact r_iret X I (Option.some.inj h).symm dX3_readHouse_133
set_option maxHeartbeats 4000000 in
set_option maxRecDepth 100000 in
theorem w_X3_readHouse_0 {p : Program} {l : Launch} {e : Env} {s : State} {m : MethodId} {args : Array Value} {below : List Frame} {meth : Method} {c : Code} {A : Nat → Prop} {E : CE} {q : Int32 × Mem} (X : CX p s m meth c args cX3_readHouse 3 RX3 (some .int)) : ∀ (σ : Mem)  , m_X3_readHouse σ = some q → ∀ (H : Heap) (locs : List Loc) (ls : Array Slot), WI (vC E) A s H locs σ → lv_has ls 3 [(0, .ref (ca E 1))] → W p l e rm_X3_readHouse s m args below meth c H locs 0 0 (MQ below (QI (vC E) A q) args s 0 0 A) (F0 m 0 ls []) := by
  have hx := X.1
  have hb := X.2.1
  intro σ  h H locs ls I hl
  unfold m_X3_readHouse at h
  refine lv_aload_n hx hb dX3_readHouse_0 rfl (lv_at hl 0 rfl) ?_
  refine gfC_X3_26 X I (kC_1 E) (k' := 9) rfl dX3_readHouse_1 ?_
  refine gfC_X3_90 X I (kC_9 E) dX3_readHouse_4 ?_
  obtain ⟨y1, ey1, h⟩ := lt_e h
  refine nm_i ey1 ?_
  refine lv_istore_n (lv' := [(1, .int y1), (0, .ref (ca E 1))]) hx hb dX3_readHouse_7 rfl hl (by decide) rfl (fun ls hl => ?_)
  refine lv_iload_n hx hb dX3_readHouse_8 rfl (lv_at hl 0 rfl) ?_
  refine lv_bipush (v := 8) hx hb dX3_readHouse_9 (by decide) ?_
  refine lv_icmp_lt (tgt := 16) hx hb dX3_readHouse_11 (by decide) (fun c2 => ?_) (fun c2 => ?_)
  · have h := ite_t h c2
    refine lv_aload_n hx hb dX3_readHouse_16 rfl (lv_at hl 1 rfl) ?_
    refine gfC_X3_26 X I (kC_1 E) (k' := 9) rfl dX3_readHouse_17 ?_
    refine lv_dup hx hb dX3_readHouse_20 rfl ?_
    refine gfC_X3_90 X I (kC_9 E) dX3_readHouse_21 ?_
    refine lv_iconst (v := 1) hx hb dX3_readHouse_24 (by decide) ?_
    refine lv_iadd hx hb dX3_readHouse_25 ?_
    refine pfC_X3_90 X I (kC_9 E) dX3_readHouse_26 (fun H locs I => ?_)
    obtain ⟨σ3, eσ3, h⟩ := lt_e h
    replace I := wi_nm eσ3 I
    refine lv_aload_n hx hb dX3_readHouse_29 rfl (lv_at hl 1 rfl) ?_
    refine gfC_X3_26 X I (kC_1 E) (k' := 9) rfl dX3_readHouse_30 ?_
    refine gfC_X3_93 X I (kC_9 E) (k' := 11) rfl dX3_readHouse_33 ?_
    refine lv_iload_n hx hb dX3_readHouse_36 rfl (lv_at hl 0 rfl) ?_
    refine lv_aload_n hx hb dX3_readHouse_37 rfl (lv_at hl 1 rfl) ?_
    refine gfC_X3_22 X I (kC_1 E) (k' := 3) rfl dX3_readHouse_38 ?_
    refine ldcSC X I (w := 11) (by decide) rfl rfl dX3_readHouse_41 ?_
    obtain ⟨q4, hq4, h⟩ := bd h
    refine r_callVI (V := (vC E)) (k := 3) (As := [.ref (saC E 11)]) (rest := [.int y1, .ref (ca E 11)]) X I hl (c_X9_isWord (by decide) hq4) yv_X9_isWord tw_371 ⟨rfl, rfl, Nat.le_of_ble_eq_true rfl, Nat.le_of_ble_eq_true rfl⟩ (kC_3 E).1 ((kC_3 E).2 (σ3 3)) rfl rfl rfl (Nat.le_of_ble_eq_true rfl) dX3_readHouse_43 (fun H locs I => ?_)
    refine lv_if_eq (tgt := 53) hx hb dX3_readHouse_46 (by decide) (fun c5 => ?_) (fun c5 => ?_)
    · have h := ite_t h c5
      refine lv_iconst (v := 0) hx hb dX3_readHouse_53 (by decide) ?_
      exact w_X3_readHouse_54 X   σ3 y1 y1 (0 : Int32) h H locs ls I (lv_sub hl [1, 0] rfl)
    · have h := ite_f h c5
      refine lv_iconst (v := 1) hx hb dX3_readHouse_49 (by decide) ?_
      refine lv_goto (tgt := 54) hx hb dX3_readHouse_50 (by decide) ?_
      exact w_X3_readHouse_54 X   σ3 y1 y1 (1 : Int32) h H locs ls I (lv_sub hl [1, 0] rfl)
  · have h := ite_f h c2
    refine lv_iconst (v := 2) hx hb dX3_readHouse_14 (by decide) ?_
    exact r_iret X I (Option.some.inj h).symm dX3_readHouse_15
theorem c_X3_readHouse {l : Launch} {E : CE} {σ : Mem} {q : Int32 × Mem} (h : m_X3_readHouse σ = some q) : CI l (vC E) yX3_readHouse (.code yX3_readHouse cX3_readHouse 3 (some .int) :: GG) rm_X3_readHouse [.ref (ca E 1)] σ q :=
  mk_CI (by decide +kernel) (Nat.le_of_ble_eq_true rfl) (fun p e s m args below meth c A ls X I hl => w_X3_readHouse_0 X  σ  h s.heap [] ls I (lv_sub hl [0] rfl))

def rm_X3_readTenant : Room := { frames := 7, cells := 0, slots := 0, locals := 192 }
def f_X3_readTenant_54 (σ : Mem) (x1 : Int32) (z1 : Int32) (z2 : Int32) : Option (Int32 × Mem) := (gd z1 7 (lt (ms σ 13 (Int32.toNatClampNeg z1) (z2)) fun σ1 => ((m_X3_readNumbers 1 σ1 (0 : Int32)).bind fun q2 => (gd (0 : Int32) 4 (gd ((40 : Int32) + x1) 64 (lt (ms q2.2 20 (Int32.toNatClampNeg ((40 : Int32) + x1)) ((q2.2 21 (Int32.toNatClampNeg (0 : Int32))))) fun σ3 => (gd (1 : Int32) 4 (gd x1 7 (lt (ms σ3 12 (Int32.toNatClampNeg x1) ((σ3 21 (Int32.toNatClampNeg (1 : Int32))))) fun σ4 => (gd (2 : Int32) 4 (gd ((47 : Int32) + x1) 64 (lt (ms σ4 20 (Int32.toNatClampNeg ((47 : Int32) + x1)) ((σ4 21 (Int32.toNatClampNeg (2 : Int32))))) fun σ5 => (gd (3 : Int32) 4 (gd ((54 : Int32) + x1) 64 (lt (ms σ5 20 (Int32.toNatClampNeg ((54 : Int32) + x1)) ((σ5 21 (Int32.toNatClampNeg (3 : Int32))))) fun σ6 => (some (q2.1, σ6)))))))))))))))))
def m_X3_readTenant (σ : Mem) : Option (Int32 × Mem) := (lt (σ 9 1) fun y1 => (if y1 < (7 : Int32) then (lt (ms σ 9 1 ((σ 9 1) + (1 : Int32))) fun σ3 => ((m_X9_isWord 13 σ3).bind fun q4 => (if q4 = (0 : Int32) then (f_X3_readTenant_54 σ3 y1 y1 (0 : Int32)) else (f_X3_readTenant_54 σ3 y1 y1 (1 : Int32))))) else (some ((2 : Int32), σ))))
set_option maxHeartbeats 4000000 in
set_option maxRecDepth 100000 in
theorem w_X3_readTenant_54 {p : Program} {l : Launch} {e : Env} {s : State} {m : MethodId} {args : Array Value} {below : List Frame} {meth : Method} {c : Code} {A : Nat → Prop} {E : CE} {q : Int32 × Mem} (X : CX p s m meth c args cX3_readTenant 3 RX3 (some .int)) : ∀ (σ : Mem) (x1 : Int32) (z1 : Int32) (z2 : Int32), f_X3_readTenant_54 σ x1 z1 z2 = some q → ∀ (H : Heap) (locs : List Loc) (ls : Array Slot), WI (vC E) A s H locs σ → lv_has ls 3 [(0, .ref (ca E 1)), (1, .int x1)] → W p l e rm_X3_readTenant s m args below meth c H locs 0 0 (MQ below (QI (vC E) A q) args s 0 0 A) (F0 m 54 ls [.int z2, .int z1, .ref (ca E 13)]) := by
  have hx := X.1
  have hb := X.2.1
  intro σ x1 z1 z2 h H locs ls I hl
  unfold f_X3_readTenant_54 at h
  obtain ⟨hin, h⟩ := gd_some h
  refine iastC X I (kC_13 E) hin dX3_readTenant_54 (fun H locs I => ?_)
  obtain ⟨σ1, eσ1, h⟩ := lt_e h
  replace I := wi_nm eσ1 I
  refine lv_aload_n hx hb dX3_readTenant_55 rfl (lv_at hl 0 rfl) ?_
  refine lv_iconst (v := 0) hx hb dX3_readTenant_56 (by decide) ?_
  refine getsC X I (t := 1) (by decide) tw_382 dX3_readTenant_57 ?_
  obtain ⟨q2, hq2, h⟩ := bd h
  refine r_callVI (V := (vC E)) (k := 1) (As := [.int (0 : Int32), .ref (taC E 1)]) (rest := []) X I hl (c_X3_readNumbers (by decide) hq2) yv_X3_readNumbers tw_373 ⟨rfl, rfl, Nat.le_of_ble_eq_true rfl, Nat.le_of_ble_eq_true rfl⟩ (kC_1 E).1 ((kC_1 E).2 (σ1 1)) rfl rfl rfl (Nat.le_of_ble_eq_true rfl) dX3_readTenant_60 (fun H locs I => ?_)
  refine lv_istore_n (lv' := [(2, .int q2.1), (0, .ref (ca E 1)), (1, .int x1)]) hx hb dX3_readTenant_63 rfl hl (by decide) rfl (fun ls hl => ?_)
  refine lv_aload_n hx hb dX3_readTenant_64 rfl (lv_at hl 1 rfl) ?_
  refine gfC_X3_26 X I (kC_1 E) (k' := 9) rfl dX3_readTenant_65 ?_
  refine gfC_X3_105 X I (kC_9 E) (k' := 20) rfl dX3_readTenant_68 ?_
  refine lv_bipush (v := 40) hx hb dX3_readTenant_71 (by decide) ?_
  refine lv_iload_n hx hb dX3_readTenant_73 rfl (lv_at hl 2 rfl) ?_
  refine lv_iadd hx hb dX3_readTenant_74 ?_
  refine lv_aload_n hx hb dX3_readTenant_75 rfl (lv_at hl 1 rfl) ?_
  refine gfC_X3_30 X I (kC_1 E) (k' := 21) rfl dX3_readTenant_76 ?_
  refine lv_iconst (v := 0) hx hb dX3_readTenant_79 (by decide) ?_
  obtain ⟨hin, h⟩ := gd_some h
  refine ialdC X I (kC_21 E) hin dX3_readTenant_80 ?_
  obtain ⟨hin, h⟩ := gd_some h
  refine iastC X I (kC_20 E) hin dX3_readTenant_81 (fun H locs I => ?_)
  obtain ⟨σ3, eσ3, h⟩ := lt_e h
  replace I := wi_nm eσ3 I
  refine lv_aload_n hx hb dX3_readTenant_82 rfl (lv_at hl 1 rfl) ?_
  refine gfC_X3_26 X I (kC_1 E) (k' := 9) rfl dX3_readTenant_83 ?_
  refine gfC_X3_116 X I (kC_9 E) (k' := 12) rfl dX3_readTenant_86 ?_
  refine lv_iload_n hx hb dX3_readTenant_89 rfl (lv_at hl 2 rfl) ?_
  refine lv_aload_n hx hb dX3_readTenant_90 rfl (lv_at hl 1 rfl) ?_
  refine gfC_X3_30 X I (kC_1 E) (k' := 21) rfl dX3_readTenant_91 ?_
  refine lv_iconst (v := 1) hx hb dX3_readTenant_94 (by decide) ?_
  obtain ⟨hin, h⟩ := gd_some h
  refine ialdC X I (kC_21 E) hin dX3_readTenant_95 ?_
  obtain ⟨hin, h⟩ := gd_some h
  refine iastC X I (kC_12 E) hin dX3_readTenant_96 (fun H locs I => ?_)
  obtain ⟨σ4, eσ4, h⟩ := lt_e h
  replace I := wi_nm eσ4 I
  refine lv_aload_n hx hb dX3_readTenant_97 rfl (lv_at hl 1 rfl) ?_
  refine gfC_X3_26 X I (kC_1 E) (k' := 9) rfl dX3_readTenant_98 ?_
  refine gfC_X3_105 X I (kC_9 E) (k' := 20) rfl dX3_readTenant_101 ?_
  refine lv_bipush (v := 47) hx hb dX3_readTenant_104 (by decide) ?_
  refine lv_iload_n hx hb dX3_readTenant_106 rfl (lv_at hl 2 rfl) ?_
  refine lv_iadd hx hb dX3_readTenant_107 ?_
  refine lv_aload_n hx hb dX3_readTenant_108 rfl (lv_at hl 1 rfl) ?_
  refine gfC_X3_30 X I (kC_1 E) (k' := 21) rfl dX3_readTenant_109 ?_
  refine lv_iconst (v := 2) hx hb dX3_readTenant_112 (by decide) ?_
  obtain ⟨hin, h⟩ := gd_some h
  refine ialdC X I (kC_21 E) hin dX3_readTenant_113 ?_
  obtain ⟨hin, h⟩ := gd_some h
  refine iastC X I (kC_20 E) hin dX3_readTenant_114 (fun H locs I => ?_)
  obtain ⟨σ5, eσ5, h⟩ := lt_e h
  replace I := wi_nm eσ5 I
  refine lv_aload_n hx hb dX3_readTenant_115 rfl (lv_at hl 1 rfl) ?_
  refine gfC_X3_26 X I (kC_1 E) (k' := 9) rfl dX3_readTenant_116 ?_
  refine gfC_X3_105 X I (kC_9 E) (k' := 20) rfl dX3_readTenant_119 ?_
  refine lv_bipush (v := 54) hx hb dX3_readTenant_122 (by decide) ?_
  refine lv_iload_n hx hb dX3_readTenant_124 rfl (lv_at hl 2 rfl) ?_
  refine lv_iadd hx hb dX3_readTenant_125 ?_
  refine lv_aload_n hx hb dX3_readTenant_126 rfl (lv_at hl 1 rfl) ?_
  refine gfC_X3_30 X I (kC_1 E) (k' := 21) rfl dX3_readTenant_127 ?_
  refine lv_iconst (v := 3) hx hb dX3_readTenant_130 (by decide) ?_
  obtain ⟨hin, h⟩ := gd_some h
  refine ialdC X I (kC_21 E) hin dX3_readTenant_131 ?_
  obtain ⟨hin, h⟩ := gd_some h
  refine iastC X I (kC_20 E) hin dX3_readTenant_132 (fun H locs I => ?_)
  obtain ⟨σ6, eσ6, h⟩ := lt_e h
  replace I := wi_nm eσ6 I
  refine lv_iload_n hx hb dX3_readTenant_133 rfl (lv_at hl 0 rfl) ?_
  exact r_iret X I (Option.some.inj h).symm dX3_readTenant_134
set_option maxHeartbeats 4000000 in
set_option maxRecDepth 100000 in
theorem w_X3_readTenant_0 {p : Program} {l : Launch} {e : Env} {s : State} {m : MethodId} {args : Array Value} {below : List Frame} {meth : Method} {c : Code} {A : Nat → Prop} {E : CE} {q : Int32 × Mem} (X : CX p s m meth c args cX3_readTenant 3 RX3 (some .int)) : ∀ (σ : Mem)  , m_X3_readTenant σ = some q → ∀ (H : Heap) (locs : List Loc) (ls : Array Slot), WI (vC E) A s H locs σ → lv_has ls 3 [(0, .ref (ca E 1))] → W p l e rm_X3_readTenant s m args below meth c H locs 0 0 (MQ below (QI (vC E) A q) args s 0 0 A) (F0 m 0 ls []) := by
  have hx := X.1
  have hb := X.2.1
  intro σ  h H locs ls I hl
  unfold m_X3_readTenant at h
  refine lv_aload_n hx hb dX3_readTenant_0 rfl (lv_at hl 0 rfl) ?_
  refine gfC_X3_26 X I (kC_1 E) (k' := 9) rfl dX3_readTenant_1 ?_
  refine gfC_X3_108 X I (kC_9 E) dX3_readTenant_4 ?_
  obtain ⟨y1, ey1, h⟩ := lt_e h
  refine nm_i ey1 ?_
  refine lv_istore_n (lv' := [(1, .int y1), (0, .ref (ca E 1))]) hx hb dX3_readTenant_7 rfl hl (by decide) rfl (fun ls hl => ?_)
  refine lv_iload_n hx hb dX3_readTenant_8 rfl (lv_at hl 0 rfl) ?_
  refine lv_bipush (v := 7) hx hb dX3_readTenant_9 (by decide) ?_
  refine lv_icmp_lt (tgt := 16) hx hb dX3_readTenant_11 (by decide) (fun c2 => ?_) (fun c2 => ?_)
  · have h := ite_t h c2
    refine lv_aload_n hx hb dX3_readTenant_16 rfl (lv_at hl 1 rfl) ?_
    refine gfC_X3_26 X I (kC_1 E) (k' := 9) rfl dX3_readTenant_17 ?_
    refine lv_dup hx hb dX3_readTenant_20 rfl ?_
    refine gfC_X3_108 X I (kC_9 E) dX3_readTenant_21 ?_
    refine lv_iconst (v := 1) hx hb dX3_readTenant_24 (by decide) ?_
    refine lv_iadd hx hb dX3_readTenant_25 ?_
    refine pfC_X3_108 X I (kC_9 E) dX3_readTenant_26 (fun H locs I => ?_)
    obtain ⟨σ3, eσ3, h⟩ := lt_e h
    replace I := wi_nm eσ3 I
    refine lv_aload_n hx hb dX3_readTenant_29 rfl (lv_at hl 1 rfl) ?_
    refine gfC_X3_26 X I (kC_1 E) (k' := 9) rfl dX3_readTenant_30 ?_
    refine gfC_X3_111 X I (kC_9 E) (k' := 13) rfl dX3_readTenant_33 ?_
    refine lv_iload_n hx hb dX3_readTenant_36 rfl (lv_at hl 0 rfl) ?_
    refine lv_aload_n hx hb dX3_readTenant_37 rfl (lv_at hl 1 rfl) ?_
    refine gfC_X3_22 X I (kC_1 E) (k' := 3) rfl dX3_readTenant_38 ?_
    refine ldcSC X I (w := 13) (by decide) rfl rfl dX3_readTenant_41 ?_
    obtain ⟨q4, hq4, h⟩ := bd h
    refine r_callVI (V := (vC E)) (k := 3) (As := [.ref (saC E 13)]) (rest := [.int y1, .ref (ca E 13)]) X I hl (c_X9_isWord (by decide) hq4) yv_X9_isWord tw_371 ⟨rfl, rfl, Nat.le_of_ble_eq_true rfl, Nat.le_of_ble_eq_true rfl⟩ (kC_3 E).1 ((kC_3 E).2 (σ3 3)) rfl rfl rfl (Nat.le_of_ble_eq_true rfl) dX3_readTenant_43 (fun H locs I => ?_)
    refine lv_if_eq (tgt := 53) hx hb dX3_readTenant_46 (by decide) (fun c5 => ?_) (fun c5 => ?_)
    · have h := ite_t h c5
      refine lv_iconst (v := 0) hx hb dX3_readTenant_53 (by decide) ?_
      exact w_X3_readTenant_54 X   σ3 y1 y1 (0 : Int32) h H locs ls I (lv_sub hl [1, 0] rfl)
    · have h := ite_f h c5
      refine lv_iconst (v := 1) hx hb dX3_readTenant_49 (by decide) ?_
      refine lv_goto (tgt := 54) hx hb dX3_readTenant_50 (by decide) ?_
      exact w_X3_readTenant_54 X   σ3 y1 y1 (1 : Int32) h H locs ls I (lv_sub hl [1, 0] rfl)
  · have h := ite_f h c2
    refine lv_iconst (v := 2) hx hb dX3_readTenant_14 (by decide) ?_
    exact r_iret X I (Option.some.inj h).symm dX3_readTenant_15
theorem c_X3_readTenant {l : Launch} {E : CE} {σ : Mem} {q : Int32 × Mem} (h : m_X3_readTenant σ = some q) : CI l (vC E) yX3_readTenant (.code yX3_readTenant cX3_readTenant 3 (some .int) :: GG) rm_X3_readTenant [.ref (ca E 1)] σ q :=
  mk_CI (by decide +kernel) (Nat.le_of_ble_eq_true rfl) (fun p e s m args below meth c A ls X I hl => w_X3_readTenant_0 X  σ  h s.heap [] ls I (lv_sub hl [0] rfl))

def rm_X3_readLife : Room := { frames := 5, cells := 0, slots := 0, locals := 147 }
def m_X3_readLife (σ : Mem) : Option (Int32 × Mem) := (if (σ 1 4) = (0 : Int32) then (gz (1 : Int32) (lt (ms σ 1 4 (1 : Int32)) fun σ2 => ((m_X3_readNumbers 2 σ2 (1 : Int32)).bind fun q3 => (gd (0 : Int32) 4 (lt (ms q3.2 9 2 (q3.2 21 (Int32.toNatClampNeg (0 : Int32)))) fun σ4 => (some (q3.1, σ4))))))) else (some ((5 : Int32), σ)))
set_option maxHeartbeats 4000000 in
set_option maxRecDepth 100000 in
theorem w_X3_readLife_0 {p : Program} {l : Launch} {e : Env} {s : State} {m : MethodId} {args : Array Value} {below : List Frame} {meth : Method} {c : Code} {A : Nat → Prop} {E : CE} {q : Int32 × Mem} (X : CX p s m meth c args cX3_readLife 2 RX3 (some .int)) : ∀ (σ : Mem)  , m_X3_readLife σ = some q → ∀ (H : Heap) (locs : List Loc) (ls : Array Slot), WI (vC E) A s H locs σ → lv_has ls 2 [(0, .ref (ca E 1))] → W p l e rm_X3_readLife s m args below meth c H locs 0 0 (MQ below (QI (vC E) A q) args s 0 0 A) (F0 m 0 ls []) := by
  have hx := X.1
  have hb := X.2.1
  intro σ  h H locs ls I hl
  unfold m_X3_readLife at h
  refine lv_aload_n hx hb dX3_readLife_0 rfl (lv_at hl 0 rfl) ?_
  refine gfC_X3_34 X I (kC_1 E) dX3_readLife_1 ?_
  refine lv_if_eq (tgt := 9) hx hb dX3_readLife_4 (by decide) (fun c1 => ?_) (fun c1 => ?_)
  · have h := ite_t h c1
    refine lv_aload_n hx hb dX3_readLife_9 rfl (lv_at hl 0 rfl) ?_
    refine lv_iconst (v := 1) hx hb dX3_readLife_10 (by decide) ?_
    obtain ⟨hz, h⟩ := gz_some h
    refine pfC_X3_34 X I (kC_1 E) hz dX3_readLife_11 (fun H locs I => ?_)
    obtain ⟨σ2, eσ2, h⟩ := lt_e h
    replace I := wi_nm eσ2 I
    refine lv_aload_n hx hb dX3_readLife_14 rfl (lv_at hl 0 rfl) ?_
    refine lv_iconst (v := 1) hx hb dX3_readLife_15 (by decide) ?_
    refine getsC X I (t := 2) (by decide) tw_385 dX3_readLife_16 ?_
    obtain ⟨q3, hq3, h⟩ := bd h
    refine r_callVI (V := (vC E)) (k := 1) (As := [.int (1 : Int32), .ref (taC E 2)]) (rest := []) X I hl (c_X3_readNumbers (by decide) hq3) yv_X3_readNumbers tw_373 ⟨rfl, rfl, Nat.le_of_ble_eq_true rfl, Nat.le_of_ble_eq_true rfl⟩ (kC_1 E).1 ((kC_1 E).2 (σ2 1)) rfl rfl rfl (Nat.le_of_ble_eq_true rfl) dX3_readLife_19 (fun H locs I => ?_)
    refine lv_istore_n (lv' := [(1, .int q3.1), (0, .ref (ca E 1))]) hx hb dX3_readLife_22 rfl hl (by decide) rfl (fun ls hl => ?_)
    refine lv_aload_n hx hb dX3_readLife_23 rfl (lv_at hl 1 rfl) ?_
    refine gfC_X3_26 X I (kC_1 E) (k' := 9) rfl dX3_readLife_24 ?_
    refine lv_aload_n hx hb dX3_readLife_27 rfl (lv_at hl 1 rfl) ?_
    refine gfC_X3_30 X I (kC_1 E) (k' := 21) rfl dX3_readLife_28 ?_
    refine lv_iconst (v := 0) hx hb dX3_readLife_31 (by decide) ?_
    obtain ⟨hin, h⟩ := gd_some h
    refine ialdC X I (kC_21 E) hin dX3_readLife_32 ?_
    refine pfC_X3_122 X I (kC_9 E) dX3_readLife_33 (fun H locs I => ?_)
    obtain ⟨σ4, eσ4, h⟩ := lt_e h
    replace I := wi_nm eσ4 I
    refine lv_iload_n hx hb dX3_readLife_36 rfl (lv_at hl 0 rfl) ?_
    exact r_iret X I (Option.some.inj h).symm dX3_readLife_37
  · have h := ite_f h c1
    refine lv_iconst (v := 5) hx hb dX3_readLife_7 (by decide) ?_
    exact r_iret X I (Option.some.inj h).symm dX3_readLife_8
theorem c_X3_readLife {l : Launch} {E : CE} {σ : Mem} {q : Int32 × Mem} (h : m_X3_readLife σ = some q) : CI l (vC E) yX3_readLife (.code yX3_readLife cX3_readLife 2 (some .int) :: GG) rm_X3_readLife [.ref (ca E 1)] σ q :=
  mk_CI (by decide +kernel) (Nat.le_of_ble_eq_true rfl) (fun p e s m args below meth c A ls X I hl => w_X3_readLife_0 X  σ  h s.heap [] ls I (lv_sub hl [0] rfl))

def rm_X3_readLine : Room := { frames := 10, cells := 0, slots := 0, locals := 258 }
def m_X3_readLine (σ : Mem) : Option (Int32 × Mem) := ((m_X9_isWord 10 σ).bind fun q1 => (if q1 = (0 : Int32) then ((m_X9_isWord 11 σ).bind fun q4 => (if q4 = (0 : Int32) then ((m_X9_isWord 12 σ).bind fun q6 => (if q6 = (0 : Int32) then ((m_X9_isWord 13 σ).bind fun q9 => (if q9 = (0 : Int32) then ((m_X9_isWord 14 σ).bind fun q11 => (if q11 = (0 : Int32) then ((m_X9_isWord 15 σ).bind fun q13 => (if q13 = (0 : Int32) then ((m_X9_isWord 16 σ).bind fun q15 => (if q15 = (0 : Int32) then (some ((1 : Int32), σ)) else ((m_X5_read 17 σ (0 : Int32)).bind fun q17 => (some (q17.1, q17.2))))) else ((m_X5_read 14 σ (1 : Int32)).bind fun q18 => (some (q18.1, q18.2))))) else ((m_X3_readLife σ).bind fun q19 => (some (q19.1, q19.2))))) else ((m_X3_readTenant σ).bind fun q20 => (some (q20.1, q20.2))))) else ((m_X3_readTenant σ).bind fun q8 => (some (q8.1, q8.2))))) else ((m_X3_readHouse σ).bind fun q21 => (some (q21.1, q21.2))))) else ((m_X3_readHouse σ).bind fun q3 => (some (q3.1, q3.2)))))
set_option maxHeartbeats 4000000 in
set_option maxRecDepth 100000 in
theorem w_X3_readLine_0 {p : Program} {l : Launch} {e : Env} {s : State} {m : MethodId} {args : Array Value} {below : List Frame} {meth : Method} {c : Code} {A : Nat → Prop} {E : CE} {q : Int32 × Mem} (X : CX p s m meth c args cX3_readLine 1 RX3 (some .int)) : ∀ (σ : Mem)  , m_X3_readLine σ = some q → ∀ (H : Heap) (locs : List Loc) (ls : Array Slot), WI (vC E) A s H locs σ → lv_has ls 1 [(0, .ref (ca E 1))] → W p l e rm_X3_readLine s m args below meth c H locs 0 0 (MQ below (QI (vC E) A q) args s 0 0 A) (F0 m 0 ls []) := by
  have hx := X.1
  have hb := X.2.1
  intro σ  h H locs ls I hl
  unfold m_X3_readLine at h
  refine lv_aload_n hx hb dX3_readLine_0 rfl (lv_at hl 0 rfl) ?_
  refine gfC_X3_22 X I (kC_1 E) (k' := 3) rfl dX3_readLine_1 ?_
  refine ldcSC X I (w := 10) (by decide) rfl rfl dX3_readLine_4 ?_
  obtain ⟨q1, hq1, h⟩ := bd h
  refine r_callVI (V := (vC E)) (k := 3) (As := [.ref (saC E 10)]) (rest := []) X I hl (c_X9_isWord (by decide) hq1) yv_X9_isWord tw_371 ⟨rfl, rfl, Nat.le_of_ble_eq_true rfl, Nat.le_of_ble_eq_true rfl⟩ (kC_3 E).1 ((kC_3 E).2 (σ 3)) rfl rfl rfl (Nat.le_of_ble_eq_true rfl) dX3_readLine_6 (fun H locs I => ?_)
  refine lv_if_ne (tgt := 24) hx hb dX3_readLine_9 (by decide) (fun c2 => ?_) (fun c2 => ?_)
  · have h := ite_f h c2
    refine lv_aload_n hx hb dX3_readLine_24 rfl (lv_at hl 0 rfl) ?_
    obtain ⟨q3, hq3, h⟩ := bd h
    refine r_callVI (V := (vC E)) (k := 1) (As := []) (rest := []) X I hl (c_X3_readHouse  hq3) yv_X3_readHouse tw_387 ⟨rfl, rfl, Nat.le_of_ble_eq_true rfl, Nat.le_of_ble_eq_true rfl⟩ (kC_1 E).1 ((kC_1 E).2 (σ 1)) rfl rfl rfl (Nat.le_of_ble_eq_true rfl) dX3_readLine_25 (fun H locs I => ?_)
    exact r_iret X I (Option.some.inj h).symm dX3_readLine_28
  · have h := ite_t h c2
    refine lv_aload_n hx hb dX3_readLine_12 rfl (lv_at hl 0 rfl) ?_
    refine gfC_X3_22 X I (kC_1 E) (k' := 3) rfl dX3_readLine_13 ?_
    refine ldcSC X I (w := 11) (by decide) rfl rfl dX3_readLine_16 ?_
    obtain ⟨q4, hq4, h⟩ := bd h
    refine r_callVI (V := (vC E)) (k := 3) (As := [.ref (saC E 11)]) (rest := []) X I hl (c_X9_isWord (by decide) hq4) yv_X9_isWord tw_371 ⟨rfl, rfl, Nat.le_of_ble_eq_true rfl, Nat.le_of_ble_eq_true rfl⟩ (kC_3 E).1 ((kC_3 E).2 (σ 3)) rfl rfl rfl (Nat.le_of_ble_eq_true rfl) dX3_readLine_18 (fun H locs I => ?_)
    refine lv_if_eq (tgt := 29) hx hb dX3_readLine_21 (by decide) (fun c5 => ?_) (fun c5 => ?_)
    · have h := ite_t h c5
      refine lv_aload_n hx hb dX3_readLine_29 rfl (lv_at hl 0 rfl) ?_
      refine gfC_X3_22 X I (kC_1 E) (k' := 3) rfl dX3_readLine_30 ?_
      refine ldcSC X I (w := 12) (by decide) rfl rfl dX3_readLine_33 ?_
      obtain ⟨q6, hq6, h⟩ := bd h
      refine r_callVI (V := (vC E)) (k := 3) (As := [.ref (saC E 12)]) (rest := []) X I hl (c_X9_isWord (by decide) hq6) yv_X9_isWord tw_371 ⟨rfl, rfl, Nat.le_of_ble_eq_true rfl, Nat.le_of_ble_eq_true rfl⟩ (kC_3 E).1 ((kC_3 E).2 (σ 3)) rfl rfl rfl (Nat.le_of_ble_eq_true rfl) dX3_readLine_35 (fun H locs I => ?_)
      refine lv_if_ne (tgt := 53) hx hb dX3_readLine_38 (by decide) (fun c7 => ?_) (fun c7 => ?_)
      · have h := ite_f h c7
        refine lv_aload_n hx hb dX3_readLine_53 rfl (lv_at hl 0 rfl) ?_
        obtain ⟨q8, hq8, h⟩ := bd h
        refine r_callVI (V := (vC E)) (k := 1) (As := []) (rest := []) X I hl (c_X3_readTenant  hq8) yv_X3_readTenant tw_392 ⟨rfl, rfl, Nat.le_of_ble_eq_true rfl, Nat.le_of_ble_eq_true rfl⟩ (kC_1 E).1 ((kC_1 E).2 (σ 1)) rfl rfl rfl (Nat.le_of_ble_eq_true rfl) dX3_readLine_54 (fun H locs I => ?_)
        exact r_iret X I (Option.some.inj h).symm dX3_readLine_57
      · have h := ite_t h c7
        refine lv_aload_n hx hb dX3_readLine_41 rfl (lv_at hl 0 rfl) ?_
        refine gfC_X3_22 X I (kC_1 E) (k' := 3) rfl dX3_readLine_42 ?_
        refine ldcSC X I (w := 13) (by decide) rfl rfl dX3_readLine_45 ?_
        obtain ⟨q9, hq9, h⟩ := bd h
        refine r_callVI (V := (vC E)) (k := 3) (As := [.ref (saC E 13)]) (rest := []) X I hl (c_X9_isWord (by decide) hq9) yv_X9_isWord tw_371 ⟨rfl, rfl, Nat.le_of_ble_eq_true rfl, Nat.le_of_ble_eq_true rfl⟩ (kC_3 E).1 ((kC_3 E).2 (σ 3)) rfl rfl rfl (Nat.le_of_ble_eq_true rfl) dX3_readLine_47 (fun H locs I => ?_)
        refine lv_if_eq (tgt := 58) hx hb dX3_readLine_50 (by decide) (fun c10 => ?_) (fun c10 => ?_)
        · have h := ite_t h c10
          refine lv_aload_n hx hb dX3_readLine_58 rfl (lv_at hl 0 rfl) ?_
          refine gfC_X3_22 X I (kC_1 E) (k' := 3) rfl dX3_readLine_59 ?_
          refine ldcSC X I (w := 14) (by decide) rfl rfl dX3_readLine_62 ?_
          obtain ⟨q11, hq11, h⟩ := bd h
          refine r_callVI (V := (vC E)) (k := 3) (As := [.ref (saC E 14)]) (rest := []) X I hl (c_X9_isWord (by decide) hq11) yv_X9_isWord tw_371 ⟨rfl, rfl, Nat.le_of_ble_eq_true rfl, Nat.le_of_ble_eq_true rfl⟩ (kC_3 E).1 ((kC_3 E).2 (σ 3)) rfl rfl rfl (Nat.le_of_ble_eq_true rfl) dX3_readLine_64 (fun H locs I => ?_)
          refine lv_if_eq (tgt := 75) hx hb dX3_readLine_67 (by decide) (fun c12 => ?_) (fun c12 => ?_)
          · have h := ite_t h c12
            refine lv_aload_n hx hb dX3_readLine_75 rfl (lv_at hl 0 rfl) ?_
            refine gfC_X3_22 X I (kC_1 E) (k' := 3) rfl dX3_readLine_76 ?_
            refine ldcSC X I (w := 15) (by decide) rfl rfl dX3_readLine_79 ?_
            obtain ⟨q13, hq13, h⟩ := bd h
            refine r_callVI (V := (vC E)) (k := 3) (As := [.ref (saC E 15)]) (rest := []) X I hl (c_X9_isWord (by decide) hq13) yv_X9_isWord tw_371 ⟨rfl, rfl, Nat.le_of_ble_eq_true rfl, Nat.le_of_ble_eq_true rfl⟩ (kC_3 E).1 ((kC_3 E).2 (σ 3)) rfl rfl rfl (Nat.le_of_ble_eq_true rfl) dX3_readLine_81 (fun H locs I => ?_)
            refine lv_if_eq (tgt := 103) hx hb dX3_readLine_84 (by decide) (fun c14 => ?_) (fun c14 => ?_)
            · have h := ite_t h c14
              refine lv_aload_n hx hb dX3_readLine_103 rfl (lv_at hl 0 rfl) ?_
              refine gfC_X3_22 X I (kC_1 E) (k' := 3) rfl dX3_readLine_104 ?_
              refine ldcSC X I (w := 16) (by decide) rfl rfl dX3_readLine_107 ?_
              obtain ⟨q15, hq15, h⟩ := bd h
              refine r_callVI (V := (vC E)) (k := 3) (As := [.ref (saC E 16)]) (rest := []) X I hl (c_X9_isWord (by decide) hq15) yv_X9_isWord tw_371 ⟨rfl, rfl, Nat.le_of_ble_eq_true rfl, Nat.le_of_ble_eq_true rfl⟩ (kC_3 E).1 ((kC_3 E).2 (σ 3)) rfl rfl rfl (Nat.le_of_ble_eq_true rfl) dX3_readLine_109 (fun H locs I => ?_)
              refine lv_if_eq (tgt := 131) hx hb dX3_readLine_112 (by decide) (fun c16 => ?_) (fun c16 => ?_)
              · have h := ite_t h c16
                refine lv_iconst (v := 1) hx hb dX3_readLine_131 (by decide) ?_
                exact r_iret X I (Option.some.inj h).symm dX3_readLine_132
              · have h := ite_f h c16
                refine lv_aload_n hx hb dX3_readLine_115 rfl (lv_at hl 0 rfl) ?_
                refine gfC_X3_12 X I (kC_1 E) (k' := 2) rfl dX3_readLine_116 ?_
                refine lv_aload_n hx hb dX3_readLine_119 rfl (lv_at hl 0 rfl) ?_
                refine gfC_X3_26 X I (kC_1 E) (k' := 9) rfl dX3_readLine_120 ?_
                refine gfC_X3_88 X I (kC_9 E) (k' := 17) rfl dX3_readLine_123 ?_
                refine lv_iconst (v := 0) hx hb dX3_readLine_126 (by decide) ?_
                obtain ⟨q17, hq17, h⟩ := bd h
                refine r_callVI (V := (vC E)) (k := 2) (As := [.ref (ca E 17), .int (0 : Int32)]) (rest := []) X I hl (c_X5_read (kC_17 E) (kC_18 E) (kC_19 E) hq17) yv_X5_read tw_399 ⟨rfl, rfl, Nat.le_of_ble_eq_true rfl, Nat.le_of_ble_eq_true rfl⟩ (kC_2 E).1 ((kC_2 E).2 (σ 2)) rfl rfl rfl (Nat.le_of_ble_eq_true rfl) dX3_readLine_127 (fun H locs I => ?_)
                exact r_iret X I (Option.some.inj h).symm dX3_readLine_130
            · have h := ite_f h c14
              refine lv_aload_n hx hb dX3_readLine_87 rfl (lv_at hl 0 rfl) ?_
              refine gfC_X3_12 X I (kC_1 E) (k' := 2) rfl dX3_readLine_88 ?_
              refine lv_aload_n hx hb dX3_readLine_91 rfl (lv_at hl 0 rfl) ?_
              refine gfC_X3_26 X I (kC_1 E) (k' := 9) rfl dX3_readLine_92 ?_
              refine gfC_X3_79 X I (kC_9 E) (k' := 14) rfl dX3_readLine_95 ?_
              refine lv_iconst (v := 1) hx hb dX3_readLine_98 (by decide) ?_
              obtain ⟨q18, hq18, h⟩ := bd h
              refine r_callVI (V := (vC E)) (k := 2) (As := [.ref (ca E 14), .int (1 : Int32)]) (rest := []) X I hl (c_X5_read (kC_14 E) (kC_15 E) (kC_16 E) hq18) yv_X5_read tw_399 ⟨rfl, rfl, Nat.le_of_ble_eq_true rfl, Nat.le_of_ble_eq_true rfl⟩ (kC_2 E).1 ((kC_2 E).2 (σ 2)) rfl rfl rfl (Nat.le_of_ble_eq_true rfl) dX3_readLine_99 (fun H locs I => ?_)
              exact r_iret X I (Option.some.inj h).symm dX3_readLine_102
          · have h := ite_f h c12
            refine lv_aload_n hx hb dX3_readLine_70 rfl (lv_at hl 0 rfl) ?_
            obtain ⟨q19, hq19, h⟩ := bd h
            refine r_callVI (V := (vC E)) (k := 1) (As := []) (rest := []) X I hl (c_X3_readLife  hq19) yv_X3_readLife tw_405 ⟨rfl, rfl, Nat.le_of_ble_eq_true rfl, Nat.le_of_ble_eq_true rfl⟩ (kC_1 E).1 ((kC_1 E).2 (σ 1)) rfl rfl rfl (Nat.le_of_ble_eq_true rfl) dX3_readLine_71 (fun H locs I => ?_)
            exact r_iret X I (Option.some.inj h).symm dX3_readLine_74
        · have h := ite_f h c10
          refine lv_aload_n hx hb dX3_readLine_53 rfl (lv_at hl 0 rfl) ?_
          obtain ⟨q20, hq20, h⟩ := bd h
          refine r_callVI (V := (vC E)) (k := 1) (As := []) (rest := []) X I hl (c_X3_readTenant  hq20) yv_X3_readTenant tw_392 ⟨rfl, rfl, Nat.le_of_ble_eq_true rfl, Nat.le_of_ble_eq_true rfl⟩ (kC_1 E).1 ((kC_1 E).2 (σ 1)) rfl rfl rfl (Nat.le_of_ble_eq_true rfl) dX3_readLine_54 (fun H locs I => ?_)
          exact r_iret X I (Option.some.inj h).symm dX3_readLine_57
    · have h := ite_f h c5
      refine lv_aload_n hx hb dX3_readLine_24 rfl (lv_at hl 0 rfl) ?_
      obtain ⟨q21, hq21, h⟩ := bd h
      refine r_callVI (V := (vC E)) (k := 1) (As := []) (rest := []) X I hl (c_X3_readHouse  hq21) yv_X3_readHouse tw_387 ⟨rfl, rfl, Nat.le_of_ble_eq_true rfl, Nat.le_of_ble_eq_true rfl⟩ (kC_1 E).1 ((kC_1 E).2 (σ 1)) rfl rfl rfl (Nat.le_of_ble_eq_true rfl) dX3_readLine_25 (fun H locs I => ?_)
      exact r_iret X I (Option.some.inj h).symm dX3_readLine_28
theorem c_X3_readLine {l : Launch} {E : CE} {σ : Mem} {q : Int32 × Mem} (h : m_X3_readLine σ = some q) : CI l (vC E) yX3_readLine (.code yX3_readLine cX3_readLine 1 (some .int) :: GG) rm_X3_readLine [.ref (ca E 1)] σ q :=
  mk_CI (by decide +kernel) (Nat.le_of_ble_eq_true rfl) (fun p e s m args below meth c A ls X I hl => w_X3_readLine_0 X  σ  h s.heap [] ls I (lv_sub hl [0] rfl))

def rm_X3_read : Room := { frames := 11, cells := 0, slots := 0, locals := 278 }
def f_X3_read_23 : Nat → Mem → Int32 → Int32 → Option (Int32 × Mem)
  | 0, _, _, _ => none
  | n + 1, σ, x1, x2 => (if (700 : Int32) < x2 then (some (x1, σ)) else (if x1 = (0 : Int32) then (if (σ 3 5) = (0 : Int32) then (some (x1, σ)) else ((m_X3_readLine σ).bind fun q4 => (if q4.1 = (0 : Int32) then (if (q4.2 3 5) = (59 : Int32) then (if q4.1 = (0 : Int32) then ((m_X9_next q4.2).bind fun q10 => f_X3_read_23 n q10 q4.1 (x2 + 1)) else f_X3_read_23 n q4.2 q4.1 (x2 + 1)) else (if (1 : Int32) = (0 : Int32) then ((m_X9_next q4.2).bind fun q12 => f_X3_read_23 n q12 (1 : Int32) (x2 + 1)) else f_X3_read_23 n q4.2 (1 : Int32) (x2 + 1))) else (if q4.1 = (0 : Int32) then ((m_X9_next q4.2).bind fun q7 => f_X3_read_23 n q7 q4.1 (x2 + 1)) else f_X3_read_23 n q4.2 q4.1 (x2 + 1))))) else (some (x1, σ))))
def m_X3_read (σ : Mem) : Option (Int32 × Mem) := ((m_X2_clear 9 σ).bind fun q1 => (gz (0 : Int32) (lt (ms q1 1 4 (0 : Int32)) fun σ2 => ((m_X9_next σ2).bind fun q3 => (f_X3_read_23 KF q3 (0 : Int32) (0 : Int32))))))
set_option maxHeartbeats 4000000 in
set_option maxRecDepth 100000 in
theorem w_X3_read_23 {p : Program} {l : Launch} {e : Env} {s : State} {m : MethodId} {args : Array Value} {below : List Frame} {meth : Method} {c : Code} {A : Nat → Prop} {E : CE} {q : Int32 × Mem} (X : CX p s m meth c args cX3_read 3 RX3 (some .int)) : ∀ (n : Nat), ∀ (σ : Mem) (x1 : Int32) (x2 : Int32) , f_X3_read_23 n σ x1 x2 = some q → ∀ (H : Heap) (locs : List Loc) (ls : Array Slot), WI (vC E) A s H locs σ → lv_has ls 3 [(0, .ref (ca E 1)), (1, .int x1), (2, .int x2)] → W p l e rm_X3_read s m args below meth c H locs 0 0 (MQ below (QI (vC E) A q) args s 0 0 A) (F0 m 23 ls []) := by
  have hx := X.1
  have hb := X.2.1
  intro n
  induction n with
  | zero =>
    intro σ x1 x2 h
    cases h
  | succ n ih =>
    intro σ x1 x2 h H locs ls I hl
    rw [f_X3_read_23] at h
    refine lv_iload_n hx hb dX3_read_23 rfl (lv_at hl 2 rfl) ?_
    refine lv_sipush (v := 700) hx hb dX3_read_24 (by decide) ?_
    refine lv_icmp_gt (tgt := 84) hx hb dX3_read_27 (by decide) (fun c1 => ?_) (fun c1 => ?_)
    · have h := ite_t h c1
      refine lv_iload_n hx hb dX3_read_84 rfl (lv_at hl 1 rfl) ?_
      exact r_iret X I (Option.some.inj h).symm dX3_read_85
    · have h := ite_f h c1
      refine lv_iload_n hx hb dX3_read_30 rfl (lv_at hl 1 rfl) ?_
      refine lv_if_ne (tgt := 84) hx hb dX3_read_31 (by decide) (fun c2 => ?_) (fun c2 => ?_)
      · have h := ite_f h c2
        refine lv_iload_n hx hb dX3_read_84 rfl (lv_at hl 1 rfl) ?_
        exact r_iret X I (Option.some.inj h).symm dX3_read_85
      · have h := ite_t h c2
        refine lv_aload_n hx hb dX3_read_34 rfl (lv_at hl 0 rfl) ?_
        refine gfC_X3_22 X I (kC_1 E) (k' := 3) rfl dX3_read_35 ?_
        refine gfC_X3_46 X I (kC_3 E) dX3_read_38 ?_
        refine lv_if_eq (tgt := 84) hx hb dX3_read_41 (by decide) (fun c3 => ?_) (fun c3 => ?_)
        · have h := ite_t h c3
          refine lv_iload_n hx hb dX3_read_84 rfl (lv_at hl 1 rfl) ?_
          exact r_iret X I (Option.some.inj h).symm dX3_read_85
        · have h := ite_f h c3
          refine lv_aload_n hx hb dX3_read_44 rfl (lv_at hl 0 rfl) ?_
          obtain ⟨q4, hq4, h⟩ := bd h
          refine r_callVI (V := (vC E)) (k := 1) (As := []) (rest := []) X I hl (c_X3_readLine  hq4) yv_X3_readLine tw_415 ⟨rfl, rfl, Nat.le_of_ble_eq_true rfl, Nat.le_of_ble_eq_true rfl⟩ (kC_1 E).1 ((kC_1 E).2 (σ 1)) rfl rfl rfl (Nat.le_of_ble_eq_true rfl) dX3_read_45 (fun H locs I => ?_)
          refine lv_istore_n (lv' := [(1, .int q4.1), (0, .ref (ca E 1)), (2, .int x2)]) hx hb dX3_read_48 rfl hl (by decide) rfl (fun ls hl => ?_)
          refine lv_iload_n hx hb dX3_read_49 rfl (lv_at hl 0 rfl) ?_
          refine lv_if_ne (tgt := 67) hx hb dX3_read_50 (by decide) (fun c5 => ?_) (fun c5 => ?_)
          · have h := ite_f h c5
            refine lv_iload_n hx hb dX3_read_67 rfl (lv_at hl 0 rfl) ?_
            refine lv_if_ne (tgt := 78) hx hb dX3_read_68 (by decide) (fun c6 => ?_) (fun c6 => ?_)
            · have h := ite_f h c6
              refine lv_iinc (v := (x2 + 1)) (lv' := [(2, .int (x2 + 1)), (1, .int q4.1), (0, .ref (ca E 1))]) hx hb dX3_read_78 hl (k := 2) rfl rfl (by decide) rfl (fun ls hl => ?_)
              refine lv_goto (tgt := 23) hx hb dX3_read_81 (by decide) ?_
              exact ih q4.2 q4.1 (x2 + 1) h H locs ls I (lv_sub hl [2, 1, 0] rfl)
            · have h := ite_t h c6
              refine lv_aload_n hx hb dX3_read_71 rfl (lv_at hl 1 rfl) ?_
              refine gfC_X3_22 X I (kC_1 E) (k' := 3) rfl dX3_read_72 ?_
              obtain ⟨q7, hq7, h⟩ := bd h
              refine r_callVV (V := (vC E)) (k := 3) (As := []) (rest := []) X I hl (c_X9_next  hq7) yv_X9_next tw_364 ⟨rfl, rfl, Nat.le_of_ble_eq_true rfl, Nat.le_of_ble_eq_true rfl⟩ (kC_3 E).1 ((kC_3 E).2 (q4.2 3)) rfl rfl rfl (Nat.le_of_ble_eq_true rfl) dX3_read_75 (fun H locs I => ?_)
              refine lv_iinc (v := (x2 + 1)) (lv' := [(2, .int (x2 + 1)), (1, .int q4.1), (0, .ref (ca E 1))]) hx hb dX3_read_78 hl (k := 2) rfl rfl (by decide) rfl (fun ls hl => ?_)
              refine lv_goto (tgt := 23) hx hb dX3_read_81 (by decide) ?_
              exact ih q7 q4.1 (x2 + 1) h H locs ls I (lv_sub hl [2, 1, 0] rfl)
          · have h := ite_t h c5
            refine lv_aload_n hx hb dX3_read_53 rfl (lv_at hl 1 rfl) ?_
            refine gfC_X3_22 X I (kC_1 E) (k' := 3) rfl dX3_read_54 ?_
            refine gfC_X3_46 X I (kC_3 E) dX3_read_57 ?_
            refine lv_bipush (v := 59) hx hb dX3_read_60 (by decide) ?_
            refine lv_icmp_eq (tgt := 67) hx hb dX3_read_62 (by decide) (fun c8 => ?_) (fun c8 => ?_)
            · have h := ite_t h c8
              refine lv_iload_n hx hb dX3_read_67 rfl (lv_at hl 0 rfl) ?_
              refine lv_if_ne (tgt := 78) hx hb dX3_read_68 (by decide) (fun c9 => ?_) (fun c9 => ?_)
              · have h := ite_f h c9
                refine lv_iinc (v := (x2 + 1)) (lv' := [(2, .int (x2 + 1)), (1, .int q4.1), (0, .ref (ca E 1))]) hx hb dX3_read_78 hl (k := 2) rfl rfl (by decide) rfl (fun ls hl => ?_)
                refine lv_goto (tgt := 23) hx hb dX3_read_81 (by decide) ?_
                exact ih q4.2 q4.1 (x2 + 1) h H locs ls I (lv_sub hl [2, 1, 0] rfl)
              · have h := ite_t h c9
                refine lv_aload_n hx hb dX3_read_71 rfl (lv_at hl 1 rfl) ?_
                refine gfC_X3_22 X I (kC_1 E) (k' := 3) rfl dX3_read_72 ?_
                obtain ⟨q10, hq10, h⟩ := bd h
                refine r_callVV (V := (vC E)) (k := 3) (As := []) (rest := []) X I hl (c_X9_next  hq10) yv_X9_next tw_364 ⟨rfl, rfl, Nat.le_of_ble_eq_true rfl, Nat.le_of_ble_eq_true rfl⟩ (kC_3 E).1 ((kC_3 E).2 (q4.2 3)) rfl rfl rfl (Nat.le_of_ble_eq_true rfl) dX3_read_75 (fun H locs I => ?_)
                refine lv_iinc (v := (x2 + 1)) (lv' := [(2, .int (x2 + 1)), (1, .int q4.1), (0, .ref (ca E 1))]) hx hb dX3_read_78 hl (k := 2) rfl rfl (by decide) rfl (fun ls hl => ?_)
                refine lv_goto (tgt := 23) hx hb dX3_read_81 (by decide) ?_
                exact ih q10 q4.1 (x2 + 1) h H locs ls I (lv_sub hl [2, 1, 0] rfl)
            · have h := ite_f h c8
              refine lv_iconst (v := 1) hx hb dX3_read_65 (by decide) ?_
              refine lv_istore_n (lv' := [(1, .int (1 : Int32)), (0, .ref (ca E 1)), (2, .int x2)]) hx hb dX3_read_66 rfl hl (by decide) rfl (fun ls hl => ?_)
              refine lv_iload_n hx hb dX3_read_67 rfl (lv_at hl 0 rfl) ?_
              refine lv_if_ne (tgt := 78) hx hb dX3_read_68 (by decide) (fun c11 => ?_) (fun c11 => ?_)
              · have h := ite_f h c11
                refine lv_iinc (v := (x2 + 1)) (lv' := [(2, .int (x2 + 1)), (1, .int (1 : Int32)), (0, .ref (ca E 1))]) hx hb dX3_read_78 hl (k := 2) rfl rfl (by decide) rfl (fun ls hl => ?_)
                refine lv_goto (tgt := 23) hx hb dX3_read_81 (by decide) ?_
                exact ih q4.2 (1 : Int32) (x2 + 1) h H locs ls I (lv_sub hl [2, 1, 0] rfl)
              · have h := ite_t h c11
                refine lv_aload_n hx hb dX3_read_71 rfl (lv_at hl 1 rfl) ?_
                refine gfC_X3_22 X I (kC_1 E) (k' := 3) rfl dX3_read_72 ?_
                obtain ⟨q12, hq12, h⟩ := bd h
                refine r_callVV (V := (vC E)) (k := 3) (As := []) (rest := []) X I hl (c_X9_next  hq12) yv_X9_next tw_364 ⟨rfl, rfl, Nat.le_of_ble_eq_true rfl, Nat.le_of_ble_eq_true rfl⟩ (kC_3 E).1 ((kC_3 E).2 (q4.2 3)) rfl rfl rfl (Nat.le_of_ble_eq_true rfl) dX3_read_75 (fun H locs I => ?_)
                refine lv_iinc (v := (x2 + 1)) (lv' := [(2, .int (x2 + 1)), (1, .int (1 : Int32)), (0, .ref (ca E 1))]) hx hb dX3_read_78 hl (k := 2) rfl rfl (by decide) rfl (fun ls hl => ?_)
                refine lv_goto (tgt := 23) hx hb dX3_read_81 (by decide) ?_
                exact ih q12 (1 : Int32) (x2 + 1) h H locs ls I (lv_sub hl [2, 1, 0] rfl)
set_option maxHeartbeats 4000000 in
set_option maxRecDepth 100000 in
theorem w_X3_read_0 {p : Program} {l : Launch} {e : Env} {s : State} {m : MethodId} {args : Array Value} {below : List Frame} {meth : Method} {c : Code} {A : Nat → Prop} {E : CE} {q : Int32 × Mem} (X : CX p s m meth c args cX3_read 3 RX3 (some .int)) : ∀ (σ : Mem)  , m_X3_read σ = some q → ∀ (H : Heap) (locs : List Loc) (ls : Array Slot), WI (vC E) A s H locs σ → lv_has ls 3 [(0, .ref (ca E 1))] → W p l e rm_X3_read s m args below meth c H locs 0 0 (MQ below (QI (vC E) A q) args s 0 0 A) (F0 m 0 ls []) := by
  have hx := X.1
  have hb := X.2.1
  intro σ  h H locs ls I hl
  unfold m_X3_read at h
  refine lv_aload_n hx hb dX3_read_0 rfl (lv_at hl 0 rfl) ?_
  refine gfC_X3_26 X I (kC_1 E) (k' := 9) rfl dX3_read_1 ?_
  obtain ⟨q1, hq1, h⟩ := bd h
  refine r_callVV (V := (vC E)) (k := 9) (As := []) (rest := []) X I hl (c_X2_clear (kC_9 E) (kC_10 E) (kC_11 E) (kC_12 E) (kC_13 E) (kC_14 E) (kC_15 E) (kC_16 E) (kC_17 E) (kC_18 E) (kC_19 E) (kC_20 E) hq1) yv_X2_clear tw_410 ⟨rfl, rfl, Nat.le_of_ble_eq_true rfl, Nat.le_of_ble_eq_true rfl⟩ (kC_9 E).1 ((kC_9 E).2 (σ 9)) rfl rfl rfl (Nat.le_of_ble_eq_true rfl) dX3_read_4 (fun H locs I => ?_)
  refine lv_aload_n hx hb dX3_read_7 rfl (lv_at hl 0 rfl) ?_
  refine lv_iconst (v := 0) hx hb dX3_read_8 (by decide) ?_
  obtain ⟨hz, h⟩ := gz_some h
  refine pfC_X3_34 X I (kC_1 E) hz dX3_read_9 (fun H locs I => ?_)
  obtain ⟨σ2, eσ2, h⟩ := lt_e h
  replace I := wi_nm eσ2 I
  refine lv_iconst (v := 0) hx hb dX3_read_12 (by decide) ?_
  refine lv_istore_n (lv' := [(1, .int (0 : Int32)), (0, .ref (ca E 1))]) hx hb dX3_read_13 rfl hl (by decide) rfl (fun ls hl => ?_)
  refine lv_aload_n hx hb dX3_read_14 rfl (lv_at hl 1 rfl) ?_
  refine gfC_X3_22 X I (kC_1 E) (k' := 3) rfl dX3_read_15 ?_
  obtain ⟨q3, hq3, h⟩ := bd h
  refine r_callVV (V := (vC E)) (k := 3) (As := []) (rest := []) X I hl (c_X9_next  hq3) yv_X9_next tw_364 ⟨rfl, rfl, Nat.le_of_ble_eq_true rfl, Nat.le_of_ble_eq_true rfl⟩ (kC_3 E).1 ((kC_3 E).2 (σ2 3)) rfl rfl rfl (Nat.le_of_ble_eq_true rfl) dX3_read_18 (fun H locs I => ?_)
  refine lv_iconst (v := 0) hx hb dX3_read_21 (by decide) ?_
  refine lv_istore_n (lv' := [(2, .int (0 : Int32)), (1, .int (0 : Int32)), (0, .ref (ca E 1))]) hx hb dX3_read_22 rfl hl (by decide) rfl (fun ls hl => ?_)
  exact w_X3_read_23 X   KF q3 (0 : Int32) (0 : Int32) h H locs ls I (lv_sub hl [2, 1, 0] rfl)
theorem c_X3_read {l : Launch} {E : CE} {σ : Mem} {q : Int32 × Mem} (h : m_X3_read σ = some q) : CI l (vC E) yX3_read (.code yX3_read cX3_read 3 (some .int) :: GG) rm_X3_read [.ref (ca E 1)] σ q :=
  mk_CI (by decide +kernel) (Nat.le_of_ble_eq_true rfl) (fun p e s m args below meth c A ls X I hl => w_X3_read_0 X  σ  h s.heap [] ls I (lv_sub hl [0] rfl))

def rm_X11_see : Room := { frames := 3, cells := 0, slots := 0, locals := 110 }
def m_X11_see (σ : Mem) (x1 : Int32) (x2 : Int32) (x3 : Int32) (x4 : Int32) : Option (Int32 × Mem) := (lt (ms σ 0 5 (0 : Int32)) fun σ1 => ((m_X11_isTenant σ1 x1).bind fun q2 => (if q2 = (0 : Int32) then ((m_X11_fail σ1 (1 : Int32)).bind fun q4 => (some (q4.1, q4.2))) else ((m_X11_isHouse σ1 x2).bind fun q5 => (if q5 = (0 : Int32) then ((m_X11_fail σ1 (1 : Int32)).bind fun q17 => (some (q17.1, q17.2))) else (if (σ1 0 45) = (8 : Int32) then ((m_X11_refuse σ1 (2 : Int32)).bind fun q8 => (some (q8.1, q8.2))) else ((m_X11_isIn σ1 (Int32.toInt64 x3) (1 : Int64) (12 : Int64)).bind fun q9 => (if q9 = (0 : Int32) then ((m_X11_refuse σ1 (2 : Int32)).bind fun q16 => (some (q16.1, q16.2))) else (gd (σ1 0 45) 8 (lt (ms σ1 37 (Int32.toNatClampNeg (σ1 0 45)) (x1)) fun σ11 => (gd (σ11 0 45) 8 (lt (ms σ11 38 (Int32.toNatClampNeg (σ11 0 45)) (x2)) fun σ12 => (gd (σ12 0 45) 8 (lt (ms σ12 39 (Int32.toNatClampNeg (σ12 0 45)) (x3)) fun σ13 => (gd (σ13 0 45) 8 (gz x4 (lt (ms σ13 41 (Int32.toNatClampNeg (σ13 0 45)) (x4)) fun σ14 => (lt (ms σ14 0 45 ((σ14 0 45) + (1 : Int32))) fun σ15 => (some ((σ15 0 45), σ15))))))))))))))))))))
set_option maxHeartbeats 4000000 in
set_option maxRecDepth 100000 in
theorem w_X11_see_0 {p : Program} {l : Launch} {e : Env} {s : State} {m : MethodId} {args : Array Value} {below : List Frame} {meth : Method} {c : Code} {A : Nat → Prop} {E : RE} {q : Int32 × Mem} (X : CX p s m meth c args cX11_see 5 RX11 (some .int)) : ∀ (σ : Mem) (x1 : Int32) (x2 : Int32) (x3 : Int32) (x4 : Int32) , m_X11_see σ x1 x2 x3 x4 = some q → ∀ (H : Heap) (locs : List Loc) (ls : Array Slot), WI (vR E) A s H locs σ → lv_has ls 5 [(0, .ref (ra E 0)), (1, .int x1), (2, .int x2), (3, .int x3), (4, .int x4)] → W p l e rm_X11_see s m args below meth c H locs 0 0 (MQ below (QI (vR E) A q) args s 0 0 A) (F0 m 0 ls []) := by
  have hx := X.1
  have hb := X.2.1
  intro σ x1 x2 x3 x4 h H locs ls I hl
  unfold m_X11_see at h
  refine lv_aload_n hx hb dX11_see_0 rfl (lv_at hl 0 rfl) ?_
  refine lv_iconst (v := 0) hx hb dX11_see_1 (by decide) ?_
  refine pfR_X11_195 X I  dX11_see_2 (fun H locs I => ?_)
  obtain ⟨σ1, eσ1, h⟩ := lt_e h
  replace I := wi_nm eσ1 I
  refine lv_aload_n hx hb dX11_see_5 rfl (lv_at hl 0 rfl) ?_
  refine lv_iload_n hx hb dX11_see_6 rfl (lv_at hl 1 rfl) ?_
  obtain ⟨q2, hq2, h⟩ := bd h
  refine r_callVI (V := (vR E)) (k := 0) (As := [.int x1]) (rest := []) X I hl (c_X11_isTenant  hq2) yv_X11_isTenant tw_1061 ⟨rfl, rfl, Nat.le_of_ble_eq_true rfl, Nat.le_of_ble_eq_true rfl⟩ (Nat.le_of_ble_eq_true rfl) rfl rfl rfl rfl (Nat.le_of_ble_eq_true rfl) dX11_see_7 (fun H locs I => ?_)
  refine lv_if_eq (tgt := 21) hx hb dX11_see_10 (by decide) (fun c3 => ?_) (fun c3 => ?_)
  · have h := ite_t h c3
    refine lv_aload_n hx hb dX11_see_21 rfl (lv_at hl 0 rfl) ?_
    refine lv_iconst (v := 1) hx hb dX11_see_22 (by decide) ?_
    obtain ⟨q4, hq4, h⟩ := bd h
    refine r_callVI (V := (vR E)) (k := 0) (As := [.int (1 : Int32)]) (rest := []) X I hl (c_X11_fail  hq4) yv_X11_fail tw_957 ⟨rfl, rfl, Nat.le_of_ble_eq_true rfl, Nat.le_of_ble_eq_true rfl⟩ (Nat.le_of_ble_eq_true rfl) rfl rfl rfl rfl (Nat.le_of_ble_eq_true rfl) dX11_see_23 (fun H locs I => ?_)
    exact r_iret X I (Option.some.inj h).symm dX11_see_26
  · have h := ite_f h c3
    refine lv_aload_n hx hb dX11_see_13 rfl (lv_at hl 0 rfl) ?_
    refine lv_iload_n hx hb dX11_see_14 rfl (lv_at hl 2 rfl) ?_
    obtain ⟨q5, hq5, h⟩ := bd h
    refine r_callVI (V := (vR E)) (k := 0) (As := [.int x2]) (rest := []) X I hl (c_X11_isHouse  hq5) yv_X11_isHouse tw_1056 ⟨rfl, rfl, Nat.le_of_ble_eq_true rfl, Nat.le_of_ble_eq_true rfl⟩ (Nat.le_of_ble_eq_true rfl) rfl rfl rfl rfl (Nat.le_of_ble_eq_true rfl) dX11_see_15 (fun H locs I => ?_)
    refine lv_if_ne (tgt := 27) hx hb dX11_see_18 (by decide) (fun c6 => ?_) (fun c6 => ?_)
    · have h := ite_f h c6
      refine lv_aload_n hx hb dX11_see_27 rfl (lv_at hl 0 rfl) ?_
      refine gfR_X11_353 X I dX11_see_28 ?_
      refine lv_bipush (v := 8) hx hb dX11_see_31 (by decide) ?_
      refine lv_icmp_eq (tgt := 48) hx hb dX11_see_33 (by decide) (fun c7 => ?_) (fun c7 => ?_)
      · have h := ite_t h c7
        refine lv_aload_n hx hb dX11_see_48 rfl (lv_at hl 0 rfl) ?_
        refine lv_iconst (v := 2) hx hb dX11_see_49 (by decide) ?_
        obtain ⟨q8, hq8, h⟩ := bd h
        refine r_callVI (V := (vR E)) (k := 0) (As := [.int (2 : Int32)]) (rest := []) X I hl (c_X11_refuse  hq8) yv_X11_refuse tw_1073 ⟨rfl, rfl, Nat.le_of_ble_eq_true rfl, Nat.le_of_ble_eq_true rfl⟩ (Nat.le_of_ble_eq_true rfl) rfl rfl rfl rfl (Nat.le_of_ble_eq_true rfl) dX11_see_50 (fun H locs I => ?_)
        exact r_iret X I (Option.some.inj h).symm dX11_see_53
      · have h := ite_f h c7
        refine lv_iload_n hx hb dX11_see_36 rfl (lv_at hl 3 rfl) ?_
        refine lv_i2l hx hb dX11_see_37 rfl ?_
        refine lv_lconst (v := 1) hx hb dX11_see_38 (by decide) ?_
        refine lv_ldc2 hx hb X.2.2.2.1 (X.2.2.2.2.1 _ tw_1136) dX11_see_39 ?_
        obtain ⟨q9, hq9, h⟩ := bd h
        refine r_callSI (V := (vR E)) (As := [.long (Int32.toInt64 x3), .long (1 : Int64), .long (12 : Int64)]) (rest := []) X I hl (c_X11_isIn  hq9) ys_X11_isIn tw_801 ⟨rfl, rfl, Nat.le_of_ble_eq_true rfl, Nat.le_of_ble_eq_true rfl⟩ rfl rfl (Nat.le_of_ble_eq_true rfl) dX11_see_42 (fun H locs I => ?_)
        refine lv_if_ne (tgt := 54) hx hb dX11_see_45 (by decide) (fun c10 => ?_) (fun c10 => ?_)
        · have h := ite_f h c10
          refine lv_aload_n hx hb dX11_see_54 rfl (lv_at hl 0 rfl) ?_
          refine gfR_X11_149 X I dX11_see_55 ?_
          refine lv_aload_n hx hb dX11_see_58 rfl (lv_at hl 0 rfl) ?_
          refine gfR_X11_353 X I dX11_see_59 ?_
          refine lv_iload_n hx hb dX11_see_62 rfl (lv_at hl 1 rfl) ?_
          obtain ⟨hin, h⟩ := gd_some h
          refine iastR X I (kR_37 E) hin dX11_see_63 (fun H locs I => ?_)
          obtain ⟨σ11, eσ11, h⟩ := lt_e h
          replace I := wi_nm eσ11 I
          refine lv_aload_n hx hb dX11_see_64 rfl (lv_at hl 0 rfl) ?_
          refine gfR_X11_152 X I dX11_see_65 ?_
          refine lv_aload_n hx hb dX11_see_68 rfl (lv_at hl 0 rfl) ?_
          refine gfR_X11_353 X I dX11_see_69 ?_
          refine lv_iload_n hx hb dX11_see_72 rfl (lv_at hl 2 rfl) ?_
          obtain ⟨hin, h⟩ := gd_some h
          refine iastR X I (kR_38 E) hin dX11_see_73 (fun H locs I => ?_)
          obtain ⟨σ12, eσ12, h⟩ := lt_e h
          replace I := wi_nm eσ12 I
          refine lv_aload_n hx hb dX11_see_74 rfl (lv_at hl 0 rfl) ?_
          refine gfR_X11_155 X I dX11_see_75 ?_
          refine lv_aload_n hx hb dX11_see_78 rfl (lv_at hl 0 rfl) ?_
          refine gfR_X11_353 X I dX11_see_79 ?_
          refine lv_iload_n hx hb dX11_see_82 rfl (lv_at hl 3 rfl) ?_
          obtain ⟨hin, h⟩ := gd_some h
          refine iastR X I (kR_39 E) hin dX11_see_83 (fun H locs I => ?_)
          obtain ⟨σ13, eσ13, h⟩ := lt_e h
          replace I := wi_nm eσ13 I
          refine lv_aload_n hx hb dX11_see_84 rfl (lv_at hl 0 rfl) ?_
          refine gfR_X11_161 X I dX11_see_85 ?_
          refine lv_aload_n hx hb dX11_see_88 rfl (lv_at hl 0 rfl) ?_
          refine gfR_X11_353 X I dX11_see_89 ?_
          refine lv_iload hx hb dX11_see_92 (lv_at hl 4 rfl) ?_
          obtain ⟨hin, h⟩ := gd_some h
          obtain ⟨hz, h⟩ := gz_some h
          refine zastR X I (kR_41 E) hz hin dX11_see_94 (fun H locs I => ?_)
          obtain ⟨σ14, eσ14, h⟩ := lt_e h
          replace I := wi_nm eσ14 I
          refine lv_aload_n hx hb dX11_see_95 rfl (lv_at hl 0 rfl) ?_
          refine lv_dup hx hb dX11_see_96 rfl ?_
          refine gfR_X11_353 X I dX11_see_97 ?_
          refine lv_iconst (v := 1) hx hb dX11_see_100 (by decide) ?_
          refine lv_iadd hx hb dX11_see_101 ?_
          refine pfR_X11_353 X I  dX11_see_102 (fun H locs I => ?_)
          obtain ⟨σ15, eσ15, h⟩ := lt_e h
          replace I := wi_nm eσ15 I
          refine lv_aload_n hx hb dX11_see_105 rfl (lv_at hl 0 rfl) ?_
          refine gfR_X11_353 X I dX11_see_106 ?_
          exact r_iret X I (Option.some.inj h).symm dX11_see_109
        · have h := ite_t h c10
          refine lv_aload_n hx hb dX11_see_48 rfl (lv_at hl 0 rfl) ?_
          refine lv_iconst (v := 2) hx hb dX11_see_49 (by decide) ?_
          obtain ⟨q16, hq16, h⟩ := bd h
          refine r_callVI (V := (vR E)) (k := 0) (As := [.int (2 : Int32)]) (rest := []) X I hl (c_X11_refuse  hq16) yv_X11_refuse tw_1073 ⟨rfl, rfl, Nat.le_of_ble_eq_true rfl, Nat.le_of_ble_eq_true rfl⟩ (Nat.le_of_ble_eq_true rfl) rfl rfl rfl rfl (Nat.le_of_ble_eq_true rfl) dX11_see_50 (fun H locs I => ?_)
          exact r_iret X I (Option.some.inj h).symm dX11_see_53
    · have h := ite_t h c6
      refine lv_aload_n hx hb dX11_see_21 rfl (lv_at hl 0 rfl) ?_
      refine lv_iconst (v := 1) hx hb dX11_see_22 (by decide) ?_
      obtain ⟨q17, hq17, h⟩ := bd h
      refine r_callVI (V := (vR E)) (k := 0) (As := [.int (1 : Int32)]) (rest := []) X I hl (c_X11_fail  hq17) yv_X11_fail tw_957 ⟨rfl, rfl, Nat.le_of_ble_eq_true rfl, Nat.le_of_ble_eq_true rfl⟩ (Nat.le_of_ble_eq_true rfl) rfl rfl rfl rfl (Nat.le_of_ble_eq_true rfl) dX11_see_23 (fun H locs I => ?_)
      exact r_iret X I (Option.some.inj h).symm dX11_see_26
theorem c_X11_see {l : Launch} {E : RE} {σ : Mem} {x1 : Int32} {x2 : Int32} {x3 : Int32} {x4 : Int32} {q : Int32 × Mem} (h : m_X11_see σ x1 x2 x3 x4 = some q) : CI l (vR E) yX11_see (.code yX11_see cX11_see 5 (some .int) :: GG) rm_X11_see [.ref (ra E 0), .int x1, .int x2, .int x3, .int x4] σ q :=
  mk_CI (by decide +kernel) (Nat.le_of_ble_eq_true rfl) (fun p e s m args below meth c A ls X I hl => w_X11_see_0 X  σ x1 x2 x3 x4 h s.heap [] ls I (lv_sub hl [0, 1, 2, 3, 4] rfl))

def rm_X11_isAsSeen : Room := { frames := 6, cells := 0, slots := 0, locals := 184 }
def f_X11_isAsSeen_29 (k13 : Mem → Int32 → Int32 → Option (Int32 × Mem)) (x2 : Int32) : Nat → Mem → Int32 → Int32 → Option (Int32 × Mem)
  | 0, _, _, _ => none
  | n + 1, σ, x1, x3 => (if (σ 0 45) ≤ x3 then (k13 σ x1 (x2 + 1)) else (if x1 = (0 : Int32) then f_X11_isAsSeen_29 k13 x2 n σ (0 : Int32) (x3 + 1) else (gd x3 8 (if (σ 39 (Int32.toNatClampNeg x3)) = x2 then (gd x3 8 (gd (σ 38 (Int32.toNatClampNeg x3)) 8 (gd x3 8 (if (σ 23 (Int32.toNatClampNeg (σ 38 (Int32.toNatClampNeg x3)))) = (σ 37 (Int32.toNatClampNeg x3)) then (gd x3 8 (if (1 : Int32) = (σ 41 (Int32.toNatClampNeg x3)) then f_X11_isAsSeen_29 k13 x2 n σ (1 : Int32) (x3 + 1) else f_X11_isAsSeen_29 k13 x2 n σ (0 : Int32) (x3 + 1))) else (gd x3 8 (if (0 : Int32) = (σ 41 (Int32.toNatClampNeg x3)) then f_X11_isAsSeen_29 k13 x2 n σ (1 : Int32) (x3 + 1) else f_X11_isAsSeen_29 k13 x2 n σ (0 : Int32) (x3 + 1))))))) else f_X11_isAsSeen_29 k13 x2 n σ (1 : Int32) (x3 + 1)))))
def f_X11_isAsSeen_13 : Nat → Mem → Int32 → Int32 → Option (Int32 × Mem)
  | 0, _, _, _ => none
  | n + 1, σ, x1, x2 => (if (12 : Int32) < x2 then ((m_X11_unpack 40 64 σ (0 : Int32)).bind fun q2 => (gz x1 (some (x1, q2)))) else (if x1 = (0 : Int32) then ((m_X11_unpack 40 64 σ (0 : Int32)).bind fun q4 => (gz x1 (some (x1, q4)))) else ((m_X11_aQuarter σ).bind fun q5 => (f_X11_isAsSeen_29 (f_X11_isAsSeen_13 n) x2 KF q5 x1 (0 : Int32)))))
def m_X11_isAsSeen (σ : Mem) : Option (Int32 × Mem) := ((m_X11_pack 40 64 σ (0 : Int32)).bind fun q1 => (f_X11_isAsSeen_13 KF q1 (1 : Int32) (1 : Int32)))
set_option maxHeartbeats 4000000 in
set_option maxRecDepth 100000 in
theorem w_X11_isAsSeen_29 {p : Program} {l : Launch} {e : Env} {s : State} {m : MethodId} {args : Array Value} {below : List Frame} {meth : Method} {c : Code} {A : Nat → Prop} {E : RE} {q : Int32 × Mem} (X : CX p s m meth c args cX11_isAsSeen 4 RX11 (some .boolean)) {x2 : Int32} {k13 : Mem → Int32 → Int32 → Option (Int32 × Mem)} (hk13 : ∀ (σ : Mem) (x1 : Int32) (x2 : Int32) , k13 σ x1 x2 = some q → ∀ (H : Heap) (locs : List Loc) (ls : Array Slot), WI (vR E) A s H locs σ → lv_has ls 4 [(0, .ref (ra E 0)), (1, .int x1), (2, .int x2)] → W p l e rm_X11_isAsSeen s m args below meth c H locs 0 0 (MQ below (QI (vR E) A q) args s 0 0 A) (F0 m 13 ls [])) : ∀ (n : Nat), ∀ (σ : Mem) (x1 : Int32) (x3 : Int32) , f_X11_isAsSeen_29 k13 x2 n σ x1 x3 = some q → ∀ (H : Heap) (locs : List Loc) (ls : Array Slot), WI (vR E) A s H locs σ → lv_has ls 4 [(0, .ref (ra E 0)), (1, .int x1), (2, .int x2), (3, .int x3)] → W p l e rm_X11_isAsSeen s m args below meth c H locs 0 0 (MQ below (QI (vR E) A q) args s 0 0 A) (F0 m 29 ls []) := by
  have hx := X.1
  have hb := X.2.1
  intro n
  induction n with
  | zero =>
    intro σ x1 x3 h
    cases h
  | succ n ih =>
    intro σ x1 x3 h H locs ls I hl
    rw [f_X11_isAsSeen_29] at h
    refine lv_iload_n hx hb dX11_isAsSeen_29 rfl (lv_at hl 3 rfl) ?_
    refine lv_aload_n hx hb dX11_isAsSeen_30 rfl (lv_at hl 0 rfl) ?_
    refine gfR_X11_353 X I dX11_isAsSeen_31 ?_
    refine lv_icmp_ge (tgt := 97) hx hb dX11_isAsSeen_34 (by decide) (fun c1 => ?_) (fun c1 => ?_)
    · have h := ite_t h c1
      refine lv_iinc (v := (x2 + 1)) (lv' := [(2, .int (x2 + 1)), (0, .ref (ra E 0)), (1, .int x1), (3, .int x3)]) hx hb dX11_isAsSeen_97 hl (k := 2) rfl rfl (by decide) rfl (fun ls hl => ?_)
      refine lv_goto (tgt := 13) hx hb dX11_isAsSeen_100 (by decide) ?_
      exact hk13 σ x1 (x2 + 1) h H locs ls I (lv_sub hl [1, 2, 0] rfl)
    · have h := ite_f h c1
      refine lv_iload_n hx hb dX11_isAsSeen_37 rfl (lv_at hl 1 rfl) ?_
      refine lv_if_eq (tgt := 89) hx hb dX11_isAsSeen_38 (by decide) (fun c2 => ?_) (fun c2 => ?_)
      · have h := ite_t h c2
        refine lv_iconst (v := 0) hx hb dX11_isAsSeen_89 (by decide) ?_
        refine lv_istore_n (lv' := [(1, .int (0 : Int32)), (0, .ref (ra E 0)), (2, .int x2), (3, .int x3)]) hx hb dX11_isAsSeen_90 rfl hl (by decide) rfl (fun ls hl => ?_)
        refine lv_iinc (v := (x3 + 1)) (lv' := [(3, .int (x3 + 1)), (1, .int (0 : Int32)), (0, .ref (ra E 0)), (2, .int x2)]) hx hb dX11_isAsSeen_91 hl (k := 3) rfl rfl (by decide) rfl (fun ls hl => ?_)
        refine lv_goto (tgt := 29) hx hb dX11_isAsSeen_94 (by decide) ?_
        exact ih σ (0 : Int32) (x3 + 1) h H locs ls I (lv_sub hl [2, 1, 3, 0] rfl)
      · have h := ite_f h c2
        refine lv_aload_n hx hb dX11_isAsSeen_41 rfl (lv_at hl 0 rfl) ?_
        refine gfR_X11_155 X I dX11_isAsSeen_42 ?_
        refine lv_iload_n hx hb dX11_isAsSeen_45 rfl (lv_at hl 3 rfl) ?_
        obtain ⟨hin, h⟩ := gd_some h
        refine ialdR X I (kR_39 E) hin dX11_isAsSeen_46 ?_
        refine lv_iload_n hx hb dX11_isAsSeen_47 rfl (lv_at hl 2 rfl) ?_
        refine lv_icmp_ne (tgt := 85) hx hb dX11_isAsSeen_48 (by decide) (fun c3 => ?_) (fun c3 => ?_)
        · have h := ite_f h c3
          refine lv_iconst (v := 1) hx hb dX11_isAsSeen_85 (by decide) ?_
          refine lv_goto (tgt := 90) hx hb dX11_isAsSeen_86 (by decide) ?_
          refine lv_istore_n (lv' := [(1, .int (1 : Int32)), (0, .ref (ra E 0)), (2, .int x2), (3, .int x3)]) hx hb dX11_isAsSeen_90 rfl hl (by decide) rfl (fun ls hl => ?_)
          refine lv_iinc (v := (x3 + 1)) (lv' := [(3, .int (x3 + 1)), (1, .int (1 : Int32)), (0, .ref (ra E 0)), (2, .int x2)]) hx hb dX11_isAsSeen_91 hl (k := 3) rfl rfl (by decide) rfl (fun ls hl => ?_)
          refine lv_goto (tgt := 29) hx hb dX11_isAsSeen_94 (by decide) ?_
          exact ih σ (1 : Int32) (x3 + 1) h H locs ls I (lv_sub hl [2, 1, 3, 0] rfl)
        · have h := ite_t h c3
          refine lv_aload_n hx hb dX11_isAsSeen_51 rfl (lv_at hl 0 rfl) ?_
          refine gfR_X11_110 X I dX11_isAsSeen_52 ?_
          refine lv_aload_n hx hb dX11_isAsSeen_55 rfl (lv_at hl 0 rfl) ?_
          refine gfR_X11_152 X I dX11_isAsSeen_56 ?_
          refine lv_iload_n hx hb dX11_isAsSeen_59 rfl (lv_at hl 3 rfl) ?_
          obtain ⟨hin, h⟩ := gd_some h
          refine ialdR X I (kR_38 E) hin dX11_isAsSeen_60 ?_
          obtain ⟨hin, h⟩ := gd_some h
          refine ialdR X I (kR_23 E) hin dX11_isAsSeen_61 ?_
          refine lv_aload_n hx hb dX11_isAsSeen_62 rfl (lv_at hl 0 rfl) ?_
          refine gfR_X11_149 X I dX11_isAsSeen_63 ?_
          refine lv_iload_n hx hb dX11_isAsSeen_66 rfl (lv_at hl 3 rfl) ?_
          obtain ⟨hin, h⟩ := gd_some h
          refine ialdR X I (kR_37 E) hin dX11_isAsSeen_67 ?_
          refine lv_icmp_ne (tgt := 75) hx hb dX11_isAsSeen_68 (by decide) (fun c4 => ?_) (fun c4 => ?_)
          · have h := ite_f h c4
            refine lv_iconst (v := 0) hx hb dX11_isAsSeen_75 (by decide) ?_
            refine lv_aload_n hx hb dX11_isAsSeen_76 rfl (lv_at hl 0 rfl) ?_
            refine gfR_X11_161 X I dX11_isAsSeen_77 ?_
            refine lv_iload_n hx hb dX11_isAsSeen_80 rfl (lv_at hl 3 rfl) ?_
            obtain ⟨hin, h⟩ := gd_some h
            refine zaldR X I (kR_41 E) hin dX11_isAsSeen_81 ?_
            refine lv_icmp_ne (tgt := 89) hx hb dX11_isAsSeen_82 (by decide) (fun c5 => ?_) (fun c5 => ?_)
            · have h := ite_f h c5
              refine lv_iconst (v := 0) hx hb dX11_isAsSeen_89 (by decide) ?_
              refine lv_istore_n (lv' := [(1, .int (0 : Int32)), (0, .ref (ra E 0)), (2, .int x2), (3, .int x3)]) hx hb dX11_isAsSeen_90 rfl hl (by decide) rfl (fun ls hl => ?_)
              refine lv_iinc (v := (x3 + 1)) (lv' := [(3, .int (x3 + 1)), (1, .int (0 : Int32)), (0, .ref (ra E 0)), (2, .int x2)]) hx hb dX11_isAsSeen_91 hl (k := 3) rfl rfl (by decide) rfl (fun ls hl => ?_)
              refine lv_goto (tgt := 29) hx hb dX11_isAsSeen_94 (by decide) ?_
              exact ih σ (0 : Int32) (x3 + 1) h H locs ls I (lv_sub hl [2, 1, 3, 0] rfl)
            · have h := ite_t h c5
              refine lv_iconst (v := 1) hx hb dX11_isAsSeen_85 (by decide) ?_
              refine lv_goto (tgt := 90) hx hb dX11_isAsSeen_86 (by decide) ?_
              refine lv_istore_n (lv' := [(1, .int (1 : Int32)), (0, .ref (ra E 0)), (2, .int x2), (3, .int x3)]) hx hb dX11_isAsSeen_90 rfl hl (by decide) rfl (fun ls hl => ?_)
              refine lv_iinc (v := (x3 + 1)) (lv' := [(3, .int (x3 + 1)), (1, .int (1 : Int32)), (0, .ref (ra E 0)), (2, .int x2)]) hx hb dX11_isAsSeen_91 hl (k := 3) rfl rfl (by decide) rfl (fun ls hl => ?_)
              refine lv_goto (tgt := 29) hx hb dX11_isAsSeen_94 (by decide) ?_
              exact ih σ (1 : Int32) (x3 + 1) h H locs ls I (lv_sub hl [2, 1, 3, 0] rfl)
          · have h := ite_t h c4
            refine lv_iconst (v := 1) hx hb dX11_isAsSeen_71 (by decide) ?_
            refine lv_goto (tgt := 76) hx hb dX11_isAsSeen_72 (by decide) ?_
            refine lv_aload_n hx hb dX11_isAsSeen_76 rfl (lv_at hl 0 rfl) ?_
            refine gfR_X11_161 X I dX11_isAsSeen_77 ?_
            refine lv_iload_n hx hb dX11_isAsSeen_80 rfl (lv_at hl 3 rfl) ?_
            obtain ⟨hin, h⟩ := gd_some h
            refine zaldR X I (kR_41 E) hin dX11_isAsSeen_81 ?_
            refine lv_icmp_ne (tgt := 89) hx hb dX11_isAsSeen_82 (by decide) (fun c6 => ?_) (fun c6 => ?_)
            · have h := ite_f h c6
              refine lv_iconst (v := 0) hx hb dX11_isAsSeen_89 (by decide) ?_
              refine lv_istore_n (lv' := [(1, .int (0 : Int32)), (0, .ref (ra E 0)), (2, .int x2), (3, .int x3)]) hx hb dX11_isAsSeen_90 rfl hl (by decide) rfl (fun ls hl => ?_)
              refine lv_iinc (v := (x3 + 1)) (lv' := [(3, .int (x3 + 1)), (1, .int (0 : Int32)), (0, .ref (ra E 0)), (2, .int x2)]) hx hb dX11_isAsSeen_91 hl (k := 3) rfl rfl (by decide) rfl (fun ls hl => ?_)
              refine lv_goto (tgt := 29) hx hb dX11_isAsSeen_94 (by decide) ?_
              exact ih σ (0 : Int32) (x3 + 1) h H locs ls I (lv_sub hl [2, 1, 3, 0] rfl)
            · have h := ite_t h c6
              refine lv_iconst (v := 1) hx hb dX11_isAsSeen_85 (by decide) ?_
              refine lv_goto (tgt := 90) hx hb dX11_isAsSeen_86 (by decide) ?_
              refine lv_istore_n (lv' := [(1, .int (1 : Int32)), (0, .ref (ra E 0)), (2, .int x2), (3, .int x3)]) hx hb dX11_isAsSeen_90 rfl hl (by decide) rfl (fun ls hl => ?_)
              refine lv_iinc (v := (x3 + 1)) (lv' := [(3, .int (x3 + 1)), (1, .int (1 : Int32)), (0, .ref (ra E 0)), (2, .int x2)]) hx hb dX11_isAsSeen_91 hl (k := 3) rfl rfl (by decide) rfl (fun ls hl => ?_)
              refine lv_goto (tgt := 29) hx hb dX11_isAsSeen_94 (by decide) ?_
              exact ih σ (1 : Int32) (x3 + 1) h H locs ls I (lv_sub hl [2, 1, 3, 0] rfl)
set_option maxHeartbeats 4000000 in
set_option maxRecDepth 100000 in
theorem w_X11_isAsSeen_13 {p : Program} {l : Launch} {e : Env} {s : State} {m : MethodId} {args : Array Value} {below : List Frame} {meth : Method} {c : Code} {A : Nat → Prop} {E : RE} {q : Int32 × Mem} (X : CX p s m meth c args cX11_isAsSeen 4 RX11 (some .boolean)) : ∀ (n : Nat), ∀ (σ : Mem) (x1 : Int32) (x2 : Int32) , f_X11_isAsSeen_13 n σ x1 x2 = some q → ∀ (H : Heap) (locs : List Loc) (ls : Array Slot), WI (vR E) A s H locs σ → lv_has ls 4 [(0, .ref (ra E 0)), (1, .int x1), (2, .int x2)] → W p l e rm_X11_isAsSeen s m args below meth c H locs 0 0 (MQ below (QI (vR E) A q) args s 0 0 A) (F0 m 13 ls []) := by
  have hx := X.1
  have hb := X.2.1
  intro n
  induction n with
  | zero =>
    intro σ x1 x2 h
    cases h
  | succ n ih =>
    intro σ x1 x2 h H locs ls I hl
    rw [f_X11_isAsSeen_13] at h
    refine lv_iload_n hx hb dX11_isAsSeen_13 rfl (lv_at hl 2 rfl) ?_
    refine lv_bipush (v := 12) hx hb dX11_isAsSeen_14 (by decide) ?_
    refine lv_icmp_gt (tgt := 103) hx hb dX11_isAsSeen_16 (by decide) (fun c1 => ?_) (fun c1 => ?_)
    · have h := ite_t h c1
      refine lv_aload_n hx hb dX11_isAsSeen_103 rfl (lv_at hl 0 rfl) ?_
      refine lv_aload_n hx hb dX11_isAsSeen_104 rfl (lv_at hl 0 rfl) ?_
      refine gfR_X11_158 X I dX11_isAsSeen_105 ?_
      refine lv_iconst (v := 0) hx hb dX11_isAsSeen_108 (by decide) ?_
      obtain ⟨q2, hq2, h⟩ := bd h
      refine r_callVV (V := (vR E)) (k := 0) (As := [.ref (ra E 40), .int (0 : Int32)]) (rest := []) X I hl (c_X11_unpack (kR_40 E) hq2) yv_X11_unpack tw_1095 ⟨rfl, rfl, Nat.le_of_ble_eq_true rfl, Nat.le_of_ble_eq_true rfl⟩ (Nat.le_of_ble_eq_true rfl) rfl rfl rfl rfl (Nat.le_of_ble_eq_true rfl) dX11_isAsSeen_109 (fun H locs I => ?_)
      refine lv_iload_n hx hb dX11_isAsSeen_112 rfl (lv_at hl 1 rfl) ?_
      obtain ⟨hz, h⟩ := gz_some h
      exact r_zret X I (Option.some.inj h).symm hz.1 dX11_isAsSeen_113
    · have h := ite_f h c1
      refine lv_iload_n hx hb dX11_isAsSeen_19 rfl (lv_at hl 1 rfl) ?_
      refine lv_if_eq (tgt := 103) hx hb dX11_isAsSeen_20 (by decide) (fun c3 => ?_) (fun c3 => ?_)
      · have h := ite_t h c3
        refine lv_aload_n hx hb dX11_isAsSeen_103 rfl (lv_at hl 0 rfl) ?_
        refine lv_aload_n hx hb dX11_isAsSeen_104 rfl (lv_at hl 0 rfl) ?_
        refine gfR_X11_158 X I dX11_isAsSeen_105 ?_
        refine lv_iconst (v := 0) hx hb dX11_isAsSeen_108 (by decide) ?_
        obtain ⟨q4, hq4, h⟩ := bd h
        refine r_callVV (V := (vR E)) (k := 0) (As := [.ref (ra E 40), .int (0 : Int32)]) (rest := []) X I hl (c_X11_unpack (kR_40 E) hq4) yv_X11_unpack tw_1095 ⟨rfl, rfl, Nat.le_of_ble_eq_true rfl, Nat.le_of_ble_eq_true rfl⟩ (Nat.le_of_ble_eq_true rfl) rfl rfl rfl rfl (Nat.le_of_ble_eq_true rfl) dX11_isAsSeen_109 (fun H locs I => ?_)
        refine lv_iload_n hx hb dX11_isAsSeen_112 rfl (lv_at hl 1 rfl) ?_
        obtain ⟨hz, h⟩ := gz_some h
        exact r_zret X I (Option.some.inj h).symm hz.1 dX11_isAsSeen_113
      · have h := ite_f h c3
        refine lv_aload_n hx hb dX11_isAsSeen_23 rfl (lv_at hl 0 rfl) ?_
        obtain ⟨q5, hq5, h⟩ := bd h
        refine r_callVV (V := (vR E)) (k := 0) (As := []) (rest := []) X I hl (c_X11_aQuarter  hq5) yv_X11_aQuarter tw_1041 ⟨rfl, rfl, Nat.le_of_ble_eq_true rfl, Nat.le_of_ble_eq_true rfl⟩ (Nat.le_of_ble_eq_true rfl) rfl rfl rfl rfl (Nat.le_of_ble_eq_true rfl) dX11_isAsSeen_24 (fun H locs I => ?_)
        refine lv_iconst (v := 0) hx hb dX11_isAsSeen_27 (by decide) ?_
        refine lv_istore_n (lv' := [(3, .int (0 : Int32)), (0, .ref (ra E 0)), (1, .int x1), (2, .int x2)]) hx hb dX11_isAsSeen_28 rfl hl (by decide) rfl (fun ls hl => ?_)
        exact w_X11_isAsSeen_29 X  (fun σ a1 a2 h H locs ls I hl => ih σ a1 a2 h H locs ls I hl) KF q5 x1 (0 : Int32) h H locs ls I (lv_sub hl [1, 2, 3, 0] rfl)
set_option maxHeartbeats 4000000 in
set_option maxRecDepth 100000 in
theorem w_X11_isAsSeen_0 {p : Program} {l : Launch} {e : Env} {s : State} {m : MethodId} {args : Array Value} {below : List Frame} {meth : Method} {c : Code} {A : Nat → Prop} {E : RE} {q : Int32 × Mem} (X : CX p s m meth c args cX11_isAsSeen 4 RX11 (some .boolean)) : ∀ (σ : Mem)  , m_X11_isAsSeen σ = some q → ∀ (H : Heap) (locs : List Loc) (ls : Array Slot), WI (vR E) A s H locs σ → lv_has ls 4 [(0, .ref (ra E 0))] → W p l e rm_X11_isAsSeen s m args below meth c H locs 0 0 (MQ below (QI (vR E) A q) args s 0 0 A) (F0 m 0 ls []) := by
  have hx := X.1
  have hb := X.2.1
  intro σ  h H locs ls I hl
  unfold m_X11_isAsSeen at h
  refine lv_aload_n hx hb dX11_isAsSeen_0 rfl (lv_at hl 0 rfl) ?_
  refine lv_aload_n hx hb dX11_isAsSeen_1 rfl (lv_at hl 0 rfl) ?_
  refine gfR_X11_158 X I dX11_isAsSeen_2 ?_
  refine lv_iconst (v := 0) hx hb dX11_isAsSeen_5 (by decide) ?_
  obtain ⟨q1, hq1, h⟩ := bd h
  refine r_callVV (V := (vR E)) (k := 0) (As := [.ref (ra E 40), .int (0 : Int32)]) (rest := []) X I hl (c_X11_pack (kR_40 E) hq1) yv_X11_pack tw_1067 ⟨rfl, rfl, Nat.le_of_ble_eq_true rfl, Nat.le_of_ble_eq_true rfl⟩ (Nat.le_of_ble_eq_true rfl) rfl rfl rfl rfl (Nat.le_of_ble_eq_true rfl) dX11_isAsSeen_6 (fun H locs I => ?_)
  refine lv_iconst (v := 1) hx hb dX11_isAsSeen_9 (by decide) ?_
  refine lv_istore_n (lv' := [(1, .int (1 : Int32)), (0, .ref (ra E 0))]) hx hb dX11_isAsSeen_10 rfl hl (by decide) rfl (fun ls hl => ?_)
  refine lv_iconst (v := 1) hx hb dX11_isAsSeen_11 (by decide) ?_
  refine lv_istore_n (lv' := [(2, .int (1 : Int32)), (1, .int (1 : Int32)), (0, .ref (ra E 0))]) hx hb dX11_isAsSeen_12 rfl hl (by decide) rfl (fun ls hl => ?_)
  exact w_X11_isAsSeen_13 X   KF q1 (1 : Int32) (1 : Int32) h H locs ls I (lv_sub hl [2, 1, 0] rfl)
theorem c_X11_isAsSeen {l : Launch} {E : RE} {σ : Mem} {q : Int32 × Mem} (h : m_X11_isAsSeen σ = some q) : CI l (vR E) yX11_isAsSeen (.code yX11_isAsSeen cX11_isAsSeen 4 (some .boolean) :: GG) rm_X11_isAsSeen [.ref (ra E 0)] σ q :=
  mk_CI (by decide +kernel) (Nat.le_of_ble_eq_true rfl) (fun p e s m args below meth c A ls X I hl => w_X11_isAsSeen_0 X  σ  h s.heap [] ls I (lv_sub hl [0] rfl))

def rm_X11_tellFits : Room := { frames := 7, cells := 0, slots := 0, locals := 207 }
def f_X11_tellFits_26 (k7 : Mem → Int32 → Option (Mem)) (x1 : Int32) (x2 : Int32) : Nat → Mem → Int32 → Option (Mem)
  | 0, _, _ => none
  | n + 1, σ, x3 => (if (20 : Int32) < x3 then (gd x1 7 (lt (ms σ 25 (Int32.toNatClampNeg x1) (x2)) fun σ2 => (k7 σ2 (x1 + 1)))) else (gd x1 7 (lt (ms σ 25 (Int32.toNatClampNeg x1) (x3)) fun σ3 => (if x3 = x2 then f_X11_tellFits_26 k7 x1 x2 n σ3 (x3 + 1) else ((m_X11_isAsSeen σ3).bind fun q5 => (if q5.1 = (0 : Int32) then f_X11_tellFits_26 k7 x1 x2 n q5.2 (x3 + 1) else (gd (q5.2 0 61) 147 (lt (ms q5.2 42 (Int32.toNatClampNeg (q5.2 0 61)) ((((100 : Int32) * x1) + x3))) fun σ7 => (lt (ms σ7 0 61 ((σ7 0 61) + (1 : Int32))) fun σ8 => f_X11_tellFits_26 k7 x1 x2 n σ8 (x3 + 1))))))))))
def f_X11_tellFits_7 : Nat → Mem → Int32 → Option (Mem)
  | 0, _, _ => none
  | n + 1, σ, x1 => (gd (1 : Int32) 10 (if (σ 5 (Int32.toNatClampNeg (1 : Int32))) ≤ x1 then (some σ) else (gd x1 7 (lt (σ 25 (Int32.toNatClampNeg x1)) fun y2 => (f_X11_tellFits_26 (f_X11_tellFits_7 n) x1 y2 KF σ (0 : Int32))))))
def m_X11_tellFits (σ : Mem) : Option (Mem) := (lt (ms σ 0 61 (0 : Int32)) fun σ1 => (f_X11_tellFits_7 KF σ1 (0 : Int32)))
set_option maxHeartbeats 4000000 in
set_option maxRecDepth 100000 in
theorem w_X11_tellFits_26 {p : Program} {l : Launch} {e : Env} {s : State} {m : MethodId} {args : Array Value} {below : List Frame} {meth : Method} {c : Code} {A : Nat → Prop} {E : RE} {q : Mem} (X : CX p s m meth c args cX11_tellFits 4 RX11 none) {x1 : Int32} {x2 : Int32} {k7 : Mem → Int32 → Option (Mem)} (hk7 : ∀ (σ : Mem) (x1 : Int32) , k7 σ x1 = some q → ∀ (H : Heap) (locs : List Loc) (ls : Array Slot), WI (vR E) A s H locs σ → lv_has ls 4 [(0, .ref (ra E 0)), (1, .int x1)] → W p l e rm_X11_tellFits s m args below meth c H locs 0 0 (MQ below (QV (vR E) A q) args s 0 0 A) (F0 m 7 ls [])) : ∀ (n : Nat), ∀ (σ : Mem) (x3 : Int32) , f_X11_tellFits_26 k7 x1 x2 n σ x3 = some q → ∀ (H : Heap) (locs : List Loc) (ls : Array Slot), WI (vR E) A s H locs σ → lv_has ls 4 [(0, .ref (ra E 0)), (1, .int x1), (2, .int x2), (3, .int x3)] → W p l e rm_X11_tellFits s m args below meth c H locs 0 0 (MQ below (QV (vR E) A q) args s 0 0 A) (F0 m 26 ls []) := by
  have hx := X.1
  have hb := X.2.1
  intro n
  induction n with
  | zero =>
    intro σ x3 h
    cases h
  | succ n ih =>
    intro σ x3 h H locs ls I hl
    rw [f_X11_tellFits_26] at h
    refine lv_iload_n hx hb dX11_tellFits_26 rfl (lv_at hl 3 rfl) ?_
    refine lv_bipush (v := 20) hx hb dX11_tellFits_27 (by decide) ?_
    refine lv_icmp_gt (tgt := 85) hx hb dX11_tellFits_29 (by decide) (fun c1 => ?_) (fun c1 => ?_)
    · have h := ite_t h c1
      refine lv_aload_n hx hb dX11_tellFits_85 rfl (lv_at hl 0 rfl) ?_
      refine gfR_X11_115 X I dX11_tellFits_86 ?_
      refine lv_iload_n hx hb dX11_tellFits_89 rfl (lv_at hl 1 rfl) ?_
      refine lv_iload_n hx hb dX11_tellFits_90 rfl (lv_at hl 2 rfl) ?_
      obtain ⟨hin, h⟩ := gd_some h
      refine iastR X I (kR_25 E) hin dX11_tellFits_91 (fun H locs I => ?_)
      obtain ⟨σ2, eσ2, h⟩ := lt_e h
      replace I := wi_nm eσ2 I
      refine lv_iinc (v := (x1 + 1)) (lv' := [(1, .int (x1 + 1)), (0, .ref (ra E 0)), (2, .int x2), (3, .int x3)]) hx hb dX11_tellFits_92 hl (k := 1) rfl rfl (by decide) rfl (fun ls hl => ?_)
      refine lv_goto (tgt := 7) hx hb dX11_tellFits_95 (by decide) ?_
      exact hk7 σ2 (x1 + 1) h H locs ls I (lv_sub hl [1, 0] rfl)
    · have h := ite_f h c1
      refine lv_aload_n hx hb dX11_tellFits_32 rfl (lv_at hl 0 rfl) ?_
      refine gfR_X11_115 X I dX11_tellFits_33 ?_
      refine lv_iload_n hx hb dX11_tellFits_36 rfl (lv_at hl 1 rfl) ?_
      refine lv_iload_n hx hb dX11_tellFits_37 rfl (lv_at hl 3 rfl) ?_
      obtain ⟨hin, h⟩ := gd_some h
      refine iastR X I (kR_25 E) hin dX11_tellFits_38 (fun H locs I => ?_)
      obtain ⟨σ3, eσ3, h⟩ := lt_e h
      replace I := wi_nm eσ3 I
      refine lv_iload_n hx hb dX11_tellFits_39 rfl (lv_at hl 3 rfl) ?_
      refine lv_iload_n hx hb dX11_tellFits_40 rfl (lv_at hl 2 rfl) ?_
      refine lv_icmp_eq (tgt := 79) hx hb dX11_tellFits_41 (by decide) (fun c4 => ?_) (fun c4 => ?_)
      · have h := ite_t h c4
        refine lv_iinc (v := (x3 + 1)) (lv' := [(3, .int (x3 + 1)), (0, .ref (ra E 0)), (1, .int x1), (2, .int x2)]) hx hb dX11_tellFits_79 hl (k := 3) rfl rfl (by decide) rfl (fun ls hl => ?_)
        refine lv_goto (tgt := 26) hx hb dX11_tellFits_82 (by decide) ?_
        exact ih σ3 (x3 + 1) h H locs ls I (lv_sub hl [1, 2, 3, 0] rfl)
      · have h := ite_f h c4
        refine lv_aload_n hx hb dX11_tellFits_44 rfl (lv_at hl 0 rfl) ?_
        obtain ⟨q5, hq5, h⟩ := bd h
        refine r_callVI (V := (vR E)) (k := 0) (As := []) (rest := []) X I hl (c_X11_isAsSeen  hq5) yv_X11_isAsSeen tw_1143 ⟨rfl, rfl, Nat.le_of_ble_eq_true rfl, Nat.le_of_ble_eq_true rfl⟩ (Nat.le_of_ble_eq_true rfl) rfl rfl rfl rfl (Nat.le_of_ble_eq_true rfl) dX11_tellFits_45 (fun H locs I => ?_)
        refine lv_if_ne (tgt := 54) hx hb dX11_tellFits_48 (by decide) (fun c6 => ?_) (fun c6 => ?_)
        · have h := ite_f h c6
          refine lv_aload_n hx hb dX11_tellFits_54 rfl (lv_at hl 0 rfl) ?_
          refine gfR_X11_165 X I dX11_tellFits_55 ?_
          refine lv_aload_n hx hb dX11_tellFits_58 rfl (lv_at hl 0 rfl) ?_
          refine gfR_X11_468 X I dX11_tellFits_59 ?_
          refine lv_bipush (v := 100) hx hb dX11_tellFits_62 (by decide) ?_
          refine lv_iload_n hx hb dX11_tellFits_64 rfl (lv_at hl 1 rfl) ?_
          refine lv_imul hx hb dX11_tellFits_65 ?_
          refine lv_iload_n hx hb dX11_tellFits_66 rfl (lv_at hl 3 rfl) ?_
          refine lv_iadd hx hb dX11_tellFits_67 ?_
          obtain ⟨hin, h⟩ := gd_some h
          refine iastR X I (kR_42 E) hin dX11_tellFits_68 (fun H locs I => ?_)
          obtain ⟨σ7, eσ7, h⟩ := lt_e h
          replace I := wi_nm eσ7 I
          refine lv_aload_n hx hb dX11_tellFits_69 rfl (lv_at hl 0 rfl) ?_
          refine lv_dup hx hb dX11_tellFits_70 rfl ?_
          refine gfR_X11_468 X I dX11_tellFits_71 ?_
          refine lv_iconst (v := 1) hx hb dX11_tellFits_74 (by decide) ?_
          refine lv_iadd hx hb dX11_tellFits_75 ?_
          refine pfR_X11_468 X I  dX11_tellFits_76 (fun H locs I => ?_)
          obtain ⟨σ8, eσ8, h⟩ := lt_e h
          replace I := wi_nm eσ8 I
          refine lv_iinc (v := (x3 + 1)) (lv' := [(3, .int (x3 + 1)), (0, .ref (ra E 0)), (1, .int x1), (2, .int x2)]) hx hb dX11_tellFits_79 hl (k := 3) rfl rfl (by decide) rfl (fun ls hl => ?_)
          refine lv_goto (tgt := 26) hx hb dX11_tellFits_82 (by decide) ?_
          exact ih σ8 (x3 + 1) h H locs ls I (lv_sub hl [1, 2, 3, 0] rfl)
        · have h := ite_t h c6
          refine lv_goto (tgt := 79) hx hb dX11_tellFits_51 (by decide) ?_
          refine lv_iinc (v := (x3 + 1)) (lv' := [(3, .int (x3 + 1)), (0, .ref (ra E 0)), (1, .int x1), (2, .int x2)]) hx hb dX11_tellFits_79 hl (k := 3) rfl rfl (by decide) rfl (fun ls hl => ?_)
          refine lv_goto (tgt := 26) hx hb dX11_tellFits_82 (by decide) ?_
          exact ih q5.2 (x3 + 1) h H locs ls I (lv_sub hl [1, 2, 3, 0] rfl)
set_option maxHeartbeats 4000000 in
set_option maxRecDepth 100000 in
theorem w_X11_tellFits_7 {p : Program} {l : Launch} {e : Env} {s : State} {m : MethodId} {args : Array Value} {below : List Frame} {meth : Method} {c : Code} {A : Nat → Prop} {E : RE} {q : Mem} (X : CX p s m meth c args cX11_tellFits 4 RX11 none) : ∀ (n : Nat), ∀ (σ : Mem) (x1 : Int32) , f_X11_tellFits_7 n σ x1 = some q → ∀ (H : Heap) (locs : List Loc) (ls : Array Slot), WI (vR E) A s H locs σ → lv_has ls 4 [(0, .ref (ra E 0)), (1, .int x1)] → W p l e rm_X11_tellFits s m args below meth c H locs 0 0 (MQ below (QV (vR E) A q) args s 0 0 A) (F0 m 7 ls []) := by
  have hx := X.1
  have hb := X.2.1
  intro n
  induction n with
  | zero =>
    intro σ x1 h
    cases h
  | succ n ih =>
    intro σ x1 h H locs ls I hl
    rw [f_X11_tellFits_7] at h
    refine lv_iload_n hx hb dX11_tellFits_7 rfl (lv_at hl 1 rfl) ?_
    refine lv_aload_n hx hb dX11_tellFits_8 rfl (lv_at hl 0 rfl) ?_
    refine gfR_X11_55 X I dX11_tellFits_9 ?_
    refine lv_iconst (v := 1) hx hb dX11_tellFits_12 (by decide) ?_
    obtain ⟨hin, h⟩ := gd_some h
    refine ialdR X I (kR_5 E) hin dX11_tellFits_13 ?_
    refine lv_icmp_ge (tgt := 98) hx hb dX11_tellFits_14 (by decide) (fun c1 => ?_) (fun c1 => ?_)
    · have h := ite_t h c1
      exact r_vret X I (Option.some.inj h).symm dX11_tellFits_98
    · have h := ite_f h c1
      refine lv_aload_n hx hb dX11_tellFits_17 rfl (lv_at hl 0 rfl) ?_
      refine gfR_X11_115 X I dX11_tellFits_18 ?_
      refine lv_iload_n hx hb dX11_tellFits_21 rfl (lv_at hl 1 rfl) ?_
      obtain ⟨hin, h⟩ := gd_some h
      refine ialdR X I (kR_25 E) hin dX11_tellFits_22 ?_
      obtain ⟨y2, ey2, h⟩ := lt_e h
      refine nm_i ey2 ?_
      refine lv_istore_n (lv' := [(2, .int y2), (0, .ref (ra E 0)), (1, .int x1)]) hx hb dX11_tellFits_23 rfl hl (by decide) rfl (fun ls hl => ?_)
      refine lv_iconst (v := 0) hx hb dX11_tellFits_24 (by decide) ?_
      refine lv_istore_n (lv' := [(3, .int (0 : Int32)), (2, .int y2), (0, .ref (ra E 0)), (1, .int x1)]) hx hb dX11_tellFits_25 rfl hl (by decide) rfl (fun ls hl => ?_)
      exact w_X11_tellFits_26 X  (fun σ a1 h H locs ls I hl => ih σ a1 h H locs ls I hl) KF σ (0 : Int32) h H locs ls I (lv_sub hl [2, 3, 1, 0] rfl)
set_option maxHeartbeats 4000000 in
set_option maxRecDepth 100000 in
theorem w_X11_tellFits_0 {p : Program} {l : Launch} {e : Env} {s : State} {m : MethodId} {args : Array Value} {below : List Frame} {meth : Method} {c : Code} {A : Nat → Prop} {E : RE} {q : Mem} (X : CX p s m meth c args cX11_tellFits 4 RX11 none) : ∀ (σ : Mem)  , m_X11_tellFits σ = some q → ∀ (H : Heap) (locs : List Loc) (ls : Array Slot), WI (vR E) A s H locs σ → lv_has ls 4 [(0, .ref (ra E 0))] → W p l e rm_X11_tellFits s m args below meth c H locs 0 0 (MQ below (QV (vR E) A q) args s 0 0 A) (F0 m 0 ls []) := by
  have hx := X.1
  have hb := X.2.1
  intro σ  h H locs ls I hl
  unfold m_X11_tellFits at h
  refine lv_aload_n hx hb dX11_tellFits_0 rfl (lv_at hl 0 rfl) ?_
  refine lv_iconst (v := 0) hx hb dX11_tellFits_1 (by decide) ?_
  refine pfR_X11_468 X I  dX11_tellFits_2 (fun H locs I => ?_)
  obtain ⟨σ1, eσ1, h⟩ := lt_e h
  replace I := wi_nm eσ1 I
  refine lv_iconst (v := 0) hx hb dX11_tellFits_5 (by decide) ?_
  refine lv_istore_n (lv' := [(1, .int (0 : Int32)), (0, .ref (ra E 0))]) hx hb dX11_tellFits_6 rfl hl (by decide) rfl (fun ls hl => ?_)
  exact w_X11_tellFits_7 X   KF σ1 (0 : Int32) h H locs ls I (lv_sub hl [1, 0] rfl)
theorem c_X11_tellFits {l : Launch} {E : RE} {σ : Mem} {q : Mem} (h : m_X11_tellFits σ = some q) : CV l (vR E) yX11_tellFits (.code yX11_tellFits cX11_tellFits 4 none :: GG) rm_X11_tellFits [.ref (ra E 0)] σ q :=
  mk_CV (by decide +kernel) (Nat.le_of_ble_eq_true rfl) (fun p e s m args below meth c A ls X I hl => w_X11_tellFits_0 X  σ  h s.heap [] ls I (lv_sub hl [0] rfl))

def rm_X11_pockets : Room := { frames := 8, cells := 0, slots := 0, locals := 230 }
def m_X11_pockets (σ : Mem) (x1 : Int32) : Option (Int32 × Mem) := (lt (ms σ 0 5 (0 : Int32)) fun σ1 => ((m_X11_isIn σ1 (Int32.toInt64 x1) (0 : Int64) (2 : Int64)).bind fun q2 => (if q2 = (0 : Int32) then ((m_X11_fail σ1 (1 : Int32)).bind fun q10 => (some (q10.1, q10.2))) else (if x1 = (2 : Int32) then ((m_X11_isAsSeen σ1).bind fun q8 => (if q8.1 = (0 : Int32) then (some ((0 : Int32), q8.2)) else (some ((1 : Int32), q8.2)))) else ((m_X11_tellFits σ1).bind fun q5 => (if x1 = (0 : Int32) then (some ((q5 0 61), q5)) else (if (q5 0 61) = (0 : Int32) then (some ((-1 : Int32), q5)) else (gd (0 : Int32) 147 (some ((q5 42 (Int32.toNatClampNeg (0 : Int32))), q5))))))))))
set_option maxHeartbeats 4000000 in
set_option maxRecDepth 100000 in
theorem w_X11_pockets_0 {p : Program} {l : Launch} {e : Env} {s : State} {m : MethodId} {args : Array Value} {below : List Frame} {meth : Method} {c : Code} {A : Nat → Prop} {E : RE} {q : Int32 × Mem} (X : CX p s m meth c args cX11_pockets 2 RX11 (some .int)) : ∀ (σ : Mem) (x1 : Int32) , m_X11_pockets σ x1 = some q → ∀ (H : Heap) (locs : List Loc) (ls : Array Slot), WI (vR E) A s H locs σ → lv_has ls 2 [(0, .ref (ra E 0)), (1, .int x1)] → W p l e rm_X11_pockets s m args below meth c H locs 0 0 (MQ below (QI (vR E) A q) args s 0 0 A) (F0 m 0 ls []) := by
  have hx := X.1
  have hb := X.2.1
  intro σ x1 h H locs ls I hl
  unfold m_X11_pockets at h
  refine lv_aload_n hx hb dX11_pockets_0 rfl (lv_at hl 0 rfl) ?_
  refine lv_iconst (v := 0) hx hb dX11_pockets_1 (by decide) ?_
  refine pfR_X11_195 X I  dX11_pockets_2 (fun H locs I => ?_)
  obtain ⟨σ1, eσ1, h⟩ := lt_e h
  replace I := wi_nm eσ1 I
  refine lv_iload_n hx hb dX11_pockets_5 rfl (lv_at hl 1 rfl) ?_
  refine lv_i2l hx hb dX11_pockets_6 rfl ?_
  refine lv_lconst (v := 0) hx hb dX11_pockets_7 (by decide) ?_
  refine lv_ldc2 hx hb X.2.2.2.1 (X.2.2.2.2.1 _ tw_1149) dX11_pockets_8 ?_
  obtain ⟨q2, hq2, h⟩ := bd h
  refine r_callSI (V := (vR E)) (As := [.long (Int32.toInt64 x1), .long (0 : Int64), .long (2 : Int64)]) (rest := []) X I hl (c_X11_isIn  hq2) ys_X11_isIn tw_801 ⟨rfl, rfl, Nat.le_of_ble_eq_true rfl, Nat.le_of_ble_eq_true rfl⟩ rfl rfl (Nat.le_of_ble_eq_true rfl) dX11_pockets_11 (fun H locs I => ?_)
  refine lv_if_ne (tgt := 23) hx hb dX11_pockets_14 (by decide) (fun c3 => ?_) (fun c3 => ?_)
  · have h := ite_f h c3
    refine lv_iload_n hx hb dX11_pockets_23 rfl (lv_at hl 1 rfl) ?_
    refine lv_iconst (v := 2) hx hb dX11_pockets_24 (by decide) ?_
    refine lv_icmp_ne (tgt := 41) hx hb dX11_pockets_25 (by decide) (fun c4 => ?_) (fun c4 => ?_)
    · have h := ite_f h c4
      refine lv_aload_n hx hb dX11_pockets_41 rfl (lv_at hl 0 rfl) ?_
      obtain ⟨q5, hq5, h⟩ := bd h
      refine r_callVV (V := (vR E)) (k := 0) (As := []) (rest := []) X I hl (c_X11_tellFits  hq5) yv_X11_tellFits tw_1150 ⟨rfl, rfl, Nat.le_of_ble_eq_true rfl, Nat.le_of_ble_eq_true rfl⟩ (Nat.le_of_ble_eq_true rfl) rfl rfl rfl rfl (Nat.le_of_ble_eq_true rfl) dX11_pockets_42 (fun H locs I => ?_)
      refine lv_iload_n hx hb dX11_pockets_45 rfl (lv_at hl 1 rfl) ?_
      refine lv_if_ne (tgt := 56) hx hb dX11_pockets_46 (by decide) (fun c6 => ?_) (fun c6 => ?_)
      · have h := ite_f h c6
        refine lv_aload_n hx hb dX11_pockets_56 rfl (lv_at hl 0 rfl) ?_
        refine gfR_X11_468 X I dX11_pockets_57 ?_
        refine lv_if_ne (tgt := 67) hx hb dX11_pockets_60 (by decide) (fun c7 => ?_) (fun c7 => ?_)
        · have h := ite_f h c7
          refine lv_aload_n hx hb dX11_pockets_67 rfl (lv_at hl 0 rfl) ?_
          refine gfR_X11_165 X I dX11_pockets_68 ?_
          refine lv_iconst (v := 0) hx hb dX11_pockets_71 (by decide) ?_
          obtain ⟨hin, h⟩ := gd_some h
          refine ialdR X I (kR_42 E) hin dX11_pockets_72 ?_
          exact r_iret X I (Option.some.inj h).symm dX11_pockets_73
        · have h := ite_t h c7
          refine lv_iconst (v := -1) hx hb dX11_pockets_63 (by decide) ?_
          refine lv_goto (tgt := 73) hx hb dX11_pockets_64 (by decide) ?_
          exact r_iret X I (Option.some.inj h).symm dX11_pockets_73
      · have h := ite_t h c6
        refine lv_aload_n hx hb dX11_pockets_49 rfl (lv_at hl 0 rfl) ?_
        refine gfR_X11_468 X I dX11_pockets_50 ?_
        refine lv_goto (tgt := 73) hx hb dX11_pockets_53 (by decide) ?_
        exact r_iret X I (Option.some.inj h).symm dX11_pockets_73
    · have h := ite_t h c4
      refine lv_aload_n hx hb dX11_pockets_28 rfl (lv_at hl 0 rfl) ?_
      obtain ⟨q8, hq8, h⟩ := bd h
      refine r_callVI (V := (vR E)) (k := 0) (As := []) (rest := []) X I hl (c_X11_isAsSeen  hq8) yv_X11_isAsSeen tw_1143 ⟨rfl, rfl, Nat.le_of_ble_eq_true rfl, Nat.le_of_ble_eq_true rfl⟩ (Nat.le_of_ble_eq_true rfl) rfl rfl rfl rfl (Nat.le_of_ble_eq_true rfl) dX11_pockets_29 (fun H locs I => ?_)
      refine lv_if_eq (tgt := 39) hx hb dX11_pockets_32 (by decide) (fun c9 => ?_) (fun c9 => ?_)
      · have h := ite_t h c9
        refine lv_iconst (v := 0) hx hb dX11_pockets_39 (by decide) ?_
        exact r_iret X I (Option.some.inj h).symm dX11_pockets_40
      · have h := ite_f h c9
        refine lv_iconst (v := 1) hx hb dX11_pockets_35 (by decide) ?_
        refine lv_goto (tgt := 40) hx hb dX11_pockets_36 (by decide) ?_
        exact r_iret X I (Option.some.inj h).symm dX11_pockets_40
  · have h := ite_t h c3
    refine lv_aload_n hx hb dX11_pockets_17 rfl (lv_at hl 0 rfl) ?_
    refine lv_iconst (v := 1) hx hb dX11_pockets_18 (by decide) ?_
    obtain ⟨q10, hq10, h⟩ := bd h
    refine r_callVI (V := (vR E)) (k := 0) (As := [.int (1 : Int32)]) (rest := []) X I hl (c_X11_fail  hq10) yv_X11_fail tw_957 ⟨rfl, rfl, Nat.le_of_ble_eq_true rfl, Nat.le_of_ble_eq_true rfl⟩ (Nat.le_of_ble_eq_true rfl) rfl rfl rfl rfl (Nat.le_of_ble_eq_true rfl) dX11_pockets_19 (fun H locs I => ?_)
    exact r_iret X I (Option.some.inj h).symm dX11_pockets_22
theorem c_X11_pockets {l : Launch} {E : RE} {σ : Mem} {x1 : Int32} {q : Int32 × Mem} (h : m_X11_pockets σ x1 = some q) : CI l (vR E) yX11_pockets (.code yX11_pockets cX11_pockets 2 (some .int) :: GG) rm_X11_pockets [.ref (ra E 0), .int x1] σ q :=
  mk_CI (by decide +kernel) (Nat.le_of_ble_eq_true rfl) (fun p e s m args below meth c A ls X I hl => w_X11_pockets_0 X  σ x1 h s.heap [] ls I (lv_sub hl [0, 1] rfl))

def rm_X11_unlike : Room := { frames := 1, cells := 0, slots := 0, locals := 64 }
def f_X11_unlike_18 (k4 : Mem → Int32 → Int32 → Option (Int32)) (x1 : Int32) (x2 : Int32) (x3 : Int32) : Nat → Mem → Int32 → Int32 → Option (Int32)
  | 0, _, _, _ => none
  | n + 1, σ, x4, x5 => (if x3 ≤ x5 then (if x4 = (0 : Int32) then (lt (x2 + (0 : Int32)) fun y3 => (k4 σ y3 (x3 + 1))) else (lt (x2 + (1 : Int32)) fun y4 => (k4 σ y4 (x3 + 1)))) else (if x4 = (0 : Int32) then (if x4 = (0 : Int32) then (lt (x2 + (0 : Int32)) fun y7 => (k4 σ y7 (x3 + 1))) else (lt (x2 + (1 : Int32)) fun y8 => (k4 σ y8 (x3 + 1)))) else (gd (((8 : Int32) * x5) + x1) 1176 (gd (((8 : Int32) * x3) + x1) 1176 (if (σ 43 (Int32.toNatClampNeg (((8 : Int32) * x5) + x1))) = (σ 43 (Int32.toNatClampNeg (((8 : Int32) * x3) + x1))) then f_X11_unlike_18 k4 x1 x2 x3 n σ (0 : Int32) (x5 + 1) else f_X11_unlike_18 k4 x1 x2 x3 n σ (1 : Int32) (x5 + 1))))))
def f_X11_unlike_4 (x1 : Int32) : Nat → Mem → Int32 → Int32 → Option (Int32)
  | 0, _, _, _ => none
  | n + 1, σ, x2, x3 => (if (σ 0 61) ≤ x3 then (some x2) else (f_X11_unlike_18 (f_X11_unlike_4 x1 n) x1 x2 x3 KF σ (1 : Int32) (0 : Int32)))
def m_X11_unlike (σ : Mem) (x1 : Int32) : Option (Int32) := (f_X11_unlike_4 x1 KF σ (0 : Int32) (0 : Int32))
set_option maxHeartbeats 4000000 in
set_option maxRecDepth 100000 in
theorem w_X11_unlike_18 {p : Program} {l : Launch} {e : Env} {s : State} {m : MethodId} {args : Array Value} {below : List Frame} {meth : Method} {c : Code} {A : Nat → Prop} {E : RE} {q : Int32} (X : CX p s m meth c args cX11_unlike 6 RX11 (some .int)) {x1 : Int32} {x2 : Int32} {x3 : Int32} {k4 : Mem → Int32 → Int32 → Option (Int32)} (hk4 : ∀ (σ : Mem) (x2 : Int32) (x3 : Int32) , k4 σ x2 x3 = some q → ∀ (H : Heap) (locs : List Loc) (ls : Array Slot), WI (vR E) A s H locs σ → lv_has ls 6 [(0, .ref (ra E 0)), (1, .int x1), (2, .int x2), (3, .int x3)] → W p l e rm_X11_unlike s m args below meth c H locs 0 0 (MQ below (QI (vR E) A (q, σ)) args s 0 0 A) (F0 m 4 ls [])) : ∀ (n : Nat), ∀ (σ : Mem) (x4 : Int32) (x5 : Int32) , f_X11_unlike_18 k4 x1 x2 x3 n σ x4 x5 = some q → ∀ (H : Heap) (locs : List Loc) (ls : Array Slot), WI (vR E) A s H locs σ → lv_has ls 6 [(0, .ref (ra E 0)), (1, .int x1), (2, .int x2), (3, .int x3), (4, .int x4), (5, .int x5)] → W p l e rm_X11_unlike s m args below meth c H locs 0 0 (MQ below (QI (vR E) A (q, σ)) args s 0 0 A) (F0 m 18 ls []) := by
  have hx := X.1
  have hb := X.2.1
  intro n
  induction n with
  | zero =>
    intro σ x4 x5 h
    cases h
  | succ n ih =>
    intro σ x4 x5 h H locs ls I hl
    rw [f_X11_unlike_18] at h
    refine lv_iload hx hb dX11_unlike_18 (lv_at hl 5 rfl) ?_
    refine lv_iload_n hx hb dX11_unlike_20 rfl (lv_at hl 3 rfl) ?_
    refine lv_icmp_ge (tgt := 68) hx hb dX11_unlike_21 (by decide) (fun c1 => ?_) (fun c1 => ?_)
    · have h := ite_t h c1
      refine lv_iload_n hx hb dX11_unlike_68 rfl (lv_at hl 2 rfl) ?_
      refine lv_iload hx hb dX11_unlike_69 (lv_at hl 4 rfl) ?_
      refine lv_if_eq (tgt := 78) hx hb dX11_unlike_71 (by decide) (fun c2 => ?_) (fun c2 => ?_)
      · have h := ite_t h c2
        refine lv_iconst (v := 0) hx hb dX11_unlike_78 (by decide) ?_
        refine lv_iadd hx hb dX11_unlike_79 ?_
        obtain ⟨y3, ey3, h⟩ := lt_e h
        refine nm_i ey3 ?_
        refine lv_istore_n (lv' := [(2, .int y3), (0, .ref (ra E 0)), (1, .int x1), (3, .int x3), (4, .int x4), (5, .int x5)]) hx hb dX11_unlike_80 rfl hl (by decide) rfl (fun ls hl => ?_)
        refine lv_iinc (v := (x3 + 1)) (lv' := [(3, .int (x3 + 1)), (2, .int y3), (0, .ref (ra E 0)), (1, .int x1), (4, .int x4), (5, .int x5)]) hx hb dX11_unlike_81 hl (k := 3) rfl rfl (by decide) rfl (fun ls hl => ?_)
        refine lv_goto (tgt := 4) hx hb dX11_unlike_84 (by decide) ?_
        exact hk4 σ y3 (x3 + 1) h H locs ls I (lv_sub hl [2, 3, 1, 0] rfl)
      · have h := ite_f h c2
        refine lv_iconst (v := 1) hx hb dX11_unlike_74 (by decide) ?_
        refine lv_goto (tgt := 79) hx hb dX11_unlike_75 (by decide) ?_
        refine lv_iadd hx hb dX11_unlike_79 ?_
        obtain ⟨y4, ey4, h⟩ := lt_e h
        refine nm_i ey4 ?_
        refine lv_istore_n (lv' := [(2, .int y4), (0, .ref (ra E 0)), (1, .int x1), (3, .int x3), (4, .int x4), (5, .int x5)]) hx hb dX11_unlike_80 rfl hl (by decide) rfl (fun ls hl => ?_)
        refine lv_iinc (v := (x3 + 1)) (lv' := [(3, .int (x3 + 1)), (2, .int y4), (0, .ref (ra E 0)), (1, .int x1), (4, .int x4), (5, .int x5)]) hx hb dX11_unlike_81 hl (k := 3) rfl rfl (by decide) rfl (fun ls hl => ?_)
        refine lv_goto (tgt := 4) hx hb dX11_unlike_84 (by decide) ?_
        exact hk4 σ y4 (x3 + 1) h H locs ls I (lv_sub hl [2, 3, 1, 0] rfl)
    · have h := ite_f h c1
      refine lv_iload hx hb dX11_unlike_24 (lv_at hl 4 rfl) ?_
      refine lv_if_eq (tgt := 68) hx hb dX11_unlike_26 (by decide) (fun c5 => ?_) (fun c5 => ?_)
      · have h := ite_t h c5
        refine lv_iload_n hx hb dX11_unlike_68 rfl (lv_at hl 2 rfl) ?_
        refine lv_iload hx hb dX11_unlike_69 (lv_at hl 4 rfl) ?_
        refine lv_if_eq (tgt := 78) hx hb dX11_unlike_71 (by decide) (fun c6 => ?_) (fun c6 => ?_)
        · have h := ite_t h c6
          refine lv_iconst (v := 0) hx hb dX11_unlike_78 (by decide) ?_
          refine lv_iadd hx hb dX11_unlike_79 ?_
          obtain ⟨y7, ey7, h⟩ := lt_e h
          refine nm_i ey7 ?_
          refine lv_istore_n (lv' := [(2, .int y7), (0, .ref (ra E 0)), (1, .int x1), (3, .int x3), (4, .int x4), (5, .int x5)]) hx hb dX11_unlike_80 rfl hl (by decide) rfl (fun ls hl => ?_)
          refine lv_iinc (v := (x3 + 1)) (lv' := [(3, .int (x3 + 1)), (2, .int y7), (0, .ref (ra E 0)), (1, .int x1), (4, .int x4), (5, .int x5)]) hx hb dX11_unlike_81 hl (k := 3) rfl rfl (by decide) rfl (fun ls hl => ?_)
          refine lv_goto (tgt := 4) hx hb dX11_unlike_84 (by decide) ?_
          exact hk4 σ y7 (x3 + 1) h H locs ls I (lv_sub hl [2, 3, 1, 0] rfl)
        · have h := ite_f h c6
          refine lv_iconst (v := 1) hx hb dX11_unlike_74 (by decide) ?_
          refine lv_goto (tgt := 79) hx hb dX11_unlike_75 (by decide) ?_
          refine lv_iadd hx hb dX11_unlike_79 ?_
          obtain ⟨y8, ey8, h⟩ := lt_e h
          refine nm_i ey8 ?_
          refine lv_istore_n (lv' := [(2, .int y8), (0, .ref (ra E 0)), (1, .int x1), (3, .int x3), (4, .int x4), (5, .int x5)]) hx hb dX11_unlike_80 rfl hl (by decide) rfl (fun ls hl => ?_)
          refine lv_iinc (v := (x3 + 1)) (lv' := [(3, .int (x3 + 1)), (2, .int y8), (0, .ref (ra E 0)), (1, .int x1), (4, .int x4), (5, .int x5)]) hx hb dX11_unlike_81 hl (k := 3) rfl rfl (by decide) rfl (fun ls hl => ?_)
          refine lv_goto (tgt := 4) hx hb dX11_unlike_84 (by decide) ?_
          exact hk4 σ y8 (x3 + 1) h H locs ls I (lv_sub hl [2, 3, 1, 0] rfl)
      · have h := ite_f h c5
        refine lv_aload_n hx hb dX11_unlike_29 rfl (lv_at hl 0 rfl) ?_
        refine gfR_X11_168 X I dX11_unlike_30 ?_
        refine lv_bipush (v := 8) hx hb dX11_unlike_33 (by decide) ?_
        refine lv_iload hx hb dX11_unlike_35 (lv_at hl 5 rfl) ?_
        refine lv_imul hx hb dX11_unlike_37 ?_
        refine lv_iload_n hx hb dX11_unlike_38 rfl (lv_at hl 1 rfl) ?_
        refine lv_iadd hx hb dX11_unlike_39 ?_
        obtain ⟨hin, h⟩ := gd_some h
        refine ialdR X I (kR_43 E) hin dX11_unlike_40 ?_
        refine lv_aload_n hx hb dX11_unlike_41 rfl (lv_at hl 0 rfl) ?_
        refine gfR_X11_168 X I dX11_unlike_42 ?_
        refine lv_bipush (v := 8) hx hb dX11_unlike_45 (by decide) ?_
        refine lv_iload_n hx hb dX11_unlike_47 rfl (lv_at hl 3 rfl) ?_
        refine lv_imul hx hb dX11_unlike_48 ?_
        refine lv_iload_n hx hb dX11_unlike_49 rfl (lv_at hl 1 rfl) ?_
        refine lv_iadd hx hb dX11_unlike_50 ?_
        obtain ⟨hin, h⟩ := gd_some h
        refine ialdR X I (kR_43 E) hin dX11_unlike_51 ?_
        refine lv_icmp_eq (tgt := 59) hx hb dX11_unlike_52 (by decide) (fun c9 => ?_) (fun c9 => ?_)
        · have h := ite_t h c9
          refine lv_iconst (v := 0) hx hb dX11_unlike_59 (by decide) ?_
          refine lv_istore (lv' := [(4, .int (0 : Int32)), (0, .ref (ra E 0)), (1, .int x1), (2, .int x2), (3, .int x3), (5, .int x5)]) hx hb dX11_unlike_60 hl (by decide) rfl (fun ls hl => ?_)
          refine lv_iinc (v := (x5 + 1)) (lv' := [(5, .int (x5 + 1)), (4, .int (0 : Int32)), (0, .ref (ra E 0)), (1, .int x1), (2, .int x2), (3, .int x3)]) hx hb dX11_unlike_62 hl (k := 5) rfl rfl (by decide) rfl (fun ls hl => ?_)
          refine lv_goto (tgt := 18) hx hb dX11_unlike_65 (by decide) ?_
          exact ih σ (0 : Int32) (x5 + 1) h H locs ls I (lv_sub hl [2, 3, 4, 5, 1, 0] rfl)
        · have h := ite_f h c9
          refine lv_iconst (v := 1) hx hb dX11_unlike_55 (by decide) ?_
          refine lv_goto (tgt := 60) hx hb dX11_unlike_56 (by decide) ?_
          refine lv_istore (lv' := [(4, .int (1 : Int32)), (0, .ref (ra E 0)), (1, .int x1), (2, .int x2), (3, .int x3), (5, .int x5)]) hx hb dX11_unlike_60 hl (by decide) rfl (fun ls hl => ?_)
          refine lv_iinc (v := (x5 + 1)) (lv' := [(5, .int (x5 + 1)), (4, .int (1 : Int32)), (0, .ref (ra E 0)), (1, .int x1), (2, .int x2), (3, .int x3)]) hx hb dX11_unlike_62 hl (k := 5) rfl rfl (by decide) rfl (fun ls hl => ?_)
          refine lv_goto (tgt := 18) hx hb dX11_unlike_65 (by decide) ?_
          exact ih σ (1 : Int32) (x5 + 1) h H locs ls I (lv_sub hl [2, 3, 4, 5, 1, 0] rfl)
set_option maxHeartbeats 4000000 in
set_option maxRecDepth 100000 in
theorem w_X11_unlike_4 {p : Program} {l : Launch} {e : Env} {s : State} {m : MethodId} {args : Array Value} {below : List Frame} {meth : Method} {c : Code} {A : Nat → Prop} {E : RE} {q : Int32} (X : CX p s m meth c args cX11_unlike 6 RX11 (some .int)) {x1 : Int32} : ∀ (n : Nat), ∀ (σ : Mem) (x2 : Int32) (x3 : Int32) , f_X11_unlike_4 x1 n σ x2 x3 = some q → ∀ (H : Heap) (locs : List Loc) (ls : Array Slot), WI (vR E) A s H locs σ → lv_has ls 6 [(0, .ref (ra E 0)), (1, .int x1), (2, .int x2), (3, .int x3)] → W p l e rm_X11_unlike s m args below meth c H locs 0 0 (MQ below (QI (vR E) A (q, σ)) args s 0 0 A) (F0 m 4 ls []) := by
  have hx := X.1
  have hb := X.2.1
  intro n
  induction n with
  | zero =>
    intro σ x2 x3 h
    cases h
  | succ n ih =>
    intro σ x2 x3 h H locs ls I hl
    rw [f_X11_unlike_4] at h
    refine lv_iload_n hx hb dX11_unlike_4 rfl (lv_at hl 3 rfl) ?_
    refine lv_aload_n hx hb dX11_unlike_5 rfl (lv_at hl 0 rfl) ?_
    refine gfR_X11_468 X I dX11_unlike_6 ?_
    refine lv_icmp_ge (tgt := 87) hx hb dX11_unlike_9 (by decide) (fun c1 => ?_) (fun c1 => ?_)
    · have h := ite_t h c1
      refine lv_iload_n hx hb dX11_unlike_87 rfl (lv_at hl 2 rfl) ?_
      exact r_iret X I (congrArg (fun z => (z, σ)) (Option.some.inj h).symm) dX11_unlike_88
    · have h := ite_f h c1
      refine lv_iconst (v := 1) hx hb dX11_unlike_12 (by decide) ?_
      refine lv_istore (lv' := [(4, .int (1 : Int32)), (0, .ref (ra E 0)), (1, .int x1), (2, .int x2), (3, .int x3)]) hx hb dX11_unlike_13 hl (by decide) rfl (fun ls hl => ?_)
      refine lv_iconst (v := 0) hx hb dX11_unlike_15 (by decide) ?_
      refine lv_istore (lv' := [(5, .int (0 : Int32)), (4, .int (1 : Int32)), (0, .ref (ra E 0)), (1, .int x1), (2, .int x2), (3, .int x3)]) hx hb dX11_unlike_16 hl (by decide) rfl (fun ls hl => ?_)
      exact w_X11_unlike_18 X  (fun σ a2 a3 h H locs ls I hl => ih σ a2 a3 h H locs ls I hl) KF σ (1 : Int32) (0 : Int32) h H locs ls I (lv_sub hl [2, 3, 4, 5, 1, 0] rfl)
set_option maxHeartbeats 4000000 in
set_option maxRecDepth 100000 in
theorem w_X11_unlike_0 {p : Program} {l : Launch} {e : Env} {s : State} {m : MethodId} {args : Array Value} {below : List Frame} {meth : Method} {c : Code} {A : Nat → Prop} {E : RE} {q : Int32} (X : CX p s m meth c args cX11_unlike 6 RX11 (some .int)) : ∀ (σ : Mem) (x1 : Int32) , m_X11_unlike σ x1 = some q → ∀ (H : Heap) (locs : List Loc) (ls : Array Slot), WI (vR E) A s H locs σ → lv_has ls 6 [(0, .ref (ra E 0)), (1, .int x1)] → W p l e rm_X11_unlike s m args below meth c H locs 0 0 (MQ below (QI (vR E) A (q, σ)) args s 0 0 A) (F0 m 0 ls []) := by
  have hx := X.1
  have hb := X.2.1
  intro σ x1 h H locs ls I hl
  unfold m_X11_unlike at h
  refine lv_iconst (v := 0) hx hb dX11_unlike_0 (by decide) ?_
  refine lv_istore_n (lv' := [(2, .int (0 : Int32)), (0, .ref (ra E 0)), (1, .int x1)]) hx hb dX11_unlike_1 rfl hl (by decide) rfl (fun ls hl => ?_)
  refine lv_iconst (v := 0) hx hb dX11_unlike_2 (by decide) ?_
  refine lv_istore_n (lv' := [(3, .int (0 : Int32)), (2, .int (0 : Int32)), (0, .ref (ra E 0)), (1, .int x1)]) hx hb dX11_unlike_3 rfl hl (by decide) rfl (fun ls hl => ?_)
  exact w_X11_unlike_4 X   KF σ (0 : Int32) (0 : Int32) h H locs ls I (lv_sub hl [2, 3, 1, 0] rfl)
theorem c_X11_unlike {l : Launch} {E : RE} {σ : Mem} {x1 : Int32} {q : Int32} (h : m_X11_unlike σ x1 = some q) : CI l (vR E) yX11_unlike (.code yX11_unlike cX11_unlike 6 (some .int) :: GG) rm_X11_unlike [.ref (ra E 0), .int x1] σ (q, σ) :=
  mk_CI (by decide +kernel) (Nat.le_of_ble_eq_true rfl) (fun p e s m args below meth c A ls X I hl => w_X11_unlike_0 X  σ x1 h s.heap [] ls I (lv_sub hl [0, 1] rfl))

def rm_X11_look : Room := { frames := 8, cells := 0, slots := 0, locals := 230 }
def f_X11_look_123 (x1 : Int32) : Nat → Mem → Int32 → Int32 → Int32 → Option (Int32 × Mem)
  | 0, _, _, _, _ => none
  | n + 1, σ, x2, x3, x4 => (gd (0 : Int32) 10 (if (σ 5 (Int32.toNatClampNeg (0 : Int32))) ≤ x4 then (if x1 = (0 : Int32) then (some (x2, σ)) else (some (x3, σ))) else ((m_X11_unlike σ x4).bind fun q3 => (if x3 < q3 then f_X11_look_123 x1 n σ x4 q3 (x4 + 1) else f_X11_look_123 x1 n σ x2 x3 (x4 + 1)))))
def f_X11_look_72 (k35 : Mem → Int32 → Option (Int32 × Mem)) (x1 : Int32) (x2 : Int32) : Nat → Mem → Int32 → Option (Int32 × Mem)
  | 0, _, _ => none
  | n + 1, σ, x3 => (if (8 : Int32) ≤ x3 then ((m_X11_unpack 34 64 σ (0 : Int32)).bind fun q2 => (k35 q2 (x2 + 1))) else (gd x3 8 (gd (((8 : Int32) * x2) + x3) 1176 (lt (ms σ 43 (Int32.toNatClampNeg (((8 : Int32) * x2) + x3)) ((σ 23 (Int32.toNatClampNeg x3)))) fun σ3 => f_X11_look_72 k35 x1 x2 n σ3 (x3 + 1)))))
def f_X11_look_35 (x1 : Int32) : Nat → Mem → Int32 → Option (Int32 × Mem)
  | 0, _, _ => none
  | n + 1, σ, x2 => (if (σ 0 61) ≤ x2 then (f_X11_look_123 x1 KF σ (-1 : Int32) (0 : Int32) (0 : Int32)) else (gd x2 147 (gnz (100 : Int32) (gd x2 147 (gnz (100 : Int32) (gd ((σ 42 (Int32.toNatClampNeg x2)) / (100 : Int32)) 7 (lt (ms σ 25 (Int32.toNatClampNeg ((σ 42 (Int32.toNatClampNeg x2)) / (100 : Int32))) (((σ 42 (Int32.toNatClampNeg x2)) - (σ 42 (Int32.toNatClampNeg x2)) / (100 : Int32) * (100 : Int32)))) fun σ2 => ((m_X11_aQuarter σ2).bind fun q3 => (f_X11_look_72 (f_X11_look_35 x1 n) x1 x2 KF q3 (0 : Int32))))))))))
def m_X11_look (σ : Mem) (x1 : Int32) : Option (Int32 × Mem) := (lt (ms σ 0 5 (0 : Int32)) fun σ1 => (if x1 < (0 : Int32) then ((m_X11_fail σ1 (1 : Int32)).bind fun q3 => (some (q3.1, q3.2))) else (if x1 ≤ (1 : Int32) then ((m_X11_tellFits σ1).bind fun q5 => ((m_X11_pack 34 64 q5 (0 : Int32)).bind fun q6 => (f_X11_look_35 x1 KF q6 (0 : Int32)))) else ((m_X11_fail σ1 (1 : Int32)).bind fun q7 => (some (q7.1, q7.2))))))
set_option maxHeartbeats 4000000 in
set_option maxRecDepth 100000 in
theorem w_X11_look_123 {p : Program} {l : Launch} {e : Env} {s : State} {m : MethodId} {args : Array Value} {below : List Frame} {meth : Method} {c : Code} {A : Nat → Prop} {E : RE} {q : Int32 × Mem} (X : CX p s m meth c args cX11_look 6 RX11 (some .int)) {x1 : Int32} : ∀ (n : Nat), ∀ (σ : Mem) (x2 : Int32) (x3 : Int32) (x4 : Int32) , f_X11_look_123 x1 n σ x2 x3 x4 = some q → ∀ (H : Heap) (locs : List Loc) (ls : Array Slot), WI (vR E) A s H locs σ → lv_has ls 6 [(0, .ref (ra E 0)), (1, .int x1), (2, .int x2), (3, .int x3), (4, .int x4)] → W p l e rm_X11_look s m args below meth c H locs 0 0 (MQ below (QI (vR E) A q) args s 0 0 A) (F0 m 123 ls []) := by
  have hx := X.1
  have hb := X.2.1
  intro n
  induction n with
  | zero =>
    intro σ x2 x3 x4 h
    cases h
  | succ n ih =>
    intro σ x2 x3 x4 h H locs ls I hl
    rw [f_X11_look_123] at h
    refine lv_iload hx hb dX11_look_123 (lv_at hl 4 rfl) ?_
    refine lv_aload_n hx hb dX11_look_125 rfl (lv_at hl 0 rfl) ?_
    refine gfR_X11_55 X I dX11_look_126 ?_
    refine lv_iconst (v := 0) hx hb dX11_look_129 (by decide) ?_
    obtain ⟨hin, h⟩ := gd_some h
    refine ialdR X I (kR_5 E) hin dX11_look_130 ?_
    refine lv_icmp_ge (tgt := 163) hx hb dX11_look_131 (by decide) (fun c1 => ?_) (fun c1 => ?_)
    · have h := ite_t h c1
      refine lv_iload_n hx hb dX11_look_163 rfl (lv_at hl 1 rfl) ?_
      refine lv_if_ne (tgt := 171) hx hb dX11_look_164 (by decide) (fun c2 => ?_) (fun c2 => ?_)
      · have h := ite_f h c2
        refine lv_iload_n hx hb dX11_look_171 rfl (lv_at hl 3 rfl) ?_
        exact r_iret X I (Option.some.inj h).symm dX11_look_172
      · have h := ite_t h c2
        refine lv_iload_n hx hb dX11_look_167 rfl (lv_at hl 2 rfl) ?_
        refine lv_goto (tgt := 172) hx hb dX11_look_168 (by decide) ?_
        exact r_iret X I (Option.some.inj h).symm dX11_look_172
    · have h := ite_f h c1
      refine lv_aload_n hx hb dX11_look_134 rfl (lv_at hl 0 rfl) ?_
      refine lv_iload hx hb dX11_look_135 (lv_at hl 4 rfl) ?_
      obtain ⟨q3, hq3, h⟩ := bd h
      refine r_callVI (V := (vR E)) (k := 0) (As := [.int x4]) (rest := []) X I hl (c_X11_unlike  hq3) yv_X11_unlike tw_1156 ⟨rfl, rfl, Nat.le_of_ble_eq_true rfl, Nat.le_of_ble_eq_true rfl⟩ (Nat.le_of_ble_eq_true rfl) rfl rfl rfl rfl (Nat.le_of_ble_eq_true rfl) dX11_look_137 (fun H locs I => ?_)
      refine lv_istore (lv' := [(5, .int q3), (0, .ref (ra E 0)), (1, .int x1), (2, .int x2), (3, .int x3), (4, .int x4)]) hx hb dX11_look_140 hl (by decide) rfl (fun ls hl => ?_)
      refine lv_iload hx hb dX11_look_142 (lv_at hl 0 rfl) ?_
      refine lv_iload_n hx hb dX11_look_144 rfl (lv_at hl 4 rfl) ?_
      refine lv_icmp_gt (tgt := 151) hx hb dX11_look_145 (by decide) (fun c4 => ?_) (fun c4 => ?_)
      · have h := ite_t h c4
        refine lv_iload hx hb dX11_look_151 (lv_at hl 5 rfl) ?_
        refine lv_istore_n (lv' := [(2, .int x4), (5, .int q3), (0, .ref (ra E 0)), (1, .int x1), (3, .int x3), (4, .int x4)]) hx hb dX11_look_153 rfl hl (by decide) rfl (fun ls hl => ?_)
        refine lv_iload hx hb dX11_look_154 (lv_at hl 1 rfl) ?_
        refine lv_istore_n (lv' := [(3, .int q3), (2, .int x4), (5, .int q3), (0, .ref (ra E 0)), (1, .int x1), (4, .int x4)]) hx hb dX11_look_156 rfl hl (by decide) rfl (fun ls hl => ?_)
        refine lv_iinc (v := (x4 + 1)) (lv' := [(4, .int (x4 + 1)), (3, .int q3), (2, .int x4), (5, .int q3), (0, .ref (ra E 0)), (1, .int x1)]) hx hb dX11_look_157 hl (k := 5) rfl rfl (by decide) rfl (fun ls hl => ?_)
        refine lv_goto (tgt := 123) hx hb dX11_look_160 (by decide) ?_
        exact ih σ x4 q3 (x4 + 1) h H locs ls I (lv_sub hl [4, 5, 2, 1, 0] rfl)
      · have h := ite_f h c4
        refine lv_goto (tgt := 157) hx hb dX11_look_148 (by decide) ?_
        refine lv_iinc (v := (x4 + 1)) (lv' := [(4, .int (x4 + 1)), (5, .int q3), (0, .ref (ra E 0)), (1, .int x1), (2, .int x2), (3, .int x3)]) hx hb dX11_look_157 hl (k := 5) rfl rfl (by decide) rfl (fun ls hl => ?_)
        refine lv_goto (tgt := 123) hx hb dX11_look_160 (by decide) ?_
        exact ih σ x2 x3 (x4 + 1) h H locs ls I (lv_sub hl [2, 3, 4, 5, 0] rfl)
set_option maxHeartbeats 4000000 in
set_option maxRecDepth 100000 in
theorem w_X11_look_72 {p : Program} {l : Launch} {e : Env} {s : State} {m : MethodId} {args : Array Value} {below : List Frame} {meth : Method} {c : Code} {A : Nat → Prop} {E : RE} {q : Int32 × Mem} (X : CX p s m meth c args cX11_look 6 RX11 (some .int)) {x1 : Int32} {x2 : Int32} {k35 : Mem → Int32 → Option (Int32 × Mem)} (hk35 : ∀ (σ : Mem) (x2 : Int32) , k35 σ x2 = some q → ∀ (H : Heap) (locs : List Loc) (ls : Array Slot), WI (vR E) A s H locs σ → lv_has ls 6 [(0, .ref (ra E 0)), (1, .int x1), (2, .int x2)] → W p l e rm_X11_look s m args below meth c H locs 0 0 (MQ below (QI (vR E) A q) args s 0 0 A) (F0 m 35 ls [])) : ∀ (n : Nat), ∀ (σ : Mem) (x3 : Int32) , f_X11_look_72 k35 x1 x2 n σ x3 = some q → ∀ (H : Heap) (locs : List Loc) (ls : Array Slot), WI (vR E) A s H locs σ → lv_has ls 6 [(0, .ref (ra E 0)), (1, .int x1), (2, .int x2), (3, .int x3)] → W p l e rm_X11_look s m args below meth c H locs 0 0 (MQ below (QI (vR E) A q) args s 0 0 A) (F0 m 72 ls []) := by
  have hx := X.1
  have hb := X.2.1
  intro n
  induction n with
  | zero =>
    intro σ x3 h
    cases h
  | succ n ih =>
    intro σ x3 h H locs ls I hl
    rw [f_X11_look_72] at h
    refine lv_iload_n hx hb dX11_look_72 rfl (lv_at hl 3 rfl) ?_
    refine lv_bipush (v := 8) hx hb dX11_look_73 (by decide) ?_
    refine lv_icmp_ge (tgt := 101) hx hb dX11_look_75 (by decide) (fun c1 => ?_) (fun c1 => ?_)
    · have h := ite_t h c1
      refine lv_aload_n hx hb dX11_look_101 rfl (lv_at hl 0 rfl) ?_
      refine lv_aload_n hx hb dX11_look_102 rfl (lv_at hl 0 rfl) ?_
      refine gfR_X11_140 X I dX11_look_103 ?_
      refine lv_iconst (v := 0) hx hb dX11_look_106 (by decide) ?_
      obtain ⟨q2, hq2, h⟩ := bd h
      refine r_callVV (V := (vR E)) (k := 0) (As := [.ref (ra E 34), .int (0 : Int32)]) (rest := []) X I hl (c_X11_unpack (kR_34 E) hq2) yv_X11_unpack tw_1095 ⟨rfl, rfl, Nat.le_of_ble_eq_true rfl, Nat.le_of_ble_eq_true rfl⟩ (Nat.le_of_ble_eq_true rfl) rfl rfl rfl rfl (Nat.le_of_ble_eq_true rfl) dX11_look_107 (fun H locs I => ?_)
      refine lv_iinc (v := (x2 + 1)) (lv' := [(2, .int (x2 + 1)), (0, .ref (ra E 0)), (1, .int x1), (3, .int x3)]) hx hb dX11_look_110 hl (k := 2) rfl rfl (by decide) rfl (fun ls hl => ?_)
      refine lv_goto (tgt := 35) hx hb dX11_look_113 (by decide) ?_
      exact hk35 q2 (x2 + 1) h H locs ls I (lv_sub hl [1, 2, 0] rfl)
    · have h := ite_f h c1
      refine lv_aload_n hx hb dX11_look_78 rfl (lv_at hl 0 rfl) ?_
      refine gfR_X11_168 X I dX11_look_79 ?_
      refine lv_bipush (v := 8) hx hb dX11_look_82 (by decide) ?_
      refine lv_iload_n hx hb dX11_look_84 rfl (lv_at hl 2 rfl) ?_
      refine lv_imul hx hb dX11_look_85 ?_
      refine lv_iload_n hx hb dX11_look_86 rfl (lv_at hl 3 rfl) ?_
      refine lv_iadd hx hb dX11_look_87 ?_
      refine lv_aload_n hx hb dX11_look_88 rfl (lv_at hl 0 rfl) ?_
      refine gfR_X11_110 X I dX11_look_89 ?_
      refine lv_iload_n hx hb dX11_look_92 rfl (lv_at hl 3 rfl) ?_
      obtain ⟨hin, h⟩ := gd_some h
      refine ialdR X I (kR_23 E) hin dX11_look_93 ?_
      obtain ⟨hin, h⟩ := gd_some h
      refine iastR X I (kR_43 E) hin dX11_look_94 (fun H locs I => ?_)
      obtain ⟨σ3, eσ3, h⟩ := lt_e h
      replace I := wi_nm eσ3 I
      refine lv_iinc (v := (x3 + 1)) (lv' := [(3, .int (x3 + 1)), (0, .ref (ra E 0)), (1, .int x1), (2, .int x2)]) hx hb dX11_look_95 hl (k := 3) rfl rfl (by decide) rfl (fun ls hl => ?_)
      refine lv_goto (tgt := 72) hx hb dX11_look_98 (by decide) ?_
      exact ih σ3 (x3 + 1) h H locs ls I (lv_sub hl [1, 2, 3, 0] rfl)
set_option maxHeartbeats 4000000 in
set_option maxRecDepth 100000 in
theorem w_X11_look_35 {p : Program} {l : Launch} {e : Env} {s : State} {m : MethodId} {args : Array Value} {below : List Frame} {meth : Method} {c : Code} {A : Nat → Prop} {E : RE} {q : Int32 × Mem} (X : CX p s m meth c args cX11_look 6 RX11 (some .int)) {x1 : Int32} : ∀ (n : Nat), ∀ (σ : Mem) (x2 : Int32) , f_X11_look_35 x1 n σ x2 = some q → ∀ (H : Heap) (locs : List Loc) (ls : Array Slot), WI (vR E) A s H locs σ → lv_has ls 6 [(0, .ref (ra E 0)), (1, .int x1), (2, .int x2)] → W p l e rm_X11_look s m args below meth c H locs 0 0 (MQ below (QI (vR E) A q) args s 0 0 A) (F0 m 35 ls []) := by
  have hx := X.1
  have hb := X.2.1
  intro n
  induction n with
  | zero =>
    intro σ x2 h
    cases h
  | succ n ih =>
    intro σ x2 h H locs ls I hl
    rw [f_X11_look_35] at h
    refine lv_iload_n hx hb dX11_look_35 rfl (lv_at hl 2 rfl) ?_
    refine lv_aload_n hx hb dX11_look_36 rfl (lv_at hl 0 rfl) ?_
    refine gfR_X11_468 X I dX11_look_37 ?_
    refine lv_icmp_ge (tgt := 116) hx hb dX11_look_40 (by decide) (fun c1 => ?_) (fun c1 => ?_)
    · have h := ite_t h c1
      refine lv_iconst (v := -1) hx hb dX11_look_116 (by decide) ?_
      refine lv_istore_n (lv' := [(2, .int (-1 : Int32)), (0, .ref (ra E 0)), (1, .int x1)]) hx hb dX11_look_117 rfl hl (by decide) rfl (fun ls hl => ?_)
      refine lv_iconst (v := 0) hx hb dX11_look_118 (by decide) ?_
      refine lv_istore_n (lv' := [(3, .int (0 : Int32)), (2, .int (-1 : Int32)), (0, .ref (ra E 0)), (1, .int x1)]) hx hb dX11_look_119 rfl hl (by decide) rfl (fun ls hl => ?_)
      refine lv_iconst (v := 0) hx hb dX11_look_120 (by decide) ?_
      refine lv_istore (lv' := [(4, .int (0 : Int32)), (3, .int (0 : Int32)), (2, .int (-1 : Int32)), (0, .ref (ra E 0)), (1, .int x1)]) hx hb dX11_look_121 hl (by decide) rfl (fun ls hl => ?_)
      exact w_X11_look_123 X   KF σ (-1 : Int32) (0 : Int32) (0 : Int32) h H locs ls I (lv_sub hl [3, 4, 2, 1, 0] rfl)
    · have h := ite_f h c1
      refine lv_aload_n hx hb dX11_look_43 rfl (lv_at hl 0 rfl) ?_
      refine gfR_X11_115 X I dX11_look_44 ?_
      refine lv_aload_n hx hb dX11_look_47 rfl (lv_at hl 0 rfl) ?_
      refine gfR_X11_165 X I dX11_look_48 ?_
      refine lv_iload_n hx hb dX11_look_51 rfl (lv_at hl 2 rfl) ?_
      obtain ⟨hin, h⟩ := gd_some h
      refine ialdR X I (kR_42 E) hin dX11_look_52 ?_
      refine lv_bipush (v := 100) hx hb dX11_look_53 (by decide) ?_
      obtain ⟨hnz, h⟩ := gnz_some h
      refine lv_idiv hx hb dX11_look_55 hnz ?_
      refine lv_aload_n hx hb dX11_look_56 rfl (lv_at hl 0 rfl) ?_
      refine gfR_X11_165 X I dX11_look_57 ?_
      refine lv_iload_n hx hb dX11_look_60 rfl (lv_at hl 2 rfl) ?_
      obtain ⟨hin, h⟩ := gd_some h
      refine ialdR X I (kR_42 E) hin dX11_look_61 ?_
      refine lv_bipush (v := 100) hx hb dX11_look_62 (by decide) ?_
      obtain ⟨hnz, h⟩ := gnz_some h
      refine lv_irem hx hb dX11_look_64 hnz ?_
      obtain ⟨hin, h⟩ := gd_some h
      refine iastR X I (kR_25 E) hin dX11_look_65 (fun H locs I => ?_)
      obtain ⟨σ2, eσ2, h⟩ := lt_e h
      replace I := wi_nm eσ2 I
      refine lv_aload_n hx hb dX11_look_66 rfl (lv_at hl 0 rfl) ?_
      obtain ⟨q3, hq3, h⟩ := bd h
      refine r_callVV (V := (vR E)) (k := 0) (As := []) (rest := []) X I hl (c_X11_aQuarter  hq3) yv_X11_aQuarter tw_1041 ⟨rfl, rfl, Nat.le_of_ble_eq_true rfl, Nat.le_of_ble_eq_true rfl⟩ (Nat.le_of_ble_eq_true rfl) rfl rfl rfl rfl (Nat.le_of_ble_eq_true rfl) dX11_look_67 (fun H locs I => ?_)
      refine lv_iconst (v := 0) hx hb dX11_look_70 (by decide) ?_
      refine lv_istore_n (lv' := [(3, .int (0 : Int32)), (0, .ref (ra E 0)), (1, .int x1), (2, .int x2)]) hx hb dX11_look_71 rfl hl (by decide) rfl (fun ls hl => ?_)
      exact w_X11_look_72 X  (fun σ a2 h H locs ls I hl => ih σ a2 h H locs ls I hl) KF q3 (0 : Int32) h H locs ls I (lv_sub hl [1, 2, 3, 0] rfl)
set_option maxHeartbeats 4000000 in
set_option maxRecDepth 100000 in
theorem w_X11_look_0 {p : Program} {l : Launch} {e : Env} {s : State} {m : MethodId} {args : Array Value} {below : List Frame} {meth : Method} {c : Code} {A : Nat → Prop} {E : RE} {q : Int32 × Mem} (X : CX p s m meth c args cX11_look 6 RX11 (some .int)) : ∀ (σ : Mem) (x1 : Int32) , m_X11_look σ x1 = some q → ∀ (H : Heap) (locs : List Loc) (ls : Array Slot), WI (vR E) A s H locs σ → lv_has ls 6 [(0, .ref (ra E 0)), (1, .int x1)] → W p l e rm_X11_look s m args below meth c H locs 0 0 (MQ below (QI (vR E) A q) args s 0 0 A) (F0 m 0 ls []) := by
  have hx := X.1
  have hb := X.2.1
  intro σ x1 h H locs ls I hl
  unfold m_X11_look at h
  refine lv_aload_n hx hb dX11_look_0 rfl (lv_at hl 0 rfl) ?_
  refine lv_iconst (v := 0) hx hb dX11_look_1 (by decide) ?_
  refine pfR_X11_195 X I  dX11_look_2 (fun H locs I => ?_)
  obtain ⟨σ1, eσ1, h⟩ := lt_e h
  replace I := wi_nm eσ1 I
  refine lv_iload_n hx hb dX11_look_5 rfl (lv_at hl 1 rfl) ?_
  refine lv_if_lt (tgt := 14) hx hb dX11_look_6 (by decide) (fun c2 => ?_) (fun c2 => ?_)
  · have h := ite_t h c2
    refine lv_aload_n hx hb dX11_look_14 rfl (lv_at hl 0 rfl) ?_
    refine lv_iconst (v := 1) hx hb dX11_look_15 (by decide) ?_
    obtain ⟨q3, hq3, h⟩ := bd h
    refine r_callVI (V := (vR E)) (k := 0) (As := [.int (1 : Int32)]) (rest := []) X I hl (c_X11_fail  hq3) yv_X11_fail tw_957 ⟨rfl, rfl, Nat.le_of_ble_eq_true rfl, Nat.le_of_ble_eq_true rfl⟩ (Nat.le_of_ble_eq_true rfl) rfl rfl rfl rfl (Nat.le_of_ble_eq_true rfl) dX11_look_16 (fun H locs I => ?_)
    exact r_iret X I (Option.some.inj h).symm dX11_look_19
  · have h := ite_f h c2
    refine lv_iload_n hx hb dX11_look_9 rfl (lv_at hl 1 rfl) ?_
    refine lv_iconst (v := 1) hx hb dX11_look_10 (by decide) ?_
    refine lv_icmp_le (tgt := 20) hx hb dX11_look_11 (by decide) (fun c4 => ?_) (fun c4 => ?_)
    · have h := ite_t h c4
      refine lv_aload_n hx hb dX11_look_20 rfl (lv_at hl 0 rfl) ?_
      obtain ⟨q5, hq5, h⟩ := bd h
      refine r_callVV (V := (vR E)) (k := 0) (As := []) (rest := []) X I hl (c_X11_tellFits  hq5) yv_X11_tellFits tw_1150 ⟨rfl, rfl, Nat.le_of_ble_eq_true rfl, Nat.le_of_ble_eq_true rfl⟩ (Nat.le_of_ble_eq_true rfl) rfl rfl rfl rfl (Nat.le_of_ble_eq_true rfl) dX11_look_21 (fun H locs I => ?_)
      refine lv_aload_n hx hb dX11_look_24 rfl (lv_at hl 0 rfl) ?_
      refine lv_aload_n hx hb dX11_look_25 rfl (lv_at hl 0 rfl) ?_
      refine gfR_X11_140 X I dX11_look_26 ?_
      refine lv_iconst (v := 0) hx hb dX11_look_29 (by decide) ?_
      obtain ⟨q6, hq6, h⟩ := bd h
      refine r_callVV (V := (vR E)) (k := 0) (As := [.ref (ra E 34), .int (0 : Int32)]) (rest := []) X I hl (c_X11_pack (kR_34 E) hq6) yv_X11_pack tw_1067 ⟨rfl, rfl, Nat.le_of_ble_eq_true rfl, Nat.le_of_ble_eq_true rfl⟩ (Nat.le_of_ble_eq_true rfl) rfl rfl rfl rfl (Nat.le_of_ble_eq_true rfl) dX11_look_30 (fun H locs I => ?_)
      refine lv_iconst (v := 0) hx hb dX11_look_33 (by decide) ?_
      refine lv_istore_n (lv' := [(2, .int (0 : Int32)), (0, .ref (ra E 0)), (1, .int x1)]) hx hb dX11_look_34 rfl hl (by decide) rfl (fun ls hl => ?_)
      exact w_X11_look_35 X   KF q6 (0 : Int32) h H locs ls I (lv_sub hl [1, 2, 0] rfl)
    · have h := ite_f h c4
      refine lv_aload_n hx hb dX11_look_14 rfl (lv_at hl 0 rfl) ?_
      refine lv_iconst (v := 1) hx hb dX11_look_15 (by decide) ?_
      obtain ⟨q7, hq7, h⟩ := bd h
      refine r_callVI (V := (vR E)) (k := 0) (As := [.int (1 : Int32)]) (rest := []) X I hl (c_X11_fail  hq7) yv_X11_fail tw_957 ⟨rfl, rfl, Nat.le_of_ble_eq_true rfl, Nat.le_of_ble_eq_true rfl⟩ (Nat.le_of_ble_eq_true rfl) rfl rfl rfl rfl (Nat.le_of_ble_eq_true rfl) dX11_look_16 (fun H locs I => ?_)
      exact r_iret X I (Option.some.inj h).symm dX11_look_19
theorem c_X11_look {l : Launch} {E : RE} {σ : Mem} {x1 : Int32} {q : Int32 × Mem} (h : m_X11_look σ x1 = some q) : CI l (vR E) yX11_look (.code yX11_look cX11_look 6 (some .int) :: GG) rm_X11_look [.ref (ra E 0), .int x1] σ q :=
  mk_CI (by decide +kernel) (Nat.le_of_ble_eq_true rfl) (fun p e s m args below meth c A ls X I hl => w_X11_look_0 X  σ x1 h s.heap [] ls I (lv_sub hl [0, 1] rfl))

def rm_X11_forget : Room := { frames := 1, cells := 0, slots := 0, locals := 64 }
def m_X11_forget (σ : Mem) : Option (Mem) := (lt (ms σ 0 5 (0 : Int32)) fun σ1 => (lt (ms σ1 0 45 (0 : Int32)) fun σ2 => (some σ2)))
set_option maxHeartbeats 4000000 in
set_option maxRecDepth 100000 in
theorem w_X11_forget_0 {p : Program} {l : Launch} {e : Env} {s : State} {m : MethodId} {args : Array Value} {below : List Frame} {meth : Method} {c : Code} {A : Nat → Prop} {E : RE} {q : Mem} (X : CX p s m meth c args cX11_forget 1 RX11 none) : ∀ (σ : Mem)  , m_X11_forget σ = some q → ∀ (H : Heap) (locs : List Loc) (ls : Array Slot), WI (vR E) A s H locs σ → lv_has ls 1 [(0, .ref (ra E 0))] → W p l e rm_X11_forget s m args below meth c H locs 0 0 (MQ below (QV (vR E) A q) args s 0 0 A) (F0 m 0 ls []) := by
  have hx := X.1
  have hb := X.2.1
  intro σ  h H locs ls I hl
  unfold m_X11_forget at h
  refine lv_aload_n hx hb dX11_forget_0 rfl (lv_at hl 0 rfl) ?_
  refine lv_iconst (v := 0) hx hb dX11_forget_1 (by decide) ?_
  refine pfR_X11_195 X I  dX11_forget_2 (fun H locs I => ?_)
  obtain ⟨σ1, eσ1, h⟩ := lt_e h
  replace I := wi_nm eσ1 I
  refine lv_aload_n hx hb dX11_forget_5 rfl (lv_at hl 0 rfl) ?_
  refine lv_iconst (v := 0) hx hb dX11_forget_6 (by decide) ?_
  refine pfR_X11_353 X I  dX11_forget_7 (fun H locs I => ?_)
  obtain ⟨σ2, eσ2, h⟩ := lt_e h
  replace I := wi_nm eσ2 I
  exact r_vret X I (Option.some.inj h).symm dX11_forget_10
theorem c_X11_forget {l : Launch} {E : RE} {σ : Mem} {q : Mem} (h : m_X11_forget σ = some q) : CV l (vR E) yX11_forget (.code yX11_forget cX11_forget 1 none :: GG) rm_X11_forget [.ref (ra E 0)] σ q :=
  mk_CV (by decide +kernel) (Nat.le_of_ble_eq_true rfl) (fun p e s m args below meth c A ls X I hl => w_X11_forget_0 X  σ  h s.heap [] ls I (lv_sub hl [0] rfl))

def rm_X11_rents : Room := { frames := 2, cells := 0, slots := 0, locals := 85 }
def f_X11_rents_4 (x1 : Int32) : Nat → Mem → Int32 → Int32 → Option (Int32)
  | 0, _, _, _ => none
  | n + 1, σ, x2, x3 => (gd (0 : Int32) 10 (if (σ 5 (Int32.toNatClampNeg (0 : Int32))) ≤ x3 then (some x2) else ((m_X11_isOf σ x1 x3).bind fun q2 => (if q2 = (0 : Int32) then (lt (x2 + (0 : Int32)) fun y4 => f_X11_rents_4 x1 n σ y4 (x3 + 1)) else (gd x3 16 (lt (x2 + (σ 6 (Int32.toNatClampNeg x3))) fun y5 => f_X11_rents_4 x1 n σ y5 (x3 + 1)))))))
def m_X11_rents (σ : Mem) (x1 : Int32) : Option (Int32) := (f_X11_rents_4 x1 KF σ (0 : Int32) (0 : Int32))
set_option maxHeartbeats 4000000 in
set_option maxRecDepth 100000 in
theorem w_X11_rents_4 {p : Program} {l : Launch} {e : Env} {s : State} {m : MethodId} {args : Array Value} {below : List Frame} {meth : Method} {c : Code} {A : Nat → Prop} {E : RE} {q : Int32} (X : CX p s m meth c args cX11_rents 4 RX11 (some .int)) {x1 : Int32} : ∀ (n : Nat), ∀ (σ : Mem) (x2 : Int32) (x3 : Int32) , f_X11_rents_4 x1 n σ x2 x3 = some q → ∀ (H : Heap) (locs : List Loc) (ls : Array Slot), WI (vR E) A s H locs σ → lv_has ls 4 [(0, .ref (ra E 0)), (1, .int x1), (2, .int x2), (3, .int x3)] → W p l e rm_X11_rents s m args below meth c H locs 0 0 (MQ below (QI (vR E) A (q, σ)) args s 0 0 A) (F0 m 4 ls []) := by
  have hx := X.1
  have hb := X.2.1
  intro n
  induction n with
  | zero =>
    intro σ x2 x3 h
    cases h
  | succ n ih =>
    intro σ x2 x3 h H locs ls I hl
    rw [f_X11_rents_4] at h
    refine lv_iload_n hx hb dX11_rents_4 rfl (lv_at hl 3 rfl) ?_
    refine lv_aload_n hx hb dX11_rents_5 rfl (lv_at hl 0 rfl) ?_
    refine gfR_X11_55 X I dX11_rents_6 ?_
    refine lv_iconst (v := 0) hx hb dX11_rents_9 (by decide) ?_
    obtain ⟨hin, h⟩ := gd_some h
    refine ialdR X I (kR_5 E) hin dX11_rents_10 ?_
    refine lv_icmp_ge (tgt := 41) hx hb dX11_rents_11 (by decide) (fun c1 => ?_) (fun c1 => ?_)
    · have h := ite_t h c1
      refine lv_iload_n hx hb dX11_rents_41 rfl (lv_at hl 2 rfl) ?_
      exact r_iret X I (congrArg (fun z => (z, σ)) (Option.some.inj h).symm) dX11_rents_42
    · have h := ite_f h c1
      refine lv_iload_n hx hb dX11_rents_14 rfl (lv_at hl 2 rfl) ?_
      refine lv_iload_n hx hb dX11_rents_15 rfl (lv_at hl 1 rfl) ?_
      refine lv_iload_n hx hb dX11_rents_16 rfl (lv_at hl 3 rfl) ?_
      obtain ⟨q2, hq2, h⟩ := bd h
      refine r_callSI (V := (vR E)) (As := [.int x1, .int x3]) (rest := [.int x2]) X I hl (c_X11_isOf  hq2) ys_X11_isOf tw_1012 ⟨rfl, rfl, Nat.le_of_ble_eq_true rfl, Nat.le_of_ble_eq_true rfl⟩ rfl rfl (Nat.le_of_ble_eq_true rfl) dX11_rents_17 (fun H locs I => ?_)
      refine lv_if_eq (tgt := 32) hx hb dX11_rents_20 (by decide) (fun c3 => ?_) (fun c3 => ?_)
      · have h := ite_t h c3
        refine lv_iconst (v := 0) hx hb dX11_rents_32 (by decide) ?_
        refine lv_iadd hx hb dX11_rents_33 ?_
        obtain ⟨y4, ey4, h⟩ := lt_e h
        refine nm_i ey4 ?_
        refine lv_istore_n (lv' := [(2, .int y4), (0, .ref (ra E 0)), (1, .int x1), (3, .int x3)]) hx hb dX11_rents_34 rfl hl (by decide) rfl (fun ls hl => ?_)
        refine lv_iinc (v := (x3 + 1)) (lv' := [(3, .int (x3 + 1)), (2, .int y4), (0, .ref (ra E 0)), (1, .int x1)]) hx hb dX11_rents_35 hl (k := 3) rfl rfl (by decide) rfl (fun ls hl => ?_)
        refine lv_goto (tgt := 4) hx hb dX11_rents_38 (by decide) ?_
        exact ih σ y4 (x3 + 1) h H locs ls I (lv_sub hl [2, 3, 1, 0] rfl)
      · have h := ite_f h c3
        refine lv_aload_n hx hb dX11_rents_23 rfl (lv_at hl 0 rfl) ?_
        refine gfR_X11_59 X I dX11_rents_24 ?_
        refine lv_iload_n hx hb dX11_rents_27 rfl (lv_at hl 3 rfl) ?_
        obtain ⟨hin, h⟩ := gd_some h
        refine ialdR X I (kR_6 E) hin dX11_rents_28 ?_
        refine lv_goto (tgt := 33) hx hb dX11_rents_29 (by decide) ?_
        refine lv_iadd hx hb dX11_rents_33 ?_
        obtain ⟨y5, ey5, h⟩ := lt_e h
        refine nm_i ey5 ?_
        refine lv_istore_n (lv' := [(2, .int y5), (0, .ref (ra E 0)), (1, .int x1), (3, .int x3)]) hx hb dX11_rents_34 rfl hl (by decide) rfl (fun ls hl => ?_)
        refine lv_iinc (v := (x3 + 1)) (lv' := [(3, .int (x3 + 1)), (2, .int y5), (0, .ref (ra E 0)), (1, .int x1)]) hx hb dX11_rents_35 hl (k := 3) rfl rfl (by decide) rfl (fun ls hl => ?_)
        refine lv_goto (tgt := 4) hx hb dX11_rents_38 (by decide) ?_
        exact ih σ y5 (x3 + 1) h H locs ls I (lv_sub hl [2, 3, 1, 0] rfl)
set_option maxHeartbeats 4000000 in
set_option maxRecDepth 100000 in
theorem w_X11_rents_0 {p : Program} {l : Launch} {e : Env} {s : State} {m : MethodId} {args : Array Value} {below : List Frame} {meth : Method} {c : Code} {A : Nat → Prop} {E : RE} {q : Int32} (X : CX p s m meth c args cX11_rents 4 RX11 (some .int)) : ∀ (σ : Mem) (x1 : Int32) , m_X11_rents σ x1 = some q → ∀ (H : Heap) (locs : List Loc) (ls : Array Slot), WI (vR E) A s H locs σ → lv_has ls 4 [(0, .ref (ra E 0)), (1, .int x1)] → W p l e rm_X11_rents s m args below meth c H locs 0 0 (MQ below (QI (vR E) A (q, σ)) args s 0 0 A) (F0 m 0 ls []) := by
  have hx := X.1
  have hb := X.2.1
  intro σ x1 h H locs ls I hl
  unfold m_X11_rents at h
  refine lv_iconst (v := 0) hx hb dX11_rents_0 (by decide) ?_
  refine lv_istore_n (lv' := [(2, .int (0 : Int32)), (0, .ref (ra E 0)), (1, .int x1)]) hx hb dX11_rents_1 rfl hl (by decide) rfl (fun ls hl => ?_)
  refine lv_iconst (v := 0) hx hb dX11_rents_2 (by decide) ?_
  refine lv_istore_n (lv' := [(3, .int (0 : Int32)), (2, .int (0 : Int32)), (0, .ref (ra E 0)), (1, .int x1)]) hx hb dX11_rents_3 rfl hl (by decide) rfl (fun ls hl => ?_)
  exact w_X11_rents_4 X   KF σ (0 : Int32) (0 : Int32) h H locs ls I (lv_sub hl [2, 3, 1, 0] rfl)
theorem c_X11_rents {l : Launch} {E : RE} {σ : Mem} {x1 : Int32} {q : Int32} (h : m_X11_rents σ x1 = some q) : CI l (vR E) yX11_rents (.code yX11_rents cX11_rents 4 (some .int) :: GG) rm_X11_rents [.ref (ra E 0), .int x1] σ (q, σ) :=
  mk_CI (by decide +kernel) (Nat.le_of_ble_eq_true rfl) (fun p e s m args below meth c A ls X I hl => w_X11_rents_0 X  σ x1 h s.heap [] ls I (lv_sub hl [0, 1] rfl))

def rm_X11_choose : Room := { frames := 2, cells := 0, slots := 0, locals := 85 }
def m_X11_choose (σ : Mem) (x1 : Int32) (x2 : Int32) : Option (Mem) := (if x2 = (1 : Int32) then (gd x1 7 (gd x1 7 (lt (ms σ 26 (Int32.toNatClampNeg x1) ((imax (0 : Int32) ((σ 26 (Int32.toNatClampNeg x1)) - (1 : Int32))))) fun σ3 => (some σ3)))) else (gd x1 7 (gd x1 7 (lt (ms σ 25 (Int32.toNatClampNeg x1) ((imin (20 : Int32) ((σ 25 (Int32.toNatClampNeg x1)) + (3 : Int32))))) fun σ2 => (some σ2)))))
set_option maxHeartbeats 4000000 in
set_option maxRecDepth 100000 in
theorem w_X11_choose_0 {p : Program} {l : Launch} {e : Env} {s : State} {m : MethodId} {args : Array Value} {below : List Frame} {meth : Method} {c : Code} {A : Nat → Prop} {E : RE} {q : Mem} (X : CX p s m meth c args cX11_choose 3 RX11 none) : ∀ (σ : Mem) (x1 : Int32) (x2 : Int32) , m_X11_choose σ x1 x2 = some q → ∀ (H : Heap) (locs : List Loc) (ls : Array Slot), WI (vR E) A s H locs σ → lv_has ls 3 [(0, .ref (ra E 0)), (1, .int x1), (2, .int x2)] → W p l e rm_X11_choose s m args below meth c H locs 0 0 (MQ below (QV (vR E) A q) args s 0 0 A) (F0 m 0 ls []) := by
  have hx := X.1
  have hb := X.2.1
  intro σ x1 x2 h H locs ls I hl
  unfold m_X11_choose at h
  refine lv_iload_n hx hb dX11_choose_0 rfl (lv_at hl 2 rfl) ?_
  refine lv_iconst (v := 1) hx hb dX11_choose_1 (by decide) ?_
  refine lv_icmp_ne (tgt := 26) hx hb dX11_choose_2 (by decide) (fun c1 => ?_) (fun c1 => ?_)
  · have h := ite_f h c1
    refine lv_aload_n hx hb dX11_choose_26 rfl (lv_at hl 0 rfl) ?_
    refine gfR_X11_115 X I dX11_choose_27 ?_
    refine lv_iload_n hx hb dX11_choose_30 rfl (lv_at hl 1 rfl) ?_
    refine lv_bipush (v := 20) hx hb dX11_choose_31 (by decide) ?_
    refine lv_aload_n hx hb dX11_choose_33 rfl (lv_at hl 0 rfl) ?_
    refine gfR_X11_115 X I dX11_choose_34 ?_
    refine lv_iload_n hx hb dX11_choose_37 rfl (lv_at hl 1 rfl) ?_
    obtain ⟨hin, h⟩ := gd_some h
    refine ialdR X I (kR_25 E) hin dX11_choose_38 ?_
    refine lv_iconst (v := 3) hx hb dX11_choose_39 (by decide) ?_
    refine lv_iadd hx hb dX11_choose_40 ?_
    refine r_min X hl tw_831 ⟨Nat.le_of_ble_eq_true rfl, Nat.le_of_ble_eq_true rfl⟩ dX11_choose_41 ?_
    obtain ⟨hin, h⟩ := gd_some h
    refine iastR X I (kR_25 E) hin dX11_choose_44 (fun H locs I => ?_)
    obtain ⟨σ2, eσ2, h⟩ := lt_e h
    replace I := wi_nm eσ2 I
    exact r_vret X I (Option.some.inj h).symm dX11_choose_45
  · have h := ite_t h c1
    refine lv_aload_n hx hb dX11_choose_5 rfl (lv_at hl 0 rfl) ?_
    refine gfR_X11_117 X I dX11_choose_6 ?_
    refine lv_iload_n hx hb dX11_choose_9 rfl (lv_at hl 1 rfl) ?_
    refine lv_iconst (v := 0) hx hb dX11_choose_10 (by decide) ?_
    refine lv_aload_n hx hb dX11_choose_11 rfl (lv_at hl 0 rfl) ?_
    refine gfR_X11_117 X I dX11_choose_12 ?_
    refine lv_iload_n hx hb dX11_choose_15 rfl (lv_at hl 1 rfl) ?_
    obtain ⟨hin, h⟩ := gd_some h
    refine ialdR X I (kR_26 E) hin dX11_choose_16 ?_
    refine lv_iconst (v := 1) hx hb dX11_choose_17 (by decide) ?_
    refine lv_isub hx hb dX11_choose_18 ?_
    refine r_max X hl tw_998 ⟨Nat.le_of_ble_eq_true rfl, Nat.le_of_ble_eq_true rfl⟩ dX11_choose_19 ?_
    obtain ⟨hin, h⟩ := gd_some h
    refine iastR X I (kR_26 E) hin dX11_choose_22 (fun H locs I => ?_)
    obtain ⟨σ3, eσ3, h⟩ := lt_e h
    replace I := wi_nm eσ3 I
    refine lv_goto (tgt := 45) hx hb dX11_choose_23 (by decide) ?_
    exact r_vret X I (Option.some.inj h).symm dX11_choose_45
theorem c_X11_choose {l : Launch} {E : RE} {σ : Mem} {x1 : Int32} {x2 : Int32} {q : Mem} (h : m_X11_choose σ x1 x2 = some q) : CV l (vR E) yX11_choose (.code yX11_choose cX11_choose 3 none :: GG) rm_X11_choose [.ref (ra E 0), .int x1, .int x2] σ q :=
  mk_CV (by decide +kernel) (Nat.le_of_ble_eq_true rfl) (fun p e s m args below meth c A ls X I hl => w_X11_choose_0 X  σ x1 x2 h s.heap [] ls I (lv_sub hl [0, 1, 2] rfl))

def rm_X11_tellGains : Room := { frames := 6, cells := 0, slots := 0, locals := 184 }
def f_X11_tellGains_64 (k11 : Mem → Int32 → Option (Mem)) (x1 : Int32) (x2 : Int32) (σ : Mem) (x3 : Int32) (z1 : Int32) (z2 : Int32) (z3 : Int32) : Option (Mem) := (gd z1 8 (lt (ms σ 44 (Int32.toNatClampNeg z1) ((z2 - z3))) fun σ1 => ((m_X11_housesOf σ1 x2).bind fun q2 => ((m_X11_rents σ1 q2).bind fun q3 => (gnz (2 : Int32) (if (x3 - x3 / (2 : Int32) * (2 : Int32)) = (0 : Int32) then (gd (((2 : Int32) * x3) + (1 : Int32)) 8 (lt (ms σ1 44 (Int32.toNatClampNeg (((2 : Int32) * x3) + (1 : Int32))) ((q3 - (6 : Int32)))) fun σ7 => ((m_X11_unpack 34 64 σ7 (0 : Int32)).bind fun q8 => (k11 q8 (x3 + 1))))) else (gd (((2 : Int32) * x3) + (1 : Int32)) 8 (lt (ms σ1 44 (Int32.toNatClampNeg (((2 : Int32) * x3) + (1 : Int32))) ((q3 - (0 : Int32)))) fun σ5 => ((m_X11_unpack 34 64 σ5 (0 : Int32)).bind fun q6 => (k11 q6 (x3 + 1)))))))))))
def f_X11_tellGains_11 (x1 : Int32) (x2 : Int32) : Nat → Mem → Int32 → Option (Mem)
  | 0, _, _ => none
  | n + 1, σ, x3 => (if (4 : Int32) ≤ x3 then (some σ) else (gnz (2 : Int32) ((m_X11_choose σ x1 (x3 / (2 : Int32))).bind fun q2 => (gnz (2 : Int32) ((m_X11_choose q2 x2 (x3 - x3 / (2 : Int32) * (2 : Int32))).bind fun q3 => ((m_X11_aQuarter q3).bind fun q4 => ((m_X11_housesOf q4 x1).bind fun q5 => ((m_X11_rents q4 q5).bind fun q6 => (gnz (2 : Int32) (if (x3 / (2 : Int32)) = (0 : Int32) then (f_X11_tellGains_64 (f_X11_tellGains_11 x1 x2 n) x1 x2 q4 x3 ((2 : Int32) * x3) q6 (6 : Int32)) else (f_X11_tellGains_64 (f_X11_tellGains_11 x1 x2 n) x1 x2 q4 x3 ((2 : Int32) * x3) q6 (0 : Int32))))))))))))
def m_X11_tellGains (σ : Mem) (x1 : Int32) (x2 : Int32) : Option (Mem) := ((m_X11_pack 34 64 σ (0 : Int32)).bind fun q1 => (f_X11_tellGains_11 x1 x2 KF q1 (0 : Int32)))
set_option maxHeartbeats 4000000 in
set_option maxRecDepth 100000 in
theorem w_X11_tellGains_64 {p : Program} {l : Launch} {e : Env} {s : State} {m : MethodId} {args : Array Value} {below : List Frame} {meth : Method} {c : Code} {A : Nat → Prop} {E : RE} {q : Mem} (X : CX p s m meth c args cX11_tellGains 4 RX11 none) {x1 : Int32} {x2 : Int32} {k11 : Mem → Int32 → Option (Mem)} (hk11 : ∀ (σ : Mem) (x3 : Int32) , k11 σ x3 = some q → ∀ (H : Heap) (locs : List Loc) (ls : Array Slot), WI (vR E) A s H locs σ → lv_has ls 4 [(0, .ref (ra E 0)), (1, .int x1), (2, .int x2), (3, .int x3)] → W p l e rm_X11_tellGains s m args below meth c H locs 0 0 (MQ below (QV (vR E) A q) args s 0 0 A) (F0 m 11 ls [])) : ∀ (σ : Mem) (x3 : Int32) (z1 : Int32) (z2 : Int32) (z3 : Int32), f_X11_tellGains_64 k11 x1 x2 σ x3 z1 z2 z3 = some q → ∀ (H : Heap) (locs : List Loc) (ls : Array Slot), WI (vR E) A s H locs σ → lv_has ls 4 [(0, .ref (ra E 0)), (1, .int x1), (2, .int x2), (3, .int x3)] → W p l e rm_X11_tellGains s m args below meth c H locs 0 0 (MQ below (QV (vR E) A q) args s 0 0 A) (F0 m 64 ls [.int z3, .int z2, .int z1, .ref (ra E 44)]) := by
  have hx := X.1
  have hb := X.2.1
  intro σ x3 z1 z2 z3 h H locs ls I hl
  unfold f_X11_tellGains_64 at h
  refine lv_isub hx hb dX11_tellGains_64 ?_
  obtain ⟨hin, h⟩ := gd_some h
  refine iastR X I (kR_44 E) hin dX11_tellGains_65 (fun H locs I => ?_)
  obtain ⟨σ1, eσ1, h⟩ := lt_e h
  replace I := wi_nm eσ1 I
  refine lv_aload_n hx hb dX11_tellGains_66 rfl (lv_at hl 0 rfl) ?_
  refine gfR_X11_171 X I dX11_tellGains_67 ?_
  refine lv_iconst (v := 2) hx hb dX11_tellGains_70 (by decide) ?_
  refine lv_iload_n hx hb dX11_tellGains_71 rfl (lv_at hl 3 rfl) ?_
  refine lv_imul hx hb dX11_tellGains_72 ?_
  refine lv_iconst (v := 1) hx hb dX11_tellGains_73 (by decide) ?_
  refine lv_iadd hx hb dX11_tellGains_74 ?_
  refine lv_aload_n hx hb dX11_tellGains_75 rfl (lv_at hl 0 rfl) ?_
  refine lv_aload_n hx hb dX11_tellGains_76 rfl (lv_at hl 0 rfl) ?_
  refine lv_iload_n hx hb dX11_tellGains_77 rfl (lv_at hl 2 rfl) ?_
  obtain ⟨q2, hq2, h⟩ := bd h
  refine r_callVI (V := (vR E)) (k := 0) (As := [.int x2]) (rest := [.ref (ra E 0), .int (((2 : Int32) * x3) + (1 : Int32)), .ref (ra E 44)]) X I hl (c_X11_housesOf  hq2) yv_X11_housesOf tw_981 ⟨rfl, rfl, Nat.le_of_ble_eq_true rfl, Nat.le_of_ble_eq_true rfl⟩ (Nat.le_of_ble_eq_true rfl) rfl rfl rfl rfl (Nat.le_of_ble_eq_true rfl) dX11_tellGains_78 (fun H locs I => ?_)
  obtain ⟨q3, hq3, h⟩ := bd h
  refine r_callVI (V := (vR E)) (k := 0) (As := [.int q2]) (rest := [.int (((2 : Int32) * x3) + (1 : Int32)), .ref (ra E 44)]) X I hl (c_X11_rents  hq3) yv_X11_rents tw_1167 ⟨rfl, rfl, Nat.le_of_ble_eq_true rfl, Nat.le_of_ble_eq_true rfl⟩ (Nat.le_of_ble_eq_true rfl) rfl rfl rfl rfl (Nat.le_of_ble_eq_true rfl) dX11_tellGains_81 (fun H locs I => ?_)
  refine lv_iload_n hx hb dX11_tellGains_84 rfl (lv_at hl 3 rfl) ?_
  refine lv_iconst (v := 2) hx hb dX11_tellGains_85 (by decide) ?_
  obtain ⟨hnz, h⟩ := gnz_some h
  refine lv_irem hx hb dX11_tellGains_86 hnz ?_
  refine lv_if_ne (tgt := 95) hx hb dX11_tellGains_87 (by decide) (fun c4 => ?_) (fun c4 => ?_)
  · have h := ite_f h c4
    refine lv_iconst (v := 0) hx hb dX11_tellGains_95 (by decide) ?_
    refine lv_isub hx hb dX11_tellGains_96 ?_
    obtain ⟨hin, h⟩ := gd_some h
    refine iastR X I (kR_44 E) hin dX11_tellGains_97 (fun H locs I => ?_)
    obtain ⟨σ5, eσ5, h⟩ := lt_e h
    replace I := wi_nm eσ5 I
    refine lv_aload_n hx hb dX11_tellGains_98 rfl (lv_at hl 0 rfl) ?_
    refine lv_aload_n hx hb dX11_tellGains_99 rfl (lv_at hl 0 rfl) ?_
    refine gfR_X11_140 X I dX11_tellGains_100 ?_
    refine lv_iconst (v := 0) hx hb dX11_tellGains_103 (by decide) ?_
    obtain ⟨q6, hq6, h⟩ := bd h
    refine r_callVV (V := (vR E)) (k := 0) (As := [.ref (ra E 34), .int (0 : Int32)]) (rest := []) X I hl (c_X11_unpack (kR_34 E) hq6) yv_X11_unpack tw_1095 ⟨rfl, rfl, Nat.le_of_ble_eq_true rfl, Nat.le_of_ble_eq_true rfl⟩ (Nat.le_of_ble_eq_true rfl) rfl rfl rfl rfl (Nat.le_of_ble_eq_true rfl) dX11_tellGains_104 (fun H locs I => ?_)
    refine lv_iinc (v := (x3 + 1)) (lv' := [(3, .int (x3 + 1)), (0, .ref (ra E 0)), (1, .int x1), (2, .int x2)]) hx hb dX11_tellGains_107 hl (k := 3) rfl rfl (by decide) rfl (fun ls hl => ?_)
    refine lv_goto (tgt := 11) hx hb dX11_tellGains_110 (by decide) ?_
    exact hk11 q6 (x3 + 1) h H locs ls I (lv_sub hl [1, 2, 3, 0] rfl)
  · have h := ite_t h c4
    refine lv_bipush (v := 6) hx hb dX11_tellGains_90 (by decide) ?_
    refine lv_goto (tgt := 96) hx hb dX11_tellGains_92 (by decide) ?_
    refine lv_isub hx hb dX11_tellGains_96 ?_
    obtain ⟨hin, h⟩ := gd_some h
    refine iastR X I (kR_44 E) hin dX11_tellGains_97 (fun H locs I => ?_)
    obtain ⟨σ7, eσ7, h⟩ := lt_e h
    replace I := wi_nm eσ7 I
    refine lv_aload_n hx hb dX11_tellGains_98 rfl (lv_at hl 0 rfl) ?_
    refine lv_aload_n hx hb dX11_tellGains_99 rfl (lv_at hl 0 rfl) ?_
    refine gfR_X11_140 X I dX11_tellGains_100 ?_
    refine lv_iconst (v := 0) hx hb dX11_tellGains_103 (by decide) ?_
    obtain ⟨q8, hq8, h⟩ := bd h
    refine r_callVV (V := (vR E)) (k := 0) (As := [.ref (ra E 34), .int (0 : Int32)]) (rest := []) X I hl (c_X11_unpack (kR_34 E) hq8) yv_X11_unpack tw_1095 ⟨rfl, rfl, Nat.le_of_ble_eq_true rfl, Nat.le_of_ble_eq_true rfl⟩ (Nat.le_of_ble_eq_true rfl) rfl rfl rfl rfl (Nat.le_of_ble_eq_true rfl) dX11_tellGains_104 (fun H locs I => ?_)
    refine lv_iinc (v := (x3 + 1)) (lv' := [(3, .int (x3 + 1)), (0, .ref (ra E 0)), (1, .int x1), (2, .int x2)]) hx hb dX11_tellGains_107 hl (k := 3) rfl rfl (by decide) rfl (fun ls hl => ?_)
    refine lv_goto (tgt := 11) hx hb dX11_tellGains_110 (by decide) ?_
    exact hk11 q8 (x3 + 1) h H locs ls I (lv_sub hl [1, 2, 3, 0] rfl)
set_option maxHeartbeats 4000000 in
set_option maxRecDepth 100000 in
theorem w_X11_tellGains_11 {p : Program} {l : Launch} {e : Env} {s : State} {m : MethodId} {args : Array Value} {below : List Frame} {meth : Method} {c : Code} {A : Nat → Prop} {E : RE} {q : Mem} (X : CX p s m meth c args cX11_tellGains 4 RX11 none) {x1 : Int32} {x2 : Int32} : ∀ (n : Nat), ∀ (σ : Mem) (x3 : Int32) , f_X11_tellGains_11 x1 x2 n σ x3 = some q → ∀ (H : Heap) (locs : List Loc) (ls : Array Slot), WI (vR E) A s H locs σ → lv_has ls 4 [(0, .ref (ra E 0)), (1, .int x1), (2, .int x2), (3, .int x3)] → W p l e rm_X11_tellGains s m args below meth c H locs 0 0 (MQ below (QV (vR E) A q) args s 0 0 A) (F0 m 11 ls []) := by
  have hx := X.1
  have hb := X.2.1
  intro n
  induction n with
  | zero =>
    intro σ x3 h
    cases h
  | succ n ih =>
    intro σ x3 h H locs ls I hl
    rw [f_X11_tellGains_11] at h
    refine lv_iload_n hx hb dX11_tellGains_11 rfl (lv_at hl 3 rfl) ?_
    refine lv_iconst (v := 4) hx hb dX11_tellGains_12 (by decide) ?_
    refine lv_icmp_ge (tgt := 113) hx hb dX11_tellGains_13 (by decide) (fun c1 => ?_) (fun c1 => ?_)
    · have h := ite_t h c1
      exact r_vret X I (Option.some.inj h).symm dX11_tellGains_113
    · have h := ite_f h c1
      refine lv_aload_n hx hb dX11_tellGains_16 rfl (lv_at hl 0 rfl) ?_
      refine lv_iload_n hx hb dX11_tellGains_17 rfl (lv_at hl 1 rfl) ?_
      refine lv_iload_n hx hb dX11_tellGains_18 rfl (lv_at hl 3 rfl) ?_
      refine lv_iconst (v := 2) hx hb dX11_tellGains_19 (by decide) ?_
      obtain ⟨hnz, h⟩ := gnz_some h
      refine lv_idiv hx hb dX11_tellGains_20 hnz ?_
      obtain ⟨q2, hq2, h⟩ := bd h
      refine r_callVV (V := (vR E)) (k := 0) (As := [.int x1, .int (x3 / (2 : Int32))]) (rest := []) X I hl (c_X11_choose  hq2) yv_X11_choose tw_1161 ⟨rfl, rfl, Nat.le_of_ble_eq_true rfl, Nat.le_of_ble_eq_true rfl⟩ (Nat.le_of_ble_eq_true rfl) rfl rfl rfl rfl (Nat.le_of_ble_eq_true rfl) dX11_tellGains_21 (fun H locs I => ?_)
      refine lv_aload_n hx hb dX11_tellGains_24 rfl (lv_at hl 0 rfl) ?_
      refine lv_iload_n hx hb dX11_tellGains_25 rfl (lv_at hl 2 rfl) ?_
      refine lv_iload_n hx hb dX11_tellGains_26 rfl (lv_at hl 3 rfl) ?_
      refine lv_iconst (v := 2) hx hb dX11_tellGains_27 (by decide) ?_
      obtain ⟨hnz, h⟩ := gnz_some h
      refine lv_irem hx hb dX11_tellGains_28 hnz ?_
      obtain ⟨q3, hq3, h⟩ := bd h
      refine r_callVV (V := (vR E)) (k := 0) (As := [.int x2, .int (x3 - x3 / (2 : Int32) * (2 : Int32))]) (rest := []) X I hl (c_X11_choose  hq3) yv_X11_choose tw_1161 ⟨rfl, rfl, Nat.le_of_ble_eq_true rfl, Nat.le_of_ble_eq_true rfl⟩ (Nat.le_of_ble_eq_true rfl) rfl rfl rfl rfl (Nat.le_of_ble_eq_true rfl) dX11_tellGains_29 (fun H locs I => ?_)
      refine lv_aload_n hx hb dX11_tellGains_32 rfl (lv_at hl 0 rfl) ?_
      obtain ⟨q4, hq4, h⟩ := bd h
      refine r_callVV (V := (vR E)) (k := 0) (As := []) (rest := []) X I hl (c_X11_aQuarter  hq4) yv_X11_aQuarter tw_1041 ⟨rfl, rfl, Nat.le_of_ble_eq_true rfl, Nat.le_of_ble_eq_true rfl⟩ (Nat.le_of_ble_eq_true rfl) rfl rfl rfl rfl (Nat.le_of_ble_eq_true rfl) dX11_tellGains_33 (fun H locs I => ?_)
      refine lv_aload_n hx hb dX11_tellGains_36 rfl (lv_at hl 0 rfl) ?_
      refine gfR_X11_171 X I dX11_tellGains_37 ?_
      refine lv_iconst (v := 2) hx hb dX11_tellGains_40 (by decide) ?_
      refine lv_iload_n hx hb dX11_tellGains_41 rfl (lv_at hl 3 rfl) ?_
      refine lv_imul hx hb dX11_tellGains_42 ?_
      refine lv_aload_n hx hb dX11_tellGains_43 rfl (lv_at hl 0 rfl) ?_
      refine lv_aload_n hx hb dX11_tellGains_44 rfl (lv_at hl 0 rfl) ?_
      refine lv_iload_n hx hb dX11_tellGains_45 rfl (lv_at hl 1 rfl) ?_
      obtain ⟨q5, hq5, h⟩ := bd h
      refine r_callVI (V := (vR E)) (k := 0) (As := [.int x1]) (rest := [.ref (ra E 0), .int ((2 : Int32) * x3), .ref (ra E 44)]) X I hl (c_X11_housesOf  hq5) yv_X11_housesOf tw_981 ⟨rfl, rfl, Nat.le_of_ble_eq_true rfl, Nat.le_of_ble_eq_true rfl⟩ (Nat.le_of_ble_eq_true rfl) rfl rfl rfl rfl (Nat.le_of_ble_eq_true rfl) dX11_tellGains_46 (fun H locs I => ?_)
      obtain ⟨q6, hq6, h⟩ := bd h
      refine r_callVI (V := (vR E)) (k := 0) (As := [.int q5]) (rest := [.int ((2 : Int32) * x3), .ref (ra E 44)]) X I hl (c_X11_rents  hq6) yv_X11_rents tw_1167 ⟨rfl, rfl, Nat.le_of_ble_eq_true rfl, Nat.le_of_ble_eq_true rfl⟩ (Nat.le_of_ble_eq_true rfl) rfl rfl rfl rfl (Nat.le_of_ble_eq_true rfl) dX11_tellGains_49 (fun H locs I => ?_)
      refine lv_iload_n hx hb dX11_tellGains_52 rfl (lv_at hl 3 rfl) ?_
      refine lv_iconst (v := 2) hx hb dX11_tellGains_53 (by decide) ?_
      obtain ⟨hnz, h⟩ := gnz_some h
      refine lv_idiv hx hb dX11_tellGains_54 hnz ?_
      refine lv_if_ne (tgt := 63) hx hb dX11_tellGains_55 (by decide) (fun c7 => ?_) (fun c7 => ?_)
      · have h := ite_f h c7
        refine lv_iconst (v := 0) hx hb dX11_tellGains_63 (by decide) ?_
        exact w_X11_tellGains_64 X  (fun σ a3 h H locs ls I hl => ih σ a3 h H locs ls I hl) q4 x3 ((2 : Int32) * x3) q6 (0 : Int32) h H locs ls I (lv_sub hl [0, 1, 2, 3] rfl)
      · have h := ite_t h c7
        refine lv_bipush (v := 6) hx hb dX11_tellGains_58 (by decide) ?_
        refine lv_goto (tgt := 64) hx hb dX11_tellGains_60 (by decide) ?_
        exact w_X11_tellGains_64 X  (fun σ a3 h H locs ls I hl => ih σ a3 h H locs ls I hl) q4 x3 ((2 : Int32) * x3) q6 (6 : Int32) h H locs ls I (lv_sub hl [0, 1, 2, 3] rfl)
set_option maxHeartbeats 4000000 in
set_option maxRecDepth 100000 in
theorem w_X11_tellGains_0 {p : Program} {l : Launch} {e : Env} {s : State} {m : MethodId} {args : Array Value} {below : List Frame} {meth : Method} {c : Code} {A : Nat → Prop} {E : RE} {q : Mem} (X : CX p s m meth c args cX11_tellGains 4 RX11 none) : ∀ (σ : Mem) (x1 : Int32) (x2 : Int32) , m_X11_tellGains σ x1 x2 = some q → ∀ (H : Heap) (locs : List Loc) (ls : Array Slot), WI (vR E) A s H locs σ → lv_has ls 4 [(0, .ref (ra E 0)), (1, .int x1), (2, .int x2)] → W p l e rm_X11_tellGains s m args below meth c H locs 0 0 (MQ below (QV (vR E) A q) args s 0 0 A) (F0 m 0 ls []) := by
  have hx := X.1
  have hb := X.2.1
  intro σ x1 x2 h H locs ls I hl
  unfold m_X11_tellGains at h
  refine lv_aload_n hx hb dX11_tellGains_0 rfl (lv_at hl 0 rfl) ?_
  refine lv_aload_n hx hb dX11_tellGains_1 rfl (lv_at hl 0 rfl) ?_
  refine gfR_X11_140 X I dX11_tellGains_2 ?_
  refine lv_iconst (v := 0) hx hb dX11_tellGains_5 (by decide) ?_
  obtain ⟨q1, hq1, h⟩ := bd h
  refine r_callVV (V := (vR E)) (k := 0) (As := [.ref (ra E 34), .int (0 : Int32)]) (rest := []) X I hl (c_X11_pack (kR_34 E) hq1) yv_X11_pack tw_1067 ⟨rfl, rfl, Nat.le_of_ble_eq_true rfl, Nat.le_of_ble_eq_true rfl⟩ (Nat.le_of_ble_eq_true rfl) rfl rfl rfl rfl (Nat.le_of_ble_eq_true rfl) dX11_tellGains_6 (fun H locs I => ?_)
  refine lv_iconst (v := 0) hx hb dX11_tellGains_9 (by decide) ?_
  refine lv_istore_n (lv' := [(3, .int (0 : Int32)), (0, .ref (ra E 0)), (1, .int x1), (2, .int x2)]) hx hb dX11_tellGains_10 rfl hl (by decide) rfl (fun ls hl => ?_)
  exact w_X11_tellGains_11 X   KF q1 (0 : Int32) h H locs ls I (lv_sub hl [1, 2, 3, 0] rfl)
theorem c_X11_tellGains {l : Launch} {E : RE} {σ : Mem} {x1 : Int32} {x2 : Int32} {q : Mem} (h : m_X11_tellGains σ x1 x2 = some q) : CV l (vR E) yX11_tellGains (.code yX11_tellGains cX11_tellGains 4 none :: GG) rm_X11_tellGains [.ref (ra E 0), .int x1, .int x2] σ q :=
  mk_CV (by decide +kernel) (Nat.le_of_ble_eq_true rfl) (fun p e s m args below meth c A ls X I hl => w_X11_tellGains_0 X  σ x1 x2 h s.heap [] ls I (lv_sub hl [0, 1, 2] rfl))

def rm_X11_game : Room := { frames := 7, cells := 0, slots := 0, locals := 207 }
def f_X11_game_62 (x3 : Int32) : Nat → Mem → Int32 → Int32 → Int32 → Option (Int32 × Mem)
  | 0, _, _, _, _ => none
  | n + 1, σ, x4, x5, x6 => (if (4 : Int32) ≤ x6 then (if x3 = (0 : Int32) then (some (x4, σ)) else (some (x5, σ))) else (gd ((2 : Int32) * (x6 ^^^ (2 : Int32))) 8 (gd ((2 : Int32) * x6) 8 (if (σ 44 (Int32.toNatClampNeg ((2 : Int32) * x6))) < (σ 44 (Int32.toNatClampNeg ((2 : Int32) * (x6 ^^^ (2 : Int32))))) then f_X11_game_62 x3 n σ x4 x5 (x6 + 1) else (gd (((2 : Int32) * (x6 ^^^ (1 : Int32))) + (1 : Int32)) 8 (gd (((2 : Int32) * x6) + (1 : Int32)) 8 (if (σ 44 (Int32.toNatClampNeg (((2 : Int32) * (x6 ^^^ (1 : Int32))) + (1 : Int32)))) ≤ (σ 44 (Int32.toNatClampNeg (((2 : Int32) * x6) + (1 : Int32)))) then (if x5 = (-1 : Int32) then (gnz (2 : Int32) (gnz (2 : Int32) (lt (((10 : Int32) * (x6 / (2 : Int32))) + (x6 - x6 / (2 : Int32) * (2 : Int32))) fun y6 => f_X11_game_62 x3 n σ (x4 + 1) y6 (x6 + 1)))) else f_X11_game_62 x3 n σ (x4 + 1) x5 (x6 + 1)) else f_X11_game_62 x3 n σ x4 x5 (x6 + 1))))))))
def m_X11_game (σ : Mem) (x1 : Int32) (x2 : Int32) (x3 : Int32) : Option (Int32 × Mem) := (lt (ms σ 0 5 (0 : Int32)) fun σ1 => ((m_X11_isTenant σ1 x1).bind fun q2 => (if q2 = (0 : Int32) then ((m_X11_fail σ1 (1 : Int32)).bind fun q4 => (some (q4.1, q4.2))) else ((m_X11_isTenant σ1 x2).bind fun q5 => (if q5 = (0 : Int32) then ((m_X11_fail σ1 (1 : Int32)).bind fun q7 => (some (q7.1, q7.2))) else (if x3 < (0 : Int32) then ((m_X11_fail σ1 (1 : Int32)).bind fun q9 => (some (q9.1, q9.2))) else (if x3 ≤ (1 : Int32) then (if x1 = x2 then ((m_X11_fail σ1 (2 : Int32)).bind fun q13 => (some (q13.1, q13.2))) else ((m_X11_tellGains σ1 x1 x2).bind fun q12 => (f_X11_game_62 x3 KF q12 (0 : Int32) (-1 : Int32) (0 : Int32)))) else ((m_X11_fail σ1 (1 : Int32)).bind fun q14 => (some (q14.1, q14.2))))))))))
set_option maxHeartbeats 4000000 in
set_option maxRecDepth 100000 in
theorem w_X11_game_62 {p : Program} {l : Launch} {e : Env} {s : State} {m : MethodId} {args : Array Value} {below : List Frame} {meth : Method} {c : Code} {A : Nat → Prop} {E : RE} {q : Int32 × Mem} (X : CX p s m meth c args cX11_game 7 RX11 (some .int)) {x3 : Int32} : ∀ (n : Nat), ∀ (σ : Mem) (x4 : Int32) (x5 : Int32) (x6 : Int32) , f_X11_game_62 x3 n σ x4 x5 x6 = some q → ∀ (H : Heap) (locs : List Loc) (ls : Array Slot), WI (vR E) A s H locs σ → lv_has ls 7 [(0, .ref (ra E 0)), (3, .int x3), (4, .int x4), (5, .int x5), (6, .int x6)] → W p l e rm_X11_game s m args below meth c H locs 0 0 (MQ below (QI (vR E) A q) args s 0 0 A) (F0 m 62 ls []) := by
  have hx := X.1
  have hb := X.2.1
  intro n
  induction n with
  | zero =>
    intro σ x4 x5 x6 h
    cases h
  | succ n ih =>
    intro σ x4 x5 x6 h H locs ls I hl
    rw [f_X11_game_62] at h
    refine lv_iload hx hb dX11_game_62 (lv_at hl 4 rfl) ?_
    refine lv_iconst (v := 4) hx hb dX11_game_64 (by decide) ?_
    refine lv_icmp_ge (tgt := 155) hx hb dX11_game_65 (by decide) (fun c1 => ?_) (fun c1 => ?_)
    · have h := ite_t h c1
      refine lv_iload_n hx hb dX11_game_155 rfl (lv_at hl 1 rfl) ?_
      refine lv_if_ne (tgt := 164) hx hb dX11_game_156 (by decide) (fun c2 => ?_) (fun c2 => ?_)
      · have h := ite_f h c2
        refine lv_iload hx hb dX11_game_164 (lv_at hl 3 rfl) ?_
        exact r_iret X I (Option.some.inj h).symm dX11_game_166
      · have h := ite_t h c2
        refine lv_iload hx hb dX11_game_159 (lv_at hl 2 rfl) ?_
        refine lv_goto (tgt := 166) hx hb dX11_game_161 (by decide) ?_
        exact r_iret X I (Option.some.inj h).symm dX11_game_166
    · have h := ite_f h c1
      refine lv_aload_n hx hb dX11_game_68 rfl (lv_at hl 0 rfl) ?_
      refine gfR_X11_171 X I dX11_game_69 ?_
      refine lv_iconst (v := 2) hx hb dX11_game_72 (by decide) ?_
      refine lv_iload hx hb dX11_game_73 (lv_at hl 4 rfl) ?_
      refine lv_iconst (v := 2) hx hb dX11_game_75 (by decide) ?_
      refine lv_ixor hx hb dX11_game_76 ?_
      refine lv_imul hx hb dX11_game_77 ?_
      obtain ⟨hin, h⟩ := gd_some h
      refine ialdR X I (kR_44 E) hin dX11_game_78 ?_
      refine lv_aload_n hx hb dX11_game_79 rfl (lv_at hl 0 rfl) ?_
      refine gfR_X11_171 X I dX11_game_80 ?_
      refine lv_iconst (v := 2) hx hb dX11_game_83 (by decide) ?_
      refine lv_iload hx hb dX11_game_84 (lv_at hl 4 rfl) ?_
      refine lv_imul hx hb dX11_game_86 ?_
      obtain ⟨hin, h⟩ := gd_some h
      refine ialdR X I (kR_44 E) hin dX11_game_87 ?_
      refine lv_icmp_gt (tgt := 149) hx hb dX11_game_88 (by decide) (fun c3 => ?_) (fun c3 => ?_)
      · have h := ite_t h c3
        refine lv_iinc (v := (x6 + 1)) (lv' := [(6, .int (x6 + 1)), (0, .ref (ra E 0)), (3, .int x3), (4, .int x4), (5, .int x5)]) hx hb dX11_game_149 hl (k := 4) rfl rfl (by decide) rfl (fun ls hl => ?_)
        refine lv_goto (tgt := 62) hx hb dX11_game_152 (by decide) ?_
        exact ih σ x4 x5 (x6 + 1) h H locs ls I (lv_sub hl [1, 2, 3, 4, 0] rfl)
      · have h := ite_f h c3
        refine lv_aload_n hx hb dX11_game_91 rfl (lv_at hl 0 rfl) ?_
        refine gfR_X11_171 X I dX11_game_92 ?_
        refine lv_iconst (v := 2) hx hb dX11_game_95 (by decide) ?_
        refine lv_iload hx hb dX11_game_96 (lv_at hl 4 rfl) ?_
        refine lv_iconst (v := 1) hx hb dX11_game_98 (by decide) ?_
        refine lv_ixor hx hb dX11_game_99 ?_
        refine lv_imul hx hb dX11_game_100 ?_
        refine lv_iconst (v := 1) hx hb dX11_game_101 (by decide) ?_
        refine lv_iadd hx hb dX11_game_102 ?_
        obtain ⟨hin, h⟩ := gd_some h
        refine ialdR X I (kR_44 E) hin dX11_game_103 ?_
        refine lv_aload_n hx hb dX11_game_104 rfl (lv_at hl 0 rfl) ?_
        refine gfR_X11_171 X I dX11_game_105 ?_
        refine lv_iconst (v := 2) hx hb dX11_game_108 (by decide) ?_
        refine lv_iload hx hb dX11_game_109 (lv_at hl 4 rfl) ?_
        refine lv_imul hx hb dX11_game_111 ?_
        refine lv_iconst (v := 1) hx hb dX11_game_112 (by decide) ?_
        refine lv_iadd hx hb dX11_game_113 ?_
        obtain ⟨hin, h⟩ := gd_some h
        refine ialdR X I (kR_44 E) hin dX11_game_114 ?_
        refine lv_icmp_le (tgt := 121) hx hb dX11_game_115 (by decide) (fun c4 => ?_) (fun c4 => ?_)
        · have h := ite_t h c4
          refine lv_iinc (v := (x4 + 1)) (lv' := [(4, .int (x4 + 1)), (0, .ref (ra E 0)), (3, .int x3), (5, .int x5), (6, .int x6)]) hx hb dX11_game_121 hl (k := 2) rfl rfl (by decide) rfl (fun ls hl => ?_)
          refine lv_iload hx hb dX11_game_124 (lv_at hl 3 rfl) ?_
          refine lv_iconst (v := -1) hx hb dX11_game_126 (by decide) ?_
          refine lv_icmp_ne (tgt := 145) hx hb dX11_game_127 (by decide) (fun c5 => ?_) (fun c5 => ?_)
          · have h := ite_f h c5
            refine lv_iload hx hb dX11_game_145 (lv_at hl 3 rfl) ?_
            refine lv_istore (lv' := [(5, .int x5), (4, .int (x4 + 1)), (0, .ref (ra E 0)), (3, .int x3), (6, .int x6)]) hx hb dX11_game_147 hl (by decide) rfl (fun ls hl => ?_)
            refine lv_iinc (v := (x6 + 1)) (lv' := [(6, .int (x6 + 1)), (5, .int x5), (4, .int (x4 + 1)), (0, .ref (ra E 0)), (3, .int x3)]) hx hb dX11_game_149 hl (k := 4) rfl rfl (by decide) rfl (fun ls hl => ?_)
            refine lv_goto (tgt := 62) hx hb dX11_game_152 (by decide) ?_
            exact ih σ (x4 + 1) x5 (x6 + 1) h H locs ls I (lv_sub hl [3, 4, 2, 1, 0] rfl)
          · have h := ite_t h c5
            refine lv_bipush (v := 10) hx hb dX11_game_130 (by decide) ?_
            refine lv_iload hx hb dX11_game_132 (lv_at hl 4 rfl) ?_
            refine lv_iconst (v := 2) hx hb dX11_game_134 (by decide) ?_
            obtain ⟨hnz, h⟩ := gnz_some h
            refine lv_idiv hx hb dX11_game_135 hnz ?_
            refine lv_imul hx hb dX11_game_136 ?_
            refine lv_iload hx hb dX11_game_137 (lv_at hl 4 rfl) ?_
            refine lv_iconst (v := 2) hx hb dX11_game_139 (by decide) ?_
            obtain ⟨hnz, h⟩ := gnz_some h
            refine lv_irem hx hb dX11_game_140 hnz ?_
            refine lv_iadd hx hb dX11_game_141 ?_
            refine lv_goto (tgt := 147) hx hb dX11_game_142 (by decide) ?_
            obtain ⟨y6, ey6, h⟩ := lt_e h
            refine nm_i ey6 ?_
            refine lv_istore (lv' := [(5, .int y6), (4, .int (x4 + 1)), (0, .ref (ra E 0)), (3, .int x3), (6, .int x6)]) hx hb dX11_game_147 hl (by decide) rfl (fun ls hl => ?_)
            refine lv_iinc (v := (x6 + 1)) (lv' := [(6, .int (x6 + 1)), (5, .int y6), (4, .int (x4 + 1)), (0, .ref (ra E 0)), (3, .int x3)]) hx hb dX11_game_149 hl (k := 4) rfl rfl (by decide) rfl (fun ls hl => ?_)
            refine lv_goto (tgt := 62) hx hb dX11_game_152 (by decide) ?_
            exact ih σ (x4 + 1) y6 (x6 + 1) h H locs ls I (lv_sub hl [3, 4, 2, 1, 0] rfl)
        · have h := ite_f h c4
          refine lv_goto (tgt := 149) hx hb dX11_game_118 (by decide) ?_
          refine lv_iinc (v := (x6 + 1)) (lv' := [(6, .int (x6 + 1)), (0, .ref (ra E 0)), (3, .int x3), (4, .int x4), (5, .int x5)]) hx hb dX11_game_149 hl (k := 4) rfl rfl (by decide) rfl (fun ls hl => ?_)
          refine lv_goto (tgt := 62) hx hb dX11_game_152 (by decide) ?_
          exact ih σ x4 x5 (x6 + 1) h H locs ls I (lv_sub hl [1, 2, 3, 4, 0] rfl)
set_option maxHeartbeats 4000000 in
set_option maxRecDepth 100000 in
theorem w_X11_game_0 {p : Program} {l : Launch} {e : Env} {s : State} {m : MethodId} {args : Array Value} {below : List Frame} {meth : Method} {c : Code} {A : Nat → Prop} {E : RE} {q : Int32 × Mem} (X : CX p s m meth c args cX11_game 7 RX11 (some .int)) : ∀ (σ : Mem) (x1 : Int32) (x2 : Int32) (x3 : Int32) , m_X11_game σ x1 x2 x3 = some q → ∀ (H : Heap) (locs : List Loc) (ls : Array Slot), WI (vR E) A s H locs σ → lv_has ls 7 [(0, .ref (ra E 0)), (1, .int x1), (2, .int x2), (3, .int x3)] → W p l e rm_X11_game s m args below meth c H locs 0 0 (MQ below (QI (vR E) A q) args s 0 0 A) (F0 m 0 ls []) := by
  have hx := X.1
  have hb := X.2.1
  intro σ x1 x2 x3 h H locs ls I hl
  unfold m_X11_game at h
  refine lv_aload_n hx hb dX11_game_0 rfl (lv_at hl 0 rfl) ?_
  refine lv_iconst (v := 0) hx hb dX11_game_1 (by decide) ?_
  refine pfR_X11_195 X I  dX11_game_2 (fun H locs I => ?_)
  obtain ⟨σ1, eσ1, h⟩ := lt_e h
  replace I := wi_nm eσ1 I
  refine lv_aload_n hx hb dX11_game_5 rfl (lv_at hl 0 rfl) ?_
  refine lv_iload_n hx hb dX11_game_6 rfl (lv_at hl 1 rfl) ?_
  obtain ⟨q2, hq2, h⟩ := bd h
  refine r_callVI (V := (vR E)) (k := 0) (As := [.int x1]) (rest := []) X I hl (c_X11_isTenant  hq2) yv_X11_isTenant tw_1061 ⟨rfl, rfl, Nat.le_of_ble_eq_true rfl, Nat.le_of_ble_eq_true rfl⟩ (Nat.le_of_ble_eq_true rfl) rfl rfl rfl rfl (Nat.le_of_ble_eq_true rfl) dX11_game_7 (fun H locs I => ?_)
  refine lv_if_eq (tgt := 30) hx hb dX11_game_10 (by decide) (fun c3 => ?_) (fun c3 => ?_)
  · have h := ite_t h c3
    refine lv_aload_n hx hb dX11_game_30 rfl (lv_at hl 0 rfl) ?_
    refine lv_iconst (v := 1) hx hb dX11_game_31 (by decide) ?_
    obtain ⟨q4, hq4, h⟩ := bd h
    refine r_callVI (V := (vR E)) (k := 0) (As := [.int (1 : Int32)]) (rest := []) X I hl (c_X11_fail  hq4) yv_X11_fail tw_957 ⟨rfl, rfl, Nat.le_of_ble_eq_true rfl, Nat.le_of_ble_eq_true rfl⟩ (Nat.le_of_ble_eq_true rfl) rfl rfl rfl rfl (Nat.le_of_ble_eq_true rfl) dX11_game_32 (fun H locs I => ?_)
    exact r_iret X I (Option.some.inj h).symm dX11_game_35
  · have h := ite_f h c3
    refine lv_aload_n hx hb dX11_game_13 rfl (lv_at hl 0 rfl) ?_
    refine lv_iload_n hx hb dX11_game_14 rfl (lv_at hl 2 rfl) ?_
    obtain ⟨q5, hq5, h⟩ := bd h
    refine r_callVI (V := (vR E)) (k := 0) (As := [.int x2]) (rest := []) X I hl (c_X11_isTenant  hq5) yv_X11_isTenant tw_1061 ⟨rfl, rfl, Nat.le_of_ble_eq_true rfl, Nat.le_of_ble_eq_true rfl⟩ (Nat.le_of_ble_eq_true rfl) rfl rfl rfl rfl (Nat.le_of_ble_eq_true rfl) dX11_game_15 (fun H locs I => ?_)
    refine lv_if_eq (tgt := 30) hx hb dX11_game_18 (by decide) (fun c6 => ?_) (fun c6 => ?_)
    · have h := ite_t h c6
      refine lv_aload_n hx hb dX11_game_30 rfl (lv_at hl 0 rfl) ?_
      refine lv_iconst (v := 1) hx hb dX11_game_31 (by decide) ?_
      obtain ⟨q7, hq7, h⟩ := bd h
      refine r_callVI (V := (vR E)) (k := 0) (As := [.int (1 : Int32)]) (rest := []) X I hl (c_X11_fail  hq7) yv_X11_fail tw_957 ⟨rfl, rfl, Nat.le_of_ble_eq_true rfl, Nat.le_of_ble_eq_true rfl⟩ (Nat.le_of_ble_eq_true rfl) rfl rfl rfl rfl (Nat.le_of_ble_eq_true rfl) dX11_game_32 (fun H locs I => ?_)
      exact r_iret X I (Option.some.inj h).symm dX11_game_35
    · have h := ite_f h c6
      refine lv_iload_n hx hb dX11_game_21 rfl (lv_at hl 3 rfl) ?_
      refine lv_if_lt (tgt := 30) hx hb dX11_game_22 (by decide) (fun c8 => ?_) (fun c8 => ?_)
      · have h := ite_t h c8
        refine lv_aload_n hx hb dX11_game_30 rfl (lv_at hl 0 rfl) ?_
        refine lv_iconst (v := 1) hx hb dX11_game_31 (by decide) ?_
        obtain ⟨q9, hq9, h⟩ := bd h
        refine r_callVI (V := (vR E)) (k := 0) (As := [.int (1 : Int32)]) (rest := []) X I hl (c_X11_fail  hq9) yv_X11_fail tw_957 ⟨rfl, rfl, Nat.le_of_ble_eq_true rfl, Nat.le_of_ble_eq_true rfl⟩ (Nat.le_of_ble_eq_true rfl) rfl rfl rfl rfl (Nat.le_of_ble_eq_true rfl) dX11_game_32 (fun H locs I => ?_)
        exact r_iret X I (Option.some.inj h).symm dX11_game_35
      · have h := ite_f h c8
        refine lv_iload_n hx hb dX11_game_25 rfl (lv_at hl 3 rfl) ?_
        refine lv_iconst (v := 1) hx hb dX11_game_26 (by decide) ?_
        refine lv_icmp_le (tgt := 36) hx hb dX11_game_27 (by decide) (fun c10 => ?_) (fun c10 => ?_)
        · have h := ite_t h c10
          refine lv_iload_n hx hb dX11_game_36 rfl (lv_at hl 1 rfl) ?_
          refine lv_iload_n hx hb dX11_game_37 rfl (lv_at hl 2 rfl) ?_
          refine lv_icmp_ne (tgt := 47) hx hb dX11_game_38 (by decide) (fun c11 => ?_) (fun c11 => ?_)
          · have h := ite_f h c11
            refine lv_aload_n hx hb dX11_game_47 rfl (lv_at hl 0 rfl) ?_
            refine lv_iload_n hx hb dX11_game_48 rfl (lv_at hl 1 rfl) ?_
            refine lv_iload_n hx hb dX11_game_49 rfl (lv_at hl 2 rfl) ?_
            obtain ⟨q12, hq12, h⟩ := bd h
            refine r_callVV (V := (vR E)) (k := 0) (As := [.int x1, .int x2]) (rest := []) X I hl (c_X11_tellGains  hq12) yv_X11_tellGains tw_1172 ⟨rfl, rfl, Nat.le_of_ble_eq_true rfl, Nat.le_of_ble_eq_true rfl⟩ (Nat.le_of_ble_eq_true rfl) rfl rfl rfl rfl (Nat.le_of_ble_eq_true rfl) dX11_game_50 (fun H locs I => ?_)
            refine lv_iconst (v := 0) hx hb dX11_game_53 (by decide) ?_
            refine lv_istore (lv' := [(4, .int (0 : Int32)), (0, .ref (ra E 0)), (1, .int x1), (2, .int x2), (3, .int x3)]) hx hb dX11_game_54 hl (by decide) rfl (fun ls hl => ?_)
            refine lv_iconst (v := -1) hx hb dX11_game_56 (by decide) ?_
            refine lv_istore (lv' := [(5, .int (-1 : Int32)), (4, .int (0 : Int32)), (0, .ref (ra E 0)), (1, .int x1), (2, .int x2), (3, .int x3)]) hx hb dX11_game_57 hl (by decide) rfl (fun ls hl => ?_)
            refine lv_iconst (v := 0) hx hb dX11_game_59 (by decide) ?_
            refine lv_istore (lv' := [(6, .int (0 : Int32)), (5, .int (-1 : Int32)), (4, .int (0 : Int32)), (0, .ref (ra E 0)), (1, .int x1), (2, .int x2), (3, .int x3)]) hx hb dX11_game_60 hl (by decide) rfl (fun ls hl => ?_)
            exact w_X11_game_62 X   KF q12 (0 : Int32) (-1 : Int32) (0 : Int32) h H locs ls I (lv_sub hl [3, 6, 2, 1, 0] rfl)
          · have h := ite_t h c11
            refine lv_aload_n hx hb dX11_game_41 rfl (lv_at hl 0 rfl) ?_
            refine lv_iconst (v := 2) hx hb dX11_game_42 (by decide) ?_
            obtain ⟨q13, hq13, h⟩ := bd h
            refine r_callVI (V := (vR E)) (k := 0) (As := [.int (2 : Int32)]) (rest := []) X I hl (c_X11_fail  hq13) yv_X11_fail tw_957 ⟨rfl, rfl, Nat.le_of_ble_eq_true rfl, Nat.le_of_ble_eq_true rfl⟩ (Nat.le_of_ble_eq_true rfl) rfl rfl rfl rfl (Nat.le_of_ble_eq_true rfl) dX11_game_43 (fun H locs I => ?_)
            exact r_iret X I (Option.some.inj h).symm dX11_game_46
        · have h := ite_f h c10
          refine lv_aload_n hx hb dX11_game_30 rfl (lv_at hl 0 rfl) ?_
          refine lv_iconst (v := 1) hx hb dX11_game_31 (by decide) ?_
          obtain ⟨q14, hq14, h⟩ := bd h
          refine r_callVI (V := (vR E)) (k := 0) (As := [.int (1 : Int32)]) (rest := []) X I hl (c_X11_fail  hq14) yv_X11_fail tw_957 ⟨rfl, rfl, Nat.le_of_ble_eq_true rfl, Nat.le_of_ble_eq_true rfl⟩ (Nat.le_of_ble_eq_true rfl) rfl rfl rfl rfl (Nat.le_of_ble_eq_true rfl) dX11_game_32 (fun H locs I => ?_)
          exact r_iret X I (Option.some.inj h).symm dX11_game_35
theorem c_X11_game {l : Launch} {E : RE} {σ : Mem} {x1 : Int32} {x2 : Int32} {x3 : Int32} {q : Int32 × Mem} (h : m_X11_game σ x1 x2 x3 = some q) : CI l (vR E) yX11_game (.code yX11_game cX11_game 7 (some .int) :: GG) rm_X11_game [.ref (ra E 0), .int x1, .int x2, .int x3] σ q :=
  mk_CI (by decide +kernel) (Nat.le_of_ble_eq_true rfl) (fun p e s m args below meth c A ls X I hl => w_X11_game_0 X  σ x1 x2 x3 h s.heap [] ls I (lv_sub hl [0, 1, 2, 3] rfl))

def rm_X11_drawOf : Room := { frames := 1, cells := 0, slots := 0, locals := 64 }
def m_X11_drawOf (σ : Mem) (x1 : Int32) : Option (Int32 × Mem) := (lt (ms σ 0 63 (((σ 0 63) * (1103515245 : Int32)) + (12345 : Int32))) fun σ1 => (gnz x1 (some (((((σ1 0 63) >>> ((16 : Int32) &&& 31)) &&& (32767 : Int32)) - (((σ1 0 63) >>> ((16 : Int32) &&& 31)) &&& (32767 : Int32)) / x1 * x1), σ1))))
set_option maxHeartbeats 4000000 in
set_option maxRecDepth 100000 in
theorem w_X11_drawOf_0 {p : Program} {l : Launch} {e : Env} {s : State} {m : MethodId} {args : Array Value} {below : List Frame} {meth : Method} {c : Code} {A : Nat → Prop} {E : RE} {q : Int32 × Mem} (X : CX p s m meth c args cX11_drawOf 2 RX11 (some .int)) : ∀ (σ : Mem) (x1 : Int32) , m_X11_drawOf σ x1 = some q → ∀ (H : Heap) (locs : List Loc) (ls : Array Slot), WI (vR E) A s H locs σ → lv_has ls 2 [(0, .ref (ra E 0)), (1, .int x1)] → W p l e rm_X11_drawOf s m args below meth c H locs 0 0 (MQ below (QI (vR E) A q) args s 0 0 A) (F0 m 0 ls []) := by
  have hx := X.1
  have hb := X.2.1
  intro σ x1 h H locs ls I hl
  unfold m_X11_drawOf at h
  refine lv_aload_n hx hb dX11_drawOf_0 rfl (lv_at hl 0 rfl) ?_
  refine lv_aload_n hx hb dX11_drawOf_1 rfl (lv_at hl 0 rfl) ?_
  refine gfR_X11_493 X I dX11_drawOf_2 ?_
  refine lv_ldcw hx hb X.2.2.2.1 (X.2.2.2.2.1 _ tw_1178) dX11_drawOf_5 ?_
  refine lv_imul hx hb dX11_drawOf_8 ?_
  refine lv_sipush (v := 12345) hx hb dX11_drawOf_9 (by decide) ?_
  refine lv_iadd hx hb dX11_drawOf_12 ?_
  refine pfR_X11_493 X I  dX11_drawOf_13 (fun H locs I => ?_)
  obtain ⟨σ1, eσ1, h⟩ := lt_e h
  replace I := wi_nm eσ1 I
  refine lv_aload_n hx hb dX11_drawOf_16 rfl (lv_at hl 0 rfl) ?_
  refine gfR_X11_493 X I dX11_drawOf_17 ?_
  refine lv_bipush (v := 16) hx hb dX11_drawOf_20 (by decide) ?_
  refine lv_ishr hx hb dX11_drawOf_22 ?_
  refine lv_sipush (v := 32767) hx hb dX11_drawOf_23 (by decide) ?_
  refine lv_iand hx hb dX11_drawOf_26 ?_
  refine lv_iload_n hx hb dX11_drawOf_27 rfl (lv_at hl 1 rfl) ?_
  obtain ⟨hnz, h⟩ := gnz_some h
  refine lv_irem hx hb dX11_drawOf_28 hnz ?_
  exact r_iret X I (Option.some.inj h).symm dX11_drawOf_29
theorem c_X11_drawOf {l : Launch} {E : RE} {σ : Mem} {x1 : Int32} {q : Int32 × Mem} (h : m_X11_drawOf σ x1 = some q) : CI l (vR E) yX11_drawOf (.code yX11_drawOf cX11_drawOf 2 (some .int) :: GG) rm_X11_drawOf [.ref (ra E 0), .int x1] σ q :=
  mk_CI (by decide +kernel) (Nat.le_of_ble_eq_true rfl) (fun p e s m args below meth c A ls X I hl => w_X11_drawOf_0 X  σ x1 h s.heap [] ls I (lv_sub hl [0, 1] rfl))

def rm_X11_something : Room := { frames := 2, cells := 0, slots := 0, locals := 85 }
def m_X11_something (σ : Mem) : Option (Mem) := (gd (0 : Int32) 10 (if (σ 5 (Int32.toNatClampNeg (0 : Int32))) = (0 : Int32) then (some σ) else (gd (1 : Int32) 10 (if (σ 5 (Int32.toNatClampNeg (1 : Int32))) = (0 : Int32) then (some σ) else (gd (0 : Int32) 10 ((m_X11_drawOf σ (σ 5 (Int32.toNatClampNeg (0 : Int32)))).bind fun q3 => ((m_X11_isOf q3.2 (q3.2 0 42) q3.1).bind fun q4 => (if q4 = (0 : Int32) then (lt (ms q3.2 0 43 ((q3.2 0 43) ||| ((1 : Int32) <<< (q3.1 &&& 31)))) fun σ9 => (gd (1 : Int32) 10 ((m_X11_drawOf σ9 (σ9 5 (Int32.toNatClampNeg (1 : Int32)))).bind fun q10 => ((m_X11_drawOf q10.2 (21 : Int32)).bind fun q11 => (gd q10.1 7 (lt (ms q11.2 25 (Int32.toNatClampNeg q10.1) (q11.1)) fun σ12 => (some σ12))))))) else (gd (1 : Int32) 10 ((m_X11_drawOf q3.2 (q3.2 5 (Int32.toNatClampNeg (1 : Int32)))).bind fun q6 => ((m_X11_drawOf q6.2 (21 : Int32)).bind fun q7 => (gd q6.1 7 (lt (ms q7.2 25 (Int32.toNatClampNeg q6.1) (q7.1)) fun σ8 => (some σ8))))))))))))))
set_option maxHeartbeats 4000000 in
set_option maxRecDepth 100000 in
theorem w_X11_something_0 {p : Program} {l : Launch} {e : Env} {s : State} {m : MethodId} {args : Array Value} {below : List Frame} {meth : Method} {c : Code} {A : Nat → Prop} {E : RE} {q : Mem} (X : CX p s m meth c args cX11_something 3 RX11 none) : ∀ (σ : Mem)  , m_X11_something σ = some q → ∀ (H : Heap) (locs : List Loc) (ls : Array Slot), WI (vR E) A s H locs σ → lv_has ls 3 [(0, .ref (ra E 0))] → W p l e rm_X11_something s m args below meth c H locs 0 0 (MQ below (QV (vR E) A q) args s 0 0 A) (F0 m 0 ls []) := by
  have hx := X.1
  have hb := X.2.1
  intro σ  h H locs ls I hl
  unfold m_X11_something at h
  refine lv_aload_n hx hb dX11_something_0 rfl (lv_at hl 0 rfl) ?_
  refine gfR_X11_55 X I dX11_something_1 ?_
  refine lv_iconst (v := 0) hx hb dX11_something_4 (by decide) ?_
  obtain ⟨hin, h⟩ := gd_some h
  refine ialdR X I (kR_5 E) hin dX11_something_5 ?_
  refine lv_if_eq (tgt := 18) hx hb dX11_something_6 (by decide) (fun c1 => ?_) (fun c1 => ?_)
  · have h := ite_t h c1
    exact r_vret X I (Option.some.inj h).symm dX11_something_18
  · have h := ite_f h c1
    refine lv_aload_n hx hb dX11_something_9 rfl (lv_at hl 0 rfl) ?_
    refine gfR_X11_55 X I dX11_something_10 ?_
    refine lv_iconst (v := 1) hx hb dX11_something_13 (by decide) ?_
    obtain ⟨hin, h⟩ := gd_some h
    refine ialdR X I (kR_5 E) hin dX11_something_14 ?_
    refine lv_if_ne (tgt := 19) hx hb dX11_something_15 (by decide) (fun c2 => ?_) (fun c2 => ?_)
    · have h := ite_f h c2
      refine lv_aload_n hx hb dX11_something_19 rfl (lv_at hl 0 rfl) ?_
      refine lv_aload_n hx hb dX11_something_20 rfl (lv_at hl 0 rfl) ?_
      refine gfR_X11_55 X I dX11_something_21 ?_
      refine lv_iconst (v := 0) hx hb dX11_something_24 (by decide) ?_
      obtain ⟨hin, h⟩ := gd_some h
      refine ialdR X I (kR_5 E) hin dX11_something_25 ?_
      obtain ⟨q3, hq3, h⟩ := bd h
      refine r_callVI (V := (vR E)) (k := 0) (As := [.int (σ 5 (Int32.toNatClampNeg (0 : Int32)))]) (rest := []) X I hl (c_X11_drawOf  hq3) yv_X11_drawOf tw_1179 ⟨rfl, rfl, Nat.le_of_ble_eq_true rfl, Nat.le_of_ble_eq_true rfl⟩ (Nat.le_of_ble_eq_true rfl) rfl rfl rfl rfl (Nat.le_of_ble_eq_true rfl) dX11_something_26 (fun H locs I => ?_)
      refine lv_istore_n (lv' := [(1, .int q3.1), (0, .ref (ra E 0))]) hx hb dX11_something_29 rfl hl (by decide) rfl (fun ls hl => ?_)
      refine lv_aload_n hx hb dX11_something_30 rfl (lv_at hl 1 rfl) ?_
      refine gfR_X11_344 X I dX11_something_31 ?_
      refine lv_iload_n hx hb dX11_something_34 rfl (lv_at hl 0 rfl) ?_
      obtain ⟨q4, hq4, h⟩ := bd h
      refine r_callSI (V := (vR E)) (As := [.int (q3.2 0 42), .int q3.1]) (rest := []) X I hl (c_X11_isOf  hq4) ys_X11_isOf tw_1012 ⟨rfl, rfl, Nat.le_of_ble_eq_true rfl, Nat.le_of_ble_eq_true rfl⟩ rfl rfl (Nat.le_of_ble_eq_true rfl) dX11_something_35 (fun H locs I => ?_)
      refine lv_if_ne (tgt := 53) hx hb dX11_something_38 (by decide) (fun c5 => ?_) (fun c5 => ?_)
      · have h := ite_f h c5
        refine lv_aload_n hx hb dX11_something_53 rfl (lv_at hl 1 rfl) ?_
        refine lv_aload_n hx hb dX11_something_54 rfl (lv_at hl 1 rfl) ?_
        refine gfR_X11_55 X I dX11_something_55 ?_
        refine lv_iconst (v := 1) hx hb dX11_something_58 (by decide) ?_
        obtain ⟨hin, h⟩ := gd_some h
        refine ialdR X I (kR_5 E) hin dX11_something_59 ?_
        obtain ⟨q6, hq6, h⟩ := bd h
        refine r_callVI (V := (vR E)) (k := 0) (As := [.int (q3.2 5 (Int32.toNatClampNeg (1 : Int32)))]) (rest := []) X I hl (c_X11_drawOf  hq6) yv_X11_drawOf tw_1179 ⟨rfl, rfl, Nat.le_of_ble_eq_true rfl, Nat.le_of_ble_eq_true rfl⟩ (Nat.le_of_ble_eq_true rfl) rfl rfl rfl rfl (Nat.le_of_ble_eq_true rfl) dX11_something_60 (fun H locs I => ?_)
        refine lv_istore_n (lv' := [(2, .int q6.1), (1, .int q3.1), (0, .ref (ra E 0))]) hx hb dX11_something_63 rfl hl (by decide) rfl (fun ls hl => ?_)
        refine lv_aload_n hx hb dX11_something_64 rfl (lv_at hl 2 rfl) ?_
        refine gfR_X11_115 X I dX11_something_65 ?_
        refine lv_iload_n hx hb dX11_something_68 rfl (lv_at hl 0 rfl) ?_
        refine lv_aload_n hx hb dX11_something_69 rfl (lv_at hl 2 rfl) ?_
        refine lv_bipush (v := 21) hx hb dX11_something_70 (by decide) ?_
        obtain ⟨q7, hq7, h⟩ := bd h
        refine r_callVI (V := (vR E)) (k := 0) (As := [.int (21 : Int32)]) (rest := [.int q6.1, .ref (ra E 25)]) X I hl (c_X11_drawOf  hq7) yv_X11_drawOf tw_1179 ⟨rfl, rfl, Nat.le_of_ble_eq_true rfl, Nat.le_of_ble_eq_true rfl⟩ (Nat.le_of_ble_eq_true rfl) rfl rfl rfl rfl (Nat.le_of_ble_eq_true rfl) dX11_something_72 (fun H locs I => ?_)
        obtain ⟨hin, h⟩ := gd_some h
        refine iastR X I (kR_25 E) hin dX11_something_75 (fun H locs I => ?_)
        obtain ⟨σ8, eσ8, h⟩ := lt_e h
        replace I := wi_nm eσ8 I
        exact r_vret X I (Option.some.inj h).symm dX11_something_76
      · have h := ite_t h c5
        refine lv_aload_n hx hb dX11_something_41 rfl (lv_at hl 1 rfl) ?_
        refine lv_dup hx hb dX11_something_42 rfl ?_
        refine gfR_X11_347 X I dX11_something_43 ?_
        refine lv_iconst (v := 1) hx hb dX11_something_46 (by decide) ?_
        refine lv_iload_n hx hb dX11_something_47 rfl (lv_at hl 0 rfl) ?_
        refine lv_ishl hx hb dX11_something_48 ?_
        refine lv_ior hx hb dX11_something_49 ?_
        refine pfR_X11_347 X I  dX11_something_50 (fun H locs I => ?_)
        obtain ⟨σ9, eσ9, h⟩ := lt_e h
        replace I := wi_nm eσ9 I
        refine lv_aload_n hx hb dX11_something_53 rfl (lv_at hl 1 rfl) ?_
        refine lv_aload_n hx hb dX11_something_54 rfl (lv_at hl 1 rfl) ?_
        refine gfR_X11_55 X I dX11_something_55 ?_
        refine lv_iconst (v := 1) hx hb dX11_something_58 (by decide) ?_
        obtain ⟨hin, h⟩ := gd_some h
        refine ialdR X I (kR_5 E) hin dX11_something_59 ?_
        obtain ⟨q10, hq10, h⟩ := bd h
        refine r_callVI (V := (vR E)) (k := 0) (As := [.int (σ9 5 (Int32.toNatClampNeg (1 : Int32)))]) (rest := []) X I hl (c_X11_drawOf  hq10) yv_X11_drawOf tw_1179 ⟨rfl, rfl, Nat.le_of_ble_eq_true rfl, Nat.le_of_ble_eq_true rfl⟩ (Nat.le_of_ble_eq_true rfl) rfl rfl rfl rfl (Nat.le_of_ble_eq_true rfl) dX11_something_60 (fun H locs I => ?_)
        refine lv_istore_n (lv' := [(2, .int q10.1), (1, .int q3.1), (0, .ref (ra E 0))]) hx hb dX11_something_63 rfl hl (by decide) rfl (fun ls hl => ?_)
        refine lv_aload_n hx hb dX11_something_64 rfl (lv_at hl 2 rfl) ?_
        refine gfR_X11_115 X I dX11_something_65 ?_
        refine lv_iload_n hx hb dX11_something_68 rfl (lv_at hl 0 rfl) ?_
        refine lv_aload_n hx hb dX11_something_69 rfl (lv_at hl 2 rfl) ?_
        refine lv_bipush (v := 21) hx hb dX11_something_70 (by decide) ?_
        obtain ⟨q11, hq11, h⟩ := bd h
        refine r_callVI (V := (vR E)) (k := 0) (As := [.int (21 : Int32)]) (rest := [.int q10.1, .ref (ra E 25)]) X I hl (c_X11_drawOf  hq11) yv_X11_drawOf tw_1179 ⟨rfl, rfl, Nat.le_of_ble_eq_true rfl, Nat.le_of_ble_eq_true rfl⟩ (Nat.le_of_ble_eq_true rfl) rfl rfl rfl rfl (Nat.le_of_ble_eq_true rfl) dX11_something_72 (fun H locs I => ?_)
        obtain ⟨hin, h⟩ := gd_some h
        refine iastR X I (kR_25 E) hin dX11_something_75 (fun H locs I => ?_)
        obtain ⟨σ12, eσ12, h⟩ := lt_e h
        replace I := wi_nm eσ12 I
        exact r_vret X I (Option.some.inj h).symm dX11_something_76
    · have h := ite_t h c2
      exact r_vret X I (Option.some.inj h).symm dX11_something_18
theorem c_X11_something {l : Launch} {E : RE} {σ : Mem} {q : Mem} (h : m_X11_something σ = some q) : CV l (vR E) yX11_something (.code yX11_something cX11_something 3 none :: GG) rm_X11_something [.ref (ra E 0)] σ q :=
  mk_CV (by decide +kernel) (Nat.le_of_ble_eq_true rfl) (fun p e s m args below meth c A ls X I hl => w_X11_something_0 X  σ  h s.heap [] ls I (lv_sub hl [0] rfl))

def rm_X11_years : Room := { frames := 6, cells := 0, slots := 0, locals := 184 }
def f_X11_years_78 (k61 : Mem → Int32 → Int32 → Option (Int32 × Mem)) (x2 : Int32) (x3 : Int32) (x5 : Int32) : Nat → Mem → Int32 → Int32 → Option (Int32 × Mem)
  | 0, _, _, _ => none
  | n + 1, σ, x4, x6 => (gd (0 : Int32) 10 (if (σ 5 (Int32.toNatClampNeg (0 : Int32))) ≤ x6 then (k61 σ x4 (x5 + 1)) else (gd x6 8 (gd x6 8 (if (σ 23 (Int32.toNatClampNeg x6)) = (σ 31 (Int32.toNatClampNeg x6)) then (lt (x4 + (0 : Int32)) fun y3 => f_X11_years_78 k61 x2 x3 x5 n σ y3 (x6 + 1)) else (lt (x4 + (1 : Int32)) fun y4 => f_X11_years_78 k61 x2 x3 x5 n σ y4 (x6 + 1)))))))
def f_X11_years_61 (x2 : Int32) (x3 : Int32) : Nat → Mem → Int32 → Int32 → Option (Int32 × Mem)
  | 0, _, _, _ => none
  | n + 1, σ, x4, x5 => (if x2 ≤ x5 then (if x3 = (0 : Int32) then ((m_X11_unpack 34 64 σ (0 : Int32)).bind fun q8 => (some (x4, q8))) else (if x3 = (1 : Int32) then ((m_X11_bitsOf σ (σ 0 42)).bind fun q6 => ((m_X11_unpack 34 64 σ (0 : Int32)).bind fun q7 => (some (q6, q7)))) else ((m_X11_allCoins σ).bind fun q4 => ((m_X11_unpack 34 64 σ (0 : Int32)).bind fun q5 => (some (q4, q5)))))) else ((m_X11_something σ).bind fun q9 => ((m_X11_aQuarter q9).bind fun q10 => (f_X11_years_78 (f_X11_years_61 x2 x3 n) x2 x3 x5 KF q10 x4 (0 : Int32)))))
def m_X11_years (σ : Mem) (x1 : Int32) (x2 : Int32) (x3 : Int32) : Option (Int32 × Mem) := (lt (ms σ 0 5 (0 : Int32)) fun σ1 => ((m_X11_isIn σ1 (Int32.toInt64 x3) (0 : Int64) (2 : Int64)).bind fun q2 => (if q2 = (0 : Int32) then ((m_X11_fail σ1 (1 : Int32)).bind fun q9 => (some (q9.1, q9.2))) else ((m_X11_isIn σ1 (Int32.toInt64 x2) (0 : Int64) (40 : Int64)).bind fun q4 => (if q4 = (0 : Int32) then ((m_X11_fail σ1 (2 : Int32)).bind fun q8 => (some (q8.1, q8.2))) else ((m_X11_pack 34 64 σ1 (0 : Int32)).bind fun q6 => (lt (ms q6 0 63 x1) fun σ7 => (f_X11_years_61 x2 x3 KF σ7 (0 : Int32) (0 : Int32)))))))))
set_option maxHeartbeats 4000000 in
set_option maxRecDepth 100000 in
theorem w_X11_years_78 {p : Program} {l : Launch} {e : Env} {s : State} {m : MethodId} {args : Array Value} {below : List Frame} {meth : Method} {c : Code} {A : Nat → Prop} {E : RE} {q : Int32 × Mem} (X : CX p s m meth c args cX11_years 7 RX11 (some .int)) {x2 : Int32} {x3 : Int32} {x5 : Int32} {k61 : Mem → Int32 → Int32 → Option (Int32 × Mem)} (hk61 : ∀ (σ : Mem) (x4 : Int32) (x5 : Int32) , k61 σ x4 x5 = some q → ∀ (H : Heap) (locs : List Loc) (ls : Array Slot), WI (vR E) A s H locs σ → lv_has ls 7 [(0, .ref (ra E 0)), (2, .int x2), (3, .int x3), (4, .int x4), (5, .int x5)] → W p l e rm_X11_years s m args below meth c H locs 0 0 (MQ below (QI (vR E) A q) args s 0 0 A) (F0 m 61 ls [])) : ∀ (n : Nat), ∀ (σ : Mem) (x4 : Int32) (x6 : Int32) , f_X11_years_78 k61 x2 x3 x5 n σ x4 x6 = some q → ∀ (H : Heap) (locs : List Loc) (ls : Array Slot), WI (vR E) A s H locs σ → lv_has ls 7 [(0, .ref (ra E 0)), (2, .int x2), (3, .int x3), (4, .int x4), (5, .int x5), (6, .int x6)] → W p l e rm_X11_years s m args below meth c H locs 0 0 (MQ below (QI (vR E) A q) args s 0 0 A) (F0 m 78 ls []) := by
  have hx := X.1
  have hb := X.2.1
  intro n
  induction n with
  | zero =>
    intro σ x4 x6 h
    cases h
  | succ n ih =>
    intro σ x4 x6 h H locs ls I hl
    rw [f_X11_years_78] at h
    refine lv_iload hx hb dX11_years_78 (lv_at hl 5 rfl) ?_
    refine lv_aload_n hx hb dX11_years_80 rfl (lv_at hl 0 rfl) ?_
    refine gfR_X11_55 X I dX11_years_81 ?_
    refine lv_iconst (v := 0) hx hb dX11_years_84 (by decide) ?_
    obtain ⟨hin, h⟩ := gd_some h
    refine ialdR X I (kR_5 E) hin dX11_years_85 ?_
    refine lv_icmp_ge (tgt := 122) hx hb dX11_years_86 (by decide) (fun c1 => ?_) (fun c1 => ?_)
    · have h := ite_t h c1
      refine lv_iinc (v := (x5 + 1)) (lv' := [(5, .int (x5 + 1)), (0, .ref (ra E 0)), (2, .int x2), (3, .int x3), (4, .int x4), (6, .int x6)]) hx hb dX11_years_122 hl (k := 4) rfl rfl (by decide) rfl (fun ls hl => ?_)
      refine lv_goto (tgt := 61) hx hb dX11_years_125 (by decide) ?_
      exact hk61 σ x4 (x5 + 1) h H locs ls I (lv_sub hl [1, 2, 3, 4, 0] rfl)
    · have h := ite_f h c1
      refine lv_iload hx hb dX11_years_89 (lv_at hl 3 rfl) ?_
      refine lv_aload_n hx hb dX11_years_91 rfl (lv_at hl 0 rfl) ?_
      refine gfR_X11_110 X I dX11_years_92 ?_
      refine lv_iload hx hb dX11_years_95 (lv_at hl 5 rfl) ?_
      obtain ⟨hin, h⟩ := gd_some h
      refine ialdR X I (kR_23 E) hin dX11_years_97 ?_
      refine lv_aload_n hx hb dX11_years_98 rfl (lv_at hl 0 rfl) ?_
      refine gfR_X11_131 X I dX11_years_99 ?_
      refine lv_iload hx hb dX11_years_102 (lv_at hl 5 rfl) ?_
      obtain ⟨hin, h⟩ := gd_some h
      refine ialdR X I (kR_31 E) hin dX11_years_104 ?_
      refine lv_icmp_eq (tgt := 112) hx hb dX11_years_105 (by decide) (fun c2 => ?_) (fun c2 => ?_)
      · have h := ite_t h c2
        refine lv_iconst (v := 0) hx hb dX11_years_112 (by decide) ?_
        refine lv_iadd hx hb dX11_years_113 ?_
        obtain ⟨y3, ey3, h⟩ := lt_e h
        refine nm_i ey3 ?_
        refine lv_istore (lv' := [(4, .int y3), (0, .ref (ra E 0)), (2, .int x2), (3, .int x3), (5, .int x5), (6, .int x6)]) hx hb dX11_years_114 hl (by decide) rfl (fun ls hl => ?_)
        refine lv_iinc (v := (x6 + 1)) (lv' := [(6, .int (x6 + 1)), (4, .int y3), (0, .ref (ra E 0)), (2, .int x2), (3, .int x3), (5, .int x5)]) hx hb dX11_years_116 hl (k := 5) rfl rfl (by decide) rfl (fun ls hl => ?_)
        refine lv_goto (tgt := 78) hx hb dX11_years_119 (by decide) ?_
        exact ih σ y3 (x6 + 1) h H locs ls I (lv_sub hl [2, 3, 4, 1, 5, 0] rfl)
      · have h := ite_f h c2
        refine lv_iconst (v := 1) hx hb dX11_years_108 (by decide) ?_
        refine lv_goto (tgt := 113) hx hb dX11_years_109 (by decide) ?_
        refine lv_iadd hx hb dX11_years_113 ?_
        obtain ⟨y4, ey4, h⟩ := lt_e h
        refine nm_i ey4 ?_
        refine lv_istore (lv' := [(4, .int y4), (0, .ref (ra E 0)), (2, .int x2), (3, .int x3), (5, .int x5), (6, .int x6)]) hx hb dX11_years_114 hl (by decide) rfl (fun ls hl => ?_)
        refine lv_iinc (v := (x6 + 1)) (lv' := [(6, .int (x6 + 1)), (4, .int y4), (0, .ref (ra E 0)), (2, .int x2), (3, .int x3), (5, .int x5)]) hx hb dX11_years_116 hl (k := 5) rfl rfl (by decide) rfl (fun ls hl => ?_)
        refine lv_goto (tgt := 78) hx hb dX11_years_119 (by decide) ?_
        exact ih σ y4 (x6 + 1) h H locs ls I (lv_sub hl [2, 3, 4, 1, 5, 0] rfl)
set_option maxHeartbeats 4000000 in
set_option maxRecDepth 100000 in
theorem w_X11_years_61 {p : Program} {l : Launch} {e : Env} {s : State} {m : MethodId} {args : Array Value} {below : List Frame} {meth : Method} {c : Code} {A : Nat → Prop} {E : RE} {q : Int32 × Mem} (X : CX p s m meth c args cX11_years 7 RX11 (some .int)) {x2 : Int32} {x3 : Int32} : ∀ (n : Nat), ∀ (σ : Mem) (x4 : Int32) (x5 : Int32) , f_X11_years_61 x2 x3 n σ x4 x5 = some q → ∀ (H : Heap) (locs : List Loc) (ls : Array Slot), WI (vR E) A s H locs σ → lv_has ls 7 [(0, .ref (ra E 0)), (2, .int x2), (3, .int x3), (4, .int x4), (5, .int x5)] → W p l e rm_X11_years s m args below meth c H locs 0 0 (MQ below (QI (vR E) A q) args s 0 0 A) (F0 m 61 ls []) := by
  have hx := X.1
  have hb := X.2.1
  intro n
  induction n with
  | zero =>
    intro σ x4 x5 h
    cases h
  | succ n ih =>
    intro σ x4 x5 h H locs ls I hl
    rw [f_X11_years_61] at h
    refine lv_iload hx hb dX11_years_61 (lv_at hl 4 rfl) ?_
    refine lv_iload_n hx hb dX11_years_63 rfl (lv_at hl 1 rfl) ?_
    refine lv_icmp_ge (tgt := 128) hx hb dX11_years_64 (by decide) (fun c1 => ?_) (fun c1 => ?_)
    · have h := ite_t h c1
      refine lv_iload_n hx hb dX11_years_128 rfl (lv_at hl 2 rfl) ?_
      refine lv_if_ne (tgt := 137) hx hb dX11_years_129 (by decide) (fun c2 => ?_) (fun c2 => ?_)
      · have h := ite_f h c2
        refine lv_iload_n hx hb dX11_years_137 rfl (lv_at hl 2 rfl) ?_
        refine lv_iconst (v := 1) hx hb dX11_years_138 (by decide) ?_
        refine lv_icmp_ne (tgt := 152) hx hb dX11_years_139 (by decide) (fun c3 => ?_) (fun c3 => ?_)
        · have h := ite_f h c3
          refine lv_aload_n hx hb dX11_years_152 rfl (lv_at hl 0 rfl) ?_
          obtain ⟨q4, hq4, h⟩ := bd h
          refine r_callVI (V := (vR E)) (k := 0) (As := []) (rest := []) X I hl (c_X11_allCoins  hq4) yv_X11_allCoins tw_1051 ⟨rfl, rfl, Nat.le_of_ble_eq_true rfl, Nat.le_of_ble_eq_true rfl⟩ (Nat.le_of_ble_eq_true rfl) rfl rfl rfl rfl (Nat.le_of_ble_eq_true rfl) dX11_years_153 (fun H locs I => ?_)
          refine lv_istore (lv' := [(5, .int q4), (0, .ref (ra E 0)), (2, .int x2), (3, .int x3), (4, .int x4)]) hx hb dX11_years_156 hl (by decide) rfl (fun ls hl => ?_)
          refine lv_aload_n hx hb dX11_years_158 rfl (lv_at hl 1 rfl) ?_
          refine lv_aload_n hx hb dX11_years_159 rfl (lv_at hl 1 rfl) ?_
          refine gfR_X11_140 X I dX11_years_160 ?_
          refine lv_iconst (v := 0) hx hb dX11_years_163 (by decide) ?_
          obtain ⟨q5, hq5, h⟩ := bd h
          refine r_callVV (V := (vR E)) (k := 0) (As := [.ref (ra E 34), .int (0 : Int32)]) (rest := []) X I hl (c_X11_unpack (kR_34 E) hq5) yv_X11_unpack tw_1095 ⟨rfl, rfl, Nat.le_of_ble_eq_true rfl, Nat.le_of_ble_eq_true rfl⟩ (Nat.le_of_ble_eq_true rfl) rfl rfl rfl rfl (Nat.le_of_ble_eq_true rfl) dX11_years_164 (fun H locs I => ?_)
          refine lv_iload hx hb dX11_years_167 (lv_at hl 0 rfl) ?_
          exact r_iret X I (Option.some.inj h).symm dX11_years_169
        · have h := ite_t h c3
          refine lv_aload_n hx hb dX11_years_142 rfl (lv_at hl 0 rfl) ?_
          refine gfR_X11_344 X I dX11_years_143 ?_
          obtain ⟨q6, hq6, h⟩ := bd h
          refine r_callSI (V := (vR E)) (As := [.int (σ 0 42)]) (rest := []) X I hl (c_X11_bitsOf  hq6) ys_X11_bitsOf tw_999 ⟨rfl, rfl, Nat.le_of_ble_eq_true rfl, Nat.le_of_ble_eq_true rfl⟩ rfl rfl (Nat.le_of_ble_eq_true rfl) dX11_years_146 (fun H locs I => ?_)
          refine lv_goto (tgt := 156) hx hb dX11_years_149 (by decide) ?_
          refine lv_istore (lv' := [(5, .int q6), (0, .ref (ra E 0)), (2, .int x2), (3, .int x3), (4, .int x4)]) hx hb dX11_years_156 hl (by decide) rfl (fun ls hl => ?_)
          refine lv_aload_n hx hb dX11_years_158 rfl (lv_at hl 1 rfl) ?_
          refine lv_aload_n hx hb dX11_years_159 rfl (lv_at hl 1 rfl) ?_
          refine gfR_X11_140 X I dX11_years_160 ?_
          refine lv_iconst (v := 0) hx hb dX11_years_163 (by decide) ?_
          obtain ⟨q7, hq7, h⟩ := bd h
          refine r_callVV (V := (vR E)) (k := 0) (As := [.ref (ra E 34), .int (0 : Int32)]) (rest := []) X I hl (c_X11_unpack (kR_34 E) hq7) yv_X11_unpack tw_1095 ⟨rfl, rfl, Nat.le_of_ble_eq_true rfl, Nat.le_of_ble_eq_true rfl⟩ (Nat.le_of_ble_eq_true rfl) rfl rfl rfl rfl (Nat.le_of_ble_eq_true rfl) dX11_years_164 (fun H locs I => ?_)
          refine lv_iload hx hb dX11_years_167 (lv_at hl 0 rfl) ?_
          exact r_iret X I (Option.some.inj h).symm dX11_years_169
      · have h := ite_t h c2
        refine lv_iload hx hb dX11_years_132 (lv_at hl 3 rfl) ?_
        refine lv_goto (tgt := 156) hx hb dX11_years_134 (by decide) ?_
        refine lv_istore (lv' := [(5, .int x4), (0, .ref (ra E 0)), (2, .int x2), (3, .int x3), (4, .int x4)]) hx hb dX11_years_156 hl (by decide) rfl (fun ls hl => ?_)
        refine lv_aload_n hx hb dX11_years_158 rfl (lv_at hl 1 rfl) ?_
        refine lv_aload_n hx hb dX11_years_159 rfl (lv_at hl 1 rfl) ?_
        refine gfR_X11_140 X I dX11_years_160 ?_
        refine lv_iconst (v := 0) hx hb dX11_years_163 (by decide) ?_
        obtain ⟨q8, hq8, h⟩ := bd h
        refine r_callVV (V := (vR E)) (k := 0) (As := [.ref (ra E 34), .int (0 : Int32)]) (rest := []) X I hl (c_X11_unpack (kR_34 E) hq8) yv_X11_unpack tw_1095 ⟨rfl, rfl, Nat.le_of_ble_eq_true rfl, Nat.le_of_ble_eq_true rfl⟩ (Nat.le_of_ble_eq_true rfl) rfl rfl rfl rfl (Nat.le_of_ble_eq_true rfl) dX11_years_164 (fun H locs I => ?_)
        refine lv_iload hx hb dX11_years_167 (lv_at hl 0 rfl) ?_
        exact r_iret X I (Option.some.inj h).symm dX11_years_169
    · have h := ite_f h c1
      refine lv_aload_n hx hb dX11_years_67 rfl (lv_at hl 0 rfl) ?_
      obtain ⟨q9, hq9, h⟩ := bd h
      refine r_callVV (V := (vR E)) (k := 0) (As := []) (rest := []) X I hl (c_X11_something  hq9) yv_X11_something tw_1184 ⟨rfl, rfl, Nat.le_of_ble_eq_true rfl, Nat.le_of_ble_eq_true rfl⟩ (Nat.le_of_ble_eq_true rfl) rfl rfl rfl rfl (Nat.le_of_ble_eq_true rfl) dX11_years_68 (fun H locs I => ?_)
      refine lv_aload_n hx hb dX11_years_71 rfl (lv_at hl 0 rfl) ?_
      obtain ⟨q10, hq10, h⟩ := bd h
      refine r_callVV (V := (vR E)) (k := 0) (As := []) (rest := []) X I hl (c_X11_aQuarter  hq10) yv_X11_aQuarter tw_1041 ⟨rfl, rfl, Nat.le_of_ble_eq_true rfl, Nat.le_of_ble_eq_true rfl⟩ (Nat.le_of_ble_eq_true rfl) rfl rfl rfl rfl (Nat.le_of_ble_eq_true rfl) dX11_years_72 (fun H locs I => ?_)
      refine lv_iconst (v := 0) hx hb dX11_years_75 (by decide) ?_
      refine lv_istore (lv' := [(6, .int (0 : Int32)), (0, .ref (ra E 0)), (2, .int x2), (3, .int x3), (4, .int x4), (5, .int x5)]) hx hb dX11_years_76 hl (by decide) rfl (fun ls hl => ?_)
      exact w_X11_years_78 X  (fun σ a4 a5 h H locs ls I hl => ih σ a4 a5 h H locs ls I hl) KF q10 x4 (0 : Int32) h H locs ls I (lv_sub hl [1, 2, 3, 4, 5, 0] rfl)
set_option maxHeartbeats 4000000 in
set_option maxRecDepth 100000 in
theorem w_X11_years_0 {p : Program} {l : Launch} {e : Env} {s : State} {m : MethodId} {args : Array Value} {below : List Frame} {meth : Method} {c : Code} {A : Nat → Prop} {E : RE} {q : Int32 × Mem} (X : CX p s m meth c args cX11_years 7 RX11 (some .int)) : ∀ (σ : Mem) (x1 : Int32) (x2 : Int32) (x3 : Int32) , m_X11_years σ x1 x2 x3 = some q → ∀ (H : Heap) (locs : List Loc) (ls : Array Slot), WI (vR E) A s H locs σ → lv_has ls 7 [(0, .ref (ra E 0)), (1, .int x1), (2, .int x2), (3, .int x3)] → W p l e rm_X11_years s m args below meth c H locs 0 0 (MQ below (QI (vR E) A q) args s 0 0 A) (F0 m 0 ls []) := by
  have hx := X.1
  have hb := X.2.1
  intro σ x1 x2 x3 h H locs ls I hl
  unfold m_X11_years at h
  refine lv_aload_n hx hb dX11_years_0 rfl (lv_at hl 0 rfl) ?_
  refine lv_iconst (v := 0) hx hb dX11_years_1 (by decide) ?_
  refine pfR_X11_195 X I  dX11_years_2 (fun H locs I => ?_)
  obtain ⟨σ1, eσ1, h⟩ := lt_e h
  replace I := wi_nm eσ1 I
  refine lv_iload_n hx hb dX11_years_5 rfl (lv_at hl 3 rfl) ?_
  refine lv_i2l hx hb dX11_years_6 rfl ?_
  refine lv_lconst (v := 0) hx hb dX11_years_7 (by decide) ?_
  refine lv_ldc2 hx hb X.2.2.2.1 (X.2.2.2.2.1 _ tw_1149) dX11_years_8 ?_
  obtain ⟨q2, hq2, h⟩ := bd h
  refine r_callSI (V := (vR E)) (As := [.long (Int32.toInt64 x3), .long (0 : Int64), .long (2 : Int64)]) (rest := []) X I hl (c_X11_isIn  hq2) ys_X11_isIn tw_801 ⟨rfl, rfl, Nat.le_of_ble_eq_true rfl, Nat.le_of_ble_eq_true rfl⟩ rfl rfl (Nat.le_of_ble_eq_true rfl) dX11_years_11 (fun H locs I => ?_)
  refine lv_if_ne (tgt := 23) hx hb dX11_years_14 (by decide) (fun c3 => ?_) (fun c3 => ?_)
  · have h := ite_f h c3
    refine lv_iload_n hx hb dX11_years_23 rfl (lv_at hl 2 rfl) ?_
    refine lv_i2l hx hb dX11_years_24 rfl ?_
    refine lv_lconst (v := 0) hx hb dX11_years_25 (by decide) ?_
    refine lv_ldc2 hx hb X.2.2.2.1 (X.2.2.2.2.1 _ tw_1100) dX11_years_26 ?_
    obtain ⟨q4, hq4, h⟩ := bd h
    refine r_callSI (V := (vR E)) (As := [.long (Int32.toInt64 x2), .long (0 : Int64), .long (40 : Int64)]) (rest := []) X I hl (c_X11_isIn  hq4) ys_X11_isIn tw_801 ⟨rfl, rfl, Nat.le_of_ble_eq_true rfl, Nat.le_of_ble_eq_true rfl⟩ rfl rfl (Nat.le_of_ble_eq_true rfl) dX11_years_29 (fun H locs I => ?_)
    refine lv_if_ne (tgt := 41) hx hb dX11_years_32 (by decide) (fun c5 => ?_) (fun c5 => ?_)
    · have h := ite_f h c5
      refine lv_aload_n hx hb dX11_years_41 rfl (lv_at hl 0 rfl) ?_
      refine lv_aload_n hx hb dX11_years_42 rfl (lv_at hl 0 rfl) ?_
      refine gfR_X11_140 X I dX11_years_43 ?_
      refine lv_iconst (v := 0) hx hb dX11_years_46 (by decide) ?_
      obtain ⟨q6, hq6, h⟩ := bd h
      refine r_callVV (V := (vR E)) (k := 0) (As := [.ref (ra E 34), .int (0 : Int32)]) (rest := []) X I hl (c_X11_pack (kR_34 E) hq6) yv_X11_pack tw_1067 ⟨rfl, rfl, Nat.le_of_ble_eq_true rfl, Nat.le_of_ble_eq_true rfl⟩ (Nat.le_of_ble_eq_true rfl) rfl rfl rfl rfl (Nat.le_of_ble_eq_true rfl) dX11_years_47 (fun H locs I => ?_)
      refine lv_aload_n hx hb dX11_years_50 rfl (lv_at hl 0 rfl) ?_
      refine lv_iload_n hx hb dX11_years_51 rfl (lv_at hl 1 rfl) ?_
      refine pfR_X11_493 X I  dX11_years_52 (fun H locs I => ?_)
      obtain ⟨σ7, eσ7, h⟩ := lt_e h
      replace I := wi_nm eσ7 I
      refine lv_iconst (v := 0) hx hb dX11_years_55 (by decide) ?_
      refine lv_istore (lv' := [(4, .int (0 : Int32)), (0, .ref (ra E 0)), (1, .int x1), (2, .int x2), (3, .int x3)]) hx hb dX11_years_56 hl (by decide) rfl (fun ls hl => ?_)
      refine lv_iconst (v := 0) hx hb dX11_years_58 (by decide) ?_
      refine lv_istore (lv' := [(5, .int (0 : Int32)), (4, .int (0 : Int32)), (0, .ref (ra E 0)), (1, .int x1), (2, .int x2), (3, .int x3)]) hx hb dX11_years_59 hl (by decide) rfl (fun ls hl => ?_)
      exact w_X11_years_61 X   KF σ7 (0 : Int32) (0 : Int32) h H locs ls I (lv_sub hl [2, 4, 5, 1, 0] rfl)
    · have h := ite_t h c5
      refine lv_aload_n hx hb dX11_years_35 rfl (lv_at hl 0 rfl) ?_
      refine lv_iconst (v := 2) hx hb dX11_years_36 (by decide) ?_
      obtain ⟨q8, hq8, h⟩ := bd h
      refine r_callVI (V := (vR E)) (k := 0) (As := [.int (2 : Int32)]) (rest := []) X I hl (c_X11_fail  hq8) yv_X11_fail tw_957 ⟨rfl, rfl, Nat.le_of_ble_eq_true rfl, Nat.le_of_ble_eq_true rfl⟩ (Nat.le_of_ble_eq_true rfl) rfl rfl rfl rfl (Nat.le_of_ble_eq_true rfl) dX11_years_37 (fun H locs I => ?_)
      exact r_iret X I (Option.some.inj h).symm dX11_years_40
  · have h := ite_t h c3
    refine lv_aload_n hx hb dX11_years_17 rfl (lv_at hl 0 rfl) ?_
    refine lv_iconst (v := 1) hx hb dX11_years_18 (by decide) ?_
    obtain ⟨q9, hq9, h⟩ := bd h
    refine r_callVI (V := (vR E)) (k := 0) (As := [.int (1 : Int32)]) (rest := []) X I hl (c_X11_fail  hq9) yv_X11_fail tw_957 ⟨rfl, rfl, Nat.le_of_ble_eq_true rfl, Nat.le_of_ble_eq_true rfl⟩ (Nat.le_of_ble_eq_true rfl) rfl rfl rfl rfl (Nat.le_of_ble_eq_true rfl) dX11_years_19 (fun H locs I => ?_)
    exact r_iret X I (Option.some.inj h).symm dX11_years_22
theorem c_X11_years {l : Launch} {E : RE} {σ : Mem} {x1 : Int32} {x2 : Int32} {x3 : Int32} {q : Int32 × Mem} (h : m_X11_years σ x1 x2 x3 = some q) : CI l (vR E) yX11_years (.code yX11_years cX11_years 7 (some .int) :: GG) rm_X11_years [.ref (ra E 0), .int x1, .int x2, .int x3] σ q :=
  mk_CI (by decide +kernel) (Nat.le_of_ble_eq_true rfl) (fun p e s m args below meth c A ls X I hl => w_X11_years_0 X  σ x1 x2 x3 h s.heap [] ls I (lv_sub hl [0, 1, 2, 3] rfl))

def rm_X11_copyTo : Room := { frames := 1, cells := 0, slots := 0, locals := 64 }
def f_X11_copyTo_2 (r0 n0 r1 n1 : Nat) : Nat → Mem → Int32 → Option (Mem)
  | 0, _, _ => none
  | n + 1, σ, x2 => (if (Int32.ofNat n0) ≤ x2 then (some σ) else (gd x2 n1 (gd x2 n0 (lt (ms σ r0 (Int32.toNatClampNeg x2) ((σ r1 (Int32.toNatClampNeg x2)))) fun σ2 => f_X11_copyTo_2 r0 n0 r1 n1 n σ2 (x2 + 1)))))
def m_X11_copyTo (r0 n0 r1 n1 : Nat) (σ : Mem) : Option (Mem) := (f_X11_copyTo_2 r0 n0 r1 n1 KF σ (0 : Int32))
set_option maxHeartbeats 4000000 in
set_option maxRecDepth 100000 in
theorem w_X11_copyTo_2 {p : Program} {l : Launch} {e : Env} {s : State} {m : MethodId} {args : Array Value} {below : List Frame} {meth : Method} {c : Code} {A : Nat → Prop} {E : RE} {q : Mem} (X : CX p s m meth c args cX11_copyTo 3 RX11 none) {r0 n0 r1 n1 : Nat} (hr0 : KRaI E r0 n0) (hr1 : KRaI E r1 n1) : ∀ (n : Nat), ∀ (σ : Mem) (x2 : Int32) , f_X11_copyTo_2 r0 n0 r1 n1 n σ x2 = some q → ∀ (H : Heap) (locs : List Loc) (ls : Array Slot), WI (vR E) A s H locs σ → lv_has ls 3 [(0, .ref (ra E r0)), (1, .ref (ra E r1)), (2, .int x2)] → W p l e rm_X11_copyTo s m args below meth c H locs 0 0 (MQ below (QV (vR E) A q) args s 0 0 A) (F0 m 2 ls []) := by
  have hx := X.1
  have hb := X.2.1
  intro n
  induction n with
  | zero =>
    intro σ x2 h
    cases h
  | succ n ih =>
    intro σ x2 h H locs ls I hl
    rw [f_X11_copyTo_2] at h
    refine lv_iload_n hx hb dX11_copyTo_2 rfl (lv_at hl 2 rfl) ?_
    refine lv_aload_n hx hb dX11_copyTo_3 rfl (lv_at hl 0 rfl) ?_
    refine alenIR X I hr0 (v := (Int32.ofNat n0)) rfl dX11_copyTo_4 ?_
    refine lv_icmp_ge (tgt := 20) hx hb dX11_copyTo_5 (by decide) (fun c1 => ?_) (fun c1 => ?_)
    · have h := ite_t h c1
      exact r_vret X I (Option.some.inj h).symm dX11_copyTo_20
    · have h := ite_f h c1
      refine lv_aload_n hx hb dX11_copyTo_8 rfl (lv_at hl 0 rfl) ?_
      refine lv_iload_n hx hb dX11_copyTo_9 rfl (lv_at hl 2 rfl) ?_
      refine lv_aload_n hx hb dX11_copyTo_10 rfl (lv_at hl 1 rfl) ?_
      refine lv_iload_n hx hb dX11_copyTo_11 rfl (lv_at hl 2 rfl) ?_
      obtain ⟨hin, h⟩ := gd_some h
      refine ialdR X I hr1 hin dX11_copyTo_12 ?_
      obtain ⟨hin, h⟩ := gd_some h
      refine iastR X I hr0 hin dX11_copyTo_13 (fun H locs I => ?_)
      obtain ⟨σ2, eσ2, h⟩ := lt_e h
      replace I := wi_nm eσ2 I
      refine lv_iinc (v := (x2 + 1)) (lv' := [(2, .int (x2 + 1)), (0, .ref (ra E r0)), (1, .ref (ra E r1))]) hx hb dX11_copyTo_14 hl (k := 2) rfl rfl (by decide) rfl (fun ls hl => ?_)
      refine lv_goto (tgt := 2) hx hb dX11_copyTo_17 (by decide) ?_
      exact ih σ2 (x2 + 1) h H locs ls I (lv_sub hl [1, 2, 0] rfl)
set_option maxHeartbeats 4000000 in
set_option maxRecDepth 100000 in
theorem w_X11_copyTo_0 {p : Program} {l : Launch} {e : Env} {s : State} {m : MethodId} {args : Array Value} {below : List Frame} {meth : Method} {c : Code} {A : Nat → Prop} {E : RE} {q : Mem} (X : CX p s m meth c args cX11_copyTo 3 RX11 none) {r0 n0 r1 n1 : Nat} (hr0 : KRaI E r0 n0) (hr1 : KRaI E r1 n1) : ∀ (σ : Mem)  , m_X11_copyTo r0 n0 r1 n1 σ = some q → ∀ (H : Heap) (locs : List Loc) (ls : Array Slot), WI (vR E) A s H locs σ → lv_has ls 3 [(0, .ref (ra E r0)), (1, .ref (ra E r1))] → W p l e rm_X11_copyTo s m args below meth c H locs 0 0 (MQ below (QV (vR E) A q) args s 0 0 A) (F0 m 0 ls []) := by
  have hx := X.1
  have hb := X.2.1
  intro σ  h H locs ls I hl
  unfold m_X11_copyTo at h
  refine lv_iconst (v := 0) hx hb dX11_copyTo_0 (by decide) ?_
  refine lv_istore_n (lv' := [(2, .int (0 : Int32)), (0, .ref (ra E r0)), (1, .ref (ra E r1))]) hx hb dX11_copyTo_1 rfl hl (by decide) rfl (fun ls hl => ?_)
  exact w_X11_copyTo_2 X hr0 hr1  KF σ (0 : Int32) h H locs ls I (lv_sub hl [1, 2, 0] rfl)
theorem c_X11_copyTo {l : Launch} {E : RE} {r0 n0 r1 n1 : Nat} {σ : Mem} (hr0 : KRaI E r0 n0) (hr1 : KRaI E r1 n1) {q : Mem} (h : m_X11_copyTo r0 n0 r1 n1 σ = some q) : CV l (vR E) yX11_copyTo (.code yX11_copyTo cX11_copyTo 3 none :: GG) rm_X11_copyTo [.ref (ra E r0), .ref (ra E r1)] σ q :=
  mk_CV (by decide +kernel) (Nat.le_of_ble_eq_true rfl) (fun p e s m args below meth c A ls X I hl => w_X11_copyTo_0 X hr0 hr1 σ  h s.heap [] ls I (lv_sub hl [0, 1] rfl))

def rm_X11_image : Room := { frames := 2, cells := 0, slots := 0, locals := 88 }
def f_X11_image_81 : Nat → Mem → Int32 → Option (Mem)
  | 0, _, _ => none
  | n + 1, σ, x1 => (if (8 : Int32) ≤ x1 then ((m_X11_copyTo 50 3 18 3 σ).bind fun q2 => (some q2)) else (gd x1 8 (gd x1 8 (gz (σ 41 (Int32.toNatClampNeg x1)) (lt (ms σ 51 (Int32.toNatClampNeg x1) ((σ 41 (Int32.toNatClampNeg x1)))) fun σ3 => f_X11_image_81 n σ3 (x1 + 1))))))
def m_X11_image (σ : Mem) : Option (Mem) := (lt (ms σ 0 5 (0 : Int32)) fun σ1 => (gz (1 : Int32) (lt (ms σ1 0 64 (1 : Int32)) fun σ2 => (lt (ms σ2 0 65 (σ2 0 44)) fun σ3 => (lt (ms σ3 0 66 (σ3 0 45)) fun σ4 => ((m_X11_pack 45 64 σ4 (0 : Int32)).bind fun q5 => ((m_X11_copyTo 46 2560 28 2560 q5).bind fun q6 => ((m_X11_copyTo 47 8 37 8 q6).bind fun q7 => ((m_X11_copyTo 48 8 38 8 q7).bind fun q8 => ((m_X11_copyTo 49 8 39 8 q8).bind fun q9 => (f_X11_image_81 KF q9 (0 : Int32))))))))))))
set_option maxHeartbeats 4000000 in
set_option maxRecDepth 100000 in
theorem w_X11_image_81 {p : Program} {l : Launch} {e : Env} {s : State} {m : MethodId} {args : Array Value} {below : List Frame} {meth : Method} {c : Code} {A : Nat → Prop} {E : RE} {q : Mem} (X : CX p s m meth c args cX11_image 2 RX11 none) : ∀ (n : Nat), ∀ (σ : Mem) (x1 : Int32) , f_X11_image_81 n σ x1 = some q → ∀ (H : Heap) (locs : List Loc) (ls : Array Slot), WI (vR E) A s H locs σ → lv_has ls 2 [(0, .ref (ra E 0)), (1, .int x1)] → W p l e rm_X11_image s m args below meth c H locs 0 0 (MQ below (QV (vR E) A q) args s 0 0 A) (F0 m 81 ls []) := by
  have hx := X.1
  have hb := X.2.1
  intro n
  induction n with
  | zero =>
    intro σ x1 h
    cases h
  | succ n ih =>
    intro σ x1 h H locs ls I hl
    rw [f_X11_image_81] at h
    refine lv_iload_n hx hb dX11_image_81 rfl (lv_at hl 1 rfl) ?_
    refine lv_bipush (v := 8) hx hb dX11_image_82 (by decide) ?_
    refine lv_icmp_ge (tgt := 105) hx hb dX11_image_84 (by decide) (fun c1 => ?_) (fun c1 => ?_)
    · have h := ite_t h c1
      refine lv_aload_n hx hb dX11_image_105 rfl (lv_at hl 0 rfl) ?_
      refine gfR_X11_189 X I dX11_image_106 ?_
      refine lv_aload_n hx hb dX11_image_109 rfl (lv_at hl 0 rfl) ?_
      refine gfR_X11_92 X I dX11_image_110 ?_
      obtain ⟨q2, hq2, h⟩ := bd h
      refine r_callSV (V := (vR E)) (As := [.ref (ra E 50), .ref (ra E 18)]) (rest := []) X I hl (c_X11_copyTo (kR_50 E) (kR_18 E) hq2) ys_X11_copyTo tw_1193 ⟨rfl, rfl, Nat.le_of_ble_eq_true rfl, Nat.le_of_ble_eq_true rfl⟩ rfl rfl (Nat.le_of_ble_eq_true rfl) dX11_image_113 (fun H locs I => ?_)
      exact r_vret X I (Option.some.inj h).symm dX11_image_116
    · have h := ite_f h c1
      refine lv_aload_n hx hb dX11_image_87 rfl (lv_at hl 0 rfl) ?_
      refine gfR_X11_192 X I dX11_image_88 ?_
      refine lv_iload_n hx hb dX11_image_91 rfl (lv_at hl 1 rfl) ?_
      refine lv_aload_n hx hb dX11_image_92 rfl (lv_at hl 0 rfl) ?_
      refine gfR_X11_161 X I dX11_image_93 ?_
      refine lv_iload_n hx hb dX11_image_96 rfl (lv_at hl 1 rfl) ?_
      obtain ⟨hin, h⟩ := gd_some h
      refine zaldR X I (kR_41 E) hin dX11_image_97 ?_
      obtain ⟨hin, h⟩ := gd_some h
      obtain ⟨hz, h⟩ := gz_some h
      refine zastR X I (kR_51 E) hz hin dX11_image_98 (fun H locs I => ?_)
      obtain ⟨σ3, eσ3, h⟩ := lt_e h
      replace I := wi_nm eσ3 I
      refine lv_iinc (v := (x1 + 1)) (lv' := [(1, .int (x1 + 1)), (0, .ref (ra E 0))]) hx hb dX11_image_99 hl (k := 1) rfl rfl (by decide) rfl (fun ls hl => ?_)
      refine lv_goto (tgt := 81) hx hb dX11_image_102 (by decide) ?_
      exact ih σ3 (x1 + 1) h H locs ls I (lv_sub hl [1, 0] rfl)
set_option maxHeartbeats 4000000 in
set_option maxRecDepth 100000 in
theorem w_X11_image_0 {p : Program} {l : Launch} {e : Env} {s : State} {m : MethodId} {args : Array Value} {below : List Frame} {meth : Method} {c : Code} {A : Nat → Prop} {E : RE} {q : Mem} (X : CX p s m meth c args cX11_image 2 RX11 none) : ∀ (σ : Mem)  , m_X11_image σ = some q → ∀ (H : Heap) (locs : List Loc) (ls : Array Slot), WI (vR E) A s H locs σ → lv_has ls 2 [(0, .ref (ra E 0))] → W p l e rm_X11_image s m args below meth c H locs 0 0 (MQ below (QV (vR E) A q) args s 0 0 A) (F0 m 0 ls []) := by
  have hx := X.1
  have hb := X.2.1
  intro σ  h H locs ls I hl
  unfold m_X11_image at h
  refine lv_aload_n hx hb dX11_image_0 rfl (lv_at hl 0 rfl) ?_
  refine lv_iconst (v := 0) hx hb dX11_image_1 (by decide) ?_
  refine pfR_X11_195 X I  dX11_image_2 (fun H locs I => ?_)
  obtain ⟨σ1, eσ1, h⟩ := lt_e h
  replace I := wi_nm eσ1 I
  refine lv_aload_n hx hb dX11_image_5 rfl (lv_at hl 0 rfl) ?_
  refine lv_iconst (v := 1) hx hb dX11_image_6 (by decide) ?_
  obtain ⟨hz, h⟩ := gz_some h
  refine pfR_X11_356 X I  hz dX11_image_7 (fun H locs I => ?_)
  obtain ⟨σ2, eσ2, h⟩ := lt_e h
  replace I := wi_nm eσ2 I
  refine lv_aload_n hx hb dX11_image_10 rfl (lv_at hl 0 rfl) ?_
  refine lv_aload_n hx hb dX11_image_11 rfl (lv_at hl 0 rfl) ?_
  refine gfR_X11_350 X I dX11_image_12 ?_
  refine pfR_X11_503 X I  dX11_image_15 (fun H locs I => ?_)
  obtain ⟨σ3, eσ3, h⟩ := lt_e h
  replace I := wi_nm eσ3 I
  refine lv_aload_n hx hb dX11_image_18 rfl (lv_at hl 0 rfl) ?_
  refine lv_aload_n hx hb dX11_image_19 rfl (lv_at hl 0 rfl) ?_
  refine gfR_X11_353 X I dX11_image_20 ?_
  refine pfR_X11_506 X I  dX11_image_23 (fun H locs I => ?_)
  obtain ⟨σ4, eσ4, h⟩ := lt_e h
  replace I := wi_nm eσ4 I
  refine lv_aload_n hx hb dX11_image_26 rfl (lv_at hl 0 rfl) ?_
  refine lv_aload_n hx hb dX11_image_27 rfl (lv_at hl 0 rfl) ?_
  refine gfR_X11_174 X I dX11_image_28 ?_
  refine lv_iconst (v := 0) hx hb dX11_image_31 (by decide) ?_
  obtain ⟨q5, hq5, h⟩ := bd h
  refine r_callVV (V := (vR E)) (k := 0) (As := [.ref (ra E 45), .int (0 : Int32)]) (rest := []) X I hl (c_X11_pack (kR_45 E) hq5) yv_X11_pack tw_1067 ⟨rfl, rfl, Nat.le_of_ble_eq_true rfl, Nat.le_of_ble_eq_true rfl⟩ (Nat.le_of_ble_eq_true rfl) rfl rfl rfl rfl (Nat.le_of_ble_eq_true rfl) dX11_image_32 (fun H locs I => ?_)
  refine lv_aload_n hx hb dX11_image_35 rfl (lv_at hl 0 rfl) ?_
  refine gfR_X11_177 X I dX11_image_36 ?_
  refine lv_aload_n hx hb dX11_image_39 rfl (lv_at hl 0 rfl) ?_
  refine gfR_X11_122 X I dX11_image_40 ?_
  obtain ⟨q6, hq6, h⟩ := bd h
  refine r_callSV (V := (vR E)) (As := [.ref (ra E 46), .ref (ra E 28)]) (rest := []) X I hl (c_X11_copyTo (kR_46 E) (kR_28 E) hq6) ys_X11_copyTo tw_1193 ⟨rfl, rfl, Nat.le_of_ble_eq_true rfl, Nat.le_of_ble_eq_true rfl⟩ rfl rfl (Nat.le_of_ble_eq_true rfl) dX11_image_43 (fun H locs I => ?_)
  refine lv_aload_n hx hb dX11_image_46 rfl (lv_at hl 0 rfl) ?_
  refine gfR_X11_180 X I dX11_image_47 ?_
  refine lv_aload_n hx hb dX11_image_50 rfl (lv_at hl 0 rfl) ?_
  refine gfR_X11_149 X I dX11_image_51 ?_
  obtain ⟨q7, hq7, h⟩ := bd h
  refine r_callSV (V := (vR E)) (As := [.ref (ra E 47), .ref (ra E 37)]) (rest := []) X I hl (c_X11_copyTo (kR_47 E) (kR_37 E) hq7) ys_X11_copyTo tw_1193 ⟨rfl, rfl, Nat.le_of_ble_eq_true rfl, Nat.le_of_ble_eq_true rfl⟩ rfl rfl (Nat.le_of_ble_eq_true rfl) dX11_image_54 (fun H locs I => ?_)
  refine lv_aload_n hx hb dX11_image_57 rfl (lv_at hl 0 rfl) ?_
  refine gfR_X11_183 X I dX11_image_58 ?_
  refine lv_aload_n hx hb dX11_image_61 rfl (lv_at hl 0 rfl) ?_
  refine gfR_X11_152 X I dX11_image_62 ?_
  obtain ⟨q8, hq8, h⟩ := bd h
  refine r_callSV (V := (vR E)) (As := [.ref (ra E 48), .ref (ra E 38)]) (rest := []) X I hl (c_X11_copyTo (kR_48 E) (kR_38 E) hq8) ys_X11_copyTo tw_1193 ⟨rfl, rfl, Nat.le_of_ble_eq_true rfl, Nat.le_of_ble_eq_true rfl⟩ rfl rfl (Nat.le_of_ble_eq_true rfl) dX11_image_65 (fun H locs I => ?_)
  refine lv_aload_n hx hb dX11_image_68 rfl (lv_at hl 0 rfl) ?_
  refine gfR_X11_186 X I dX11_image_69 ?_
  refine lv_aload_n hx hb dX11_image_72 rfl (lv_at hl 0 rfl) ?_
  refine gfR_X11_155 X I dX11_image_73 ?_
  obtain ⟨q9, hq9, h⟩ := bd h
  refine r_callSV (V := (vR E)) (As := [.ref (ra E 49), .ref (ra E 39)]) (rest := []) X I hl (c_X11_copyTo (kR_49 E) (kR_39 E) hq9) ys_X11_copyTo tw_1193 ⟨rfl, rfl, Nat.le_of_ble_eq_true rfl, Nat.le_of_ble_eq_true rfl⟩ rfl rfl (Nat.le_of_ble_eq_true rfl) dX11_image_76 (fun H locs I => ?_)
  refine lv_iconst (v := 0) hx hb dX11_image_79 (by decide) ?_
  refine lv_istore_n (lv' := [(1, .int (0 : Int32)), (0, .ref (ra E 0))]) hx hb dX11_image_80 rfl hl (by decide) rfl (fun ls hl => ?_)
  exact w_X11_image_81 X   KF q9 (0 : Int32) h H locs ls I (lv_sub hl [1, 0] rfl)
theorem c_X11_image {l : Launch} {E : RE} {σ : Mem} {q : Mem} (h : m_X11_image σ = some q) : CV l (vR E) yX11_image (.code yX11_image cX11_image 2 none :: GG) rm_X11_image [.ref (ra E 0)] σ q :=
  mk_CV (by decide +kernel) (Nat.le_of_ble_eq_true rfl) (fun p e s m args below meth c A ls X I hl => w_X11_image_0 X  σ  h s.heap [] ls I (lv_sub hl [0] rfl))

def rm_X11_restore : Room := { frames := 2, cells := 0, slots := 0, locals := 88 }
def f_X11_restore_85 : Nat → Mem → Int32 → Option (Int32 × Mem)
  | 0, _, _ => none
  | n + 1, σ, x1 => (if (8 : Int32) ≤ x1 then ((m_X11_copyTo 18 3 50 3 σ).bind fun q2 => (some ((1 : Int32), q2))) else (gd x1 8 (gd x1 8 (gz (σ 51 (Int32.toNatClampNeg x1)) (lt (ms σ 41 (Int32.toNatClampNeg x1) ((σ 51 (Int32.toNatClampNeg x1)))) fun σ3 => f_X11_restore_85 n σ3 (x1 + 1))))))
def m_X11_restore (σ : Mem) : Option (Int32 × Mem) := (lt (ms σ 0 5 (0 : Int32)) fun σ1 => (if (σ1 0 64) = (0 : Int32) then (some ((0 : Int32), σ1)) else (lt (ms σ1 0 44 (σ1 0 65)) fun σ3 => (lt (ms σ3 0 45 (σ3 0 66)) fun σ4 => ((m_X11_unpack 45 64 σ4 (0 : Int32)).bind fun q5 => ((m_X11_copyTo 28 2560 46 2560 q5).bind fun q6 => ((m_X11_copyTo 37 8 47 8 q6).bind fun q7 => ((m_X11_copyTo 38 8 48 8 q7).bind fun q8 => ((m_X11_copyTo 39 8 49 8 q8).bind fun q9 => (f_X11_restore_85 KF q9 (0 : Int32)))))))))))
set_option maxHeartbeats 4000000 in
set_option maxRecDepth 100000 in
theorem w_X11_restore_85 {p : Program} {l : Launch} {e : Env} {s : State} {m : MethodId} {args : Array Value} {below : List Frame} {meth : Method} {c : Code} {A : Nat → Prop} {E : RE} {q : Int32 × Mem} (X : CX p s m meth c args cX11_restore 2 RX11 (some .boolean)) : ∀ (n : Nat), ∀ (σ : Mem) (x1 : Int32) , f_X11_restore_85 n σ x1 = some q → ∀ (H : Heap) (locs : List Loc) (ls : Array Slot), WI (vR E) A s H locs σ → lv_has ls 2 [(0, .ref (ra E 0)), (1, .int x1)] → W p l e rm_X11_restore s m args below meth c H locs 0 0 (MQ below (QI (vR E) A q) args s 0 0 A) (F0 m 85 ls []) := by
  have hx := X.1
  have hb := X.2.1
  intro n
  induction n with
  | zero =>
    intro σ x1 h
    cases h
  | succ n ih =>
    intro σ x1 h H locs ls I hl
    rw [f_X11_restore_85] at h
    refine lv_iload_n hx hb dX11_restore_85 rfl (lv_at hl 1 rfl) ?_
    refine lv_bipush (v := 8) hx hb dX11_restore_86 (by decide) ?_
    refine lv_icmp_ge (tgt := 109) hx hb dX11_restore_88 (by decide) (fun c1 => ?_) (fun c1 => ?_)
    · have h := ite_t h c1
      refine lv_aload_n hx hb dX11_restore_109 rfl (lv_at hl 0 rfl) ?_
      refine gfR_X11_92 X I dX11_restore_110 ?_
      refine lv_aload_n hx hb dX11_restore_113 rfl (lv_at hl 0 rfl) ?_
      refine gfR_X11_189 X I dX11_restore_114 ?_
      obtain ⟨q2, hq2, h⟩ := bd h
      refine r_callSV (V := (vR E)) (As := [.ref (ra E 18), .ref (ra E 50)]) (rest := []) X I hl (c_X11_copyTo (kR_18 E) (kR_50 E) hq2) ys_X11_copyTo tw_1193 ⟨rfl, rfl, Nat.le_of_ble_eq_true rfl, Nat.le_of_ble_eq_true rfl⟩ rfl rfl (Nat.le_of_ble_eq_true rfl) dX11_restore_117 (fun H locs I => ?_)
      refine lv_iconst (v := 1) hx hb dX11_restore_120 (by decide) ?_
      exact r_zret X I (Option.some.inj h).symm rfl dX11_restore_121
    · have h := ite_f h c1
      refine lv_aload_n hx hb dX11_restore_91 rfl (lv_at hl 0 rfl) ?_
      refine gfR_X11_161 X I dX11_restore_92 ?_
      refine lv_iload_n hx hb dX11_restore_95 rfl (lv_at hl 1 rfl) ?_
      refine lv_aload_n hx hb dX11_restore_96 rfl (lv_at hl 0 rfl) ?_
      refine gfR_X11_192 X I dX11_restore_97 ?_
      refine lv_iload_n hx hb dX11_restore_100 rfl (lv_at hl 1 rfl) ?_
      obtain ⟨hin, h⟩ := gd_some h
      refine zaldR X I (kR_51 E) hin dX11_restore_101 ?_
      obtain ⟨hin, h⟩ := gd_some h
      obtain ⟨hz, h⟩ := gz_some h
      refine zastR X I (kR_41 E) hz hin dX11_restore_102 (fun H locs I => ?_)
      obtain ⟨σ3, eσ3, h⟩ := lt_e h
      replace I := wi_nm eσ3 I
      refine lv_iinc (v := (x1 + 1)) (lv' := [(1, .int (x1 + 1)), (0, .ref (ra E 0))]) hx hb dX11_restore_103 hl (k := 1) rfl rfl (by decide) rfl (fun ls hl => ?_)
      refine lv_goto (tgt := 85) hx hb dX11_restore_106 (by decide) ?_
      exact ih σ3 (x1 + 1) h H locs ls I (lv_sub hl [1, 0] rfl)
set_option maxHeartbeats 4000000 in
set_option maxRecDepth 100000 in
theorem w_X11_restore_0 {p : Program} {l : Launch} {e : Env} {s : State} {m : MethodId} {args : Array Value} {below : List Frame} {meth : Method} {c : Code} {A : Nat → Prop} {E : RE} {q : Int32 × Mem} (X : CX p s m meth c args cX11_restore 2 RX11 (some .boolean)) : ∀ (σ : Mem)  , m_X11_restore σ = some q → ∀ (H : Heap) (locs : List Loc) (ls : Array Slot), WI (vR E) A s H locs σ → lv_has ls 2 [(0, .ref (ra E 0))] → W p l e rm_X11_restore s m args below meth c H locs 0 0 (MQ below (QI (vR E) A q) args s 0 0 A) (F0 m 0 ls []) := by
  have hx := X.1
  have hb := X.2.1
  intro σ  h H locs ls I hl
  unfold m_X11_restore at h
  refine lv_aload_n hx hb dX11_restore_0 rfl (lv_at hl 0 rfl) ?_
  refine lv_iconst (v := 0) hx hb dX11_restore_1 (by decide) ?_
  refine pfR_X11_195 X I  dX11_restore_2 (fun H locs I => ?_)
  obtain ⟨σ1, eσ1, h⟩ := lt_e h
  replace I := wi_nm eσ1 I
  refine lv_aload_n hx hb dX11_restore_5 rfl (lv_at hl 0 rfl) ?_
  refine gfR_X11_356 X I dX11_restore_6 ?_
  refine lv_if_ne (tgt := 14) hx hb dX11_restore_9 (by decide) (fun c2 => ?_) (fun c2 => ?_)
  · have h := ite_f h c2
    refine lv_aload_n hx hb dX11_restore_14 rfl (lv_at hl 0 rfl) ?_
    refine lv_aload_n hx hb dX11_restore_15 rfl (lv_at hl 0 rfl) ?_
    refine gfR_X11_503 X I dX11_restore_16 ?_
    refine pfR_X11_350 X I  dX11_restore_19 (fun H locs I => ?_)
    obtain ⟨σ3, eσ3, h⟩ := lt_e h
    replace I := wi_nm eσ3 I
    refine lv_aload_n hx hb dX11_restore_22 rfl (lv_at hl 0 rfl) ?_
    refine lv_aload_n hx hb dX11_restore_23 rfl (lv_at hl 0 rfl) ?_
    refine gfR_X11_506 X I dX11_restore_24 ?_
    refine pfR_X11_353 X I  dX11_restore_27 (fun H locs I => ?_)
    obtain ⟨σ4, eσ4, h⟩ := lt_e h
    replace I := wi_nm eσ4 I
    refine lv_aload_n hx hb dX11_restore_30 rfl (lv_at hl 0 rfl) ?_
    refine lv_aload_n hx hb dX11_restore_31 rfl (lv_at hl 0 rfl) ?_
    refine gfR_X11_174 X I dX11_restore_32 ?_
    refine lv_iconst (v := 0) hx hb dX11_restore_35 (by decide) ?_
    obtain ⟨q5, hq5, h⟩ := bd h
    refine r_callVV (V := (vR E)) (k := 0) (As := [.ref (ra E 45), .int (0 : Int32)]) (rest := []) X I hl (c_X11_unpack (kR_45 E) hq5) yv_X11_unpack tw_1095 ⟨rfl, rfl, Nat.le_of_ble_eq_true rfl, Nat.le_of_ble_eq_true rfl⟩ (Nat.le_of_ble_eq_true rfl) rfl rfl rfl rfl (Nat.le_of_ble_eq_true rfl) dX11_restore_36 (fun H locs I => ?_)
    refine lv_aload_n hx hb dX11_restore_39 rfl (lv_at hl 0 rfl) ?_
    refine gfR_X11_122 X I dX11_restore_40 ?_
    refine lv_aload_n hx hb dX11_restore_43 rfl (lv_at hl 0 rfl) ?_
    refine gfR_X11_177 X I dX11_restore_44 ?_
    obtain ⟨q6, hq6, h⟩ := bd h
    refine r_callSV (V := (vR E)) (As := [.ref (ra E 28), .ref (ra E 46)]) (rest := []) X I hl (c_X11_copyTo (kR_28 E) (kR_46 E) hq6) ys_X11_copyTo tw_1193 ⟨rfl, rfl, Nat.le_of_ble_eq_true rfl, Nat.le_of_ble_eq_true rfl⟩ rfl rfl (Nat.le_of_ble_eq_true rfl) dX11_restore_47 (fun H locs I => ?_)
    refine lv_aload_n hx hb dX11_restore_50 rfl (lv_at hl 0 rfl) ?_
    refine gfR_X11_149 X I dX11_restore_51 ?_
    refine lv_aload_n hx hb dX11_restore_54 rfl (lv_at hl 0 rfl) ?_
    refine gfR_X11_180 X I dX11_restore_55 ?_
    obtain ⟨q7, hq7, h⟩ := bd h
    refine r_callSV (V := (vR E)) (As := [.ref (ra E 37), .ref (ra E 47)]) (rest := []) X I hl (c_X11_copyTo (kR_37 E) (kR_47 E) hq7) ys_X11_copyTo tw_1193 ⟨rfl, rfl, Nat.le_of_ble_eq_true rfl, Nat.le_of_ble_eq_true rfl⟩ rfl rfl (Nat.le_of_ble_eq_true rfl) dX11_restore_58 (fun H locs I => ?_)
    refine lv_aload_n hx hb dX11_restore_61 rfl (lv_at hl 0 rfl) ?_
    refine gfR_X11_152 X I dX11_restore_62 ?_
    refine lv_aload_n hx hb dX11_restore_65 rfl (lv_at hl 0 rfl) ?_
    refine gfR_X11_183 X I dX11_restore_66 ?_
    obtain ⟨q8, hq8, h⟩ := bd h
    refine r_callSV (V := (vR E)) (As := [.ref (ra E 38), .ref (ra E 48)]) (rest := []) X I hl (c_X11_copyTo (kR_38 E) (kR_48 E) hq8) ys_X11_copyTo tw_1193 ⟨rfl, rfl, Nat.le_of_ble_eq_true rfl, Nat.le_of_ble_eq_true rfl⟩ rfl rfl (Nat.le_of_ble_eq_true rfl) dX11_restore_69 (fun H locs I => ?_)
    refine lv_aload_n hx hb dX11_restore_72 rfl (lv_at hl 0 rfl) ?_
    refine gfR_X11_155 X I dX11_restore_73 ?_
    refine lv_aload_n hx hb dX11_restore_76 rfl (lv_at hl 0 rfl) ?_
    refine gfR_X11_186 X I dX11_restore_77 ?_
    obtain ⟨q9, hq9, h⟩ := bd h
    refine r_callSV (V := (vR E)) (As := [.ref (ra E 39), .ref (ra E 49)]) (rest := []) X I hl (c_X11_copyTo (kR_39 E) (kR_49 E) hq9) ys_X11_copyTo tw_1193 ⟨rfl, rfl, Nat.le_of_ble_eq_true rfl, Nat.le_of_ble_eq_true rfl⟩ rfl rfl (Nat.le_of_ble_eq_true rfl) dX11_restore_80 (fun H locs I => ?_)
    refine lv_iconst (v := 0) hx hb dX11_restore_83 (by decide) ?_
    refine lv_istore_n (lv' := [(1, .int (0 : Int32)), (0, .ref (ra E 0))]) hx hb dX11_restore_84 rfl hl (by decide) rfl (fun ls hl => ?_)
    exact w_X11_restore_85 X   KF q9 (0 : Int32) h H locs ls I (lv_sub hl [1, 0] rfl)
  · have h := ite_t h c2
    refine lv_iconst (v := 0) hx hb dX11_restore_12 (by decide) ?_
    exact r_zret X I (Option.some.inj h).symm rfl dX11_restore_13
theorem c_X11_restore {l : Launch} {E : RE} {σ : Mem} {q : Int32 × Mem} (h : m_X11_restore σ = some q) : CI l (vR E) yX11_restore (.code yX11_restore cX11_restore 2 (some .boolean) :: GG) rm_X11_restore [.ref (ra E 0)] σ q :=
  mk_CI (by decide +kernel) (Nat.le_of_ble_eq_true rfl) (fun p e s m args below meth c A ls X I hl => w_X11_restore_0 X  σ  h s.heap [] ls I (lv_sub hl [0] rfl))

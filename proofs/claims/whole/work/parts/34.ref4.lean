def rm_X11_then : Room := { frames := 7, cells := 0, slots := 0, locals := 206 }
def m_X11_then (σ : Mem) (x1 : Int32) (x2 : Int32) : Option (Int32 × Mem) := (lt (ms σ 0 5 (0 : Int32)) fun σ1 => ((m_X11_isHouse σ1 x1).bind fun q2 => (if q2 = (0 : Int32) then ((m_X11_fail σ1 (1 : Int32)).bind fun q11 => (some (q11.1, q11.2))) else ((m_X11_isIn σ1 (Int32.toInt64 x2) (0 : Int64) (40 : Int64)).bind fun q4 => (if q4 = (0 : Int32) then ((m_X11_fail σ1 (2 : Int32)).bind fun q10 => (some (q10.1, q10.2))) else ((m_X11_pack 34 64 σ1 (0 : Int32)).bind fun q6 => ((m_X11_goOn q6 x2).bind fun q7 => (gd x1 8 (lt (q7 23 (Int32.toNatClampNeg x1)) fun y8 => ((m_X11_unpack 34 64 q7 (0 : Int32)).bind fun q9 => (some (y8, q9))))))))))))
set_option maxHeartbeats 4000000 in
set_option maxRecDepth 100000 in
theorem w_X11_then_0 {p : Program} {l : Launch} {e : Env} {s : State} {m : MethodId} {args : Array Value} {below : List Frame} {meth : Method} {c : Code} {A : Nat → Prop} {E : RE} {q : Int32 × Mem} (X : CX p s m meth c args cX11_then 4 RX11 (some .int)) : ∀ (σ : Mem) (x1 : Int32) (x2 : Int32) , m_X11_then σ x1 x2 = some q → ∀ (H : Heap) (locs : List Loc) (ls : Array Slot), WI (vR E) A s H locs σ → lv_has ls 4 [(0, .ref (ra E 0)), (1, .int x1), (2, .int x2)] → W p l e rm_X11_then s m args below meth c H locs 0 0 (MQ below (QI (vR E) A q) args s 0 0 A) (F0 m 0 ls []) := by
  have hx := X.1
  have hb := X.2.1
  intro σ x1 x2 h H locs ls I hl
  unfold m_X11_then at h
  refine lv_aload_n hx hb dX11_then_0 rfl (lv_at hl 0 rfl) ?_
  refine lv_iconst (v := 0) hx hb dX11_then_1 (by decide) ?_
  refine pfR_X11_195 X I  dX11_then_2 (fun H locs I => ?_)
  obtain ⟨σ1, eσ1, h⟩ := lt_e h
  replace I := wi_nm eσ1 I
  refine lv_aload_n hx hb dX11_then_5 rfl (lv_at hl 0 rfl) ?_
  refine lv_iload_n hx hb dX11_then_6 rfl (lv_at hl 1 rfl) ?_
  obtain ⟨q2, hq2, h⟩ := bd h
  refine r_callVI (V := (vR E)) (k := 0) (As := [.int x1]) (rest := []) X I hl (c_X11_isHouse  hq2) yv_X11_isHouse tw_1056 ⟨rfl, rfl, Nat.le_of_ble_eq_true rfl, Nat.le_of_ble_eq_true rfl⟩ (Nat.le_of_ble_eq_true rfl) rfl rfl rfl rfl (Nat.le_of_ble_eq_true rfl) dX11_then_7 (fun H locs I => ?_)
  refine lv_if_ne (tgt := 19) hx hb dX11_then_10 (by decide) (fun c3 => ?_) (fun c3 => ?_)
  · have h := ite_f h c3
    refine lv_iload_n hx hb dX11_then_19 rfl (lv_at hl 2 rfl) ?_
    refine lv_i2l hx hb dX11_then_20 rfl ?_
    refine lv_lconst (v := 0) hx hb dX11_then_21 (by decide) ?_
    refine lv_ldc2 hx hb X.2.2.2.1 (X.2.2.2.2.1 _ tw_1100) dX11_then_22 ?_
    obtain ⟨q4, hq4, h⟩ := bd h
    refine r_callSI (V := (vR E)) (As := [.long (Int32.toInt64 x2), .long (0 : Int64), .long (40 : Int64)]) (rest := []) X I hl (c_X11_isIn  hq4) ys_X11_isIn tw_801 ⟨rfl, rfl, Nat.le_of_ble_eq_true rfl, Nat.le_of_ble_eq_true rfl⟩ rfl rfl (Nat.le_of_ble_eq_true rfl) dX11_then_25 (fun H locs I => ?_)
    refine lv_if_ne (tgt := 37) hx hb dX11_then_28 (by decide) (fun c5 => ?_) (fun c5 => ?_)
    · have h := ite_f h c5
      refine lv_aload_n hx hb dX11_then_37 rfl (lv_at hl 0 rfl) ?_
      refine lv_aload_n hx hb dX11_then_38 rfl (lv_at hl 0 rfl) ?_
      refine gfR_X11_140 X I dX11_then_39 ?_
      refine lv_iconst (v := 0) hx hb dX11_then_42 (by decide) ?_
      obtain ⟨q6, hq6, h⟩ := bd h
      refine r_callVV (V := (vR E)) (k := 0) (As := [.ref (ra E 34), .int (0 : Int32)]) (rest := []) X I hl (c_X11_pack (kR_34 E) hq6) yv_X11_pack tw_1067 ⟨rfl, rfl, Nat.le_of_ble_eq_true rfl, Nat.le_of_ble_eq_true rfl⟩ (Nat.le_of_ble_eq_true rfl) rfl rfl rfl rfl (Nat.le_of_ble_eq_true rfl) dX11_then_43 (fun H locs I => ?_)
      refine lv_aload_n hx hb dX11_then_46 rfl (lv_at hl 0 rfl) ?_
      refine lv_iload_n hx hb dX11_then_47 rfl (lv_at hl 2 rfl) ?_
      obtain ⟨q7, hq7, h⟩ := bd h
      refine r_callVV (V := (vR E)) (k := 0) (As := [.int x2]) (rest := []) X I hl (c_X11_goOn  hq7) yv_X11_goOn tw_1083 ⟨rfl, rfl, Nat.le_of_ble_eq_true rfl, Nat.le_of_ble_eq_true rfl⟩ (Nat.le_of_ble_eq_true rfl) rfl rfl rfl rfl (Nat.le_of_ble_eq_true rfl) dX11_then_48 (fun H locs I => ?_)
      refine lv_aload_n hx hb dX11_then_51 rfl (lv_at hl 0 rfl) ?_
      refine gfR_X11_110 X I dX11_then_52 ?_
      refine lv_iload_n hx hb dX11_then_55 rfl (lv_at hl 1 rfl) ?_
      obtain ⟨hin, h⟩ := gd_some h
      refine ialdR X I (kR_23 E) hin dX11_then_56 ?_
      obtain ⟨y8, ey8, h⟩ := lt_e h
      refine nm_i ey8 ?_
      refine lv_istore_n (lv' := [(3, .int y8), (0, .ref (ra E 0)), (1, .int x1), (2, .int x2)]) hx hb dX11_then_57 rfl hl (by decide) rfl (fun ls hl => ?_)
      refine lv_aload_n hx hb dX11_then_58 rfl (lv_at hl 1 rfl) ?_
      refine lv_aload_n hx hb dX11_then_59 rfl (lv_at hl 1 rfl) ?_
      refine gfR_X11_140 X I dX11_then_60 ?_
      refine lv_iconst (v := 0) hx hb dX11_then_63 (by decide) ?_
      obtain ⟨q9, hq9, h⟩ := bd h
      refine r_callVV (V := (vR E)) (k := 0) (As := [.ref (ra E 34), .int (0 : Int32)]) (rest := []) X I hl (c_X11_unpack (kR_34 E) hq9) yv_X11_unpack tw_1095 ⟨rfl, rfl, Nat.le_of_ble_eq_true rfl, Nat.le_of_ble_eq_true rfl⟩ (Nat.le_of_ble_eq_true rfl) rfl rfl rfl rfl (Nat.le_of_ble_eq_true rfl) dX11_then_64 (fun H locs I => ?_)
      refine lv_iload_n hx hb dX11_then_67 rfl (lv_at hl 0 rfl) ?_
      exact r_iret X I (Option.some.inj h).symm dX11_then_68
    · have h := ite_t h c5
      refine lv_aload_n hx hb dX11_then_31 rfl (lv_at hl 0 rfl) ?_
      refine lv_iconst (v := 2) hx hb dX11_then_32 (by decide) ?_
      obtain ⟨q10, hq10, h⟩ := bd h
      refine r_callVI (V := (vR E)) (k := 0) (As := [.int (2 : Int32)]) (rest := []) X I hl (c_X11_fail  hq10) yv_X11_fail tw_957 ⟨rfl, rfl, Nat.le_of_ble_eq_true rfl, Nat.le_of_ble_eq_true rfl⟩ (Nat.le_of_ble_eq_true rfl) rfl rfl rfl rfl (Nat.le_of_ble_eq_true rfl) dX11_then_33 (fun H locs I => ?_)
      exact r_iret X I (Option.some.inj h).symm dX11_then_36
  · have h := ite_t h c3
    refine lv_aload_n hx hb dX11_then_13 rfl (lv_at hl 0 rfl) ?_
    refine lv_iconst (v := 1) hx hb dX11_then_14 (by decide) ?_
    obtain ⟨q11, hq11, h⟩ := bd h
    refine r_callVI (V := (vR E)) (k := 0) (As := [.int (1 : Int32)]) (rest := []) X I hl (c_X11_fail  hq11) yv_X11_fail tw_957 ⟨rfl, rfl, Nat.le_of_ble_eq_true rfl, Nat.le_of_ble_eq_true rfl⟩ (Nat.le_of_ble_eq_true rfl) rfl rfl rfl rfl (Nat.le_of_ble_eq_true rfl) dX11_then_15 (fun H locs I => ?_)
    exact r_iret X I (Option.some.inj h).symm dX11_then_18
theorem c_X11_then {l : Launch} {E : RE} {σ : Mem} {x1 : Int32} {x2 : Int32} {q : Int32 × Mem} (h : m_X11_then σ x1 x2 = some q) : CI l (vR E) yX11_then (.code yX11_then cX11_then 4 (some .int) :: GG) rm_X11_then [.ref (ra E 0), .int x1, .int x2] σ q :=
  mk_CI (by decide +kernel) (Nat.le_of_ble_eq_true rfl) (fun p e s m args below meth c A ls X I hl => w_X11_then_0 X  σ x1 x2 h s.heap [] ls I (lv_sub hl [0, 1, 2] rfl))

def rm_X11_purse : Room := { frames := 7, cells := 0, slots := 0, locals := 206 }
def m_X11_purse (σ : Mem) (x1 : Int32) (x2 : Int32) (x3 : Int32) : Option (Int32 × Mem) := (lt (ms σ 0 5 (0 : Int32)) fun σ1 => ((m_X11_isTenant σ1 x1).bind fun q2 => (if q2 = (0 : Int32) then ((m_X11_fail σ1 (1 : Int32)).bind fun q4 => (some (q4.1, q4.2))) else (if x3 < (0 : Int32) then ((m_X11_fail σ1 (1 : Int32)).bind fun q6 => (some (q6.1, q6.2))) else (if x3 ≤ (1 : Int32) then ((m_X11_isIn σ1 (Int32.toInt64 x2) (0 : Int64) (40 : Int64)).bind fun q8 => (if q8 = (0 : Int32) then ((m_X11_fail σ1 (2 : Int32)).bind fun q17 => (some (q17.1, q17.2))) else ((m_X11_pack 34 64 σ1 (0 : Int32)).bind fun q10 => ((m_X11_goOn q10 x2).bind fun q11 => (if x3 = (0 : Int32) then (gd x1 7 (lt (q11 27 (Int32.toNatClampNeg x1)) fun y15 => ((m_X11_unpack 34 64 q11 (0 : Int32)).bind fun q16 => (some (y15, q16))))) else (gd x1 7 (lt (q11 25 (Int32.toNatClampNeg x1)) fun y13 => ((m_X11_unpack 34 64 q11 (0 : Int32)).bind fun q14 => (some (y13, q14)))))))))) else ((m_X11_fail σ1 (1 : Int32)).bind fun q18 => (some (q18.1, q18.2))))))))
set_option maxHeartbeats 4000000 in
set_option maxRecDepth 100000 in
theorem w_X11_purse_0 {p : Program} {l : Launch} {e : Env} {s : State} {m : MethodId} {args : Array Value} {below : List Frame} {meth : Method} {c : Code} {A : Nat → Prop} {E : RE} {q : Int32 × Mem} (X : CX p s m meth c args cX11_purse 5 RX11 (some .int)) : ∀ (σ : Mem) (x1 : Int32) (x2 : Int32) (x3 : Int32) , m_X11_purse σ x1 x2 x3 = some q → ∀ (H : Heap) (locs : List Loc) (ls : Array Slot), WI (vR E) A s H locs σ → lv_has ls 5 [(0, .ref (ra E 0)), (1, .int x1), (2, .int x2), (3, .int x3)] → W p l e rm_X11_purse s m args below meth c H locs 0 0 (MQ below (QI (vR E) A q) args s 0 0 A) (F0 m 0 ls []) := by
  have hx := X.1
  have hb := X.2.1
  intro σ x1 x2 x3 h H locs ls I hl
  unfold m_X11_purse at h
  refine lv_aload_n hx hb dX11_purse_0 rfl (lv_at hl 0 rfl) ?_
  refine lv_iconst (v := 0) hx hb dX11_purse_1 (by decide) ?_
  refine pfR_X11_195 X I  dX11_purse_2 (fun H locs I => ?_)
  obtain ⟨σ1, eσ1, h⟩ := lt_e h
  replace I := wi_nm eσ1 I
  refine lv_aload_n hx hb dX11_purse_5 rfl (lv_at hl 0 rfl) ?_
  refine lv_iload_n hx hb dX11_purse_6 rfl (lv_at hl 1 rfl) ?_
  obtain ⟨q2, hq2, h⟩ := bd h
  refine r_callVI (V := (vR E)) (k := 0) (As := [.int x1]) (rest := []) X I hl (c_X11_isTenant  hq2) yv_X11_isTenant tw_1061 ⟨rfl, rfl, Nat.le_of_ble_eq_true rfl, Nat.le_of_ble_eq_true rfl⟩ (Nat.le_of_ble_eq_true rfl) rfl rfl rfl rfl (Nat.le_of_ble_eq_true rfl) dX11_purse_7 (fun H locs I => ?_)
  refine lv_if_eq (tgt := 22) hx hb dX11_purse_10 (by decide) (fun c3 => ?_) (fun c3 => ?_)
  · have h := ite_t h c3
    refine lv_aload_n hx hb dX11_purse_22 rfl (lv_at hl 0 rfl) ?_
    refine lv_iconst (v := 1) hx hb dX11_purse_23 (by decide) ?_
    obtain ⟨q4, hq4, h⟩ := bd h
    refine r_callVI (V := (vR E)) (k := 0) (As := [.int (1 : Int32)]) (rest := []) X I hl (c_X11_fail  hq4) yv_X11_fail tw_957 ⟨rfl, rfl, Nat.le_of_ble_eq_true rfl, Nat.le_of_ble_eq_true rfl⟩ (Nat.le_of_ble_eq_true rfl) rfl rfl rfl rfl (Nat.le_of_ble_eq_true rfl) dX11_purse_24 (fun H locs I => ?_)
    exact r_iret X I (Option.some.inj h).symm dX11_purse_27
  · have h := ite_f h c3
    refine lv_iload_n hx hb dX11_purse_13 rfl (lv_at hl 3 rfl) ?_
    refine lv_if_lt (tgt := 22) hx hb dX11_purse_14 (by decide) (fun c5 => ?_) (fun c5 => ?_)
    · have h := ite_t h c5
      refine lv_aload_n hx hb dX11_purse_22 rfl (lv_at hl 0 rfl) ?_
      refine lv_iconst (v := 1) hx hb dX11_purse_23 (by decide) ?_
      obtain ⟨q6, hq6, h⟩ := bd h
      refine r_callVI (V := (vR E)) (k := 0) (As := [.int (1 : Int32)]) (rest := []) X I hl (c_X11_fail  hq6) yv_X11_fail tw_957 ⟨rfl, rfl, Nat.le_of_ble_eq_true rfl, Nat.le_of_ble_eq_true rfl⟩ (Nat.le_of_ble_eq_true rfl) rfl rfl rfl rfl (Nat.le_of_ble_eq_true rfl) dX11_purse_24 (fun H locs I => ?_)
      exact r_iret X I (Option.some.inj h).symm dX11_purse_27
    · have h := ite_f h c5
      refine lv_iload_n hx hb dX11_purse_17 rfl (lv_at hl 3 rfl) ?_
      refine lv_iconst (v := 1) hx hb dX11_purse_18 (by decide) ?_
      refine lv_icmp_le (tgt := 28) hx hb dX11_purse_19 (by decide) (fun c7 => ?_) (fun c7 => ?_)
      · have h := ite_t h c7
        refine lv_iload_n hx hb dX11_purse_28 rfl (lv_at hl 2 rfl) ?_
        refine lv_i2l hx hb dX11_purse_29 rfl ?_
        refine lv_lconst (v := 0) hx hb dX11_purse_30 (by decide) ?_
        refine lv_ldc2 hx hb X.2.2.2.1 (X.2.2.2.2.1 _ tw_1100) dX11_purse_31 ?_
        obtain ⟨q8, hq8, h⟩ := bd h
        refine r_callSI (V := (vR E)) (As := [.long (Int32.toInt64 x2), .long (0 : Int64), .long (40 : Int64)]) (rest := []) X I hl (c_X11_isIn  hq8) ys_X11_isIn tw_801 ⟨rfl, rfl, Nat.le_of_ble_eq_true rfl, Nat.le_of_ble_eq_true rfl⟩ rfl rfl (Nat.le_of_ble_eq_true rfl) dX11_purse_34 (fun H locs I => ?_)
        refine lv_if_ne (tgt := 46) hx hb dX11_purse_37 (by decide) (fun c9 => ?_) (fun c9 => ?_)
        · have h := ite_f h c9
          refine lv_aload_n hx hb dX11_purse_46 rfl (lv_at hl 0 rfl) ?_
          refine lv_aload_n hx hb dX11_purse_47 rfl (lv_at hl 0 rfl) ?_
          refine gfR_X11_140 X I dX11_purse_48 ?_
          refine lv_iconst (v := 0) hx hb dX11_purse_51 (by decide) ?_
          obtain ⟨q10, hq10, h⟩ := bd h
          refine r_callVV (V := (vR E)) (k := 0) (As := [.ref (ra E 34), .int (0 : Int32)]) (rest := []) X I hl (c_X11_pack (kR_34 E) hq10) yv_X11_pack tw_1067 ⟨rfl, rfl, Nat.le_of_ble_eq_true rfl, Nat.le_of_ble_eq_true rfl⟩ (Nat.le_of_ble_eq_true rfl) rfl rfl rfl rfl (Nat.le_of_ble_eq_true rfl) dX11_purse_52 (fun H locs I => ?_)
          refine lv_aload_n hx hb dX11_purse_55 rfl (lv_at hl 0 rfl) ?_
          refine lv_iload_n hx hb dX11_purse_56 rfl (lv_at hl 2 rfl) ?_
          obtain ⟨q11, hq11, h⟩ := bd h
          refine r_callVV (V := (vR E)) (k := 0) (As := [.int x2]) (rest := []) X I hl (c_X11_goOn  hq11) yv_X11_goOn tw_1083 ⟨rfl, rfl, Nat.le_of_ble_eq_true rfl, Nat.le_of_ble_eq_true rfl⟩ (Nat.le_of_ble_eq_true rfl) rfl rfl rfl rfl (Nat.le_of_ble_eq_true rfl) dX11_purse_57 (fun H locs I => ?_)
          refine lv_iload_n hx hb dX11_purse_60 rfl (lv_at hl 3 rfl) ?_
          refine lv_if_ne (tgt := 73) hx hb dX11_purse_61 (by decide) (fun c12 => ?_) (fun c12 => ?_)
          · have h := ite_f h c12
            refine lv_aload_n hx hb dX11_purse_73 rfl (lv_at hl 0 rfl) ?_
            refine gfR_X11_115 X I dX11_purse_74 ?_
            refine lv_iload_n hx hb dX11_purse_77 rfl (lv_at hl 1 rfl) ?_
            obtain ⟨hin, h⟩ := gd_some h
            refine ialdR X I (kR_25 E) hin dX11_purse_78 ?_
            obtain ⟨y13, ey13, h⟩ := lt_e h
            refine nm_i ey13 ?_
            refine lv_istore (lv' := [(4, .int y13), (0, .ref (ra E 0)), (1, .int x1), (2, .int x2), (3, .int x3)]) hx hb dX11_purse_79 hl (by decide) rfl (fun ls hl => ?_)
            refine lv_aload_n hx hb dX11_purse_81 rfl (lv_at hl 1 rfl) ?_
            refine lv_aload_n hx hb dX11_purse_82 rfl (lv_at hl 1 rfl) ?_
            refine gfR_X11_140 X I dX11_purse_83 ?_
            refine lv_iconst (v := 0) hx hb dX11_purse_86 (by decide) ?_
            obtain ⟨q14, hq14, h⟩ := bd h
            refine r_callVV (V := (vR E)) (k := 0) (As := [.ref (ra E 34), .int (0 : Int32)]) (rest := []) X I hl (c_X11_unpack (kR_34 E) hq14) yv_X11_unpack tw_1095 ⟨rfl, rfl, Nat.le_of_ble_eq_true rfl, Nat.le_of_ble_eq_true rfl⟩ (Nat.le_of_ble_eq_true rfl) rfl rfl rfl rfl (Nat.le_of_ble_eq_true rfl) dX11_purse_87 (fun H locs I => ?_)
            refine lv_iload hx hb dX11_purse_90 (lv_at hl 0 rfl) ?_
            exact r_iret X I (Option.some.inj h).symm dX11_purse_92
          · have h := ite_t h c12
            refine lv_aload_n hx hb dX11_purse_64 rfl (lv_at hl 0 rfl) ?_
            refine gfR_X11_120 X I dX11_purse_65 ?_
            refine lv_iload_n hx hb dX11_purse_68 rfl (lv_at hl 1 rfl) ?_
            obtain ⟨hin, h⟩ := gd_some h
            refine ialdR X I (kR_27 E) hin dX11_purse_69 ?_
            refine lv_goto (tgt := 79) hx hb dX11_purse_70 (by decide) ?_
            obtain ⟨y15, ey15, h⟩ := lt_e h
            refine nm_i ey15 ?_
            refine lv_istore (lv' := [(4, .int y15), (0, .ref (ra E 0)), (1, .int x1), (2, .int x2), (3, .int x3)]) hx hb dX11_purse_79 hl (by decide) rfl (fun ls hl => ?_)
            refine lv_aload_n hx hb dX11_purse_81 rfl (lv_at hl 1 rfl) ?_
            refine lv_aload_n hx hb dX11_purse_82 rfl (lv_at hl 1 rfl) ?_
            refine gfR_X11_140 X I dX11_purse_83 ?_
            refine lv_iconst (v := 0) hx hb dX11_purse_86 (by decide) ?_
            obtain ⟨q16, hq16, h⟩ := bd h
            refine r_callVV (V := (vR E)) (k := 0) (As := [.ref (ra E 34), .int (0 : Int32)]) (rest := []) X I hl (c_X11_unpack (kR_34 E) hq16) yv_X11_unpack tw_1095 ⟨rfl, rfl, Nat.le_of_ble_eq_true rfl, Nat.le_of_ble_eq_true rfl⟩ (Nat.le_of_ble_eq_true rfl) rfl rfl rfl rfl (Nat.le_of_ble_eq_true rfl) dX11_purse_87 (fun H locs I => ?_)
            refine lv_iload hx hb dX11_purse_90 (lv_at hl 0 rfl) ?_
            exact r_iret X I (Option.some.inj h).symm dX11_purse_92
        · have h := ite_t h c9
          refine lv_aload_n hx hb dX11_purse_40 rfl (lv_at hl 0 rfl) ?_
          refine lv_iconst (v := 2) hx hb dX11_purse_41 (by decide) ?_
          obtain ⟨q17, hq17, h⟩ := bd h
          refine r_callVI (V := (vR E)) (k := 0) (As := [.int (2 : Int32)]) (rest := []) X I hl (c_X11_fail  hq17) yv_X11_fail tw_957 ⟨rfl, rfl, Nat.le_of_ble_eq_true rfl, Nat.le_of_ble_eq_true rfl⟩ (Nat.le_of_ble_eq_true rfl) rfl rfl rfl rfl (Nat.le_of_ble_eq_true rfl) dX11_purse_42 (fun H locs I => ?_)
          exact r_iret X I (Option.some.inj h).symm dX11_purse_45
      · have h := ite_f h c7
        refine lv_aload_n hx hb dX11_purse_22 rfl (lv_at hl 0 rfl) ?_
        refine lv_iconst (v := 1) hx hb dX11_purse_23 (by decide) ?_
        obtain ⟨q18, hq18, h⟩ := bd h
        refine r_callVI (V := (vR E)) (k := 0) (As := [.int (1 : Int32)]) (rest := []) X I hl (c_X11_fail  hq18) yv_X11_fail tw_957 ⟨rfl, rfl, Nat.le_of_ble_eq_true rfl, Nat.le_of_ble_eq_true rfl⟩ (Nat.le_of_ble_eq_true rfl) rfl rfl rfl rfl (Nat.le_of_ble_eq_true rfl) dX11_purse_24 (fun H locs I => ?_)
        exact r_iret X I (Option.some.inj h).symm dX11_purse_27
theorem c_X11_purse {l : Launch} {E : RE} {σ : Mem} {x1 : Int32} {x2 : Int32} {x3 : Int32} {q : Int32 × Mem} (h : m_X11_purse σ x1 x2 x3 = some q) : CI l (vR E) yX11_purse (.code yX11_purse cX11_purse 5 (some .int) :: GG) rm_X11_purse [.ref (ra E 0), .int x1, .int x2, .int x3] σ q :=
  mk_CI (by decide +kernel) (Nat.le_of_ble_eq_true rfl) (fun p e s m args below meth c A ls X I hl => w_X11_purse_0 X  σ x1 x2 x3 h s.heap [] ls I (lv_sub hl [0, 1, 2, 3] rfl))

def rm_X11_sealed : Room := { frames := 6, cells := 0, slots := 0, locals := 184 }
def f_X11_sealed_32 (x1 : Int32) : Nat → Mem → Int32 → Int32 → Option (Int32 × Mem)
  | 0, _, _, _ => none
  | n + 1, σ, x2, x3 => (if (99 : Int32) < x3 then ((m_X11_unpack 34 64 σ (0 : Int32)).bind fun q2 => (some (x2, q2))) else (if x2 = (-1 : Int32) then ((m_X11_isOf σ (σ 0 42) x1).bind fun q5 => (if q5 = (0 : Int32) then ((m_X11_aQuarter σ).bind fun q7 => f_X11_sealed_32 x1 n q7 x2 (x3 + 1)) else ((m_X11_aQuarter σ).bind fun q8 => f_X11_sealed_32 x1 n q8 x3 (x3 + 1)))) else ((m_X11_unpack 34 64 σ (0 : Int32)).bind fun q4 => (some (x2, q4)))))
def m_X11_sealed (σ : Mem) (x1 : Int32) : Option (Int32 × Mem) := (lt (ms σ 0 5 (0 : Int32)) fun σ1 => ((m_X11_isHouse σ1 x1).bind fun q2 => (if q2 = (0 : Int32) then ((m_X11_fail σ1 (1 : Int32)).bind fun q5 => (some (q5.1, q5.2))) else ((m_X11_pack 34 64 σ1 (0 : Int32)).bind fun q4 => (f_X11_sealed_32 x1 KF q4 (-1 : Int32) (0 : Int32))))))
set_option maxHeartbeats 4000000 in
set_option maxRecDepth 100000 in
theorem w_X11_sealed_32 {p : Program} {l : Launch} {e : Env} {s : State} {m : MethodId} {args : Array Value} {below : List Frame} {meth : Method} {c : Code} {A : Nat → Prop} {E : RE} {q : Int32 × Mem} (X : CX p s m meth c args cX11_sealed 4 RX11 (some .int)) {x1 : Int32} : ∀ (n : Nat), ∀ (σ : Mem) (x2 : Int32) (x3 : Int32) , f_X11_sealed_32 x1 n σ x2 x3 = some q → ∀ (H : Heap) (locs : List Loc) (ls : Array Slot), WI (vR E) A s H locs σ → lv_has ls 4 [(0, .ref (ra E 0)), (1, .int x1), (2, .int x2), (3, .int x3)] → W p l e rm_X11_sealed s m args below meth c H locs 0 0 (MQ below (QI (vR E) A q) args s 0 0 A) (F0 m 32 ls []) := by
  have hx := X.1
  have hb := X.2.1
  intro n
  induction n with
  | zero =>
    intro σ x2 x3 h
    cases h
  | succ n ih =>
    intro σ x2 x3 h H locs ls I hl
    rw [f_X11_sealed_32] at h
    refine lv_iload_n hx hb dX11_sealed_32 rfl (lv_at hl 3 rfl) ?_
    refine lv_bipush (v := 99) hx hb dX11_sealed_33 (by decide) ?_
    refine lv_icmp_gt (tgt := 66) hx hb dX11_sealed_35 (by decide) (fun c1 => ?_) (fun c1 => ?_)
    · have h := ite_t h c1
      refine lv_aload_n hx hb dX11_sealed_66 rfl (lv_at hl 0 rfl) ?_
      refine lv_aload_n hx hb dX11_sealed_67 rfl (lv_at hl 0 rfl) ?_
      refine gfR_X11_140 X I dX11_sealed_68 ?_
      refine lv_iconst (v := 0) hx hb dX11_sealed_71 (by decide) ?_
      obtain ⟨q2, hq2, h⟩ := bd h
      refine r_callVV (V := (vR E)) (k := 0) (As := [.ref (ra E 34), .int (0 : Int32)]) (rest := []) X I hl (c_X11_unpack (kR_34 E) hq2) yv_X11_unpack tw_1095 ⟨rfl, rfl, Nat.le_of_ble_eq_true rfl, Nat.le_of_ble_eq_true rfl⟩ (Nat.le_of_ble_eq_true rfl) rfl rfl rfl rfl (Nat.le_of_ble_eq_true rfl) dX11_sealed_72 (fun H locs I => ?_)
      refine lv_iload_n hx hb dX11_sealed_75 rfl (lv_at hl 2 rfl) ?_
      exact r_iret X I (Option.some.inj h).symm dX11_sealed_76
    · have h := ite_f h c1
      refine lv_iload_n hx hb dX11_sealed_38 rfl (lv_at hl 2 rfl) ?_
      refine lv_iconst (v := -1) hx hb dX11_sealed_39 (by decide) ?_
      refine lv_icmp_ne (tgt := 66) hx hb dX11_sealed_40 (by decide) (fun c3 => ?_) (fun c3 => ?_)
      · have h := ite_f h c3
        refine lv_aload_n hx hb dX11_sealed_66 rfl (lv_at hl 0 rfl) ?_
        refine lv_aload_n hx hb dX11_sealed_67 rfl (lv_at hl 0 rfl) ?_
        refine gfR_X11_140 X I dX11_sealed_68 ?_
        refine lv_iconst (v := 0) hx hb dX11_sealed_71 (by decide) ?_
        obtain ⟨q4, hq4, h⟩ := bd h
        refine r_callVV (V := (vR E)) (k := 0) (As := [.ref (ra E 34), .int (0 : Int32)]) (rest := []) X I hl (c_X11_unpack (kR_34 E) hq4) yv_X11_unpack tw_1095 ⟨rfl, rfl, Nat.le_of_ble_eq_true rfl, Nat.le_of_ble_eq_true rfl⟩ (Nat.le_of_ble_eq_true rfl) rfl rfl rfl rfl (Nat.le_of_ble_eq_true rfl) dX11_sealed_72 (fun H locs I => ?_)
        refine lv_iload_n hx hb dX11_sealed_75 rfl (lv_at hl 2 rfl) ?_
        exact r_iret X I (Option.some.inj h).symm dX11_sealed_76
      · have h := ite_t h c3
        refine lv_aload_n hx hb dX11_sealed_43 rfl (lv_at hl 0 rfl) ?_
        refine gfR_X11_344 X I dX11_sealed_44 ?_
        refine lv_iload_n hx hb dX11_sealed_47 rfl (lv_at hl 1 rfl) ?_
        obtain ⟨q5, hq5, h⟩ := bd h
        refine r_callSI (V := (vR E)) (As := [.int (σ 0 42), .int x1]) (rest := []) X I hl (c_X11_isOf  hq5) ys_X11_isOf tw_1012 ⟨rfl, rfl, Nat.le_of_ble_eq_true rfl, Nat.le_of_ble_eq_true rfl⟩ rfl rfl (Nat.le_of_ble_eq_true rfl) dX11_sealed_48 (fun H locs I => ?_)
        refine lv_if_eq (tgt := 56) hx hb dX11_sealed_51 (by decide) (fun c6 => ?_) (fun c6 => ?_)
        · have h := ite_t h c6
          refine lv_aload_n hx hb dX11_sealed_56 rfl (lv_at hl 0 rfl) ?_
          obtain ⟨q7, hq7, h⟩ := bd h
          refine r_callVV (V := (vR E)) (k := 0) (As := []) (rest := []) X I hl (c_X11_aQuarter  hq7) yv_X11_aQuarter tw_1041 ⟨rfl, rfl, Nat.le_of_ble_eq_true rfl, Nat.le_of_ble_eq_true rfl⟩ (Nat.le_of_ble_eq_true rfl) rfl rfl rfl rfl (Nat.le_of_ble_eq_true rfl) dX11_sealed_57 (fun H locs I => ?_)
          refine lv_iinc (v := (x3 + 1)) (lv' := [(3, .int (x3 + 1)), (0, .ref (ra E 0)), (1, .int x1), (2, .int x2)]) hx hb dX11_sealed_60 hl (k := 3) rfl rfl (by decide) rfl (fun ls hl => ?_)
          refine lv_goto (tgt := 32) hx hb dX11_sealed_63 (by decide) ?_
          exact ih q7 x2 (x3 + 1) h H locs ls I (lv_sub hl [1, 2, 3, 0] rfl)
        · have h := ite_f h c6
          refine lv_iload_n hx hb dX11_sealed_54 rfl (lv_at hl 3 rfl) ?_
          refine lv_istore_n (lv' := [(2, .int x3), (0, .ref (ra E 0)), (1, .int x1), (3, .int x3)]) hx hb dX11_sealed_55 rfl hl (by decide) rfl (fun ls hl => ?_)
          refine lv_aload_n hx hb dX11_sealed_56 rfl (lv_at hl 1 rfl) ?_
          obtain ⟨q8, hq8, h⟩ := bd h
          refine r_callVV (V := (vR E)) (k := 0) (As := []) (rest := []) X I hl (c_X11_aQuarter  hq8) yv_X11_aQuarter tw_1041 ⟨rfl, rfl, Nat.le_of_ble_eq_true rfl, Nat.le_of_ble_eq_true rfl⟩ (Nat.le_of_ble_eq_true rfl) rfl rfl rfl rfl (Nat.le_of_ble_eq_true rfl) dX11_sealed_57 (fun H locs I => ?_)
          refine lv_iinc (v := (x3 + 1)) (lv' := [(3, .int (x3 + 1)), (2, .int x3), (0, .ref (ra E 0)), (1, .int x1)]) hx hb dX11_sealed_60 hl (k := 3) rfl rfl (by decide) rfl (fun ls hl => ?_)
          refine lv_goto (tgt := 32) hx hb dX11_sealed_63 (by decide) ?_
          exact ih q8 x3 (x3 + 1) h H locs ls I (lv_sub hl [2, 3, 1, 0] rfl)
set_option maxHeartbeats 4000000 in
set_option maxRecDepth 100000 in
theorem w_X11_sealed_0 {p : Program} {l : Launch} {e : Env} {s : State} {m : MethodId} {args : Array Value} {below : List Frame} {meth : Method} {c : Code} {A : Nat → Prop} {E : RE} {q : Int32 × Mem} (X : CX p s m meth c args cX11_sealed 4 RX11 (some .int)) : ∀ (σ : Mem) (x1 : Int32) , m_X11_sealed σ x1 = some q → ∀ (H : Heap) (locs : List Loc) (ls : Array Slot), WI (vR E) A s H locs σ → lv_has ls 4 [(0, .ref (ra E 0)), (1, .int x1)] → W p l e rm_X11_sealed s m args below meth c H locs 0 0 (MQ below (QI (vR E) A q) args s 0 0 A) (F0 m 0 ls []) := by
  have hx := X.1
  have hb := X.2.1
  intro σ x1 h H locs ls I hl
  unfold m_X11_sealed at h
  refine lv_aload_n hx hb dX11_sealed_0 rfl (lv_at hl 0 rfl) ?_
  refine lv_iconst (v := 0) hx hb dX11_sealed_1 (by decide) ?_
  refine pfR_X11_195 X I  dX11_sealed_2 (fun H locs I => ?_)
  obtain ⟨σ1, eσ1, h⟩ := lt_e h
  replace I := wi_nm eσ1 I
  refine lv_aload_n hx hb dX11_sealed_5 rfl (lv_at hl 0 rfl) ?_
  refine lv_iload_n hx hb dX11_sealed_6 rfl (lv_at hl 1 rfl) ?_
  obtain ⟨q2, hq2, h⟩ := bd h
  refine r_callVI (V := (vR E)) (k := 0) (As := [.int x1]) (rest := []) X I hl (c_X11_isHouse  hq2) yv_X11_isHouse tw_1056 ⟨rfl, rfl, Nat.le_of_ble_eq_true rfl, Nat.le_of_ble_eq_true rfl⟩ (Nat.le_of_ble_eq_true rfl) rfl rfl rfl rfl (Nat.le_of_ble_eq_true rfl) dX11_sealed_7 (fun H locs I => ?_)
  refine lv_if_ne (tgt := 19) hx hb dX11_sealed_10 (by decide) (fun c3 => ?_) (fun c3 => ?_)
  · have h := ite_f h c3
    refine lv_aload_n hx hb dX11_sealed_19 rfl (lv_at hl 0 rfl) ?_
    refine lv_aload_n hx hb dX11_sealed_20 rfl (lv_at hl 0 rfl) ?_
    refine gfR_X11_140 X I dX11_sealed_21 ?_
    refine lv_iconst (v := 0) hx hb dX11_sealed_24 (by decide) ?_
    obtain ⟨q4, hq4, h⟩ := bd h
    refine r_callVV (V := (vR E)) (k := 0) (As := [.ref (ra E 34), .int (0 : Int32)]) (rest := []) X I hl (c_X11_pack (kR_34 E) hq4) yv_X11_pack tw_1067 ⟨rfl, rfl, Nat.le_of_ble_eq_true rfl, Nat.le_of_ble_eq_true rfl⟩ (Nat.le_of_ble_eq_true rfl) rfl rfl rfl rfl (Nat.le_of_ble_eq_true rfl) dX11_sealed_25 (fun H locs I => ?_)
    refine lv_iconst (v := -1) hx hb dX11_sealed_28 (by decide) ?_
    refine lv_istore_n (lv' := [(2, .int (-1 : Int32)), (0, .ref (ra E 0)), (1, .int x1)]) hx hb dX11_sealed_29 rfl hl (by decide) rfl (fun ls hl => ?_)
    refine lv_iconst (v := 0) hx hb dX11_sealed_30 (by decide) ?_
    refine lv_istore_n (lv' := [(3, .int (0 : Int32)), (2, .int (-1 : Int32)), (0, .ref (ra E 0)), (1, .int x1)]) hx hb dX11_sealed_31 rfl hl (by decide) rfl (fun ls hl => ?_)
    exact w_X11_sealed_32 X   KF q4 (-1 : Int32) (0 : Int32) h H locs ls I (lv_sub hl [2, 3, 1, 0] rfl)
  · have h := ite_t h c3
    refine lv_aload_n hx hb dX11_sealed_13 rfl (lv_at hl 0 rfl) ?_
    refine lv_iconst (v := 1) hx hb dX11_sealed_14 (by decide) ?_
    obtain ⟨q5, hq5, h⟩ := bd h
    refine r_callVI (V := (vR E)) (k := 0) (As := [.int (1 : Int32)]) (rest := []) X I hl (c_X11_fail  hq5) yv_X11_fail tw_957 ⟨rfl, rfl, Nat.le_of_ble_eq_true rfl, Nat.le_of_ble_eq_true rfl⟩ (Nat.le_of_ble_eq_true rfl) rfl rfl rfl rfl (Nat.le_of_ble_eq_true rfl) dX11_sealed_15 (fun H locs I => ?_)
    exact r_iret X I (Option.some.inj h).symm dX11_sealed_18
theorem c_X11_sealed {l : Launch} {E : RE} {σ : Mem} {x1 : Int32} {q : Int32 × Mem} (h : m_X11_sealed σ x1 = some q) : CI l (vR E) yX11_sealed (.code yX11_sealed cX11_sealed 4 (some .int) :: GG) rm_X11_sealed [.ref (ra E 0), .int x1] σ q :=
  mk_CI (by decide +kernel) (Nat.le_of_ble_eq_true rfl) (fun p e s m args below meth c A ls X I hl => w_X11_sealed_0 X  σ x1 h s.heap [] ls I (lv_sub hl [0, 1] rfl))

def rm_X11_gets : Room := { frames := 6, cells := 0, slots := 0, locals := 184 }
def f_X11_gets_41 (x1 : Int32) (x2 : Int32) : Nat → Mem → Int32 → Int32 → Option (Int32 × Mem)
  | 0, _, _, _ => none
  | n + 1, σ, x3, x4 => (if (40 : Int32) < x4 then ((m_X11_unpack 34 64 σ (0 : Int32)).bind fun q2 => (some (x3, q2))) else (if x3 = (-1 : Int32) then (gd x2 8 (if (σ 23 (Int32.toNatClampNeg x2)) = x1 then ((m_X11_aQuarter σ).bind fun q7 => f_X11_gets_41 x1 x2 n q7 x4 (x4 + 1)) else ((m_X11_aQuarter σ).bind fun q6 => f_X11_gets_41 x1 x2 n q6 x3 (x4 + 1)))) else ((m_X11_unpack 34 64 σ (0 : Int32)).bind fun q4 => (some (x3, q4)))))
def m_X11_gets (σ : Mem) (x1 : Int32) (x2 : Int32) : Option (Int32 × Mem) := (lt (ms σ 0 5 (0 : Int32)) fun σ1 => ((m_X11_isTenant σ1 x1).bind fun q2 => (if q2 = (0 : Int32) then ((m_X11_fail σ1 (1 : Int32)).bind fun q4 => (some (q4.1, q4.2))) else ((m_X11_isHouse σ1 x2).bind fun q5 => (if q5 = (0 : Int32) then ((m_X11_fail σ1 (1 : Int32)).bind fun q8 => (some (q8.1, q8.2))) else ((m_X11_pack 34 64 σ1 (0 : Int32)).bind fun q7 => (f_X11_gets_41 x1 x2 KF q7 (-1 : Int32) (0 : Int32))))))))
set_option maxHeartbeats 4000000 in
set_option maxRecDepth 100000 in
theorem w_X11_gets_41 {p : Program} {l : Launch} {e : Env} {s : State} {m : MethodId} {args : Array Value} {below : List Frame} {meth : Method} {c : Code} {A : Nat → Prop} {E : RE} {q : Int32 × Mem} (X : CX p s m meth c args cX11_gets 5 RX11 (some .int)) {x1 : Int32} {x2 : Int32} : ∀ (n : Nat), ∀ (σ : Mem) (x3 : Int32) (x4 : Int32) , f_X11_gets_41 x1 x2 n σ x3 x4 = some q → ∀ (H : Heap) (locs : List Loc) (ls : Array Slot), WI (vR E) A s H locs σ → lv_has ls 5 [(0, .ref (ra E 0)), (1, .int x1), (2, .int x2), (3, .int x3), (4, .int x4)] → W p l e rm_X11_gets s m args below meth c H locs 0 0 (MQ below (QI (vR E) A q) args s 0 0 A) (F0 m 41 ls []) := by
  have hx := X.1
  have hb := X.2.1
  intro n
  induction n with
  | zero =>
    intro σ x3 x4 h
    cases h
  | succ n ih =>
    intro σ x3 x4 h H locs ls I hl
    rw [f_X11_gets_41] at h
    refine lv_iload hx hb dX11_gets_41 (lv_at hl 4 rfl) ?_
    refine lv_bipush (v := 40) hx hb dX11_gets_43 (by decide) ?_
    refine lv_icmp_gt (tgt := 76) hx hb dX11_gets_45 (by decide) (fun c1 => ?_) (fun c1 => ?_)
    · have h := ite_t h c1
      refine lv_aload_n hx hb dX11_gets_76 rfl (lv_at hl 0 rfl) ?_
      refine lv_aload_n hx hb dX11_gets_77 rfl (lv_at hl 0 rfl) ?_
      refine gfR_X11_140 X I dX11_gets_78 ?_
      refine lv_iconst (v := 0) hx hb dX11_gets_81 (by decide) ?_
      obtain ⟨q2, hq2, h⟩ := bd h
      refine r_callVV (V := (vR E)) (k := 0) (As := [.ref (ra E 34), .int (0 : Int32)]) (rest := []) X I hl (c_X11_unpack (kR_34 E) hq2) yv_X11_unpack tw_1095 ⟨rfl, rfl, Nat.le_of_ble_eq_true rfl, Nat.le_of_ble_eq_true rfl⟩ (Nat.le_of_ble_eq_true rfl) rfl rfl rfl rfl (Nat.le_of_ble_eq_true rfl) dX11_gets_82 (fun H locs I => ?_)
      refine lv_iload_n hx hb dX11_gets_85 rfl (lv_at hl 3 rfl) ?_
      exact r_iret X I (Option.some.inj h).symm dX11_gets_86
    · have h := ite_f h c1
      refine lv_iload_n hx hb dX11_gets_48 rfl (lv_at hl 3 rfl) ?_
      refine lv_iconst (v := -1) hx hb dX11_gets_49 (by decide) ?_
      refine lv_icmp_ne (tgt := 76) hx hb dX11_gets_50 (by decide) (fun c3 => ?_) (fun c3 => ?_)
      · have h := ite_f h c3
        refine lv_aload_n hx hb dX11_gets_76 rfl (lv_at hl 0 rfl) ?_
        refine lv_aload_n hx hb dX11_gets_77 rfl (lv_at hl 0 rfl) ?_
        refine gfR_X11_140 X I dX11_gets_78 ?_
        refine lv_iconst (v := 0) hx hb dX11_gets_81 (by decide) ?_
        obtain ⟨q4, hq4, h⟩ := bd h
        refine r_callVV (V := (vR E)) (k := 0) (As := [.ref (ra E 34), .int (0 : Int32)]) (rest := []) X I hl (c_X11_unpack (kR_34 E) hq4) yv_X11_unpack tw_1095 ⟨rfl, rfl, Nat.le_of_ble_eq_true rfl, Nat.le_of_ble_eq_true rfl⟩ (Nat.le_of_ble_eq_true rfl) rfl rfl rfl rfl (Nat.le_of_ble_eq_true rfl) dX11_gets_82 (fun H locs I => ?_)
        refine lv_iload_n hx hb dX11_gets_85 rfl (lv_at hl 3 rfl) ?_
        exact r_iret X I (Option.some.inj h).symm dX11_gets_86
      · have h := ite_t h c3
        refine lv_aload_n hx hb dX11_gets_53 rfl (lv_at hl 0 rfl) ?_
        refine gfR_X11_110 X I dX11_gets_54 ?_
        refine lv_iload_n hx hb dX11_gets_57 rfl (lv_at hl 2 rfl) ?_
        obtain ⟨hin, h⟩ := gd_some h
        refine ialdR X I (kR_23 E) hin dX11_gets_58 ?_
        refine lv_iload_n hx hb dX11_gets_59 rfl (lv_at hl 1 rfl) ?_
        refine lv_icmp_ne (tgt := 66) hx hb dX11_gets_60 (by decide) (fun c5 => ?_) (fun c5 => ?_)
        · have h := ite_f h c5
          refine lv_aload_n hx hb dX11_gets_66 rfl (lv_at hl 0 rfl) ?_
          obtain ⟨q6, hq6, h⟩ := bd h
          refine r_callVV (V := (vR E)) (k := 0) (As := []) (rest := []) X I hl (c_X11_aQuarter  hq6) yv_X11_aQuarter tw_1041 ⟨rfl, rfl, Nat.le_of_ble_eq_true rfl, Nat.le_of_ble_eq_true rfl⟩ (Nat.le_of_ble_eq_true rfl) rfl rfl rfl rfl (Nat.le_of_ble_eq_true rfl) dX11_gets_67 (fun H locs I => ?_)
          refine lv_iinc (v := (x4 + 1)) (lv' := [(4, .int (x4 + 1)), (0, .ref (ra E 0)), (1, .int x1), (2, .int x2), (3, .int x3)]) hx hb dX11_gets_70 hl (k := 4) rfl rfl (by decide) rfl (fun ls hl => ?_)
          refine lv_goto (tgt := 41) hx hb dX11_gets_73 (by decide) ?_
          exact ih q6 x3 (x4 + 1) h H locs ls I (lv_sub hl [1, 2, 3, 4, 0] rfl)
        · have h := ite_t h c5
          refine lv_iload hx hb dX11_gets_63 (lv_at hl 4 rfl) ?_
          refine lv_istore_n (lv' := [(3, .int x4), (0, .ref (ra E 0)), (1, .int x1), (2, .int x2), (4, .int x4)]) hx hb dX11_gets_65 rfl hl (by decide) rfl (fun ls hl => ?_)
          refine lv_aload_n hx hb dX11_gets_66 rfl (lv_at hl 1 rfl) ?_
          obtain ⟨q7, hq7, h⟩ := bd h
          refine r_callVV (V := (vR E)) (k := 0) (As := []) (rest := []) X I hl (c_X11_aQuarter  hq7) yv_X11_aQuarter tw_1041 ⟨rfl, rfl, Nat.le_of_ble_eq_true rfl, Nat.le_of_ble_eq_true rfl⟩ (Nat.le_of_ble_eq_true rfl) rfl rfl rfl rfl (Nat.le_of_ble_eq_true rfl) dX11_gets_67 (fun H locs I => ?_)
          refine lv_iinc (v := (x4 + 1)) (lv' := [(4, .int (x4 + 1)), (3, .int x4), (0, .ref (ra E 0)), (1, .int x1), (2, .int x2)]) hx hb dX11_gets_70 hl (k := 4) rfl rfl (by decide) rfl (fun ls hl => ?_)
          refine lv_goto (tgt := 41) hx hb dX11_gets_73 (by decide) ?_
          exact ih q7 x4 (x4 + 1) h H locs ls I (lv_sub hl [2, 3, 4, 1, 0] rfl)
set_option maxHeartbeats 4000000 in
set_option maxRecDepth 100000 in
theorem w_X11_gets_0 {p : Program} {l : Launch} {e : Env} {s : State} {m : MethodId} {args : Array Value} {below : List Frame} {meth : Method} {c : Code} {A : Nat → Prop} {E : RE} {q : Int32 × Mem} (X : CX p s m meth c args cX11_gets 5 RX11 (some .int)) : ∀ (σ : Mem) (x1 : Int32) (x2 : Int32) , m_X11_gets σ x1 x2 = some q → ∀ (H : Heap) (locs : List Loc) (ls : Array Slot), WI (vR E) A s H locs σ → lv_has ls 5 [(0, .ref (ra E 0)), (1, .int x1), (2, .int x2)] → W p l e rm_X11_gets s m args below meth c H locs 0 0 (MQ below (QI (vR E) A q) args s 0 0 A) (F0 m 0 ls []) := by
  have hx := X.1
  have hb := X.2.1
  intro σ x1 x2 h H locs ls I hl
  unfold m_X11_gets at h
  refine lv_aload_n hx hb dX11_gets_0 rfl (lv_at hl 0 rfl) ?_
  refine lv_iconst (v := 0) hx hb dX11_gets_1 (by decide) ?_
  refine pfR_X11_195 X I  dX11_gets_2 (fun H locs I => ?_)
  obtain ⟨σ1, eσ1, h⟩ := lt_e h
  replace I := wi_nm eσ1 I
  refine lv_aload_n hx hb dX11_gets_5 rfl (lv_at hl 0 rfl) ?_
  refine lv_iload_n hx hb dX11_gets_6 rfl (lv_at hl 1 rfl) ?_
  obtain ⟨q2, hq2, h⟩ := bd h
  refine r_callVI (V := (vR E)) (k := 0) (As := [.int x1]) (rest := []) X I hl (c_X11_isTenant  hq2) yv_X11_isTenant tw_1061 ⟨rfl, rfl, Nat.le_of_ble_eq_true rfl, Nat.le_of_ble_eq_true rfl⟩ (Nat.le_of_ble_eq_true rfl) rfl rfl rfl rfl (Nat.le_of_ble_eq_true rfl) dX11_gets_7 (fun H locs I => ?_)
  refine lv_if_eq (tgt := 21) hx hb dX11_gets_10 (by decide) (fun c3 => ?_) (fun c3 => ?_)
  · have h := ite_t h c3
    refine lv_aload_n hx hb dX11_gets_21 rfl (lv_at hl 0 rfl) ?_
    refine lv_iconst (v := 1) hx hb dX11_gets_22 (by decide) ?_
    obtain ⟨q4, hq4, h⟩ := bd h
    refine r_callVI (V := (vR E)) (k := 0) (As := [.int (1 : Int32)]) (rest := []) X I hl (c_X11_fail  hq4) yv_X11_fail tw_957 ⟨rfl, rfl, Nat.le_of_ble_eq_true rfl, Nat.le_of_ble_eq_true rfl⟩ (Nat.le_of_ble_eq_true rfl) rfl rfl rfl rfl (Nat.le_of_ble_eq_true rfl) dX11_gets_23 (fun H locs I => ?_)
    exact r_iret X I (Option.some.inj h).symm dX11_gets_26
  · have h := ite_f h c3
    refine lv_aload_n hx hb dX11_gets_13 rfl (lv_at hl 0 rfl) ?_
    refine lv_iload_n hx hb dX11_gets_14 rfl (lv_at hl 2 rfl) ?_
    obtain ⟨q5, hq5, h⟩ := bd h
    refine r_callVI (V := (vR E)) (k := 0) (As := [.int x2]) (rest := []) X I hl (c_X11_isHouse  hq5) yv_X11_isHouse tw_1056 ⟨rfl, rfl, Nat.le_of_ble_eq_true rfl, Nat.le_of_ble_eq_true rfl⟩ (Nat.le_of_ble_eq_true rfl) rfl rfl rfl rfl (Nat.le_of_ble_eq_true rfl) dX11_gets_15 (fun H locs I => ?_)
    refine lv_if_ne (tgt := 27) hx hb dX11_gets_18 (by decide) (fun c6 => ?_) (fun c6 => ?_)
    · have h := ite_f h c6
      refine lv_aload_n hx hb dX11_gets_27 rfl (lv_at hl 0 rfl) ?_
      refine lv_aload_n hx hb dX11_gets_28 rfl (lv_at hl 0 rfl) ?_
      refine gfR_X11_140 X I dX11_gets_29 ?_
      refine lv_iconst (v := 0) hx hb dX11_gets_32 (by decide) ?_
      obtain ⟨q7, hq7, h⟩ := bd h
      refine r_callVV (V := (vR E)) (k := 0) (As := [.ref (ra E 34), .int (0 : Int32)]) (rest := []) X I hl (c_X11_pack (kR_34 E) hq7) yv_X11_pack tw_1067 ⟨rfl, rfl, Nat.le_of_ble_eq_true rfl, Nat.le_of_ble_eq_true rfl⟩ (Nat.le_of_ble_eq_true rfl) rfl rfl rfl rfl (Nat.le_of_ble_eq_true rfl) dX11_gets_33 (fun H locs I => ?_)
      refine lv_iconst (v := -1) hx hb dX11_gets_36 (by decide) ?_
      refine lv_istore_n (lv' := [(3, .int (-1 : Int32)), (0, .ref (ra E 0)), (1, .int x1), (2, .int x2)]) hx hb dX11_gets_37 rfl hl (by decide) rfl (fun ls hl => ?_)
      refine lv_iconst (v := 0) hx hb dX11_gets_38 (by decide) ?_
      refine lv_istore (lv' := [(4, .int (0 : Int32)), (3, .int (-1 : Int32)), (0, .ref (ra E 0)), (1, .int x1), (2, .int x2)]) hx hb dX11_gets_39 hl (by decide) rfl (fun ls hl => ?_)
      exact w_X11_gets_41 X   KF q7 (-1 : Int32) (0 : Int32) h H locs ls I (lv_sub hl [2, 3, 4, 1, 0] rfl)
    · have h := ite_t h c6
      refine lv_aload_n hx hb dX11_gets_21 rfl (lv_at hl 0 rfl) ?_
      refine lv_iconst (v := 1) hx hb dX11_gets_22 (by decide) ?_
      obtain ⟨q8, hq8, h⟩ := bd h
      refine r_callVI (V := (vR E)) (k := 0) (As := [.int (1 : Int32)]) (rest := []) X I hl (c_X11_fail  hq8) yv_X11_fail tw_957 ⟨rfl, rfl, Nat.le_of_ble_eq_true rfl, Nat.le_of_ble_eq_true rfl⟩ (Nat.le_of_ble_eq_true rfl) rfl rfl rfl rfl (Nat.le_of_ble_eq_true rfl) dX11_gets_23 (fun H locs I => ?_)
      exact r_iret X I (Option.some.inj h).symm dX11_gets_26
theorem c_X11_gets {l : Launch} {E : RE} {σ : Mem} {x1 : Int32} {x2 : Int32} {q : Int32 × Mem} (h : m_X11_gets σ x1 x2 = some q) : CI l (vR E) yX11_gets (.code yX11_gets cX11_gets 5 (some .int) :: GG) rm_X11_gets [.ref (ra E 0), .int x1, .int x2] σ q :=
  mk_CI (by decide +kernel) (Nat.le_of_ble_eq_true rfl) (fun p e s m args below meth c A ls X I hl => w_X11_gets_0 X  σ x1 x2 h s.heap [] ls I (lv_sub hl [0, 1, 2] rfl))

def rm_X11_loses : Room := { frames := 6, cells := 0, slots := 0, locals := 184 }
def f_X11_loses_40 (x1 : Int32) (x2 : Int32) : Nat → Mem → Int32 → Int32 → Option (Int32 × Mem)
  | 0, _, _, _ => none
  | n + 1, σ, x3, x4 => (if (40 : Int32) < x4 then ((m_X11_unpack 34 64 σ (0 : Int32)).bind fun q2 => (some (x3, q2))) else (if x3 = (-1 : Int32) then (if x2 = (-1 : Int32) then ((m_X11_unpack 34 64 σ (0 : Int32)).bind fun q6 => (some (x3, q6))) else ((m_X11_aQuarter σ).bind fun q7 => (gd x1 8 (if (q7 23 (Int32.toNatClampNeg x1)) = x2 then f_X11_loses_40 x1 x2 n q7 x3 (x4 + 1) else f_X11_loses_40 x1 x2 n q7 x4 (x4 + 1))))) else ((m_X11_unpack 34 64 σ (0 : Int32)).bind fun q4 => (some (x3, q4)))))
def m_X11_loses (σ : Mem) (x1 : Int32) : Option (Int32 × Mem) := (lt (ms σ 0 5 (0 : Int32)) fun σ1 => ((m_X11_isHouse σ1 x1).bind fun q2 => (if q2 = (0 : Int32) then ((m_X11_fail σ1 (1 : Int32)).bind fun q6 => (some (q6.1, q6.2))) else (gd x1 8 (lt (σ1 23 (Int32.toNatClampNeg x1)) fun y4 => ((m_X11_pack 34 64 σ1 (0 : Int32)).bind fun q5 => (f_X11_loses_40 x1 y4 KF q5 (-1 : Int32) (1 : Int32))))))))
set_option maxHeartbeats 4000000 in
set_option maxRecDepth 100000 in
theorem w_X11_loses_40 {p : Program} {l : Launch} {e : Env} {s : State} {m : MethodId} {args : Array Value} {below : List Frame} {meth : Method} {c : Code} {A : Nat → Prop} {E : RE} {q : Int32 × Mem} (X : CX p s m meth c args cX11_loses 5 RX11 (some .int)) {x1 : Int32} {x2 : Int32} : ∀ (n : Nat), ∀ (σ : Mem) (x3 : Int32) (x4 : Int32) , f_X11_loses_40 x1 x2 n σ x3 x4 = some q → ∀ (H : Heap) (locs : List Loc) (ls : Array Slot), WI (vR E) A s H locs σ → lv_has ls 5 [(0, .ref (ra E 0)), (1, .int x1), (2, .int x2), (3, .int x3), (4, .int x4)] → W p l e rm_X11_loses s m args below meth c H locs 0 0 (MQ below (QI (vR E) A q) args s 0 0 A) (F0 m 40 ls []) := by
  have hx := X.1
  have hb := X.2.1
  intro n
  induction n with
  | zero =>
    intro σ x3 x4 h
    cases h
  | succ n ih =>
    intro σ x3 x4 h H locs ls I hl
    rw [f_X11_loses_40] at h
    refine lv_iload hx hb dX11_loses_40 (lv_at hl 4 rfl) ?_
    refine lv_bipush (v := 40) hx hb dX11_loses_42 (by decide) ?_
    refine lv_icmp_gt (tgt := 80) hx hb dX11_loses_44 (by decide) (fun c1 => ?_) (fun c1 => ?_)
    · have h := ite_t h c1
      refine lv_aload_n hx hb dX11_loses_80 rfl (lv_at hl 0 rfl) ?_
      refine lv_aload_n hx hb dX11_loses_81 rfl (lv_at hl 0 rfl) ?_
      refine gfR_X11_140 X I dX11_loses_82 ?_
      refine lv_iconst (v := 0) hx hb dX11_loses_85 (by decide) ?_
      obtain ⟨q2, hq2, h⟩ := bd h
      refine r_callVV (V := (vR E)) (k := 0) (As := [.ref (ra E 34), .int (0 : Int32)]) (rest := []) X I hl (c_X11_unpack (kR_34 E) hq2) yv_X11_unpack tw_1095 ⟨rfl, rfl, Nat.le_of_ble_eq_true rfl, Nat.le_of_ble_eq_true rfl⟩ (Nat.le_of_ble_eq_true rfl) rfl rfl rfl rfl (Nat.le_of_ble_eq_true rfl) dX11_loses_86 (fun H locs I => ?_)
      refine lv_iload_n hx hb dX11_loses_89 rfl (lv_at hl 3 rfl) ?_
      exact r_iret X I (Option.some.inj h).symm dX11_loses_90
    · have h := ite_f h c1
      refine lv_iload_n hx hb dX11_loses_47 rfl (lv_at hl 3 rfl) ?_
      refine lv_iconst (v := -1) hx hb dX11_loses_48 (by decide) ?_
      refine lv_icmp_ne (tgt := 80) hx hb dX11_loses_49 (by decide) (fun c3 => ?_) (fun c3 => ?_)
      · have h := ite_f h c3
        refine lv_aload_n hx hb dX11_loses_80 rfl (lv_at hl 0 rfl) ?_
        refine lv_aload_n hx hb dX11_loses_81 rfl (lv_at hl 0 rfl) ?_
        refine gfR_X11_140 X I dX11_loses_82 ?_
        refine lv_iconst (v := 0) hx hb dX11_loses_85 (by decide) ?_
        obtain ⟨q4, hq4, h⟩ := bd h
        refine r_callVV (V := (vR E)) (k := 0) (As := [.ref (ra E 34), .int (0 : Int32)]) (rest := []) X I hl (c_X11_unpack (kR_34 E) hq4) yv_X11_unpack tw_1095 ⟨rfl, rfl, Nat.le_of_ble_eq_true rfl, Nat.le_of_ble_eq_true rfl⟩ (Nat.le_of_ble_eq_true rfl) rfl rfl rfl rfl (Nat.le_of_ble_eq_true rfl) dX11_loses_86 (fun H locs I => ?_)
        refine lv_iload_n hx hb dX11_loses_89 rfl (lv_at hl 3 rfl) ?_
        exact r_iret X I (Option.some.inj h).symm dX11_loses_90
      · have h := ite_t h c3
        refine lv_iload_n hx hb dX11_loses_52 rfl (lv_at hl 2 rfl) ?_
        refine lv_iconst (v := -1) hx hb dX11_loses_53 (by decide) ?_
        refine lv_icmp_eq (tgt := 80) hx hb dX11_loses_54 (by decide) (fun c5 => ?_) (fun c5 => ?_)
        · have h := ite_t h c5
          refine lv_aload_n hx hb dX11_loses_80 rfl (lv_at hl 0 rfl) ?_
          refine lv_aload_n hx hb dX11_loses_81 rfl (lv_at hl 0 rfl) ?_
          refine gfR_X11_140 X I dX11_loses_82 ?_
          refine lv_iconst (v := 0) hx hb dX11_loses_85 (by decide) ?_
          obtain ⟨q6, hq6, h⟩ := bd h
          refine r_callVV (V := (vR E)) (k := 0) (As := [.ref (ra E 34), .int (0 : Int32)]) (rest := []) X I hl (c_X11_unpack (kR_34 E) hq6) yv_X11_unpack tw_1095 ⟨rfl, rfl, Nat.le_of_ble_eq_true rfl, Nat.le_of_ble_eq_true rfl⟩ (Nat.le_of_ble_eq_true rfl) rfl rfl rfl rfl (Nat.le_of_ble_eq_true rfl) dX11_loses_86 (fun H locs I => ?_)
          refine lv_iload_n hx hb dX11_loses_89 rfl (lv_at hl 3 rfl) ?_
          exact r_iret X I (Option.some.inj h).symm dX11_loses_90
        · have h := ite_f h c5
          refine lv_aload_n hx hb dX11_loses_57 rfl (lv_at hl 0 rfl) ?_
          obtain ⟨q7, hq7, h⟩ := bd h
          refine r_callVV (V := (vR E)) (k := 0) (As := []) (rest := []) X I hl (c_X11_aQuarter  hq7) yv_X11_aQuarter tw_1041 ⟨rfl, rfl, Nat.le_of_ble_eq_true rfl, Nat.le_of_ble_eq_true rfl⟩ (Nat.le_of_ble_eq_true rfl) rfl rfl rfl rfl (Nat.le_of_ble_eq_true rfl) dX11_loses_58 (fun H locs I => ?_)
          refine lv_aload_n hx hb dX11_loses_61 rfl (lv_at hl 0 rfl) ?_
          refine gfR_X11_110 X I dX11_loses_62 ?_
          refine lv_iload_n hx hb dX11_loses_65 rfl (lv_at hl 1 rfl) ?_
          obtain ⟨hin, h⟩ := gd_some h
          refine ialdR X I (kR_23 E) hin dX11_loses_66 ?_
          refine lv_iload_n hx hb dX11_loses_67 rfl (lv_at hl 2 rfl) ?_
          refine lv_icmp_eq (tgt := 74) hx hb dX11_loses_68 (by decide) (fun c8 => ?_) (fun c8 => ?_)
          · have h := ite_t h c8
            refine lv_iinc (v := (x4 + 1)) (lv' := [(4, .int (x4 + 1)), (0, .ref (ra E 0)), (1, .int x1), (2, .int x2), (3, .int x3)]) hx hb dX11_loses_74 hl (k := 4) rfl rfl (by decide) rfl (fun ls hl => ?_)
            refine lv_goto (tgt := 40) hx hb dX11_loses_77 (by decide) ?_
            exact ih q7 x3 (x4 + 1) h H locs ls I (lv_sub hl [1, 2, 3, 4, 0] rfl)
          · have h := ite_f h c8
            refine lv_iload hx hb dX11_loses_71 (lv_at hl 4 rfl) ?_
            refine lv_istore_n (lv' := [(3, .int x4), (0, .ref (ra E 0)), (1, .int x1), (2, .int x2), (4, .int x4)]) hx hb dX11_loses_73 rfl hl (by decide) rfl (fun ls hl => ?_)
            refine lv_iinc (v := (x4 + 1)) (lv' := [(4, .int (x4 + 1)), (3, .int x4), (0, .ref (ra E 0)), (1, .int x1), (2, .int x2)]) hx hb dX11_loses_74 hl (k := 4) rfl rfl (by decide) rfl (fun ls hl => ?_)
            refine lv_goto (tgt := 40) hx hb dX11_loses_77 (by decide) ?_
            exact ih q7 x4 (x4 + 1) h H locs ls I (lv_sub hl [2, 3, 4, 1, 0] rfl)
set_option maxHeartbeats 4000000 in
set_option maxRecDepth 100000 in
theorem w_X11_loses_0 {p : Program} {l : Launch} {e : Env} {s : State} {m : MethodId} {args : Array Value} {below : List Frame} {meth : Method} {c : Code} {A : Nat → Prop} {E : RE} {q : Int32 × Mem} (X : CX p s m meth c args cX11_loses 5 RX11 (some .int)) : ∀ (σ : Mem) (x1 : Int32) , m_X11_loses σ x1 = some q → ∀ (H : Heap) (locs : List Loc) (ls : Array Slot), WI (vR E) A s H locs σ → lv_has ls 5 [(0, .ref (ra E 0)), (1, .int x1)] → W p l e rm_X11_loses s m args below meth c H locs 0 0 (MQ below (QI (vR E) A q) args s 0 0 A) (F0 m 0 ls []) := by
  have hx := X.1
  have hb := X.2.1
  intro σ x1 h H locs ls I hl
  unfold m_X11_loses at h
  refine lv_aload_n hx hb dX11_loses_0 rfl (lv_at hl 0 rfl) ?_
  refine lv_iconst (v := 0) hx hb dX11_loses_1 (by decide) ?_
  refine pfR_X11_195 X I  dX11_loses_2 (fun H locs I => ?_)
  obtain ⟨σ1, eσ1, h⟩ := lt_e h
  replace I := wi_nm eσ1 I
  refine lv_aload_n hx hb dX11_loses_5 rfl (lv_at hl 0 rfl) ?_
  refine lv_iload_n hx hb dX11_loses_6 rfl (lv_at hl 1 rfl) ?_
  obtain ⟨q2, hq2, h⟩ := bd h
  refine r_callVI (V := (vR E)) (k := 0) (As := [.int x1]) (rest := []) X I hl (c_X11_isHouse  hq2) yv_X11_isHouse tw_1056 ⟨rfl, rfl, Nat.le_of_ble_eq_true rfl, Nat.le_of_ble_eq_true rfl⟩ (Nat.le_of_ble_eq_true rfl) rfl rfl rfl rfl (Nat.le_of_ble_eq_true rfl) dX11_loses_7 (fun H locs I => ?_)
  refine lv_if_ne (tgt := 19) hx hb dX11_loses_10 (by decide) (fun c3 => ?_) (fun c3 => ?_)
  · have h := ite_f h c3
    refine lv_aload_n hx hb dX11_loses_19 rfl (lv_at hl 0 rfl) ?_
    refine gfR_X11_110 X I dX11_loses_20 ?_
    refine lv_iload_n hx hb dX11_loses_23 rfl (lv_at hl 1 rfl) ?_
    obtain ⟨hin, h⟩ := gd_some h
    refine ialdR X I (kR_23 E) hin dX11_loses_24 ?_
    obtain ⟨y4, ey4, h⟩ := lt_e h
    refine nm_i ey4 ?_
    refine lv_istore_n (lv' := [(2, .int y4), (0, .ref (ra E 0)), (1, .int x1)]) hx hb dX11_loses_25 rfl hl (by decide) rfl (fun ls hl => ?_)
    refine lv_aload_n hx hb dX11_loses_26 rfl (lv_at hl 1 rfl) ?_
    refine lv_aload_n hx hb dX11_loses_27 rfl (lv_at hl 1 rfl) ?_
    refine gfR_X11_140 X I dX11_loses_28 ?_
    refine lv_iconst (v := 0) hx hb dX11_loses_31 (by decide) ?_
    obtain ⟨q5, hq5, h⟩ := bd h
    refine r_callVV (V := (vR E)) (k := 0) (As := [.ref (ra E 34), .int (0 : Int32)]) (rest := []) X I hl (c_X11_pack (kR_34 E) hq5) yv_X11_pack tw_1067 ⟨rfl, rfl, Nat.le_of_ble_eq_true rfl, Nat.le_of_ble_eq_true rfl⟩ (Nat.le_of_ble_eq_true rfl) rfl rfl rfl rfl (Nat.le_of_ble_eq_true rfl) dX11_loses_32 (fun H locs I => ?_)
    refine lv_iconst (v := -1) hx hb dX11_loses_35 (by decide) ?_
    refine lv_istore_n (lv' := [(3, .int (-1 : Int32)), (2, .int y4), (0, .ref (ra E 0)), (1, .int x1)]) hx hb dX11_loses_36 rfl hl (by decide) rfl (fun ls hl => ?_)
    refine lv_iconst (v := 1) hx hb dX11_loses_37 (by decide) ?_
    refine lv_istore (lv' := [(4, .int (1 : Int32)), (3, .int (-1 : Int32)), (2, .int y4), (0, .ref (ra E 0)), (1, .int x1)]) hx hb dX11_loses_38 hl (by decide) rfl (fun ls hl => ?_)
    exact w_X11_loses_40 X   KF q5 (-1 : Int32) (1 : Int32) h H locs ls I (lv_sub hl [3, 4, 2, 1, 0] rfl)
  · have h := ite_t h c3
    refine lv_aload_n hx hb dX11_loses_13 rfl (lv_at hl 0 rfl) ?_
    refine lv_iconst (v := 1) hx hb dX11_loses_14 (by decide) ?_
    obtain ⟨q6, hq6, h⟩ := bd h
    refine r_callVI (V := (vR E)) (k := 0) (As := [.int (1 : Int32)]) (rest := []) X I hl (c_X11_fail  hq6) yv_X11_fail tw_957 ⟨rfl, rfl, Nat.le_of_ble_eq_true rfl, Nat.le_of_ble_eq_true rfl⟩ (Nat.le_of_ble_eq_true rfl) rfl rfl rfl rfl (Nat.le_of_ble_eq_true rfl) dX11_loses_15 (fun H locs I => ?_)
    exact r_iret X I (Option.some.inj h).symm dX11_loses_18
theorem c_X11_loses {l : Launch} {E : RE} {σ : Mem} {x1 : Int32} {q : Int32 × Mem} (h : m_X11_loses σ x1 = some q) : CI l (vR E) yX11_loses (.code yX11_loses cX11_loses 5 (some .int) :: GG) rm_X11_loses [.ref (ra E 0), .int x1] σ q :=
  mk_CI (by decide +kernel) (Nat.le_of_ble_eq_true rfl) (fun p e s m args below meth c A ls X I hl => w_X11_loses_0 X  σ x1 h s.heap [] ls I (lv_sub hl [0, 1] rfl))

def rm_X11_most : Room := { frames := 7, cells := 0, slots := 0, locals := 206 }
def f_X11_most_44 : Nat → Mem → Int32 → Int32 → Int32 → Option (Int32 × Mem)
  | 0, _, _, _, _ => none
  | n + 1, σ, x2, x3, x4 => (gd (1 : Int32) 10 (if (σ 5 (Int32.toNatClampNeg (1 : Int32))) ≤ x4 then ((m_X11_unpack 34 64 σ (0 : Int32)).bind fun q2 => (some (x2, q2))) else ((m_X11_housesOf σ x4).bind fun q3 => ((m_X11_bitsOf σ q3).bind fun q4 => (if x3 < q4 then f_X11_most_44 n σ x4 q4 (x4 + 1) else f_X11_most_44 n σ x2 x3 (x4 + 1))))))
def m_X11_most (σ : Mem) (x1 : Int32) : Option (Int32 × Mem) := (lt (ms σ 0 5 (0 : Int32)) fun σ1 => ((m_X11_isIn σ1 (Int32.toInt64 x1) (0 : Int64) (40 : Int64)).bind fun q2 => (if q2 = (0 : Int32) then ((m_X11_fail σ1 (1 : Int32)).bind fun q6 => (some (q6.1, q6.2))) else ((m_X11_pack 34 64 σ1 (0 : Int32)).bind fun q4 => ((m_X11_goOn q4 x1).bind fun q5 => (f_X11_most_44 KF q5 (-1 : Int32) (0 : Int32) (0 : Int32)))))))
set_option maxHeartbeats 4000000 in
set_option maxRecDepth 100000 in
theorem w_X11_most_44 {p : Program} {l : Launch} {e : Env} {s : State} {m : MethodId} {args : Array Value} {below : List Frame} {meth : Method} {c : Code} {A : Nat → Prop} {E : RE} {q : Int32 × Mem} (X : CX p s m meth c args cX11_most 6 RX11 (some .int)) : ∀ (n : Nat), ∀ (σ : Mem) (x2 : Int32) (x3 : Int32) (x4 : Int32) , f_X11_most_44 n σ x2 x3 x4 = some q → ∀ (H : Heap) (locs : List Loc) (ls : Array Slot), WI (vR E) A s H locs σ → lv_has ls 6 [(0, .ref (ra E 0)), (2, .int x2), (3, .int x3), (4, .int x4)] → W p l e rm_X11_most s m args below meth c H locs 0 0 (MQ below (QI (vR E) A q) args s 0 0 A) (F0 m 44 ls []) := by
  have hx := X.1
  have hb := X.2.1
  intro n
  induction n with
  | zero =>
    intro σ x2 x3 x4 h
    cases h
  | succ n ih =>
    intro σ x2 x3 x4 h H locs ls I hl
    rw [f_X11_most_44] at h
    refine lv_iload hx hb dX11_most_44 (lv_at hl 3 rfl) ?_
    refine lv_aload_n hx hb dX11_most_46 rfl (lv_at hl 0 rfl) ?_
    refine gfR_X11_55 X I dX11_most_47 ?_
    refine lv_iconst (v := 1) hx hb dX11_most_50 (by decide) ?_
    obtain ⟨hin, h⟩ := gd_some h
    refine ialdR X I (kR_5 E) hin dX11_most_51 ?_
    refine lv_icmp_ge (tgt := 87) hx hb dX11_most_52 (by decide) (fun c1 => ?_) (fun c1 => ?_)
    · have h := ite_t h c1
      refine lv_aload_n hx hb dX11_most_87 rfl (lv_at hl 0 rfl) ?_
      refine lv_aload_n hx hb dX11_most_88 rfl (lv_at hl 0 rfl) ?_
      refine gfR_X11_140 X I dX11_most_89 ?_
      refine lv_iconst (v := 0) hx hb dX11_most_92 (by decide) ?_
      obtain ⟨q2, hq2, h⟩ := bd h
      refine r_callVV (V := (vR E)) (k := 0) (As := [.ref (ra E 34), .int (0 : Int32)]) (rest := []) X I hl (c_X11_unpack (kR_34 E) hq2) yv_X11_unpack tw_1095 ⟨rfl, rfl, Nat.le_of_ble_eq_true rfl, Nat.le_of_ble_eq_true rfl⟩ (Nat.le_of_ble_eq_true rfl) rfl rfl rfl rfl (Nat.le_of_ble_eq_true rfl) dX11_most_93 (fun H locs I => ?_)
      refine lv_iload_n hx hb dX11_most_96 rfl (lv_at hl 1 rfl) ?_
      exact r_iret X I (Option.some.inj h).symm dX11_most_97
    · have h := ite_f h c1
      refine lv_aload_n hx hb dX11_most_55 rfl (lv_at hl 0 rfl) ?_
      refine lv_iload hx hb dX11_most_56 (lv_at hl 3 rfl) ?_
      obtain ⟨q3, hq3, h⟩ := bd h
      refine r_callVI (V := (vR E)) (k := 0) (As := [.int x4]) (rest := []) X I hl (c_X11_housesOf  hq3) yv_X11_housesOf tw_981 ⟨rfl, rfl, Nat.le_of_ble_eq_true rfl, Nat.le_of_ble_eq_true rfl⟩ (Nat.le_of_ble_eq_true rfl) rfl rfl rfl rfl (Nat.le_of_ble_eq_true rfl) dX11_most_58 (fun H locs I => ?_)
      obtain ⟨q4, hq4, h⟩ := bd h
      refine r_callSI (V := (vR E)) (As := [.int q3]) (rest := []) X I hl (c_X11_bitsOf  hq4) ys_X11_bitsOf tw_999 ⟨rfl, rfl, Nat.le_of_ble_eq_true rfl, Nat.le_of_ble_eq_true rfl⟩ rfl rfl (Nat.le_of_ble_eq_true rfl) dX11_most_61 (fun H locs I => ?_)
      refine lv_istore (lv' := [(5, .int q4), (0, .ref (ra E 0)), (2, .int x2), (3, .int x3), (4, .int x4)]) hx hb dX11_most_64 hl (by decide) rfl (fun ls hl => ?_)
      refine lv_iload hx hb dX11_most_66 (lv_at hl 0 rfl) ?_
      refine lv_iload_n hx hb dX11_most_68 rfl (lv_at hl 3 rfl) ?_
      refine lv_icmp_gt (tgt := 75) hx hb dX11_most_69 (by decide) (fun c5 => ?_) (fun c5 => ?_)
      · have h := ite_t h c5
        refine lv_iload hx hb dX11_most_75 (lv_at hl 4 rfl) ?_
        refine lv_istore_n (lv' := [(2, .int x4), (5, .int q4), (0, .ref (ra E 0)), (3, .int x3), (4, .int x4)]) hx hb dX11_most_77 rfl hl (by decide) rfl (fun ls hl => ?_)
        refine lv_iload hx hb dX11_most_78 (lv_at hl 1 rfl) ?_
        refine lv_istore_n (lv' := [(3, .int q4), (2, .int x4), (5, .int q4), (0, .ref (ra E 0)), (4, .int x4)]) hx hb dX11_most_80 rfl hl (by decide) rfl (fun ls hl => ?_)
        refine lv_iinc (v := (x4 + 1)) (lv' := [(4, .int (x4 + 1)), (3, .int q4), (2, .int x4), (5, .int q4), (0, .ref (ra E 0))]) hx hb dX11_most_81 hl (k := 4) rfl rfl (by decide) rfl (fun ls hl => ?_)
        refine lv_goto (tgt := 44) hx hb dX11_most_84 (by decide) ?_
        exact ih σ x4 q4 (x4 + 1) h H locs ls I (lv_sub hl [4, 2, 1, 0] rfl)
      · have h := ite_f h c5
        refine lv_goto (tgt := 81) hx hb dX11_most_72 (by decide) ?_
        refine lv_iinc (v := (x4 + 1)) (lv' := [(4, .int (x4 + 1)), (5, .int q4), (0, .ref (ra E 0)), (2, .int x2), (3, .int x3)]) hx hb dX11_most_81 hl (k := 4) rfl rfl (by decide) rfl (fun ls hl => ?_)
        refine lv_goto (tgt := 44) hx hb dX11_most_84 (by decide) ?_
        exact ih σ x2 x3 (x4 + 1) h H locs ls I (lv_sub hl [2, 3, 4, 0] rfl)
set_option maxHeartbeats 4000000 in
set_option maxRecDepth 100000 in
theorem w_X11_most_0 {p : Program} {l : Launch} {e : Env} {s : State} {m : MethodId} {args : Array Value} {below : List Frame} {meth : Method} {c : Code} {A : Nat → Prop} {E : RE} {q : Int32 × Mem} (X : CX p s m meth c args cX11_most 6 RX11 (some .int)) : ∀ (σ : Mem) (x1 : Int32) , m_X11_most σ x1 = some q → ∀ (H : Heap) (locs : List Loc) (ls : Array Slot), WI (vR E) A s H locs σ → lv_has ls 6 [(0, .ref (ra E 0)), (1, .int x1)] → W p l e rm_X11_most s m args below meth c H locs 0 0 (MQ below (QI (vR E) A q) args s 0 0 A) (F0 m 0 ls []) := by
  have hx := X.1
  have hb := X.2.1
  intro σ x1 h H locs ls I hl
  unfold m_X11_most at h
  refine lv_aload_n hx hb dX11_most_0 rfl (lv_at hl 0 rfl) ?_
  refine lv_iconst (v := 0) hx hb dX11_most_1 (by decide) ?_
  refine pfR_X11_195 X I  dX11_most_2 (fun H locs I => ?_)
  obtain ⟨σ1, eσ1, h⟩ := lt_e h
  replace I := wi_nm eσ1 I
  refine lv_iload_n hx hb dX11_most_5 rfl (lv_at hl 1 rfl) ?_
  refine lv_i2l hx hb dX11_most_6 rfl ?_
  refine lv_lconst (v := 0) hx hb dX11_most_7 (by decide) ?_
  refine lv_ldc2 hx hb X.2.2.2.1 (X.2.2.2.2.1 _ tw_1100) dX11_most_8 ?_
  obtain ⟨q2, hq2, h⟩ := bd h
  refine r_callSI (V := (vR E)) (As := [.long (Int32.toInt64 x1), .long (0 : Int64), .long (40 : Int64)]) (rest := []) X I hl (c_X11_isIn  hq2) ys_X11_isIn tw_801 ⟨rfl, rfl, Nat.le_of_ble_eq_true rfl, Nat.le_of_ble_eq_true rfl⟩ rfl rfl (Nat.le_of_ble_eq_true rfl) dX11_most_11 (fun H locs I => ?_)
  refine lv_if_ne (tgt := 23) hx hb dX11_most_14 (by decide) (fun c3 => ?_) (fun c3 => ?_)
  · have h := ite_f h c3
    refine lv_aload_n hx hb dX11_most_23 rfl (lv_at hl 0 rfl) ?_
    refine lv_aload_n hx hb dX11_most_24 rfl (lv_at hl 0 rfl) ?_
    refine gfR_X11_140 X I dX11_most_25 ?_
    refine lv_iconst (v := 0) hx hb dX11_most_28 (by decide) ?_
    obtain ⟨q4, hq4, h⟩ := bd h
    refine r_callVV (V := (vR E)) (k := 0) (As := [.ref (ra E 34), .int (0 : Int32)]) (rest := []) X I hl (c_X11_pack (kR_34 E) hq4) yv_X11_pack tw_1067 ⟨rfl, rfl, Nat.le_of_ble_eq_true rfl, Nat.le_of_ble_eq_true rfl⟩ (Nat.le_of_ble_eq_true rfl) rfl rfl rfl rfl (Nat.le_of_ble_eq_true rfl) dX11_most_29 (fun H locs I => ?_)
    refine lv_aload_n hx hb dX11_most_32 rfl (lv_at hl 0 rfl) ?_
    refine lv_iload_n hx hb dX11_most_33 rfl (lv_at hl 1 rfl) ?_
    obtain ⟨q5, hq5, h⟩ := bd h
    refine r_callVV (V := (vR E)) (k := 0) (As := [.int x1]) (rest := []) X I hl (c_X11_goOn  hq5) yv_X11_goOn tw_1083 ⟨rfl, rfl, Nat.le_of_ble_eq_true rfl, Nat.le_of_ble_eq_true rfl⟩ (Nat.le_of_ble_eq_true rfl) rfl rfl rfl rfl (Nat.le_of_ble_eq_true rfl) dX11_most_34 (fun H locs I => ?_)
    refine lv_iconst (v := -1) hx hb dX11_most_37 (by decide) ?_
    refine lv_istore_n (lv' := [(2, .int (-1 : Int32)), (0, .ref (ra E 0)), (1, .int x1)]) hx hb dX11_most_38 rfl hl (by decide) rfl (fun ls hl => ?_)
    refine lv_iconst (v := 0) hx hb dX11_most_39 (by decide) ?_
    refine lv_istore_n (lv' := [(3, .int (0 : Int32)), (2, .int (-1 : Int32)), (0, .ref (ra E 0)), (1, .int x1)]) hx hb dX11_most_40 rfl hl (by decide) rfl (fun ls hl => ?_)
    refine lv_iconst (v := 0) hx hb dX11_most_41 (by decide) ?_
    refine lv_istore (lv' := [(4, .int (0 : Int32)), (3, .int (0 : Int32)), (2, .int (-1 : Int32)), (0, .ref (ra E 0)), (1, .int x1)]) hx hb dX11_most_42 hl (by decide) rfl (fun ls hl => ?_)
    exact w_X11_most_44 X   KF q5 (-1 : Int32) (0 : Int32) (0 : Int32) h H locs ls I (lv_sub hl [3, 2, 1, 0] rfl)
  · have h := ite_t h c3
    refine lv_aload_n hx hb dX11_most_17 rfl (lv_at hl 0 rfl) ?_
    refine lv_iconst (v := 1) hx hb dX11_most_18 (by decide) ?_
    obtain ⟨q6, hq6, h⟩ := bd h
    refine r_callVI (V := (vR E)) (k := 0) (As := [.int (1 : Int32)]) (rest := []) X I hl (c_X11_fail  hq6) yv_X11_fail tw_957 ⟨rfl, rfl, Nat.le_of_ble_eq_true rfl, Nat.le_of_ble_eq_true rfl⟩ (Nat.le_of_ble_eq_true rfl) rfl rfl rfl rfl (Nat.le_of_ble_eq_true rfl) dX11_most_19 (fun H locs I => ?_)
    exact r_iret X I (Option.some.inj h).symm dX11_most_22
theorem c_X11_most {l : Launch} {E : RE} {σ : Mem} {x1 : Int32} {q : Int32 × Mem} (h : m_X11_most σ x1 = some q) : CI l (vR E) yX11_most (.code yX11_most cX11_most 6 (some .int) :: GG) rm_X11_most [.ref (ra E 0), .int x1] σ q :=
  mk_CI (by decide +kernel) (Nat.le_of_ble_eq_true rfl) (fun p e s m args below meth c A ls X I hl => w_X11_most_0 X  σ x1 h s.heap [] ls I (lv_sub hl [0, 1] rfl))

def rm_X11_row : Room := { frames := 3, cells := 0, slots := 0, locals := 110 }
def f_X11_row_39 (x1 : Int32) (x2 : Int32) : Nat → Mem → Int32 → Int32 → Int32 → Int32 → Option (Int32 × Mem)
  | 0, _, _, _, _, _ => none
  | n + 1, σ, x3, x4, x5, x6 => (gd (0 : Int32) 10 (if (σ 5 (Int32.toNatClampNeg (0 : Int32))) ≤ x6 then (if x2 = (0 : Int32) then (some (x4, σ)) else (some (x3, σ))) else (gd x6 8 (if (σ 23 (Int32.toNatClampNeg x6)) = x1 then (lt (x5 + (1 : Int32)) fun y6 => (if x4 < y6 then (lt ((x6 - y6) + (1 : Int32)) fun y8 => f_X11_row_39 x1 x2 n σ y8 y6 y6 (x6 + 1)) else f_X11_row_39 x1 x2 n σ x3 x4 y6 (x6 + 1))) else (if x4 < (0 : Int32) then (lt ((x6 - (0 : Int32)) + (1 : Int32)) fun y5 => f_X11_row_39 x1 x2 n σ y5 (0 : Int32) (0 : Int32) (x6 + 1)) else f_X11_row_39 x1 x2 n σ x3 x4 (0 : Int32) (x6 + 1))))))
def m_X11_row (σ : Mem) (x1 : Int32) (x2 : Int32) : Option (Int32 × Mem) := (lt (ms σ 0 5 (0 : Int32)) fun σ1 => ((m_X11_isTenant σ1 x1).bind fun q2 => (if q2 = (0 : Int32) then ((m_X11_fail σ1 (1 : Int32)).bind fun q4 => (some (q4.1, q4.2))) else (if x2 < (0 : Int32) then ((m_X11_fail σ1 (1 : Int32)).bind fun q6 => (some (q6.1, q6.2))) else (if x2 ≤ (1 : Int32) then (f_X11_row_39 x1 x2 KF σ1 (-1 : Int32) (0 : Int32) (0 : Int32) (0 : Int32)) else ((m_X11_fail σ1 (1 : Int32)).bind fun q8 => (some (q8.1, q8.2))))))))
set_option maxHeartbeats 4000000 in
set_option maxRecDepth 100000 in
theorem w_X11_row_39 {p : Program} {l : Launch} {e : Env} {s : State} {m : MethodId} {args : Array Value} {below : List Frame} {meth : Method} {c : Code} {A : Nat → Prop} {E : RE} {q : Int32 × Mem} (X : CX p s m meth c args cX11_row 7 RX11 (some .int)) {x1 : Int32} {x2 : Int32} : ∀ (n : Nat), ∀ (σ : Mem) (x3 : Int32) (x4 : Int32) (x5 : Int32) (x6 : Int32) , f_X11_row_39 x1 x2 n σ x3 x4 x5 x6 = some q → ∀ (H : Heap) (locs : List Loc) (ls : Array Slot), WI (vR E) A s H locs σ → lv_has ls 7 [(0, .ref (ra E 0)), (1, .int x1), (2, .int x2), (3, .int x3), (4, .int x4), (5, .int x5), (6, .int x6)] → W p l e rm_X11_row s m args below meth c H locs 0 0 (MQ below (QI (vR E) A q) args s 0 0 A) (F0 m 39 ls []) := by
  have hx := X.1
  have hb := X.2.1
  intro n
  induction n with
  | zero =>
    intro σ x3 x4 x5 x6 h
    cases h
  | succ n ih =>
    intro σ x3 x4 x5 x6 h H locs ls I hl
    rw [f_X11_row_39] at h
    refine lv_iload hx hb dX11_row_39 (lv_at hl 6 rfl) ?_
    refine lv_aload_n hx hb dX11_row_41 rfl (lv_at hl 0 rfl) ?_
    refine gfR_X11_55 X I dX11_row_42 ?_
    refine lv_iconst (v := 0) hx hb dX11_row_45 (by decide) ?_
    obtain ⟨hin, h⟩ := gd_some h
    refine ialdR X I (kR_5 E) hin dX11_row_46 ?_
    refine lv_icmp_ge (tgt := 99) hx hb dX11_row_47 (by decide) (fun c1 => ?_) (fun c1 => ?_)
    · have h := ite_t h c1
      refine lv_iload_n hx hb dX11_row_99 rfl (lv_at hl 2 rfl) ?_
      refine lv_if_ne (tgt := 108) hx hb dX11_row_100 (by decide) (fun c2 => ?_) (fun c2 => ?_)
      · have h := ite_f h c2
        refine lv_iload_n hx hb dX11_row_108 rfl (lv_at hl 3 rfl) ?_
        exact r_iret X I (Option.some.inj h).symm dX11_row_109
      · have h := ite_t h c2
        refine lv_iload hx hb dX11_row_103 (lv_at hl 4 rfl) ?_
        refine lv_goto (tgt := 109) hx hb dX11_row_105 (by decide) ?_
        exact r_iret X I (Option.some.inj h).symm dX11_row_109
    · have h := ite_f h c1
      refine lv_aload_n hx hb dX11_row_50 rfl (lv_at hl 0 rfl) ?_
      refine gfR_X11_110 X I dX11_row_51 ?_
      refine lv_iload hx hb dX11_row_54 (lv_at hl 6 rfl) ?_
      obtain ⟨hin, h⟩ := gd_some h
      refine ialdR X I (kR_23 E) hin dX11_row_56 ?_
      refine lv_iload_n hx hb dX11_row_57 rfl (lv_at hl 1 rfl) ?_
      refine lv_icmp_ne (tgt := 68) hx hb dX11_row_58 (by decide) (fun c3 => ?_) (fun c3 => ?_)
      · have h := ite_f h c3
        refine lv_iconst (v := 0) hx hb dX11_row_68 (by decide) ?_
        refine lv_istore (lv' := [(5, .int (0 : Int32)), (0, .ref (ra E 0)), (1, .int x1), (2, .int x2), (3, .int x3), (4, .int x4), (6, .int x6)]) hx hb dX11_row_69 hl (by decide) rfl (fun ls hl => ?_)
        refine lv_iload hx hb dX11_row_71 (lv_at hl 0 rfl) ?_
        refine lv_iload hx hb dX11_row_73 (lv_at hl 5 rfl) ?_
        refine lv_icmp_gt (tgt := 81) hx hb dX11_row_75 (by decide) (fun c4 => ?_) (fun c4 => ?_)
        · have h := ite_t h c4
          refine lv_iload hx hb dX11_row_81 (lv_at hl 0 rfl) ?_
          refine lv_istore (lv' := [(4, .int (0 : Int32)), (5, .int (0 : Int32)), (0, .ref (ra E 0)), (1, .int x1), (2, .int x2), (3, .int x3), (6, .int x6)]) hx hb dX11_row_83 hl (by decide) rfl (fun ls hl => ?_)
          refine lv_iload hx hb dX11_row_85 (lv_at hl 6 rfl) ?_
          refine lv_iload hx hb dX11_row_87 (lv_at hl 1 rfl) ?_
          refine lv_isub hx hb dX11_row_89 ?_
          refine lv_iconst (v := 1) hx hb dX11_row_90 (by decide) ?_
          refine lv_iadd hx hb dX11_row_91 ?_
          obtain ⟨y5, ey5, h⟩ := lt_e h
          refine nm_i ey5 ?_
          refine lv_istore_n (lv' := [(3, .int y5), (4, .int (0 : Int32)), (5, .int (0 : Int32)), (0, .ref (ra E 0)), (1, .int x1), (2, .int x2), (6, .int x6)]) hx hb dX11_row_92 rfl hl (by decide) rfl (fun ls hl => ?_)
          refine lv_iinc (v := (x6 + 1)) (lv' := [(6, .int (x6 + 1)), (3, .int y5), (4, .int (0 : Int32)), (5, .int (0 : Int32)), (0, .ref (ra E 0)), (1, .int x1), (2, .int x2)]) hx hb dX11_row_93 hl (k := 6) rfl rfl (by decide) rfl (fun ls hl => ?_)
          refine lv_goto (tgt := 39) hx hb dX11_row_96 (by decide) ?_
          exact ih σ y5 (0 : Int32) (0 : Int32) (x6 + 1) h H locs ls I (lv_sub hl [4, 5, 6, 1, 2, 3, 0] rfl)
        · have h := ite_f h c4
          refine lv_goto (tgt := 93) hx hb dX11_row_78 (by decide) ?_
          refine lv_iinc (v := (x6 + 1)) (lv' := [(6, .int (x6 + 1)), (5, .int (0 : Int32)), (0, .ref (ra E 0)), (1, .int x1), (2, .int x2), (3, .int x3), (4, .int x4)]) hx hb dX11_row_93 hl (k := 6) rfl rfl (by decide) rfl (fun ls hl => ?_)
          refine lv_goto (tgt := 39) hx hb dX11_row_96 (by decide) ?_
          exact ih σ x3 x4 (0 : Int32) (x6 + 1) h H locs ls I (lv_sub hl [2, 3, 4, 5, 6, 1, 0] rfl)
      · have h := ite_t h c3
        refine lv_iload hx hb dX11_row_61 (lv_at hl 5 rfl) ?_
        refine lv_iconst (v := 1) hx hb dX11_row_63 (by decide) ?_
        refine lv_iadd hx hb dX11_row_64 ?_
        refine lv_goto (tgt := 69) hx hb dX11_row_65 (by decide) ?_
        obtain ⟨y6, ey6, h⟩ := lt_e h
        refine nm_i ey6 ?_
        refine lv_istore (lv' := [(5, .int y6), (0, .ref (ra E 0)), (1, .int x1), (2, .int x2), (3, .int x3), (4, .int x4), (6, .int x6)]) hx hb dX11_row_69 hl (by decide) rfl (fun ls hl => ?_)
        refine lv_iload hx hb dX11_row_71 (lv_at hl 0 rfl) ?_
        refine lv_iload hx hb dX11_row_73 (lv_at hl 5 rfl) ?_
        refine lv_icmp_gt (tgt := 81) hx hb dX11_row_75 (by decide) (fun c7 => ?_) (fun c7 => ?_)
        · have h := ite_t h c7
          refine lv_iload hx hb dX11_row_81 (lv_at hl 0 rfl) ?_
          refine lv_istore (lv' := [(4, .int y6), (5, .int y6), (0, .ref (ra E 0)), (1, .int x1), (2, .int x2), (3, .int x3), (6, .int x6)]) hx hb dX11_row_83 hl (by decide) rfl (fun ls hl => ?_)
          refine lv_iload hx hb dX11_row_85 (lv_at hl 6 rfl) ?_
          refine lv_iload hx hb dX11_row_87 (lv_at hl 1 rfl) ?_
          refine lv_isub hx hb dX11_row_89 ?_
          refine lv_iconst (v := 1) hx hb dX11_row_90 (by decide) ?_
          refine lv_iadd hx hb dX11_row_91 ?_
          obtain ⟨y8, ey8, h⟩ := lt_e h
          refine nm_i ey8 ?_
          refine lv_istore_n (lv' := [(3, .int y8), (4, .int y6), (5, .int y6), (0, .ref (ra E 0)), (1, .int x1), (2, .int x2), (6, .int x6)]) hx hb dX11_row_92 rfl hl (by decide) rfl (fun ls hl => ?_)
          refine lv_iinc (v := (x6 + 1)) (lv' := [(6, .int (x6 + 1)), (3, .int y8), (4, .int y6), (5, .int y6), (0, .ref (ra E 0)), (1, .int x1), (2, .int x2)]) hx hb dX11_row_93 hl (k := 6) rfl rfl (by decide) rfl (fun ls hl => ?_)
          refine lv_goto (tgt := 39) hx hb dX11_row_96 (by decide) ?_
          exact ih σ y8 y6 y6 (x6 + 1) h H locs ls I (lv_sub hl [4, 5, 6, 1, 2, 3, 0] rfl)
        · have h := ite_f h c7
          refine lv_goto (tgt := 93) hx hb dX11_row_78 (by decide) ?_
          refine lv_iinc (v := (x6 + 1)) (lv' := [(6, .int (x6 + 1)), (5, .int y6), (0, .ref (ra E 0)), (1, .int x1), (2, .int x2), (3, .int x3), (4, .int x4)]) hx hb dX11_row_93 hl (k := 6) rfl rfl (by decide) rfl (fun ls hl => ?_)
          refine lv_goto (tgt := 39) hx hb dX11_row_96 (by decide) ?_
          exact ih σ x3 x4 y6 (x6 + 1) h H locs ls I (lv_sub hl [2, 3, 4, 5, 6, 1, 0] rfl)
set_option maxHeartbeats 4000000 in
set_option maxRecDepth 100000 in
theorem w_X11_row_0 {p : Program} {l : Launch} {e : Env} {s : State} {m : MethodId} {args : Array Value} {below : List Frame} {meth : Method} {c : Code} {A : Nat → Prop} {E : RE} {q : Int32 × Mem} (X : CX p s m meth c args cX11_row 7 RX11 (some .int)) : ∀ (σ : Mem) (x1 : Int32) (x2 : Int32) , m_X11_row σ x1 x2 = some q → ∀ (H : Heap) (locs : List Loc) (ls : Array Slot), WI (vR E) A s H locs σ → lv_has ls 7 [(0, .ref (ra E 0)), (1, .int x1), (2, .int x2)] → W p l e rm_X11_row s m args below meth c H locs 0 0 (MQ below (QI (vR E) A q) args s 0 0 A) (F0 m 0 ls []) := by
  have hx := X.1
  have hb := X.2.1
  intro σ x1 x2 h H locs ls I hl
  unfold m_X11_row at h
  refine lv_aload_n hx hb dX11_row_0 rfl (lv_at hl 0 rfl) ?_
  refine lv_iconst (v := 0) hx hb dX11_row_1 (by decide) ?_
  refine pfR_X11_195 X I  dX11_row_2 (fun H locs I => ?_)
  obtain ⟨σ1, eσ1, h⟩ := lt_e h
  replace I := wi_nm eσ1 I
  refine lv_aload_n hx hb dX11_row_5 rfl (lv_at hl 0 rfl) ?_
  refine lv_iload_n hx hb dX11_row_6 rfl (lv_at hl 1 rfl) ?_
  obtain ⟨q2, hq2, h⟩ := bd h
  refine r_callVI (V := (vR E)) (k := 0) (As := [.int x1]) (rest := []) X I hl (c_X11_isTenant  hq2) yv_X11_isTenant tw_1061 ⟨rfl, rfl, Nat.le_of_ble_eq_true rfl, Nat.le_of_ble_eq_true rfl⟩ (Nat.le_of_ble_eq_true rfl) rfl rfl rfl rfl (Nat.le_of_ble_eq_true rfl) dX11_row_7 (fun H locs I => ?_)
  refine lv_if_eq (tgt := 22) hx hb dX11_row_10 (by decide) (fun c3 => ?_) (fun c3 => ?_)
  · have h := ite_t h c3
    refine lv_aload_n hx hb dX11_row_22 rfl (lv_at hl 0 rfl) ?_
    refine lv_iconst (v := 1) hx hb dX11_row_23 (by decide) ?_
    obtain ⟨q4, hq4, h⟩ := bd h
    refine r_callVI (V := (vR E)) (k := 0) (As := [.int (1 : Int32)]) (rest := []) X I hl (c_X11_fail  hq4) yv_X11_fail tw_957 ⟨rfl, rfl, Nat.le_of_ble_eq_true rfl, Nat.le_of_ble_eq_true rfl⟩ (Nat.le_of_ble_eq_true rfl) rfl rfl rfl rfl (Nat.le_of_ble_eq_true rfl) dX11_row_24 (fun H locs I => ?_)
    exact r_iret X I (Option.some.inj h).symm dX11_row_27
  · have h := ite_f h c3
    refine lv_iload_n hx hb dX11_row_13 rfl (lv_at hl 2 rfl) ?_
    refine lv_if_lt (tgt := 22) hx hb dX11_row_14 (by decide) (fun c5 => ?_) (fun c5 => ?_)
    · have h := ite_t h c5
      refine lv_aload_n hx hb dX11_row_22 rfl (lv_at hl 0 rfl) ?_
      refine lv_iconst (v := 1) hx hb dX11_row_23 (by decide) ?_
      obtain ⟨q6, hq6, h⟩ := bd h
      refine r_callVI (V := (vR E)) (k := 0) (As := [.int (1 : Int32)]) (rest := []) X I hl (c_X11_fail  hq6) yv_X11_fail tw_957 ⟨rfl, rfl, Nat.le_of_ble_eq_true rfl, Nat.le_of_ble_eq_true rfl⟩ (Nat.le_of_ble_eq_true rfl) rfl rfl rfl rfl (Nat.le_of_ble_eq_true rfl) dX11_row_24 (fun H locs I => ?_)
      exact r_iret X I (Option.some.inj h).symm dX11_row_27
    · have h := ite_f h c5
      refine lv_iload_n hx hb dX11_row_17 rfl (lv_at hl 2 rfl) ?_
      refine lv_iconst (v := 1) hx hb dX11_row_18 (by decide) ?_
      refine lv_icmp_le (tgt := 28) hx hb dX11_row_19 (by decide) (fun c7 => ?_) (fun c7 => ?_)
      · have h := ite_t h c7
        refine lv_iconst (v := -1) hx hb dX11_row_28 (by decide) ?_
        refine lv_istore_n (lv' := [(3, .int (-1 : Int32)), (0, .ref (ra E 0)), (1, .int x1), (2, .int x2)]) hx hb dX11_row_29 rfl hl (by decide) rfl (fun ls hl => ?_)
        refine lv_iconst (v := 0) hx hb dX11_row_30 (by decide) ?_
        refine lv_istore (lv' := [(4, .int (0 : Int32)), (3, .int (-1 : Int32)), (0, .ref (ra E 0)), (1, .int x1), (2, .int x2)]) hx hb dX11_row_31 hl (by decide) rfl (fun ls hl => ?_)
        refine lv_iconst (v := 0) hx hb dX11_row_33 (by decide) ?_
        refine lv_istore (lv' := [(5, .int (0 : Int32)), (4, .int (0 : Int32)), (3, .int (-1 : Int32)), (0, .ref (ra E 0)), (1, .int x1), (2, .int x2)]) hx hb dX11_row_34 hl (by decide) rfl (fun ls hl => ?_)
        refine lv_iconst (v := 0) hx hb dX11_row_36 (by decide) ?_
        refine lv_istore (lv' := [(6, .int (0 : Int32)), (5, .int (0 : Int32)), (4, .int (0 : Int32)), (3, .int (-1 : Int32)), (0, .ref (ra E 0)), (1, .int x1), (2, .int x2)]) hx hb dX11_row_37 hl (by decide) rfl (fun ls hl => ?_)
        exact w_X11_row_39 X   KF σ1 (-1 : Int32) (0 : Int32) (0 : Int32) (0 : Int32) h H locs ls I (lv_sub hl [4, 5, 6, 3, 2, 1, 0] rfl)
      · have h := ite_f h c7
        refine lv_aload_n hx hb dX11_row_22 rfl (lv_at hl 0 rfl) ?_
        refine lv_iconst (v := 1) hx hb dX11_row_23 (by decide) ?_
        obtain ⟨q8, hq8, h⟩ := bd h
        refine r_callVI (V := (vR E)) (k := 0) (As := [.int (1 : Int32)]) (rest := []) X I hl (c_X11_fail  hq8) yv_X11_fail tw_957 ⟨rfl, rfl, Nat.le_of_ble_eq_true rfl, Nat.le_of_ble_eq_true rfl⟩ (Nat.le_of_ble_eq_true rfl) rfl rfl rfl rfl (Nat.le_of_ble_eq_true rfl) dX11_row_24 (fun H locs I => ?_)
        exact r_iret X I (Option.some.inj h).symm dX11_row_27
theorem c_X11_row {l : Launch} {E : RE} {σ : Mem} {x1 : Int32} {x2 : Int32} {q : Int32 × Mem} (h : m_X11_row σ x1 x2 = some q) : CI l (vR E) yX11_row (.code yX11_row cX11_row 7 (some .int) :: GG) rm_X11_row [.ref (ra E 0), .int x1, .int x2] σ q :=
  mk_CI (by decide +kernel) (Nat.le_of_ble_eq_true rfl) (fun p e s m args below meth c A ls X I hl => w_X11_row_0 X  σ x1 x2 h s.heap [] ls I (lv_sub hl [0, 1, 2] rfl))

def rm_X11_empty : Room := { frames := 7, cells := 0, slots := 0, locals := 206 }
def m_X11_empty (σ : Mem) (x1 : Int32) : Option (Int32 × Mem) := (lt (ms σ 0 5 (0 : Int32)) fun σ1 => ((m_X11_isIn σ1 (Int32.toInt64 x1) (0 : Int64) (40 : Int64)).bind fun q2 => (if q2 = (0 : Int32) then ((m_X11_fail σ1 (1 : Int32)).bind fun q8 => (some (q8.1, q8.2))) else ((m_X11_pack 34 64 σ1 (0 : Int32)).bind fun q4 => ((m_X11_goOn q4 x1).bind fun q5 => ((m_X11_nobodys q5).bind fun q6 => ((m_X11_unpack 34 64 q5 (0 : Int32)).bind fun q7 => (some (q6, q7)))))))))
set_option maxHeartbeats 4000000 in
set_option maxRecDepth 100000 in
theorem w_X11_empty_0 {p : Program} {l : Launch} {e : Env} {s : State} {m : MethodId} {args : Array Value} {below : List Frame} {meth : Method} {c : Code} {A : Nat → Prop} {E : RE} {q : Int32 × Mem} (X : CX p s m meth c args cX11_empty 3 RX11 (some .int)) : ∀ (σ : Mem) (x1 : Int32) , m_X11_empty σ x1 = some q → ∀ (H : Heap) (locs : List Loc) (ls : Array Slot), WI (vR E) A s H locs σ → lv_has ls 3 [(0, .ref (ra E 0)), (1, .int x1)] → W p l e rm_X11_empty s m args below meth c H locs 0 0 (MQ below (QI (vR E) A q) args s 0 0 A) (F0 m 0 ls []) := by
  have hx := X.1
  have hb := X.2.1
  intro σ x1 h H locs ls I hl
  unfold m_X11_empty at h
  refine lv_aload_n hx hb dX11_empty_0 rfl (lv_at hl 0 rfl) ?_
  refine lv_iconst (v := 0) hx hb dX11_empty_1 (by decide) ?_
  refine pfR_X11_195 X I  dX11_empty_2 (fun H locs I => ?_)
  obtain ⟨σ1, eσ1, h⟩ := lt_e h
  replace I := wi_nm eσ1 I
  refine lv_iload_n hx hb dX11_empty_5 rfl (lv_at hl 1 rfl) ?_
  refine lv_i2l hx hb dX11_empty_6 rfl ?_
  refine lv_lconst (v := 0) hx hb dX11_empty_7 (by decide) ?_
  refine lv_ldc2 hx hb X.2.2.2.1 (X.2.2.2.2.1 _ tw_1100) dX11_empty_8 ?_
  obtain ⟨q2, hq2, h⟩ := bd h
  refine r_callSI (V := (vR E)) (As := [.long (Int32.toInt64 x1), .long (0 : Int64), .long (40 : Int64)]) (rest := []) X I hl (c_X11_isIn  hq2) ys_X11_isIn tw_801 ⟨rfl, rfl, Nat.le_of_ble_eq_true rfl, Nat.le_of_ble_eq_true rfl⟩ rfl rfl (Nat.le_of_ble_eq_true rfl) dX11_empty_11 (fun H locs I => ?_)
  refine lv_if_ne (tgt := 23) hx hb dX11_empty_14 (by decide) (fun c3 => ?_) (fun c3 => ?_)
  · have h := ite_f h c3
    refine lv_aload_n hx hb dX11_empty_23 rfl (lv_at hl 0 rfl) ?_
    refine lv_aload_n hx hb dX11_empty_24 rfl (lv_at hl 0 rfl) ?_
    refine gfR_X11_140 X I dX11_empty_25 ?_
    refine lv_iconst (v := 0) hx hb dX11_empty_28 (by decide) ?_
    obtain ⟨q4, hq4, h⟩ := bd h
    refine r_callVV (V := (vR E)) (k := 0) (As := [.ref (ra E 34), .int (0 : Int32)]) (rest := []) X I hl (c_X11_pack (kR_34 E) hq4) yv_X11_pack tw_1067 ⟨rfl, rfl, Nat.le_of_ble_eq_true rfl, Nat.le_of_ble_eq_true rfl⟩ (Nat.le_of_ble_eq_true rfl) rfl rfl rfl rfl (Nat.le_of_ble_eq_true rfl) dX11_empty_29 (fun H locs I => ?_)
    refine lv_aload_n hx hb dX11_empty_32 rfl (lv_at hl 0 rfl) ?_
    refine lv_iload_n hx hb dX11_empty_33 rfl (lv_at hl 1 rfl) ?_
    obtain ⟨q5, hq5, h⟩ := bd h
    refine r_callVV (V := (vR E)) (k := 0) (As := [.int x1]) (rest := []) X I hl (c_X11_goOn  hq5) yv_X11_goOn tw_1083 ⟨rfl, rfl, Nat.le_of_ble_eq_true rfl, Nat.le_of_ble_eq_true rfl⟩ (Nat.le_of_ble_eq_true rfl) rfl rfl rfl rfl (Nat.le_of_ble_eq_true rfl) dX11_empty_34 (fun H locs I => ?_)
    refine lv_aload_n hx hb dX11_empty_37 rfl (lv_at hl 0 rfl) ?_
    obtain ⟨q6, hq6, h⟩ := bd h
    refine r_callVI (V := (vR E)) (k := 0) (As := []) (rest := []) X I hl (c_X11_nobodys  hq6) yv_X11_nobodys tw_1046 ⟨rfl, rfl, Nat.le_of_ble_eq_true rfl, Nat.le_of_ble_eq_true rfl⟩ (Nat.le_of_ble_eq_true rfl) rfl rfl rfl rfl (Nat.le_of_ble_eq_true rfl) dX11_empty_38 (fun H locs I => ?_)
    refine lv_istore_n (lv' := [(2, .int q6), (0, .ref (ra E 0)), (1, .int x1)]) hx hb dX11_empty_41 rfl hl (by decide) rfl (fun ls hl => ?_)
    refine lv_aload_n hx hb dX11_empty_42 rfl (lv_at hl 1 rfl) ?_
    refine lv_aload_n hx hb dX11_empty_43 rfl (lv_at hl 1 rfl) ?_
    refine gfR_X11_140 X I dX11_empty_44 ?_
    refine lv_iconst (v := 0) hx hb dX11_empty_47 (by decide) ?_
    obtain ⟨q7, hq7, h⟩ := bd h
    refine r_callVV (V := (vR E)) (k := 0) (As := [.ref (ra E 34), .int (0 : Int32)]) (rest := []) X I hl (c_X11_unpack (kR_34 E) hq7) yv_X11_unpack tw_1095 ⟨rfl, rfl, Nat.le_of_ble_eq_true rfl, Nat.le_of_ble_eq_true rfl⟩ (Nat.le_of_ble_eq_true rfl) rfl rfl rfl rfl (Nat.le_of_ble_eq_true rfl) dX11_empty_48 (fun H locs I => ?_)
    refine lv_iload_n hx hb dX11_empty_51 rfl (lv_at hl 0 rfl) ?_
    exact r_iret X I (Option.some.inj h).symm dX11_empty_52
  · have h := ite_t h c3
    refine lv_aload_n hx hb dX11_empty_17 rfl (lv_at hl 0 rfl) ?_
    refine lv_iconst (v := 1) hx hb dX11_empty_18 (by decide) ?_
    obtain ⟨q8, hq8, h⟩ := bd h
    refine r_callVI (V := (vR E)) (k := 0) (As := [.int (1 : Int32)]) (rest := []) X I hl (c_X11_fail  hq8) yv_X11_fail tw_957 ⟨rfl, rfl, Nat.le_of_ble_eq_true rfl, Nat.le_of_ble_eq_true rfl⟩ (Nat.le_of_ble_eq_true rfl) rfl rfl rfl rfl (Nat.le_of_ble_eq_true rfl) dX11_empty_19 (fun H locs I => ?_)
    exact r_iret X I (Option.some.inj h).symm dX11_empty_22
theorem c_X11_empty {l : Launch} {E : RE} {σ : Mem} {x1 : Int32} {q : Int32 × Mem} (h : m_X11_empty σ x1 = some q) : CI l (vR E) yX11_empty (.code yX11_empty cX11_empty 3 (some .int) :: GG) rm_X11_empty [.ref (ra E 0), .int x1] σ q :=
  mk_CI (by decide +kernel) (Nat.le_of_ble_eq_true rfl) (fun p e s m args below meth c A ls X I hl => w_X11_empty_0 X  σ x1 h s.heap [] ls I (lv_sub hl [0, 1] rfl))

def rm_X11_likingOf : Room := { frames := 4, cells := 0, slots := 0, locals := 135 }
def m_X11_likingOf (σ : Mem) (x1 : Int32) (x2 : Int32) : Option (Int32 × Mem) := ((m_X11_isOf σ (σ 0 42) x1).bind fun q1 => (if q1 = (0 : Int32) then ((m_X11_likes σ x1 x2).bind fun q3 => (some (q3.1, q3.2))) else (some ((0 : Int32), σ))))
set_option maxHeartbeats 4000000 in
set_option maxRecDepth 100000 in
theorem w_X11_likingOf_0 {p : Program} {l : Launch} {e : Env} {s : State} {m : MethodId} {args : Array Value} {below : List Frame} {meth : Method} {c : Code} {A : Nat → Prop} {E : RE} {q : Int32 × Mem} (X : CX p s m meth c args cX11_likingOf 3 RX11 (some .int)) : ∀ (σ : Mem) (x1 : Int32) (x2 : Int32) , m_X11_likingOf σ x1 x2 = some q → ∀ (H : Heap) (locs : List Loc) (ls : Array Slot), WI (vR E) A s H locs σ → lv_has ls 3 [(0, .ref (ra E 0)), (1, .int x1), (2, .int x2)] → W p l e rm_X11_likingOf s m args below meth c H locs 0 0 (MQ below (QI (vR E) A q) args s 0 0 A) (F0 m 0 ls []) := by
  have hx := X.1
  have hb := X.2.1
  intro σ x1 x2 h H locs ls I hl
  unfold m_X11_likingOf at h
  refine lv_aload_n hx hb dX11_likingOf_0 rfl (lv_at hl 0 rfl) ?_
  refine gfR_X11_344 X I dX11_likingOf_1 ?_
  refine lv_iload_n hx hb dX11_likingOf_4 rfl (lv_at hl 1 rfl) ?_
  obtain ⟨q1, hq1, h⟩ := bd h
  refine r_callSI (V := (vR E)) (As := [.int (σ 0 42), .int x1]) (rest := []) X I hl (c_X11_isOf  hq1) ys_X11_isOf tw_1012 ⟨rfl, rfl, Nat.le_of_ble_eq_true rfl, Nat.le_of_ble_eq_true rfl⟩ rfl rfl (Nat.le_of_ble_eq_true rfl) dX11_likingOf_5 (fun H locs I => ?_)
  refine lv_if_eq (tgt := 15) hx hb dX11_likingOf_8 (by decide) (fun c2 => ?_) (fun c2 => ?_)
  · have h := ite_t h c2
    refine lv_aload_n hx hb dX11_likingOf_15 rfl (lv_at hl 0 rfl) ?_
    refine lv_iload_n hx hb dX11_likingOf_16 rfl (lv_at hl 1 rfl) ?_
    refine lv_iload_n hx hb dX11_likingOf_17 rfl (lv_at hl 2 rfl) ?_
    obtain ⟨q3, hq3, h⟩ := bd h
    refine r_callVI (V := (vR E)) (k := 0) (As := [.int x1, .int x2]) (rest := []) X I hl (c_X11_likes  hq3) yv_X11_likes tw_1016 ⟨rfl, rfl, Nat.le_of_ble_eq_true rfl, Nat.le_of_ble_eq_true rfl⟩ (Nat.le_of_ble_eq_true rfl) rfl rfl rfl rfl (Nat.le_of_ble_eq_true rfl) dX11_likingOf_18 (fun H locs I => ?_)
    exact r_iret X I (Option.some.inj h).symm dX11_likingOf_21
  · have h := ite_f h c2
    refine lv_iconst (v := 0) hx hb dX11_likingOf_11 (by decide) ?_
    refine lv_goto (tgt := 21) hx hb dX11_likingOf_12 (by decide) ?_
    exact r_iret X I (Option.some.inj h).symm dX11_likingOf_21
theorem c_X11_likingOf {l : Launch} {E : RE} {σ : Mem} {x1 : Int32} {x2 : Int32} {q : Int32 × Mem} (h : m_X11_likingOf σ x1 x2 = some q) : CI l (vR E) yX11_likingOf (.code yX11_likingOf cX11_likingOf 3 (some .int) :: GG) rm_X11_likingOf [.ref (ra E 0), .int x1, .int x2] σ q :=
  mk_CI (by decide +kernel) (Nat.le_of_ble_eq_true rfl) (fun p e s m args below meth c A ls X I hl => w_X11_likingOf_0 X  σ x1 x2 h s.heap [] ls I (lv_sub hl [0, 1, 2] rfl))

def rm_X11_liking : Room := { frames := 5, cells := 0, slots := 0, locals := 157 }
def m_X11_liking (σ : Mem) (x1 : Int32) (x2 : Int32) : Option (Int32 × Mem) := (lt (ms σ 0 5 (0 : Int32)) fun σ1 => ((m_X11_isHouse σ1 x1).bind fun q2 => (if q2 = (0 : Int32) then ((m_X11_fail σ1 (1 : Int32)).bind fun q4 => (some (q4.1, q4.2))) else ((m_X11_isTenant σ1 x2).bind fun q5 => (if q5 = (0 : Int32) then ((m_X11_fail σ1 (1 : Int32)).bind fun q9 => (some (q9.1, q9.2))) else ((m_X11_tellBegun σ1).bind fun q7 => ((m_X11_likingOf q7 x1 x2).bind fun q8 => (some (q8.1, q8.2)))))))))
set_option maxHeartbeats 4000000 in
set_option maxRecDepth 100000 in
theorem w_X11_liking_0 {p : Program} {l : Launch} {e : Env} {s : State} {m : MethodId} {args : Array Value} {below : List Frame} {meth : Method} {c : Code} {A : Nat → Prop} {E : RE} {q : Int32 × Mem} (X : CX p s m meth c args cX11_liking 3 RX11 (some .int)) : ∀ (σ : Mem) (x1 : Int32) (x2 : Int32) , m_X11_liking σ x1 x2 = some q → ∀ (H : Heap) (locs : List Loc) (ls : Array Slot), WI (vR E) A s H locs σ → lv_has ls 3 [(0, .ref (ra E 0)), (1, .int x1), (2, .int x2)] → W p l e rm_X11_liking s m args below meth c H locs 0 0 (MQ below (QI (vR E) A q) args s 0 0 A) (F0 m 0 ls []) := by
  have hx := X.1
  have hb := X.2.1
  intro σ x1 x2 h H locs ls I hl
  unfold m_X11_liking at h
  refine lv_aload_n hx hb dX11_liking_0 rfl (lv_at hl 0 rfl) ?_
  refine lv_iconst (v := 0) hx hb dX11_liking_1 (by decide) ?_
  refine pfR_X11_195 X I  dX11_liking_2 (fun H locs I => ?_)
  obtain ⟨σ1, eσ1, h⟩ := lt_e h
  replace I := wi_nm eσ1 I
  refine lv_aload_n hx hb dX11_liking_5 rfl (lv_at hl 0 rfl) ?_
  refine lv_iload_n hx hb dX11_liking_6 rfl (lv_at hl 1 rfl) ?_
  obtain ⟨q2, hq2, h⟩ := bd h
  refine r_callVI (V := (vR E)) (k := 0) (As := [.int x1]) (rest := []) X I hl (c_X11_isHouse  hq2) yv_X11_isHouse tw_1056 ⟨rfl, rfl, Nat.le_of_ble_eq_true rfl, Nat.le_of_ble_eq_true rfl⟩ (Nat.le_of_ble_eq_true rfl) rfl rfl rfl rfl (Nat.le_of_ble_eq_true rfl) dX11_liking_7 (fun H locs I => ?_)
  refine lv_if_eq (tgt := 21) hx hb dX11_liking_10 (by decide) (fun c3 => ?_) (fun c3 => ?_)
  · have h := ite_t h c3
    refine lv_aload_n hx hb dX11_liking_21 rfl (lv_at hl 0 rfl) ?_
    refine lv_iconst (v := 1) hx hb dX11_liking_22 (by decide) ?_
    obtain ⟨q4, hq4, h⟩ := bd h
    refine r_callVI (V := (vR E)) (k := 0) (As := [.int (1 : Int32)]) (rest := []) X I hl (c_X11_fail  hq4) yv_X11_fail tw_957 ⟨rfl, rfl, Nat.le_of_ble_eq_true rfl, Nat.le_of_ble_eq_true rfl⟩ (Nat.le_of_ble_eq_true rfl) rfl rfl rfl rfl (Nat.le_of_ble_eq_true rfl) dX11_liking_23 (fun H locs I => ?_)
    exact r_iret X I (Option.some.inj h).symm dX11_liking_26
  · have h := ite_f h c3
    refine lv_aload_n hx hb dX11_liking_13 rfl (lv_at hl 0 rfl) ?_
    refine lv_iload_n hx hb dX11_liking_14 rfl (lv_at hl 2 rfl) ?_
    obtain ⟨q5, hq5, h⟩ := bd h
    refine r_callVI (V := (vR E)) (k := 0) (As := [.int x2]) (rest := []) X I hl (c_X11_isTenant  hq5) yv_X11_isTenant tw_1061 ⟨rfl, rfl, Nat.le_of_ble_eq_true rfl, Nat.le_of_ble_eq_true rfl⟩ (Nat.le_of_ble_eq_true rfl) rfl rfl rfl rfl (Nat.le_of_ble_eq_true rfl) dX11_liking_15 (fun H locs I => ?_)
    refine lv_if_ne (tgt := 27) hx hb dX11_liking_18 (by decide) (fun c6 => ?_) (fun c6 => ?_)
    · have h := ite_f h c6
      refine lv_aload_n hx hb dX11_liking_27 rfl (lv_at hl 0 rfl) ?_
      obtain ⟨q7, hq7, h⟩ := bd h
      refine r_callVV (V := (vR E)) (k := 0) (As := []) (rest := []) X I hl (c_X11_tellBegun  hq7) yv_X11_tellBegun tw_1026 ⟨rfl, rfl, Nat.le_of_ble_eq_true rfl, Nat.le_of_ble_eq_true rfl⟩ (Nat.le_of_ble_eq_true rfl) rfl rfl rfl rfl (Nat.le_of_ble_eq_true rfl) dX11_liking_28 (fun H locs I => ?_)
      refine lv_aload_n hx hb dX11_liking_31 rfl (lv_at hl 0 rfl) ?_
      refine lv_iload_n hx hb dX11_liking_32 rfl (lv_at hl 1 rfl) ?_
      refine lv_iload_n hx hb dX11_liking_33 rfl (lv_at hl 2 rfl) ?_
      obtain ⟨q8, hq8, h⟩ := bd h
      refine r_callVI (V := (vR E)) (k := 0) (As := [.int x1, .int x2]) (rest := []) X I hl (c_X11_likingOf  hq8) yv_X11_likingOf tw_1102 ⟨rfl, rfl, Nat.le_of_ble_eq_true rfl, Nat.le_of_ble_eq_true rfl⟩ (Nat.le_of_ble_eq_true rfl) rfl rfl rfl rfl (Nat.le_of_ble_eq_true rfl) dX11_liking_34 (fun H locs I => ?_)
      exact r_iret X I (Option.some.inj h).symm dX11_liking_37
    · have h := ite_t h c6
      refine lv_aload_n hx hb dX11_liking_21 rfl (lv_at hl 0 rfl) ?_
      refine lv_iconst (v := 1) hx hb dX11_liking_22 (by decide) ?_
      obtain ⟨q9, hq9, h⟩ := bd h
      refine r_callVI (V := (vR E)) (k := 0) (As := [.int (1 : Int32)]) (rest := []) X I hl (c_X11_fail  hq9) yv_X11_fail tw_957 ⟨rfl, rfl, Nat.le_of_ble_eq_true rfl, Nat.le_of_ble_eq_true rfl⟩ (Nat.le_of_ble_eq_true rfl) rfl rfl rfl rfl (Nat.le_of_ble_eq_true rfl) dX11_liking_23 (fun H locs I => ?_)
      exact r_iret X I (Option.some.inj h).symm dX11_liking_26
theorem c_X11_liking {l : Launch} {E : RE} {σ : Mem} {x1 : Int32} {x2 : Int32} {q : Int32 × Mem} (h : m_X11_liking σ x1 x2 = some q) : CI l (vR E) yX11_liking (.code yX11_liking cX11_liking 3 (some .int) :: GG) rm_X11_liking [.ref (ra E 0), .int x1, .int x2] σ q :=
  mk_CI (by decide +kernel) (Nat.le_of_ble_eq_true rfl) (fun p e s m args below meth c A ls X I hl => w_X11_liking_0 X  σ x1 x2 h s.heap [] ls I (lv_sub hl [0, 1, 2] rfl))

def rm_X11_housesNext : Room := { frames := 6, cells := 0, slots := 0, locals := 184 }
def m_X11_housesNext (σ : Mem) (x1 : Int32) : Option (Int32 × Mem) := ((m_X11_pack 34 64 σ (0 : Int32)).bind fun q1 => ((m_X11_aQuarter q1).bind fun q2 => ((m_X11_housesOf q2 x1).bind fun q3 => ((m_X11_unpack 34 64 q2 (0 : Int32)).bind fun q4 => (some (q3, q4))))))
set_option maxHeartbeats 4000000 in
set_option maxRecDepth 100000 in
theorem w_X11_housesNext_0 {p : Program} {l : Launch} {e : Env} {s : State} {m : MethodId} {args : Array Value} {below : List Frame} {meth : Method} {c : Code} {A : Nat → Prop} {E : RE} {q : Int32 × Mem} (X : CX p s m meth c args cX11_housesNext 3 RX11 (some .int)) : ∀ (σ : Mem) (x1 : Int32) , m_X11_housesNext σ x1 = some q → ∀ (H : Heap) (locs : List Loc) (ls : Array Slot), WI (vR E) A s H locs σ → lv_has ls 3 [(0, .ref (ra E 0)), (1, .int x1)] → W p l e rm_X11_housesNext s m args below meth c H locs 0 0 (MQ below (QI (vR E) A q) args s 0 0 A) (F0 m 0 ls []) := by
  have hx := X.1
  have hb := X.2.1
  intro σ x1 h H locs ls I hl
  unfold m_X11_housesNext at h
  refine lv_aload_n hx hb dX11_housesNext_0 rfl (lv_at hl 0 rfl) ?_
  refine lv_aload_n hx hb dX11_housesNext_1 rfl (lv_at hl 0 rfl) ?_
  refine gfR_X11_140 X I dX11_housesNext_2 ?_
  refine lv_iconst (v := 0) hx hb dX11_housesNext_5 (by decide) ?_
  obtain ⟨q1, hq1, h⟩ := bd h
  refine r_callVV (V := (vR E)) (k := 0) (As := [.ref (ra E 34), .int (0 : Int32)]) (rest := []) X I hl (c_X11_pack (kR_34 E) hq1) yv_X11_pack tw_1067 ⟨rfl, rfl, Nat.le_of_ble_eq_true rfl, Nat.le_of_ble_eq_true rfl⟩ (Nat.le_of_ble_eq_true rfl) rfl rfl rfl rfl (Nat.le_of_ble_eq_true rfl) dX11_housesNext_6 (fun H locs I => ?_)
  refine lv_aload_n hx hb dX11_housesNext_9 rfl (lv_at hl 0 rfl) ?_
  obtain ⟨q2, hq2, h⟩ := bd h
  refine r_callVV (V := (vR E)) (k := 0) (As := []) (rest := []) X I hl (c_X11_aQuarter  hq2) yv_X11_aQuarter tw_1041 ⟨rfl, rfl, Nat.le_of_ble_eq_true rfl, Nat.le_of_ble_eq_true rfl⟩ (Nat.le_of_ble_eq_true rfl) rfl rfl rfl rfl (Nat.le_of_ble_eq_true rfl) dX11_housesNext_10 (fun H locs I => ?_)
  refine lv_aload_n hx hb dX11_housesNext_13 rfl (lv_at hl 0 rfl) ?_
  refine lv_iload_n hx hb dX11_housesNext_14 rfl (lv_at hl 1 rfl) ?_
  obtain ⟨q3, hq3, h⟩ := bd h
  refine r_callVI (V := (vR E)) (k := 0) (As := [.int x1]) (rest := []) X I hl (c_X11_housesOf  hq3) yv_X11_housesOf tw_981 ⟨rfl, rfl, Nat.le_of_ble_eq_true rfl, Nat.le_of_ble_eq_true rfl⟩ (Nat.le_of_ble_eq_true rfl) rfl rfl rfl rfl (Nat.le_of_ble_eq_true rfl) dX11_housesNext_15 (fun H locs I => ?_)
  refine lv_istore_n (lv' := [(2, .int q3), (0, .ref (ra E 0)), (1, .int x1)]) hx hb dX11_housesNext_18 rfl hl (by decide) rfl (fun ls hl => ?_)
  refine lv_aload_n hx hb dX11_housesNext_19 rfl (lv_at hl 1 rfl) ?_
  refine lv_aload_n hx hb dX11_housesNext_20 rfl (lv_at hl 1 rfl) ?_
  refine gfR_X11_140 X I dX11_housesNext_21 ?_
  refine lv_iconst (v := 0) hx hb dX11_housesNext_24 (by decide) ?_
  obtain ⟨q4, hq4, h⟩ := bd h
  refine r_callVV (V := (vR E)) (k := 0) (As := [.ref (ra E 34), .int (0 : Int32)]) (rest := []) X I hl (c_X11_unpack (kR_34 E) hq4) yv_X11_unpack tw_1095 ⟨rfl, rfl, Nat.le_of_ble_eq_true rfl, Nat.le_of_ble_eq_true rfl⟩ (Nat.le_of_ble_eq_true rfl) rfl rfl rfl rfl (Nat.le_of_ble_eq_true rfl) dX11_housesNext_25 (fun H locs I => ?_)
  refine lv_iload_n hx hb dX11_housesNext_28 rfl (lv_at hl 0 rfl) ?_
  exact r_iret X I (Option.some.inj h).symm dX11_housesNext_29
theorem c_X11_housesNext {l : Launch} {E : RE} {σ : Mem} {x1 : Int32} {q : Int32 × Mem} (h : m_X11_housesNext σ x1 = some q) : CI l (vR E) yX11_housesNext (.code yX11_housesNext cX11_housesNext 3 (some .int) :: GG) rm_X11_housesNext [.ref (ra E 0), .int x1] σ q :=
  mk_CI (by decide +kernel) (Nat.le_of_ble_eq_true rfl) (fun p e s m args below meth c A ls X I hl => w_X11_housesNext_0 X  σ x1 h s.heap [] ls I (lv_sub hl [0, 1] rfl))

def rm_X11_leastChops : Room := { frames := 7, cells := 0, slots := 0, locals := 206 }
def f_X11_leastChops_40 (x1 : Int32) (x2 : Int32) (x3 : Int32) : Nat → Mem → Int32 → Int32 → Option (Int32 × Mem)
  | 0, _, _, _ => none
  | n + 1, σ, x4, x5 => (if (20 : Int32) < x5 then (gd x1 7 (lt (ms σ 25 (Int32.toNatClampNeg x1) (x3)) fun σ2 => (some (x4, σ2)))) else (if x4 = (-1 : Int32) then (gd x1 7 (lt (ms σ 25 (Int32.toNatClampNeg x1) (x5)) fun σ5 => ((m_X11_housesNext σ5 x1).bind fun q6 => ((m_X11_isOf q6.2 q6.1 x2).bind fun q7 => (if q7 = (0 : Int32) then f_X11_leastChops_40 x1 x2 x3 n q6.2 x4 (x5 + 1) else f_X11_leastChops_40 x1 x2 x3 n q6.2 x5 (x5 + 1)))))) else (gd x1 7 (lt (ms σ 25 (Int32.toNatClampNeg x1) (x3)) fun σ4 => (some (x4, σ4))))))
def m_X11_leastChops (σ : Mem) (x1 : Int32) (x2 : Int32) : Option (Int32 × Mem) := (lt (ms σ 0 5 (0 : Int32)) fun σ1 => ((m_X11_isTenant σ1 x1).bind fun q2 => (if q2 = (0 : Int32) then ((m_X11_fail σ1 (1 : Int32)).bind fun q4 => (some (q4.1, q4.2))) else ((m_X11_isHouse σ1 x2).bind fun q5 => (if q5 = (0 : Int32) then ((m_X11_fail σ1 (1 : Int32)).bind fun q8 => (some (q8.1, q8.2))) else (gd x1 7 (lt (σ1 25 (Int32.toNatClampNeg x1)) fun y7 => (f_X11_leastChops_40 x1 x2 y7 KF σ1 (-1 : Int32) (0 : Int32)))))))))
set_option maxHeartbeats 4000000 in
set_option maxRecDepth 100000 in
theorem w_X11_leastChops_40 {p : Program} {l : Launch} {e : Env} {s : State} {m : MethodId} {args : Array Value} {below : List Frame} {meth : Method} {c : Code} {A : Nat → Prop} {E : RE} {q : Int32 × Mem} (X : CX p s m meth c args cX11_leastChops 6 RX11 (some .int)) {x1 : Int32} {x2 : Int32} {x3 : Int32} : ∀ (n : Nat), ∀ (σ : Mem) (x4 : Int32) (x5 : Int32) , f_X11_leastChops_40 x1 x2 x3 n σ x4 x5 = some q → ∀ (H : Heap) (locs : List Loc) (ls : Array Slot), WI (vR E) A s H locs σ → lv_has ls 6 [(0, .ref (ra E 0)), (1, .int x1), (2, .int x2), (3, .int x3), (4, .int x4), (5, .int x5)] → W p l e rm_X11_leastChops s m args below meth c H locs 0 0 (MQ below (QI (vR E) A q) args s 0 0 A) (F0 m 40 ls []) := by
  have hx := X.1
  have hb := X.2.1
  intro n
  induction n with
  | zero =>
    intro σ x4 x5 h
    cases h
  | succ n ih =>
    intro σ x4 x5 h H locs ls I hl
    rw [f_X11_leastChops_40] at h
    refine lv_iload hx hb dX11_leastChops_40 (lv_at hl 5 rfl) ?_
    refine lv_bipush (v := 20) hx hb dX11_leastChops_42 (by decide) ?_
    refine lv_icmp_gt (tgt := 83) hx hb dX11_leastChops_44 (by decide) (fun c1 => ?_) (fun c1 => ?_)
    · have h := ite_t h c1
      refine lv_aload_n hx hb dX11_leastChops_83 rfl (lv_at hl 0 rfl) ?_
      refine gfR_X11_115 X I dX11_leastChops_84 ?_
      refine lv_iload_n hx hb dX11_leastChops_87 rfl (lv_at hl 1 rfl) ?_
      refine lv_iload_n hx hb dX11_leastChops_88 rfl (lv_at hl 3 rfl) ?_
      obtain ⟨hin, h⟩ := gd_some h
      refine iastR X I (kR_25 E) hin dX11_leastChops_89 (fun H locs I => ?_)
      obtain ⟨σ2, eσ2, h⟩ := lt_e h
      replace I := wi_nm eσ2 I
      refine lv_iload hx hb dX11_leastChops_90 (lv_at hl 4 rfl) ?_
      exact r_iret X I (Option.some.inj h).symm dX11_leastChops_92
    · have h := ite_f h c1
      refine lv_iload hx hb dX11_leastChops_47 (lv_at hl 4 rfl) ?_
      refine lv_iconst (v := -1) hx hb dX11_leastChops_49 (by decide) ?_
      refine lv_icmp_ne (tgt := 83) hx hb dX11_leastChops_50 (by decide) (fun c3 => ?_) (fun c3 => ?_)
      · have h := ite_f h c3
        refine lv_aload_n hx hb dX11_leastChops_83 rfl (lv_at hl 0 rfl) ?_
        refine gfR_X11_115 X I dX11_leastChops_84 ?_
        refine lv_iload_n hx hb dX11_leastChops_87 rfl (lv_at hl 1 rfl) ?_
        refine lv_iload_n hx hb dX11_leastChops_88 rfl (lv_at hl 3 rfl) ?_
        obtain ⟨hin, h⟩ := gd_some h
        refine iastR X I (kR_25 E) hin dX11_leastChops_89 (fun H locs I => ?_)
        obtain ⟨σ4, eσ4, h⟩ := lt_e h
        replace I := wi_nm eσ4 I
        refine lv_iload hx hb dX11_leastChops_90 (lv_at hl 4 rfl) ?_
        exact r_iret X I (Option.some.inj h).symm dX11_leastChops_92
      · have h := ite_t h c3
        refine lv_aload_n hx hb dX11_leastChops_53 rfl (lv_at hl 0 rfl) ?_
        refine gfR_X11_115 X I dX11_leastChops_54 ?_
        refine lv_iload_n hx hb dX11_leastChops_57 rfl (lv_at hl 1 rfl) ?_
        refine lv_iload hx hb dX11_leastChops_58 (lv_at hl 5 rfl) ?_
        obtain ⟨hin, h⟩ := gd_some h
        refine iastR X I (kR_25 E) hin dX11_leastChops_60 (fun H locs I => ?_)
        obtain ⟨σ5, eσ5, h⟩ := lt_e h
        replace I := wi_nm eσ5 I
        refine lv_aload_n hx hb dX11_leastChops_61 rfl (lv_at hl 0 rfl) ?_
        refine lv_iload_n hx hb dX11_leastChops_62 rfl (lv_at hl 1 rfl) ?_
        obtain ⟨q6, hq6, h⟩ := bd h
        refine r_callVI (V := (vR E)) (k := 0) (As := [.int x1]) (rest := []) X I hl (c_X11_housesNext  hq6) yv_X11_housesNext tw_1107 ⟨rfl, rfl, Nat.le_of_ble_eq_true rfl, Nat.le_of_ble_eq_true rfl⟩ (Nat.le_of_ble_eq_true rfl) rfl rfl rfl rfl (Nat.le_of_ble_eq_true rfl) dX11_leastChops_63 (fun H locs I => ?_)
        refine lv_iload_n hx hb dX11_leastChops_66 rfl (lv_at hl 2 rfl) ?_
        obtain ⟨q7, hq7, h⟩ := bd h
        refine r_callSI (V := (vR E)) (As := [.int q6.1, .int x2]) (rest := []) X I hl (c_X11_isOf  hq7) ys_X11_isOf tw_1012 ⟨rfl, rfl, Nat.le_of_ble_eq_true rfl, Nat.le_of_ble_eq_true rfl⟩ rfl rfl (Nat.le_of_ble_eq_true rfl) dX11_leastChops_67 (fun H locs I => ?_)
        refine lv_if_eq (tgt := 77) hx hb dX11_leastChops_70 (by decide) (fun c8 => ?_) (fun c8 => ?_)
        · have h := ite_t h c8
          refine lv_iinc (v := (x5 + 1)) (lv' := [(5, .int (x5 + 1)), (0, .ref (ra E 0)), (1, .int x1), (2, .int x2), (3, .int x3), (4, .int x4)]) hx hb dX11_leastChops_77 hl (k := 5) rfl rfl (by decide) rfl (fun ls hl => ?_)
          refine lv_goto (tgt := 40) hx hb dX11_leastChops_80 (by decide) ?_
          exact ih q6.2 x4 (x5 + 1) h H locs ls I (lv_sub hl [1, 2, 3, 4, 5, 0] rfl)
        · have h := ite_f h c8
          refine lv_iload hx hb dX11_leastChops_73 (lv_at hl 5 rfl) ?_
          refine lv_istore (lv' := [(4, .int x5), (0, .ref (ra E 0)), (1, .int x1), (2, .int x2), (3, .int x3), (5, .int x5)]) hx hb dX11_leastChops_75 hl (by decide) rfl (fun ls hl => ?_)
          refine lv_iinc (v := (x5 + 1)) (lv' := [(5, .int (x5 + 1)), (4, .int x5), (0, .ref (ra E 0)), (1, .int x1), (2, .int x2), (3, .int x3)]) hx hb dX11_leastChops_77 hl (k := 5) rfl rfl (by decide) rfl (fun ls hl => ?_)
          refine lv_goto (tgt := 40) hx hb dX11_leastChops_80 (by decide) ?_
          exact ih q6.2 x5 (x5 + 1) h H locs ls I (lv_sub hl [2, 3, 4, 5, 1, 0] rfl)
set_option maxHeartbeats 4000000 in
set_option maxRecDepth 100000 in
theorem w_X11_leastChops_0 {p : Program} {l : Launch} {e : Env} {s : State} {m : MethodId} {args : Array Value} {below : List Frame} {meth : Method} {c : Code} {A : Nat → Prop} {E : RE} {q : Int32 × Mem} (X : CX p s m meth c args cX11_leastChops 6 RX11 (some .int)) : ∀ (σ : Mem) (x1 : Int32) (x2 : Int32) , m_X11_leastChops σ x1 x2 = some q → ∀ (H : Heap) (locs : List Loc) (ls : Array Slot), WI (vR E) A s H locs σ → lv_has ls 6 [(0, .ref (ra E 0)), (1, .int x1), (2, .int x2)] → W p l e rm_X11_leastChops s m args below meth c H locs 0 0 (MQ below (QI (vR E) A q) args s 0 0 A) (F0 m 0 ls []) := by
  have hx := X.1
  have hb := X.2.1
  intro σ x1 x2 h H locs ls I hl
  unfold m_X11_leastChops at h
  refine lv_aload_n hx hb dX11_leastChops_0 rfl (lv_at hl 0 rfl) ?_
  refine lv_iconst (v := 0) hx hb dX11_leastChops_1 (by decide) ?_
  refine pfR_X11_195 X I  dX11_leastChops_2 (fun H locs I => ?_)
  obtain ⟨σ1, eσ1, h⟩ := lt_e h
  replace I := wi_nm eσ1 I
  refine lv_aload_n hx hb dX11_leastChops_5 rfl (lv_at hl 0 rfl) ?_
  refine lv_iload_n hx hb dX11_leastChops_6 rfl (lv_at hl 1 rfl) ?_
  obtain ⟨q2, hq2, h⟩ := bd h
  refine r_callVI (V := (vR E)) (k := 0) (As := [.int x1]) (rest := []) X I hl (c_X11_isTenant  hq2) yv_X11_isTenant tw_1061 ⟨rfl, rfl, Nat.le_of_ble_eq_true rfl, Nat.le_of_ble_eq_true rfl⟩ (Nat.le_of_ble_eq_true rfl) rfl rfl rfl rfl (Nat.le_of_ble_eq_true rfl) dX11_leastChops_7 (fun H locs I => ?_)
  refine lv_if_eq (tgt := 21) hx hb dX11_leastChops_10 (by decide) (fun c3 => ?_) (fun c3 => ?_)
  · have h := ite_t h c3
    refine lv_aload_n hx hb dX11_leastChops_21 rfl (lv_at hl 0 rfl) ?_
    refine lv_iconst (v := 1) hx hb dX11_leastChops_22 (by decide) ?_
    obtain ⟨q4, hq4, h⟩ := bd h
    refine r_callVI (V := (vR E)) (k := 0) (As := [.int (1 : Int32)]) (rest := []) X I hl (c_X11_fail  hq4) yv_X11_fail tw_957 ⟨rfl, rfl, Nat.le_of_ble_eq_true rfl, Nat.le_of_ble_eq_true rfl⟩ (Nat.le_of_ble_eq_true rfl) rfl rfl rfl rfl (Nat.le_of_ble_eq_true rfl) dX11_leastChops_23 (fun H locs I => ?_)
    exact r_iret X I (Option.some.inj h).symm dX11_leastChops_26
  · have h := ite_f h c3
    refine lv_aload_n hx hb dX11_leastChops_13 rfl (lv_at hl 0 rfl) ?_
    refine lv_iload_n hx hb dX11_leastChops_14 rfl (lv_at hl 2 rfl) ?_
    obtain ⟨q5, hq5, h⟩ := bd h
    refine r_callVI (V := (vR E)) (k := 0) (As := [.int x2]) (rest := []) X I hl (c_X11_isHouse  hq5) yv_X11_isHouse tw_1056 ⟨rfl, rfl, Nat.le_of_ble_eq_true rfl, Nat.le_of_ble_eq_true rfl⟩ (Nat.le_of_ble_eq_true rfl) rfl rfl rfl rfl (Nat.le_of_ble_eq_true rfl) dX11_leastChops_15 (fun H locs I => ?_)
    refine lv_if_ne (tgt := 27) hx hb dX11_leastChops_18 (by decide) (fun c6 => ?_) (fun c6 => ?_)
    · have h := ite_f h c6
      refine lv_aload_n hx hb dX11_leastChops_27 rfl (lv_at hl 0 rfl) ?_
      refine gfR_X11_115 X I dX11_leastChops_28 ?_
      refine lv_iload_n hx hb dX11_leastChops_31 rfl (lv_at hl 1 rfl) ?_
      obtain ⟨hin, h⟩ := gd_some h
      refine ialdR X I (kR_25 E) hin dX11_leastChops_32 ?_
      obtain ⟨y7, ey7, h⟩ := lt_e h
      refine nm_i ey7 ?_
      refine lv_istore_n (lv' := [(3, .int y7), (0, .ref (ra E 0)), (1, .int x1), (2, .int x2)]) hx hb dX11_leastChops_33 rfl hl (by decide) rfl (fun ls hl => ?_)
      refine lv_iconst (v := -1) hx hb dX11_leastChops_34 (by decide) ?_
      refine lv_istore (lv' := [(4, .int (-1 : Int32)), (3, .int y7), (0, .ref (ra E 0)), (1, .int x1), (2, .int x2)]) hx hb dX11_leastChops_35 hl (by decide) rfl (fun ls hl => ?_)
      refine lv_iconst (v := 0) hx hb dX11_leastChops_37 (by decide) ?_
      refine lv_istore (lv' := [(5, .int (0 : Int32)), (4, .int (-1 : Int32)), (3, .int y7), (0, .ref (ra E 0)), (1, .int x1), (2, .int x2)]) hx hb dX11_leastChops_38 hl (by decide) rfl (fun ls hl => ?_)
      exact w_X11_leastChops_40 X   KF σ1 (-1 : Int32) (0 : Int32) h H locs ls I (lv_sub hl [3, 4, 5, 2, 1, 0] rfl)
    · have h := ite_t h c6
      refine lv_aload_n hx hb dX11_leastChops_21 rfl (lv_at hl 0 rfl) ?_
      refine lv_iconst (v := 1) hx hb dX11_leastChops_22 (by decide) ?_
      obtain ⟨q8, hq8, h⟩ := bd h
      refine r_callVI (V := (vR E)) (k := 0) (As := [.int (1 : Int32)]) (rest := []) X I hl (c_X11_fail  hq8) yv_X11_fail tw_957 ⟨rfl, rfl, Nat.le_of_ble_eq_true rfl, Nat.le_of_ble_eq_true rfl⟩ (Nat.le_of_ble_eq_true rfl) rfl rfl rfl rfl (Nat.le_of_ble_eq_true rfl) dX11_leastChops_23 (fun H locs I => ?_)
      exact r_iret X I (Option.some.inj h).symm dX11_leastChops_26
theorem c_X11_leastChops {l : Launch} {E : RE} {σ : Mem} {x1 : Int32} {x2 : Int32} {q : Int32 × Mem} (h : m_X11_leastChops σ x1 x2 = some q) : CI l (vR E) yX11_leastChops (.code yX11_leastChops cX11_leastChops 6 (some .int) :: GG) rm_X11_leastChops [.ref (ra E 0), .int x1, .int x2] σ q :=
  mk_CI (by decide +kernel) (Nat.le_of_ble_eq_true rfl) (fun p e s m args below meth c A ls X I hl => w_X11_leastChops_0 X  σ x1 x2 h s.heap [] ls I (lv_sub hl [0, 1, 2] rfl))

def rm_X11_toWin : Room := { frames := 7, cells := 0, slots := 0, locals := 206 }
def f_X11_toWin_44 (x1 : Int32) (x2 : Int32) (x3 : Int32) : Nat → Mem → Int32 → Int32 → Int32 → Option (Int32 × Mem)
  | 0, _, _, _, _ => none
  | n + 1, σ, x4, x5, x6 => (if (20 : Int32) < x6 then (gd x1 7 (lt (ms σ 25 (Int32.toNatClampNeg x1) (x3)) fun σ2 => (if x2 = (0 : Int32) then (some (x5, σ2)) else (some (x4, σ2))))) else (gd x1 7 (lt (ms σ 25 (Int32.toNatClampNeg x1) (x6)) fun σ4 => ((m_X11_housesNext σ4 x1).bind fun q5 => ((m_X11_bitsOf q5.2 q5.1).bind fun q6 => (if x5 < q6 then f_X11_toWin_44 x1 x2 x3 n q5.2 x6 q6 (x6 + 1) else f_X11_toWin_44 x1 x2 x3 n q5.2 x4 x5 (x6 + 1)))))))
def m_X11_toWin (σ : Mem) (x1 : Int32) (x2 : Int32) : Option (Int32 × Mem) := (lt (ms σ 0 5 (0 : Int32)) fun σ1 => ((m_X11_isTenant σ1 x1).bind fun q2 => (if q2 = (0 : Int32) then ((m_X11_fail σ1 (1 : Int32)).bind fun q4 => (some (q4.1, q4.2))) else (if x2 < (0 : Int32) then ((m_X11_fail σ1 (1 : Int32)).bind fun q6 => (some (q6.1, q6.2))) else (if x2 ≤ (1 : Int32) then (gd x1 7 (lt (σ1 25 (Int32.toNatClampNeg x1)) fun y8 => (f_X11_toWin_44 x1 x2 y8 KF σ1 (0 : Int32) (-1 : Int32) (0 : Int32)))) else ((m_X11_fail σ1 (1 : Int32)).bind fun q9 => (some (q9.1, q9.2))))))))
set_option maxHeartbeats 4000000 in
set_option maxRecDepth 100000 in
theorem w_X11_toWin_44 {p : Program} {l : Launch} {e : Env} {s : State} {m : MethodId} {args : Array Value} {below : List Frame} {meth : Method} {c : Code} {A : Nat → Prop} {E : RE} {q : Int32 × Mem} (X : CX p s m meth c args cX11_toWin 8 RX11 (some .int)) {x1 : Int32} {x2 : Int32} {x3 : Int32} : ∀ (n : Nat), ∀ (σ : Mem) (x4 : Int32) (x5 : Int32) (x6 : Int32) , f_X11_toWin_44 x1 x2 x3 n σ x4 x5 x6 = some q → ∀ (H : Heap) (locs : List Loc) (ls : Array Slot), WI (vR E) A s H locs σ → lv_has ls 8 [(0, .ref (ra E 0)), (1, .int x1), (2, .int x2), (3, .int x3), (4, .int x4), (5, .int x5), (6, .int x6)] → W p l e rm_X11_toWin s m args below meth c H locs 0 0 (MQ below (QI (vR E) A q) args s 0 0 A) (F0 m 44 ls []) := by
  have hx := X.1
  have hb := X.2.1
  intro n
  induction n with
  | zero =>
    intro σ x4 x5 x6 h
    cases h
  | succ n ih =>
    intro σ x4 x5 x6 h H locs ls I hl
    rw [f_X11_toWin_44] at h
    refine lv_iload hx hb dX11_toWin_44 (lv_at hl 6 rfl) ?_
    refine lv_bipush (v := 20) hx hb dX11_toWin_46 (by decide) ?_
    refine lv_icmp_gt (tgt := 93) hx hb dX11_toWin_48 (by decide) (fun c1 => ?_) (fun c1 => ?_)
    · have h := ite_t h c1
      refine lv_aload_n hx hb dX11_toWin_93 rfl (lv_at hl 0 rfl) ?_
      refine gfR_X11_115 X I dX11_toWin_94 ?_
      refine lv_iload_n hx hb dX11_toWin_97 rfl (lv_at hl 1 rfl) ?_
      refine lv_iload_n hx hb dX11_toWin_98 rfl (lv_at hl 3 rfl) ?_
      obtain ⟨hin, h⟩ := gd_some h
      refine iastR X I (kR_25 E) hin dX11_toWin_99 (fun H locs I => ?_)
      obtain ⟨σ2, eσ2, h⟩ := lt_e h
      replace I := wi_nm eσ2 I
      refine lv_iload_n hx hb dX11_toWin_100 rfl (lv_at hl 2 rfl) ?_
      refine lv_if_ne (tgt := 109) hx hb dX11_toWin_101 (by decide) (fun c3 => ?_) (fun c3 => ?_)
      · have h := ite_f h c3
        refine lv_iload hx hb dX11_toWin_109 (lv_at hl 4 rfl) ?_
        exact r_iret X I (Option.some.inj h).symm dX11_toWin_111
      · have h := ite_t h c3
        refine lv_iload hx hb dX11_toWin_104 (lv_at hl 5 rfl) ?_
        refine lv_goto (tgt := 111) hx hb dX11_toWin_106 (by decide) ?_
        exact r_iret X I (Option.some.inj h).symm dX11_toWin_111
    · have h := ite_f h c1
      refine lv_aload_n hx hb dX11_toWin_51 rfl (lv_at hl 0 rfl) ?_
      refine gfR_X11_115 X I dX11_toWin_52 ?_
      refine lv_iload_n hx hb dX11_toWin_55 rfl (lv_at hl 1 rfl) ?_
      refine lv_iload hx hb dX11_toWin_56 (lv_at hl 6 rfl) ?_
      obtain ⟨hin, h⟩ := gd_some h
      refine iastR X I (kR_25 E) hin dX11_toWin_58 (fun H locs I => ?_)
      obtain ⟨σ4, eσ4, h⟩ := lt_e h
      replace I := wi_nm eσ4 I
      refine lv_aload_n hx hb dX11_toWin_59 rfl (lv_at hl 0 rfl) ?_
      refine lv_iload_n hx hb dX11_toWin_60 rfl (lv_at hl 1 rfl) ?_
      obtain ⟨q5, hq5, h⟩ := bd h
      refine r_callVI (V := (vR E)) (k := 0) (As := [.int x1]) (rest := []) X I hl (c_X11_housesNext  hq5) yv_X11_housesNext tw_1107 ⟨rfl, rfl, Nat.le_of_ble_eq_true rfl, Nat.le_of_ble_eq_true rfl⟩ (Nat.le_of_ble_eq_true rfl) rfl rfl rfl rfl (Nat.le_of_ble_eq_true rfl) dX11_toWin_61 (fun H locs I => ?_)
      obtain ⟨q6, hq6, h⟩ := bd h
      refine r_callSI (V := (vR E)) (As := [.int q5.1]) (rest := []) X I hl (c_X11_bitsOf  hq6) ys_X11_bitsOf tw_999 ⟨rfl, rfl, Nat.le_of_ble_eq_true rfl, Nat.le_of_ble_eq_true rfl⟩ rfl rfl (Nat.le_of_ble_eq_true rfl) dX11_toWin_64 (fun H locs I => ?_)
      refine lv_istore (lv' := [(7, .int q6), (0, .ref (ra E 0)), (1, .int x1), (2, .int x2), (3, .int x3), (4, .int x4), (5, .int x5), (6, .int x6)]) hx hb dX11_toWin_67 hl (by decide) rfl (fun ls hl => ?_)
      refine lv_iload hx hb dX11_toWin_69 (lv_at hl 0 rfl) ?_
      refine lv_iload hx hb dX11_toWin_71 (lv_at hl 6 rfl) ?_
      refine lv_icmp_gt (tgt := 79) hx hb dX11_toWin_73 (by decide) (fun c7 => ?_) (fun c7 => ?_)
      · have h := ite_t h c7
        refine lv_iload hx hb dX11_toWin_79 (lv_at hl 7 rfl) ?_
        refine lv_istore (lv' := [(4, .int x6), (7, .int q6), (0, .ref (ra E 0)), (1, .int x1), (2, .int x2), (3, .int x3), (5, .int x5), (6, .int x6)]) hx hb dX11_toWin_81 hl (by decide) rfl (fun ls hl => ?_)
        refine lv_iload hx hb dX11_toWin_83 (lv_at hl 1 rfl) ?_
        refine lv_istore (lv' := [(5, .int q6), (4, .int x6), (7, .int q6), (0, .ref (ra E 0)), (1, .int x1), (2, .int x2), (3, .int x3), (6, .int x6)]) hx hb dX11_toWin_85 hl (by decide) rfl (fun ls hl => ?_)
        refine lv_iinc (v := (x6 + 1)) (lv' := [(6, .int (x6 + 1)), (5, .int q6), (4, .int x6), (7, .int q6), (0, .ref (ra E 0)), (1, .int x1), (2, .int x2), (3, .int x3)]) hx hb dX11_toWin_87 hl (k := 7) rfl rfl (by decide) rfl (fun ls hl => ?_)
        refine lv_goto (tgt := 44) hx hb dX11_toWin_90 (by decide) ?_
        exact ih q5.2 x6 q6 (x6 + 1) h H locs ls I (lv_sub hl [4, 5, 6, 7, 2, 1, 0] rfl)
      · have h := ite_f h c7
        refine lv_goto (tgt := 87) hx hb dX11_toWin_76 (by decide) ?_
        refine lv_iinc (v := (x6 + 1)) (lv' := [(6, .int (x6 + 1)), (7, .int q6), (0, .ref (ra E 0)), (1, .int x1), (2, .int x2), (3, .int x3), (4, .int x4), (5, .int x5)]) hx hb dX11_toWin_87 hl (k := 7) rfl rfl (by decide) rfl (fun ls hl => ?_)
        refine lv_goto (tgt := 44) hx hb dX11_toWin_90 (by decide) ?_
        exact ih q5.2 x4 x5 (x6 + 1) h H locs ls I (lv_sub hl [2, 3, 4, 5, 6, 7, 0] rfl)
set_option maxHeartbeats 4000000 in
set_option maxRecDepth 100000 in
theorem w_X11_toWin_0 {p : Program} {l : Launch} {e : Env} {s : State} {m : MethodId} {args : Array Value} {below : List Frame} {meth : Method} {c : Code} {A : Nat → Prop} {E : RE} {q : Int32 × Mem} (X : CX p s m meth c args cX11_toWin 8 RX11 (some .int)) : ∀ (σ : Mem) (x1 : Int32) (x2 : Int32) , m_X11_toWin σ x1 x2 = some q → ∀ (H : Heap) (locs : List Loc) (ls : Array Slot), WI (vR E) A s H locs σ → lv_has ls 8 [(0, .ref (ra E 0)), (1, .int x1), (2, .int x2)] → W p l e rm_X11_toWin s m args below meth c H locs 0 0 (MQ below (QI (vR E) A q) args s 0 0 A) (F0 m 0 ls []) := by
  have hx := X.1
  have hb := X.2.1
  intro σ x1 x2 h H locs ls I hl
  unfold m_X11_toWin at h
  refine lv_aload_n hx hb dX11_toWin_0 rfl (lv_at hl 0 rfl) ?_
  refine lv_iconst (v := 0) hx hb dX11_toWin_1 (by decide) ?_
  refine pfR_X11_195 X I  dX11_toWin_2 (fun H locs I => ?_)
  obtain ⟨σ1, eσ1, h⟩ := lt_e h
  replace I := wi_nm eσ1 I
  refine lv_aload_n hx hb dX11_toWin_5 rfl (lv_at hl 0 rfl) ?_
  refine lv_iload_n hx hb dX11_toWin_6 rfl (lv_at hl 1 rfl) ?_
  obtain ⟨q2, hq2, h⟩ := bd h
  refine r_callVI (V := (vR E)) (k := 0) (As := [.int x1]) (rest := []) X I hl (c_X11_isTenant  hq2) yv_X11_isTenant tw_1061 ⟨rfl, rfl, Nat.le_of_ble_eq_true rfl, Nat.le_of_ble_eq_true rfl⟩ (Nat.le_of_ble_eq_true rfl) rfl rfl rfl rfl (Nat.le_of_ble_eq_true rfl) dX11_toWin_7 (fun H locs I => ?_)
  refine lv_if_eq (tgt := 22) hx hb dX11_toWin_10 (by decide) (fun c3 => ?_) (fun c3 => ?_)
  · have h := ite_t h c3
    refine lv_aload_n hx hb dX11_toWin_22 rfl (lv_at hl 0 rfl) ?_
    refine lv_iconst (v := 1) hx hb dX11_toWin_23 (by decide) ?_
    obtain ⟨q4, hq4, h⟩ := bd h
    refine r_callVI (V := (vR E)) (k := 0) (As := [.int (1 : Int32)]) (rest := []) X I hl (c_X11_fail  hq4) yv_X11_fail tw_957 ⟨rfl, rfl, Nat.le_of_ble_eq_true rfl, Nat.le_of_ble_eq_true rfl⟩ (Nat.le_of_ble_eq_true rfl) rfl rfl rfl rfl (Nat.le_of_ble_eq_true rfl) dX11_toWin_24 (fun H locs I => ?_)
    exact r_iret X I (Option.some.inj h).symm dX11_toWin_27
  · have h := ite_f h c3
    refine lv_iload_n hx hb dX11_toWin_13 rfl (lv_at hl 2 rfl) ?_
    refine lv_if_lt (tgt := 22) hx hb dX11_toWin_14 (by decide) (fun c5 => ?_) (fun c5 => ?_)
    · have h := ite_t h c5
      refine lv_aload_n hx hb dX11_toWin_22 rfl (lv_at hl 0 rfl) ?_
      refine lv_iconst (v := 1) hx hb dX11_toWin_23 (by decide) ?_
      obtain ⟨q6, hq6, h⟩ := bd h
      refine r_callVI (V := (vR E)) (k := 0) (As := [.int (1 : Int32)]) (rest := []) X I hl (c_X11_fail  hq6) yv_X11_fail tw_957 ⟨rfl, rfl, Nat.le_of_ble_eq_true rfl, Nat.le_of_ble_eq_true rfl⟩ (Nat.le_of_ble_eq_true rfl) rfl rfl rfl rfl (Nat.le_of_ble_eq_true rfl) dX11_toWin_24 (fun H locs I => ?_)
      exact r_iret X I (Option.some.inj h).symm dX11_toWin_27
    · have h := ite_f h c5
      refine lv_iload_n hx hb dX11_toWin_17 rfl (lv_at hl 2 rfl) ?_
      refine lv_iconst (v := 1) hx hb dX11_toWin_18 (by decide) ?_
      refine lv_icmp_le (tgt := 28) hx hb dX11_toWin_19 (by decide) (fun c7 => ?_) (fun c7 => ?_)
      · have h := ite_t h c7
        refine lv_aload_n hx hb dX11_toWin_28 rfl (lv_at hl 0 rfl) ?_
        refine gfR_X11_115 X I dX11_toWin_29 ?_
        refine lv_iload_n hx hb dX11_toWin_32 rfl (lv_at hl 1 rfl) ?_
        obtain ⟨hin, h⟩ := gd_some h
        refine ialdR X I (kR_25 E) hin dX11_toWin_33 ?_
        obtain ⟨y8, ey8, h⟩ := lt_e h
        refine nm_i ey8 ?_
        refine lv_istore_n (lv' := [(3, .int y8), (0, .ref (ra E 0)), (1, .int x1), (2, .int x2)]) hx hb dX11_toWin_34 rfl hl (by decide) rfl (fun ls hl => ?_)
        refine lv_iconst (v := 0) hx hb dX11_toWin_35 (by decide) ?_
        refine lv_istore (lv' := [(4, .int (0 : Int32)), (3, .int y8), (0, .ref (ra E 0)), (1, .int x1), (2, .int x2)]) hx hb dX11_toWin_36 hl (by decide) rfl (fun ls hl => ?_)
        refine lv_iconst (v := -1) hx hb dX11_toWin_38 (by decide) ?_
        refine lv_istore (lv' := [(5, .int (-1 : Int32)), (4, .int (0 : Int32)), (3, .int y8), (0, .ref (ra E 0)), (1, .int x1), (2, .int x2)]) hx hb dX11_toWin_39 hl (by decide) rfl (fun ls hl => ?_)
        refine lv_iconst (v := 0) hx hb dX11_toWin_41 (by decide) ?_
        refine lv_istore (lv' := [(6, .int (0 : Int32)), (5, .int (-1 : Int32)), (4, .int (0 : Int32)), (3, .int y8), (0, .ref (ra E 0)), (1, .int x1), (2, .int x2)]) hx hb dX11_toWin_42 hl (by decide) rfl (fun ls hl => ?_)
        exact w_X11_toWin_44 X   KF σ1 (0 : Int32) (-1 : Int32) (0 : Int32) h H locs ls I (lv_sub hl [4, 5, 6, 3, 2, 1, 0] rfl)
      · have h := ite_f h c7
        refine lv_aload_n hx hb dX11_toWin_22 rfl (lv_at hl 0 rfl) ?_
        refine lv_iconst (v := 1) hx hb dX11_toWin_23 (by decide) ?_
        obtain ⟨q9, hq9, h⟩ := bd h
        refine r_callVI (V := (vR E)) (k := 0) (As := [.int (1 : Int32)]) (rest := []) X I hl (c_X11_fail  hq9) yv_X11_fail tw_957 ⟨rfl, rfl, Nat.le_of_ble_eq_true rfl, Nat.le_of_ble_eq_true rfl⟩ (Nat.le_of_ble_eq_true rfl) rfl rfl rfl rfl (Nat.le_of_ble_eq_true rfl) dX11_toWin_24 (fun H locs I => ?_)
        exact r_iret X I (Option.some.inj h).symm dX11_toWin_27
theorem c_X11_toWin {l : Launch} {E : RE} {σ : Mem} {x1 : Int32} {x2 : Int32} {q : Int32 × Mem} (h : m_X11_toWin σ x1 x2 = some q) : CI l (vR E) yX11_toWin (.code yX11_toWin cX11_toWin 8 (some .int) :: GG) rm_X11_toWin [.ref (ra E 0), .int x1, .int x2] σ q :=
  mk_CI (by decide +kernel) (Nat.le_of_ble_eq_true rfl) (fun p e s m args below meth c A ls X I hl => w_X11_toWin_0 X  σ x1 x2 h s.heap [] ls I (lv_sub hl [0, 1, 2] rfl))

def rm_X11_ruin : Room := { frames := 7, cells := 0, slots := 0, locals := 206 }
def f_X11_ruin_33 (x1 : Int32) : Nat → Mem → Int32 → Int32 → Int32 → Option (Int32 × Mem)
  | 0, _, _, _, _ => none
  | n + 1, σ, x2, x3, x4 => (gd (1 : Int32) 10 (if (σ 5 (Int32.toNatClampNeg (1 : Int32))) ≤ x4 then (some (x2, σ)) else (if x4 = x1 then f_X11_ruin_33 x1 n σ x2 x3 (x4 + 1) else (gd x4 7 (lt (σ 26 (Int32.toNatClampNeg x4)) fun y3 => (gd x4 7 (lt (ms σ 26 (Int32.toNatClampNeg x4) ((0 : Int32))) fun σ4 => ((m_X11_housesNext σ4 x1).bind fun q5 => ((m_X11_bitsOf q5.2 q5.1).bind fun q6 => (gd x4 7 (lt (ms q5.2 26 (Int32.toNatClampNeg x4) (y3)) fun σ7 => (if q6 < x3 then f_X11_ruin_33 x1 n σ7 x4 q6 (x4 + 1) else f_X11_ruin_33 x1 n σ7 x2 x3 (x4 + 1)))))))))))))
def m_X11_ruin (σ : Mem) (x1 : Int32) : Option (Int32 × Mem) := (lt (ms σ 0 5 (0 : Int32)) fun σ1 => ((m_X11_isTenant σ1 x1).bind fun q2 => (if q2 = (0 : Int32) then ((m_X11_fail σ1 (1 : Int32)).bind fun q6 => (some (q6.1, q6.2))) else ((m_X11_housesNext σ1 x1).bind fun q4 => ((m_X11_bitsOf q4.2 q4.1).bind fun q5 => (f_X11_ruin_33 x1 KF q4.2 (-1 : Int32) q5 (0 : Int32)))))))
set_option maxHeartbeats 4000000 in
set_option maxRecDepth 100000 in
theorem w_X11_ruin_33 {p : Program} {l : Launch} {e : Env} {s : State} {m : MethodId} {args : Array Value} {below : List Frame} {meth : Method} {c : Code} {A : Nat → Prop} {E : RE} {q : Int32 × Mem} (X : CX p s m meth c args cX11_ruin 7 RX11 (some .int)) {x1 : Int32} : ∀ (n : Nat), ∀ (σ : Mem) (x2 : Int32) (x3 : Int32) (x4 : Int32) , f_X11_ruin_33 x1 n σ x2 x3 x4 = some q → ∀ (H : Heap) (locs : List Loc) (ls : Array Slot), WI (vR E) A s H locs σ → lv_has ls 7 [(0, .ref (ra E 0)), (1, .int x1), (2, .int x2), (3, .int x3), (4, .int x4)] → W p l e rm_X11_ruin s m args below meth c H locs 0 0 (MQ below (QI (vR E) A q) args s 0 0 A) (F0 m 33 ls []) := by
  have hx := X.1
  have hb := X.2.1
  intro n
  induction n with
  | zero =>
    intro σ x2 x3 x4 h
    cases h
  | succ n ih =>
    intro σ x2 x3 x4 h H locs ls I hl
    rw [f_X11_ruin_33] at h
    refine lv_iload hx hb dX11_ruin_33 (lv_at hl 4 rfl) ?_
    refine lv_aload_n hx hb dX11_ruin_35 rfl (lv_at hl 0 rfl) ?_
    refine gfR_X11_55 X I dX11_ruin_36 ?_
    refine lv_iconst (v := 1) hx hb dX11_ruin_39 (by decide) ?_
    obtain ⟨hin, h⟩ := gd_some h
    refine ialdR X I (kR_5 E) hin dX11_ruin_40 ?_
    refine lv_icmp_ge (tgt := 110) hx hb dX11_ruin_41 (by decide) (fun c1 => ?_) (fun c1 => ?_)
    · have h := ite_t h c1
      refine lv_iload_n hx hb dX11_ruin_110 rfl (lv_at hl 2 rfl) ?_
      exact r_iret X I (Option.some.inj h).symm dX11_ruin_111
    · have h := ite_f h c1
      refine lv_iload hx hb dX11_ruin_44 (lv_at hl 4 rfl) ?_
      refine lv_iload_n hx hb dX11_ruin_46 rfl (lv_at hl 1 rfl) ?_
      refine lv_icmp_ne (tgt := 53) hx hb dX11_ruin_47 (by decide) (fun c2 => ?_) (fun c2 => ?_)
      · have h := ite_f h c2
        refine lv_aload_n hx hb dX11_ruin_53 rfl (lv_at hl 0 rfl) ?_
        refine gfR_X11_117 X I dX11_ruin_54 ?_
        refine lv_iload hx hb dX11_ruin_57 (lv_at hl 4 rfl) ?_
        obtain ⟨hin, h⟩ := gd_some h
        refine ialdR X I (kR_26 E) hin dX11_ruin_59 ?_
        obtain ⟨y3, ey3, h⟩ := lt_e h
        refine nm_i ey3 ?_
        refine lv_istore (lv' := [(5, .int y3), (0, .ref (ra E 0)), (1, .int x1), (2, .int x2), (3, .int x3), (4, .int x4)]) hx hb dX11_ruin_60 hl (by decide) rfl (fun ls hl => ?_)
        refine lv_aload_n hx hb dX11_ruin_62 rfl (lv_at hl 1 rfl) ?_
        refine gfR_X11_117 X I dX11_ruin_63 ?_
        refine lv_iload hx hb dX11_ruin_66 (lv_at hl 5 rfl) ?_
        refine lv_iconst (v := 0) hx hb dX11_ruin_68 (by decide) ?_
        obtain ⟨hin, h⟩ := gd_some h
        refine iastR X I (kR_26 E) hin dX11_ruin_69 (fun H locs I => ?_)
        obtain ⟨σ4, eσ4, h⟩ := lt_e h
        replace I := wi_nm eσ4 I
        refine lv_aload_n hx hb dX11_ruin_70 rfl (lv_at hl 1 rfl) ?_
        refine lv_iload_n hx hb dX11_ruin_71 rfl (lv_at hl 2 rfl) ?_
        obtain ⟨q5, hq5, h⟩ := bd h
        refine r_callVI (V := (vR E)) (k := 0) (As := [.int x1]) (rest := []) X I hl (c_X11_housesNext  hq5) yv_X11_housesNext tw_1107 ⟨rfl, rfl, Nat.le_of_ble_eq_true rfl, Nat.le_of_ble_eq_true rfl⟩ (Nat.le_of_ble_eq_true rfl) rfl rfl rfl rfl (Nat.le_of_ble_eq_true rfl) dX11_ruin_72 (fun H locs I => ?_)
        obtain ⟨q6, hq6, h⟩ := bd h
        refine r_callSI (V := (vR E)) (As := [.int q5.1]) (rest := []) X I hl (c_X11_bitsOf  hq6) ys_X11_bitsOf tw_999 ⟨rfl, rfl, Nat.le_of_ble_eq_true rfl, Nat.le_of_ble_eq_true rfl⟩ rfl rfl (Nat.le_of_ble_eq_true rfl) dX11_ruin_75 (fun H locs I => ?_)
        refine lv_istore (lv' := [(6, .int q6), (5, .int y3), (0, .ref (ra E 0)), (1, .int x1), (2, .int x2), (3, .int x3), (4, .int x4)]) hx hb dX11_ruin_78 hl (by decide) rfl (fun ls hl => ?_)
        refine lv_aload_n hx hb dX11_ruin_80 rfl (lv_at hl 2 rfl) ?_
        refine gfR_X11_117 X I dX11_ruin_81 ?_
        refine lv_iload hx hb dX11_ruin_84 (lv_at hl 6 rfl) ?_
        refine lv_iload hx hb dX11_ruin_86 (lv_at hl 1 rfl) ?_
        obtain ⟨hin, h⟩ := gd_some h
        refine iastR X I (kR_26 E) hin dX11_ruin_88 (fun H locs I => ?_)
        obtain ⟨σ7, eσ7, h⟩ := lt_e h
        replace I := wi_nm eσ7 I
        refine lv_iload hx hb dX11_ruin_89 (lv_at hl 0 rfl) ?_
        refine lv_iload_n hx hb dX11_ruin_91 rfl (lv_at hl 5 rfl) ?_
        refine lv_icmp_lt (tgt := 98) hx hb dX11_ruin_92 (by decide) (fun c8 => ?_) (fun c8 => ?_)
        · have h := ite_t h c8
          refine lv_iload hx hb dX11_ruin_98 (lv_at hl 6 rfl) ?_
          refine lv_istore_n (lv' := [(2, .int x4), (6, .int q6), (5, .int y3), (0, .ref (ra E 0)), (1, .int x1), (3, .int x3), (4, .int x4)]) hx hb dX11_ruin_100 rfl hl (by decide) rfl (fun ls hl => ?_)
          refine lv_iload hx hb dX11_ruin_101 (lv_at hl 1 rfl) ?_
          refine lv_istore_n (lv' := [(3, .int q6), (2, .int x4), (6, .int q6), (5, .int y3), (0, .ref (ra E 0)), (1, .int x1), (4, .int x4)]) hx hb dX11_ruin_103 rfl hl (by decide) rfl (fun ls hl => ?_)
          refine lv_iinc (v := (x4 + 1)) (lv' := [(4, .int (x4 + 1)), (3, .int q6), (2, .int x4), (6, .int q6), (5, .int y3), (0, .ref (ra E 0)), (1, .int x1)]) hx hb dX11_ruin_104 hl (k := 6) rfl rfl (by decide) rfl (fun ls hl => ?_)
          refine lv_goto (tgt := 33) hx hb dX11_ruin_107 (by decide) ?_
          exact ih σ7 x4 q6 (x4 + 1) h H locs ls I (lv_sub hl [5, 6, 2, 1, 0] rfl)
        · have h := ite_f h c8
          refine lv_goto (tgt := 104) hx hb dX11_ruin_95 (by decide) ?_
          refine lv_iinc (v := (x4 + 1)) (lv' := [(4, .int (x4 + 1)), (6, .int q6), (5, .int y3), (0, .ref (ra E 0)), (1, .int x1), (2, .int x2), (3, .int x3)]) hx hb dX11_ruin_104 hl (k := 6) rfl rfl (by decide) rfl (fun ls hl => ?_)
          refine lv_goto (tgt := 33) hx hb dX11_ruin_107 (by decide) ?_
          exact ih σ7 x2 x3 (x4 + 1) h H locs ls I (lv_sub hl [3, 4, 5, 6, 0] rfl)
      · have h := ite_t h c2
        refine lv_goto (tgt := 104) hx hb dX11_ruin_50 (by decide) ?_
        refine lv_iinc (v := (x4 + 1)) (lv' := [(4, .int (x4 + 1)), (0, .ref (ra E 0)), (1, .int x1), (2, .int x2), (3, .int x3)]) hx hb dX11_ruin_104 hl (k := 4) rfl rfl (by decide) rfl (fun ls hl => ?_)
        refine lv_goto (tgt := 33) hx hb dX11_ruin_107 (by decide) ?_
        exact ih σ x2 x3 (x4 + 1) h H locs ls I (lv_sub hl [1, 2, 3, 4, 0] rfl)
set_option maxHeartbeats 4000000 in
set_option maxRecDepth 100000 in
theorem w_X11_ruin_0 {p : Program} {l : Launch} {e : Env} {s : State} {m : MethodId} {args : Array Value} {below : List Frame} {meth : Method} {c : Code} {A : Nat → Prop} {E : RE} {q : Int32 × Mem} (X : CX p s m meth c args cX11_ruin 7 RX11 (some .int)) : ∀ (σ : Mem) (x1 : Int32) , m_X11_ruin σ x1 = some q → ∀ (H : Heap) (locs : List Loc) (ls : Array Slot), WI (vR E) A s H locs σ → lv_has ls 7 [(0, .ref (ra E 0)), (1, .int x1)] → W p l e rm_X11_ruin s m args below meth c H locs 0 0 (MQ below (QI (vR E) A q) args s 0 0 A) (F0 m 0 ls []) := by
  have hx := X.1
  have hb := X.2.1
  intro σ x1 h H locs ls I hl
  unfold m_X11_ruin at h
  refine lv_aload_n hx hb dX11_ruin_0 rfl (lv_at hl 0 rfl) ?_
  refine lv_iconst (v := 0) hx hb dX11_ruin_1 (by decide) ?_
  refine pfR_X11_195 X I  dX11_ruin_2 (fun H locs I => ?_)
  obtain ⟨σ1, eσ1, h⟩ := lt_e h
  replace I := wi_nm eσ1 I
  refine lv_aload_n hx hb dX11_ruin_5 rfl (lv_at hl 0 rfl) ?_
  refine lv_iload_n hx hb dX11_ruin_6 rfl (lv_at hl 1 rfl) ?_
  obtain ⟨q2, hq2, h⟩ := bd h
  refine r_callVI (V := (vR E)) (k := 0) (As := [.int x1]) (rest := []) X I hl (c_X11_isTenant  hq2) yv_X11_isTenant tw_1061 ⟨rfl, rfl, Nat.le_of_ble_eq_true rfl, Nat.le_of_ble_eq_true rfl⟩ (Nat.le_of_ble_eq_true rfl) rfl rfl rfl rfl (Nat.le_of_ble_eq_true rfl) dX11_ruin_7 (fun H locs I => ?_)
  refine lv_if_ne (tgt := 19) hx hb dX11_ruin_10 (by decide) (fun c3 => ?_) (fun c3 => ?_)
  · have h := ite_f h c3
    refine lv_iconst (v := -1) hx hb dX11_ruin_19 (by decide) ?_
    refine lv_istore_n (lv' := [(2, .int (-1 : Int32)), (0, .ref (ra E 0)), (1, .int x1)]) hx hb dX11_ruin_20 rfl hl (by decide) rfl (fun ls hl => ?_)
    refine lv_aload_n hx hb dX11_ruin_21 rfl (lv_at hl 1 rfl) ?_
    refine lv_iload_n hx hb dX11_ruin_22 rfl (lv_at hl 2 rfl) ?_
    obtain ⟨q4, hq4, h⟩ := bd h
    refine r_callVI (V := (vR E)) (k := 0) (As := [.int x1]) (rest := []) X I hl (c_X11_housesNext  hq4) yv_X11_housesNext tw_1107 ⟨rfl, rfl, Nat.le_of_ble_eq_true rfl, Nat.le_of_ble_eq_true rfl⟩ (Nat.le_of_ble_eq_true rfl) rfl rfl rfl rfl (Nat.le_of_ble_eq_true rfl) dX11_ruin_23 (fun H locs I => ?_)
    obtain ⟨q5, hq5, h⟩ := bd h
    refine r_callSI (V := (vR E)) (As := [.int q4.1]) (rest := []) X I hl (c_X11_bitsOf  hq5) ys_X11_bitsOf tw_999 ⟨rfl, rfl, Nat.le_of_ble_eq_true rfl, Nat.le_of_ble_eq_true rfl⟩ rfl rfl (Nat.le_of_ble_eq_true rfl) dX11_ruin_26 (fun H locs I => ?_)
    refine lv_istore_n (lv' := [(3, .int q5), (2, .int (-1 : Int32)), (0, .ref (ra E 0)), (1, .int x1)]) hx hb dX11_ruin_29 rfl hl (by decide) rfl (fun ls hl => ?_)
    refine lv_iconst (v := 0) hx hb dX11_ruin_30 (by decide) ?_
    refine lv_istore (lv' := [(4, .int (0 : Int32)), (3, .int q5), (2, .int (-1 : Int32)), (0, .ref (ra E 0)), (1, .int x1)]) hx hb dX11_ruin_31 hl (by decide) rfl (fun ls hl => ?_)
    exact w_X11_ruin_33 X   KF q4.2 (-1 : Int32) q5 (0 : Int32) h H locs ls I (lv_sub hl [3, 4, 2, 1, 0] rfl)
  · have h := ite_t h c3
    refine lv_aload_n hx hb dX11_ruin_13 rfl (lv_at hl 0 rfl) ?_
    refine lv_iconst (v := 1) hx hb dX11_ruin_14 (by decide) ?_
    obtain ⟨q6, hq6, h⟩ := bd h
    refine r_callVI (V := (vR E)) (k := 0) (As := [.int (1 : Int32)]) (rest := []) X I hl (c_X11_fail  hq6) yv_X11_fail tw_957 ⟨rfl, rfl, Nat.le_of_ble_eq_true rfl, Nat.le_of_ble_eq_true rfl⟩ (Nat.le_of_ble_eq_true rfl) rfl rfl rfl rfl (Nat.le_of_ble_eq_true rfl) dX11_ruin_15 (fun H locs I => ?_)
    exact r_iret X I (Option.some.inj h).symm dX11_ruin_18
theorem c_X11_ruin {l : Launch} {E : RE} {σ : Mem} {x1 : Int32} {q : Int32 × Mem} (h : m_X11_ruin σ x1 = some q) : CI l (vR E) yX11_ruin (.code yX11_ruin cX11_ruin 7 (some .int) :: GG) rm_X11_ruin [.ref (ra E 0), .int x1] σ q :=
  mk_CI (by decide +kernel) (Nat.le_of_ble_eq_true rfl) (fun p e s m args below meth c A ls X I hl => w_X11_ruin_0 X  σ x1 h s.heap [] ls I (lv_sub hl [0, 1] rfl))

def rm_X11_tellLiked : Room := { frames := 5, cells := 0, slots := 0, locals := 157 }
def f_X11_tellLiked_44 (k2 : Mem → Int32 → Option (Mem)) (k14 : Mem → Int32 → Option (Mem)) (x1 : Int32) (x2 : Int32) (x3 : Int32) : Nat → Mem → Int32 → Int32 → Option (Mem)
  | 0, _, _, _ => none
  | n + 1, σ, x4, x5 => (gd (0 : Int32) 10 (if (σ 5 (Int32.toNatClampNeg (0 : Int32))) ≤ x5 then (gd ((x2 <<< ((8 : Int32) &&& 31)) + x3) 1792 (lt (ms σ 36 (Int32.toNatClampNeg ((x2 <<< ((8 : Int32) &&& 31)) + x3)) (x4)) fun σ2 => (k14 σ2 (x3 + 1)))) else (if x4 = (-1 : Int32) then (gd ((x2 <<< ((8 : Int32) &&& 31)) + x3) 1792 (lt (ms σ 36 (Int32.toNatClampNeg ((x2 <<< ((8 : Int32) &&& 31)) + x3)) (x4)) fun σ4 => (k14 σ4 (x3 + 1)))) else ((m_X11_isOf σ x3 x5).bind fun q5 => (if q5 = (0 : Int32) then f_X11_tellLiked_44 k2 k14 x1 x2 x3 n σ x4 (x5 + 1) else ((m_X11_likingOf σ x5 x2).bind fun q7 => (if q7.1 ≤ (0 : Int32) then f_X11_tellLiked_44 k2 k14 x1 x2 x3 n q7.2 (-1 : Int32) (x5 + 1) else (lt (x4 + q7.1) fun y9 => f_X11_tellLiked_44 k2 k14 x1 x2 x3 n q7.2 y9 (x5 + 1)))))))))
def f_X11_tellLiked_14 (k2 : Mem → Int32 → Option (Mem)) (x1 : Int32) (x2 : Int32) : Nat → Mem → Int32 → Option (Mem)
  | 0, _, _ => none
  | n + 1, σ, x3 => (gd (0 : Int32) 10 (if ((1 : Int32) <<< ((σ 5 (Int32.toNatClampNeg (0 : Int32))) &&& 31)) ≤ x3 then (k2 σ (x2 + 1)) else ((m_X11_bitsOf σ x3).bind fun q2 => (if q2 ≤ x1 then (f_X11_tellLiked_44 k2 (f_X11_tellLiked_14 k2 x1 x2 n) x1 x2 x3 KF σ (0 : Int32) (0 : Int32)) else (f_X11_tellLiked_44 k2 (f_X11_tellLiked_14 k2 x1 x2 n) x1 x2 x3 KF σ (-1 : Int32) (0 : Int32))))))
def f_X11_tellLiked_2 (x1 : Int32) : Nat → Mem → Int32 → Option (Mem)
  | 0, _, _ => none
  | n + 1, σ, x2 => (gd (1 : Int32) 10 (if (σ 5 (Int32.toNatClampNeg (1 : Int32))) ≤ x2 then (some σ) else (f_X11_tellLiked_14 (f_X11_tellLiked_2 x1 n) x1 x2 KF σ (0 : Int32))))
def m_X11_tellLiked (σ : Mem) (x1 : Int32) : Option (Mem) := (f_X11_tellLiked_2 x1 KF σ (0 : Int32))
set_option maxHeartbeats 4000000 in
set_option maxRecDepth 100000 in
theorem w_X11_tellLiked_44 {p : Program} {l : Launch} {e : Env} {s : State} {m : MethodId} {args : Array Value} {below : List Frame} {meth : Method} {c : Code} {A : Nat → Prop} {E : RE} {q : Mem} (X : CX p s m meth c args cX11_tellLiked 7 RX11 none) {x1 : Int32} {x2 : Int32} {x3 : Int32} {k2 : Mem → Int32 → Option (Mem)} (hk2 : ∀ (σ : Mem) (x2 : Int32) , k2 σ x2 = some q → ∀ (H : Heap) (locs : List Loc) (ls : Array Slot), WI (vR E) A s H locs σ → lv_has ls 7 [(0, .ref (ra E 0)), (1, .int x1), (2, .int x2)] → W p l e rm_X11_tellLiked s m args below meth c H locs 0 0 (MQ below (QV (vR E) A q) args s 0 0 A) (F0 m 2 ls [])) {k14 : Mem → Int32 → Option (Mem)} (hk14 : ∀ (σ : Mem) (x3 : Int32) , k14 σ x3 = some q → ∀ (H : Heap) (locs : List Loc) (ls : Array Slot), WI (vR E) A s H locs σ → lv_has ls 7 [(0, .ref (ra E 0)), (1, .int x1), (2, .int x2), (3, .int x3)] → W p l e rm_X11_tellLiked s m args below meth c H locs 0 0 (MQ below (QV (vR E) A q) args s 0 0 A) (F0 m 14 ls [])) : ∀ (n : Nat), ∀ (σ : Mem) (x4 : Int32) (x5 : Int32) , f_X11_tellLiked_44 k2 k14 x1 x2 x3 n σ x4 x5 = some q → ∀ (H : Heap) (locs : List Loc) (ls : Array Slot), WI (vR E) A s H locs σ → lv_has ls 7 [(0, .ref (ra E 0)), (1, .int x1), (2, .int x2), (3, .int x3), (4, .int x4), (5, .int x5)] → W p l e rm_X11_tellLiked s m args below meth c H locs 0 0 (MQ below (QV (vR E) A q) args s 0 0 A) (F0 m 44 ls []) := by
  have hx := X.1
  have hb := X.2.1
  intro n
  induction n with
  | zero =>
    intro σ x4 x5 h
    cases h
  | succ n ih =>
    intro σ x4 x5 h H locs ls I hl
    rw [f_X11_tellLiked_44] at h
    refine lv_iload hx hb dX11_tellLiked_44 (lv_at hl 5 rfl) ?_
    refine lv_aload_n hx hb dX11_tellLiked_46 rfl (lv_at hl 0 rfl) ?_
    refine gfR_X11_55 X I dX11_tellLiked_47 ?_
    refine lv_iconst (v := 0) hx hb dX11_tellLiked_50 (by decide) ?_
    obtain ⟨hin, h⟩ := gd_some h
    refine ialdR X I (kR_5 E) hin dX11_tellLiked_51 ?_
    refine lv_icmp_ge (tgt := 104) hx hb dX11_tellLiked_52 (by decide) (fun c1 => ?_) (fun c1 => ?_)
    · have h := ite_t h c1
      refine lv_aload_n hx hb dX11_tellLiked_104 rfl (lv_at hl 0 rfl) ?_
      refine gfR_X11_146 X I dX11_tellLiked_105 ?_
      refine lv_iload_n hx hb dX11_tellLiked_108 rfl (lv_at hl 2 rfl) ?_
      refine lv_bipush (v := 8) hx hb dX11_tellLiked_109 (by decide) ?_
      refine lv_ishl hx hb dX11_tellLiked_111 ?_
      refine lv_iload_n hx hb dX11_tellLiked_112 rfl (lv_at hl 3 rfl) ?_
      refine lv_iadd hx hb dX11_tellLiked_113 ?_
      refine lv_iload hx hb dX11_tellLiked_114 (lv_at hl 4 rfl) ?_
      obtain ⟨hin, h⟩ := gd_some h
      refine iastR X I (kR_36 E) hin dX11_tellLiked_116 (fun H locs I => ?_)
      obtain ⟨σ2, eσ2, h⟩ := lt_e h
      replace I := wi_nm eσ2 I
      refine lv_iinc (v := (x3 + 1)) (lv' := [(3, .int (x3 + 1)), (0, .ref (ra E 0)), (1, .int x1), (2, .int x2), (4, .int x4), (5, .int x5)]) hx hb dX11_tellLiked_117 hl (k := 3) rfl rfl (by decide) rfl (fun ls hl => ?_)
      refine lv_goto (tgt := 14) hx hb dX11_tellLiked_120 (by decide) ?_
      exact hk14 σ2 (x3 + 1) h H locs ls I (lv_sub hl [1, 2, 3, 0] rfl)
    · have h := ite_f h c1
      refine lv_iload hx hb dX11_tellLiked_55 (lv_at hl 4 rfl) ?_
      refine lv_iconst (v := -1) hx hb dX11_tellLiked_57 (by decide) ?_
      refine lv_icmp_eq (tgt := 104) hx hb dX11_tellLiked_58 (by decide) (fun c3 => ?_) (fun c3 => ?_)
      · have h := ite_t h c3
        refine lv_aload_n hx hb dX11_tellLiked_104 rfl (lv_at hl 0 rfl) ?_
        refine gfR_X11_146 X I dX11_tellLiked_105 ?_
        refine lv_iload_n hx hb dX11_tellLiked_108 rfl (lv_at hl 2 rfl) ?_
        refine lv_bipush (v := 8) hx hb dX11_tellLiked_109 (by decide) ?_
        refine lv_ishl hx hb dX11_tellLiked_111 ?_
        refine lv_iload_n hx hb dX11_tellLiked_112 rfl (lv_at hl 3 rfl) ?_
        refine lv_iadd hx hb dX11_tellLiked_113 ?_
        refine lv_iload hx hb dX11_tellLiked_114 (lv_at hl 4 rfl) ?_
        obtain ⟨hin, h⟩ := gd_some h
        refine iastR X I (kR_36 E) hin dX11_tellLiked_116 (fun H locs I => ?_)
        obtain ⟨σ4, eσ4, h⟩ := lt_e h
        replace I := wi_nm eσ4 I
        refine lv_iinc (v := (x3 + 1)) (lv' := [(3, .int (x3 + 1)), (0, .ref (ra E 0)), (1, .int x1), (2, .int x2), (4, .int x4), (5, .int x5)]) hx hb dX11_tellLiked_117 hl (k := 3) rfl rfl (by decide) rfl (fun ls hl => ?_)
        refine lv_goto (tgt := 14) hx hb dX11_tellLiked_120 (by decide) ?_
        exact hk14 σ4 (x3 + 1) h H locs ls I (lv_sub hl [1, 2, 3, 0] rfl)
      · have h := ite_f h c3
        refine lv_iload_n hx hb dX11_tellLiked_61 rfl (lv_at hl 3 rfl) ?_
        refine lv_iload hx hb dX11_tellLiked_62 (lv_at hl 5 rfl) ?_
        obtain ⟨q5, hq5, h⟩ := bd h
        refine r_callSI (V := (vR E)) (As := [.int x3, .int x5]) (rest := []) X I hl (c_X11_isOf  hq5) ys_X11_isOf tw_1012 ⟨rfl, rfl, Nat.le_of_ble_eq_true rfl, Nat.le_of_ble_eq_true rfl⟩ rfl rfl (Nat.le_of_ble_eq_true rfl) dX11_tellLiked_64 (fun H locs I => ?_)
        refine lv_if_ne (tgt := 73) hx hb dX11_tellLiked_67 (by decide) (fun c6 => ?_) (fun c6 => ?_)
        · have h := ite_f h c6
          refine lv_aload_n hx hb dX11_tellLiked_73 rfl (lv_at hl 0 rfl) ?_
          refine lv_iload hx hb dX11_tellLiked_74 (lv_at hl 5 rfl) ?_
          refine lv_iload_n hx hb dX11_tellLiked_76 rfl (lv_at hl 2 rfl) ?_
          obtain ⟨q7, hq7, h⟩ := bd h
          refine r_callVI (V := (vR E)) (k := 0) (As := [.int x5, .int x2]) (rest := []) X I hl (c_X11_likingOf  hq7) yv_X11_likingOf tw_1102 ⟨rfl, rfl, Nat.le_of_ble_eq_true rfl, Nat.le_of_ble_eq_true rfl⟩ (Nat.le_of_ble_eq_true rfl) rfl rfl rfl rfl (Nat.le_of_ble_eq_true rfl) dX11_tellLiked_77 (fun H locs I => ?_)
          refine lv_istore (lv' := [(6, .int q7.1), (0, .ref (ra E 0)), (1, .int x1), (2, .int x2), (3, .int x3), (4, .int x4), (5, .int x5)]) hx hb dX11_tellLiked_80 hl (by decide) rfl (fun ls hl => ?_)
          refine lv_iload hx hb dX11_tellLiked_82 (lv_at hl 0 rfl) ?_
          refine lv_if_le (tgt := 95) hx hb dX11_tellLiked_84 (by decide) (fun c8 => ?_) (fun c8 => ?_)
          · have h := ite_t h c8
            refine lv_iconst (v := -1) hx hb dX11_tellLiked_95 (by decide) ?_
            refine lv_istore (lv' := [(4, .int (-1 : Int32)), (6, .int q7.1), (0, .ref (ra E 0)), (1, .int x1), (2, .int x2), (3, .int x3), (5, .int x5)]) hx hb dX11_tellLiked_96 hl (by decide) rfl (fun ls hl => ?_)
            refine lv_iinc (v := (x5 + 1)) (lv' := [(5, .int (x5 + 1)), (4, .int (-1 : Int32)), (6, .int q7.1), (0, .ref (ra E 0)), (1, .int x1), (2, .int x2), (3, .int x3)]) hx hb dX11_tellLiked_98 hl (k := 6) rfl rfl (by decide) rfl (fun ls hl => ?_)
            refine lv_goto (tgt := 44) hx hb dX11_tellLiked_101 (by decide) ?_
            exact ih q7.2 (-1 : Int32) (x5 + 1) h H locs ls I (lv_sub hl [3, 4, 5, 6, 1, 0] rfl)
          · have h := ite_f h c8
            refine lv_iload hx hb dX11_tellLiked_87 (lv_at hl 5 rfl) ?_
            refine lv_iload hx hb dX11_tellLiked_89 (lv_at hl 0 rfl) ?_
            refine lv_iadd hx hb dX11_tellLiked_91 ?_
            refine lv_goto (tgt := 96) hx hb dX11_tellLiked_92 (by decide) ?_
            obtain ⟨y9, ey9, h⟩ := lt_e h
            refine nm_i ey9 ?_
            refine lv_istore (lv' := [(4, .int y9), (6, .int q7.1), (0, .ref (ra E 0)), (1, .int x1), (2, .int x2), (3, .int x3), (5, .int x5)]) hx hb dX11_tellLiked_96 hl (by decide) rfl (fun ls hl => ?_)
            refine lv_iinc (v := (x5 + 1)) (lv' := [(5, .int (x5 + 1)), (4, .int y9), (6, .int q7.1), (0, .ref (ra E 0)), (1, .int x1), (2, .int x2), (3, .int x3)]) hx hb dX11_tellLiked_98 hl (k := 6) rfl rfl (by decide) rfl (fun ls hl => ?_)
            refine lv_goto (tgt := 44) hx hb dX11_tellLiked_101 (by decide) ?_
            exact ih q7.2 y9 (x5 + 1) h H locs ls I (lv_sub hl [3, 4, 5, 6, 1, 0] rfl)
        · have h := ite_t h c6
          refine lv_goto (tgt := 98) hx hb dX11_tellLiked_70 (by decide) ?_
          refine lv_iinc (v := (x5 + 1)) (lv' := [(5, .int (x5 + 1)), (0, .ref (ra E 0)), (1, .int x1), (2, .int x2), (3, .int x3), (4, .int x4)]) hx hb dX11_tellLiked_98 hl (k := 5) rfl rfl (by decide) rfl (fun ls hl => ?_)
          refine lv_goto (tgt := 44) hx hb dX11_tellLiked_101 (by decide) ?_
          exact ih σ x4 (x5 + 1) h H locs ls I (lv_sub hl [1, 2, 3, 4, 5, 0] rfl)
set_option maxHeartbeats 4000000 in
set_option maxRecDepth 100000 in
theorem w_X11_tellLiked_14 {p : Program} {l : Launch} {e : Env} {s : State} {m : MethodId} {args : Array Value} {below : List Frame} {meth : Method} {c : Code} {A : Nat → Prop} {E : RE} {q : Mem} (X : CX p s m meth c args cX11_tellLiked 7 RX11 none) {x1 : Int32} {x2 : Int32} {k2 : Mem → Int32 → Option (Mem)} (hk2 : ∀ (σ : Mem) (x2 : Int32) , k2 σ x2 = some q → ∀ (H : Heap) (locs : List Loc) (ls : Array Slot), WI (vR E) A s H locs σ → lv_has ls 7 [(0, .ref (ra E 0)), (1, .int x1), (2, .int x2)] → W p l e rm_X11_tellLiked s m args below meth c H locs 0 0 (MQ below (QV (vR E) A q) args s 0 0 A) (F0 m 2 ls [])) : ∀ (n : Nat), ∀ (σ : Mem) (x3 : Int32) , f_X11_tellLiked_14 k2 x1 x2 n σ x3 = some q → ∀ (H : Heap) (locs : List Loc) (ls : Array Slot), WI (vR E) A s H locs σ → lv_has ls 7 [(0, .ref (ra E 0)), (1, .int x1), (2, .int x2), (3, .int x3)] → W p l e rm_X11_tellLiked s m args below meth c H locs 0 0 (MQ below (QV (vR E) A q) args s 0 0 A) (F0 m 14 ls []) := by
  have hx := X.1
  have hb := X.2.1
  intro n
  induction n with
  | zero =>
    intro σ x3 h
    cases h
  | succ n ih =>
    intro σ x3 h H locs ls I hl
    rw [f_X11_tellLiked_14] at h
    refine lv_iload_n hx hb dX11_tellLiked_14 rfl (lv_at hl 3 rfl) ?_
    refine lv_iconst (v := 1) hx hb dX11_tellLiked_15 (by decide) ?_
    refine lv_aload_n hx hb dX11_tellLiked_16 rfl (lv_at hl 0 rfl) ?_
    refine gfR_X11_55 X I dX11_tellLiked_17 ?_
    refine lv_iconst (v := 0) hx hb dX11_tellLiked_20 (by decide) ?_
    obtain ⟨hin, h⟩ := gd_some h
    refine ialdR X I (kR_5 E) hin dX11_tellLiked_21 ?_
    refine lv_ishl hx hb dX11_tellLiked_22 ?_
    refine lv_icmp_ge (tgt := 123) hx hb dX11_tellLiked_23 (by decide) (fun c1 => ?_) (fun c1 => ?_)
    · have h := ite_t h c1
      refine lv_iinc (v := (x2 + 1)) (lv' := [(2, .int (x2 + 1)), (0, .ref (ra E 0)), (1, .int x1), (3, .int x3)]) hx hb dX11_tellLiked_123 hl (k := 2) rfl rfl (by decide) rfl (fun ls hl => ?_)
      refine lv_goto (tgt := 2) hx hb dX11_tellLiked_126 (by decide) ?_
      exact hk2 σ (x2 + 1) h H locs ls I (lv_sub hl [1, 2, 0] rfl)
    · have h := ite_f h c1
      refine lv_iload_n hx hb dX11_tellLiked_26 rfl (lv_at hl 3 rfl) ?_
      obtain ⟨q2, hq2, h⟩ := bd h
      refine r_callSI (V := (vR E)) (As := [.int x3]) (rest := []) X I hl (c_X11_bitsOf  hq2) ys_X11_bitsOf tw_999 ⟨rfl, rfl, Nat.le_of_ble_eq_true rfl, Nat.le_of_ble_eq_true rfl⟩ rfl rfl (Nat.le_of_ble_eq_true rfl) dX11_tellLiked_27 (fun H locs I => ?_)
      refine lv_iload_n hx hb dX11_tellLiked_30 rfl (lv_at hl 1 rfl) ?_
      refine lv_icmp_le (tgt := 38) hx hb dX11_tellLiked_31 (by decide) (fun c3 => ?_) (fun c3 => ?_)
      · have h := ite_t h c3
        refine lv_iconst (v := 0) hx hb dX11_tellLiked_38 (by decide) ?_
        refine lv_istore (lv' := [(4, .int (0 : Int32)), (0, .ref (ra E 0)), (1, .int x1), (2, .int x2), (3, .int x3)]) hx hb dX11_tellLiked_39 hl (by decide) rfl (fun ls hl => ?_)
        refine lv_iconst (v := 0) hx hb dX11_tellLiked_41 (by decide) ?_
        refine lv_istore (lv' := [(5, .int (0 : Int32)), (4, .int (0 : Int32)), (0, .ref (ra E 0)), (1, .int x1), (2, .int x2), (3, .int x3)]) hx hb dX11_tellLiked_42 hl (by decide) rfl (fun ls hl => ?_)
        exact w_X11_tellLiked_44 X  hk2 (fun σ a3 h H locs ls I hl => ih σ a3 h H locs ls I hl) KF σ (0 : Int32) (0 : Int32) h H locs ls I (lv_sub hl [2, 3, 4, 5, 1, 0] rfl)
      · have h := ite_f h c3
        refine lv_iconst (v := -1) hx hb dX11_tellLiked_34 (by decide) ?_
        refine lv_goto (tgt := 39) hx hb dX11_tellLiked_35 (by decide) ?_
        refine lv_istore (lv' := [(4, .int (-1 : Int32)), (0, .ref (ra E 0)), (1, .int x1), (2, .int x2), (3, .int x3)]) hx hb dX11_tellLiked_39 hl (by decide) rfl (fun ls hl => ?_)
        refine lv_iconst (v := 0) hx hb dX11_tellLiked_41 (by decide) ?_
        refine lv_istore (lv' := [(5, .int (0 : Int32)), (4, .int (-1 : Int32)), (0, .ref (ra E 0)), (1, .int x1), (2, .int x2), (3, .int x3)]) hx hb dX11_tellLiked_42 hl (by decide) rfl (fun ls hl => ?_)
        exact w_X11_tellLiked_44 X  hk2 (fun σ a3 h H locs ls I hl => ih σ a3 h H locs ls I hl) KF σ (-1 : Int32) (0 : Int32) h H locs ls I (lv_sub hl [2, 3, 4, 5, 1, 0] rfl)
set_option maxHeartbeats 4000000 in
set_option maxRecDepth 100000 in
theorem w_X11_tellLiked_2 {p : Program} {l : Launch} {e : Env} {s : State} {m : MethodId} {args : Array Value} {below : List Frame} {meth : Method} {c : Code} {A : Nat → Prop} {E : RE} {q : Mem} (X : CX p s m meth c args cX11_tellLiked 7 RX11 none) {x1 : Int32} : ∀ (n : Nat), ∀ (σ : Mem) (x2 : Int32) , f_X11_tellLiked_2 x1 n σ x2 = some q → ∀ (H : Heap) (locs : List Loc) (ls : Array Slot), WI (vR E) A s H locs σ → lv_has ls 7 [(0, .ref (ra E 0)), (1, .int x1), (2, .int x2)] → W p l e rm_X11_tellLiked s m args below meth c H locs 0 0 (MQ below (QV (vR E) A q) args s 0 0 A) (F0 m 2 ls []) := by
  have hx := X.1
  have hb := X.2.1
  intro n
  induction n with
  | zero =>
    intro σ x2 h
    cases h
  | succ n ih =>
    intro σ x2 h H locs ls I hl
    rw [f_X11_tellLiked_2] at h
    refine lv_iload_n hx hb dX11_tellLiked_2 rfl (lv_at hl 2 rfl) ?_
    refine lv_aload_n hx hb dX11_tellLiked_3 rfl (lv_at hl 0 rfl) ?_
    refine gfR_X11_55 X I dX11_tellLiked_4 ?_
    refine lv_iconst (v := 1) hx hb dX11_tellLiked_7 (by decide) ?_
    obtain ⟨hin, h⟩ := gd_some h
    refine ialdR X I (kR_5 E) hin dX11_tellLiked_8 ?_
    refine lv_icmp_ge (tgt := 129) hx hb dX11_tellLiked_9 (by decide) (fun c1 => ?_) (fun c1 => ?_)
    · have h := ite_t h c1
      exact r_vret X I (Option.some.inj h).symm dX11_tellLiked_129
    · have h := ite_f h c1
      refine lv_iconst (v := 0) hx hb dX11_tellLiked_12 (by decide) ?_
      refine lv_istore_n (lv' := [(3, .int (0 : Int32)), (0, .ref (ra E 0)), (1, .int x1), (2, .int x2)]) hx hb dX11_tellLiked_13 rfl hl (by decide) rfl (fun ls hl => ?_)
      exact w_X11_tellLiked_14 X  (fun σ a2 h H locs ls I hl => ih σ a2 h H locs ls I hl) KF σ (0 : Int32) h H locs ls I (lv_sub hl [1, 2, 3, 0] rfl)
set_option maxHeartbeats 4000000 in
set_option maxRecDepth 100000 in
theorem w_X11_tellLiked_0 {p : Program} {l : Launch} {e : Env} {s : State} {m : MethodId} {args : Array Value} {below : List Frame} {meth : Method} {c : Code} {A : Nat → Prop} {E : RE} {q : Mem} (X : CX p s m meth c args cX11_tellLiked 7 RX11 none) : ∀ (σ : Mem) (x1 : Int32) , m_X11_tellLiked σ x1 = some q → ∀ (H : Heap) (locs : List Loc) (ls : Array Slot), WI (vR E) A s H locs σ → lv_has ls 7 [(0, .ref (ra E 0)), (1, .int x1)] → W p l e rm_X11_tellLiked s m args below meth c H locs 0 0 (MQ below (QV (vR E) A q) args s 0 0 A) (F0 m 0 ls []) := by
  have hx := X.1
  have hb := X.2.1
  intro σ x1 h H locs ls I hl
  unfold m_X11_tellLiked at h
  refine lv_iconst (v := 0) hx hb dX11_tellLiked_0 (by decide) ?_
  refine lv_istore_n (lv' := [(2, .int (0 : Int32)), (0, .ref (ra E 0)), (1, .int x1)]) hx hb dX11_tellLiked_1 rfl hl (by decide) rfl (fun ls hl => ?_)
  exact w_X11_tellLiked_2 X   KF σ (0 : Int32) h H locs ls I (lv_sub hl [1, 2, 0] rfl)
theorem c_X11_tellLiked {l : Launch} {E : RE} {σ : Mem} {x1 : Int32} {q : Mem} (h : m_X11_tellLiked σ x1 = some q) : CV l (vR E) yX11_tellLiked (.code yX11_tellLiked cX11_tellLiked 7 none :: GG) rm_X11_tellLiked [.ref (ra E 0), .int x1] σ q :=
  mk_CV (by decide +kernel) (Nat.le_of_ble_eq_true rfl) (fun p e s m args below meth c A ls X I hl => w_X11_tellLiked_0 X  σ x1 h s.heap [] ls I (lv_sub hl [0, 1] rfl))

def rm_X11_by : Room := { frames := 1, cells := 0, slots := 0, locals := 64 }
def m_X11_by (σ : Mem) (x1 : Int32) (x2 : Int32) (x3 : Int32) : Option (Int32) := (gd ((x1 <<< ((8 : Int32) &&& 31)) + x3) 1792 (gd (((x1 + (1 : Int32)) <<< ((8 : Int32) &&& 31)) + (x2 &&& (x3 ^^^ (-1 : Int32)))) 2048 (some ((σ 36 (Int32.toNatClampNeg ((x1 <<< ((8 : Int32) &&& 31)) + x3))) + (σ 35 (Int32.toNatClampNeg (((x1 + (1 : Int32)) <<< ((8 : Int32) &&& 31)) + (x2 &&& (x3 ^^^ (-1 : Int32))))))))))
set_option maxHeartbeats 4000000 in
set_option maxRecDepth 100000 in
theorem w_X11_by_0 {p : Program} {l : Launch} {e : Env} {s : State} {m : MethodId} {args : Array Value} {below : List Frame} {meth : Method} {c : Code} {A : Nat → Prop} {E : RE} {q : Int32} (X : CX p s m meth c args cX11_by 4 RX11 (some .int)) : ∀ (σ : Mem) (x1 : Int32) (x2 : Int32) (x3 : Int32) , m_X11_by σ x1 x2 x3 = some q → ∀ (H : Heap) (locs : List Loc) (ls : Array Slot), WI (vR E) A s H locs σ → lv_has ls 4 [(0, .ref (ra E 0)), (1, .int x1), (2, .int x2), (3, .int x3)] → W p l e rm_X11_by s m args below meth c H locs 0 0 (MQ below (QI (vR E) A (q, σ)) args s 0 0 A) (F0 m 0 ls []) := by
  have hx := X.1
  have hb := X.2.1
  intro σ x1 x2 x3 h H locs ls I hl
  unfold m_X11_by at h
  refine lv_aload_n hx hb dX11_by_0 rfl (lv_at hl 0 rfl) ?_
  refine gfR_X11_146 X I dX11_by_1 ?_
  refine lv_iload_n hx hb dX11_by_4 rfl (lv_at hl 1 rfl) ?_
  refine lv_bipush (v := 8) hx hb dX11_by_5 (by decide) ?_
  refine lv_ishl hx hb dX11_by_7 ?_
  refine lv_iload_n hx hb dX11_by_8 rfl (lv_at hl 3 rfl) ?_
  refine lv_iadd hx hb dX11_by_9 ?_
  obtain ⟨hin, h⟩ := gd_some h
  refine ialdR X I (kR_36 E) hin dX11_by_10 ?_
  refine lv_aload_n hx hb dX11_by_11 rfl (lv_at hl 0 rfl) ?_
  refine gfR_X11_143 X I dX11_by_12 ?_
  refine lv_iload_n hx hb dX11_by_15 rfl (lv_at hl 1 rfl) ?_
  refine lv_iconst (v := 1) hx hb dX11_by_16 (by decide) ?_
  refine lv_iadd hx hb dX11_by_17 ?_
  refine lv_bipush (v := 8) hx hb dX11_by_18 (by decide) ?_
  refine lv_ishl hx hb dX11_by_20 ?_
  refine lv_iload_n hx hb dX11_by_21 rfl (lv_at hl 2 rfl) ?_
  refine lv_iload_n hx hb dX11_by_22 rfl (lv_at hl 3 rfl) ?_
  refine lv_iconst (v := -1) hx hb dX11_by_23 (by decide) ?_
  refine lv_ixor hx hb dX11_by_24 ?_
  refine lv_iand hx hb dX11_by_25 ?_
  refine lv_iadd hx hb dX11_by_26 ?_
  obtain ⟨hin, h⟩ := gd_some h
  refine ialdR X I (kR_35 E) hin dX11_by_27 ?_
  refine lv_iadd hx hb dX11_by_28 ?_
  exact r_iret X I (congrArg (fun z => (z, σ)) (Option.some.inj h).symm) dX11_by_29
theorem c_X11_by {l : Launch} {E : RE} {σ : Mem} {x1 : Int32} {x2 : Int32} {x3 : Int32} {q : Int32} (h : m_X11_by σ x1 x2 x3 = some q) : CI l (vR E) yX11_by (.code yX11_by cX11_by 4 (some .int) :: GG) rm_X11_by [.ref (ra E 0), .int x1, .int x2, .int x3] σ (q, σ) :=
  mk_CI (by decide +kernel) (Nat.le_of_ble_eq_true rfl) (fun p e s m args below meth c A ls X I hl => w_X11_by_0 X  σ x1 x2 x3 h s.heap [] ls I (lv_sub hl [0, 1, 2, 3] rfl))

def rm_X11_tellMost : Room := { frames := 2, cells := 0, slots := 0, locals := 87 }
def f_X11_tellMost_71 (k48 : Mem → Int32 → Option (Mem)) (k54 : Mem → Int32 → Option (Mem)) (x1 : Int32) (x2 : Int32) (x3 : Int32) : Nat → Mem → Int32 → Int32 → Option (Mem)
  | 0, _, _, _ => none
  | n + 1, σ, x4, x5 => (if x5 ≤ (0 : Int32) then (gd ((x2 <<< ((8 : Int32) &&& 31)) + x3) 2048 (lt (ms σ 35 (Int32.toNatClampNeg ((x2 <<< ((8 : Int32) &&& 31)) + x3)) (x4)) fun σ2 => (k54 σ2 (x3 + 1)))) else (gd ((x2 <<< ((8 : Int32) &&& 31)) + x5) 1792 (if (σ 36 (Int32.toNatClampNeg ((x2 <<< ((8 : Int32) &&& 31)) + x5))) = (-1 : Int32) then (lt ((x5 - (1 : Int32)) &&& x3) fun y4 => f_X11_tellMost_71 k48 k54 x1 x2 x3 n σ x4 y4) else ((m_X11_by σ x2 x3 x5).bind fun q5 => (lt (imax x4 q5) fun y6 => (lt ((x5 - (1 : Int32)) &&& x3) fun y7 => f_X11_tellMost_71 k48 k54 x1 x2 x3 n σ y6 y7))))))
def f_X11_tellMost_54 (k48 : Mem → Int32 → Option (Mem)) (x1 : Int32) (x2 : Int32) : Nat → Mem → Int32 → Option (Mem)
  | 0, _, _ => none
  | n + 1, σ, x3 => (if x1 ≤ x3 then (k48 σ (x2 + (-1))) else ((m_X11_by σ x2 x3 (0 : Int32)).bind fun q2 => (f_X11_tellMost_71 k48 (f_X11_tellMost_54 k48 x1 x2 n) x1 x2 x3 KF σ q2 x3)))
def f_X11_tellMost_48 (x1 : Int32) : Nat → Mem → Int32 → Option (Mem)
  | 0, _, _ => none
  | n + 1, σ, x2 => (if x2 < (0 : Int32) then (some σ) else (f_X11_tellMost_54 (f_X11_tellMost_48 x1 n) x1 x2 KF σ (0 : Int32)))
def f_X11_tellMost_11 (x1 : Int32) : Nat → Mem → Int32 → Option (Mem)
  | 0, _, _ => none
  | n + 1, σ, x2 => (if x1 ≤ x2 then (gd (1 : Int32) 10 (lt ((σ 5 (Int32.toNatClampNeg (1 : Int32))) - (1 : Int32)) fun y2 => (f_X11_tellMost_48 x1 KF σ y2))) else (gd (1 : Int32) 10 (gd (((σ 5 (Int32.toNatClampNeg (1 : Int32))) <<< ((8 : Int32) &&& 31)) + x2) 2048 (lt (ms σ 35 (Int32.toNatClampNeg (((σ 5 (Int32.toNatClampNeg (1 : Int32))) <<< ((8 : Int32) &&& 31)) + x2)) ((0 : Int32))) fun σ3 => f_X11_tellMost_11 x1 n σ3 (x2 + 1)))))
def m_X11_tellMost (σ : Mem) : Option (Mem) := (gd (0 : Int32) 10 (lt ((1 : Int32) <<< ((σ 5 (Int32.toNatClampNeg (0 : Int32))) &&& 31)) fun y1 => (f_X11_tellMost_11 y1 KF σ (0 : Int32))))
set_option maxHeartbeats 4000000 in
set_option maxRecDepth 100000 in
theorem w_X11_tellMost_71 {p : Program} {l : Launch} {e : Env} {s : State} {m : MethodId} {args : Array Value} {below : List Frame} {meth : Method} {c : Code} {A : Nat → Prop} {E : RE} {q : Mem} (X : CX p s m meth c args cX11_tellMost 6 RX11 none) {x1 : Int32} {x2 : Int32} {x3 : Int32} {k48 : Mem → Int32 → Option (Mem)} (hk48 : ∀ (σ : Mem) (x2 : Int32) , k48 σ x2 = some q → ∀ (H : Heap) (locs : List Loc) (ls : Array Slot), WI (vR E) A s H locs σ → lv_has ls 6 [(0, .ref (ra E 0)), (1, .int x1), (2, .int x2)] → W p l e rm_X11_tellMost s m args below meth c H locs 0 0 (MQ below (QV (vR E) A q) args s 0 0 A) (F0 m 48 ls [])) {k54 : Mem → Int32 → Option (Mem)} (hk54 : ∀ (σ : Mem) (x3 : Int32) , k54 σ x3 = some q → ∀ (H : Heap) (locs : List Loc) (ls : Array Slot), WI (vR E) A s H locs σ → lv_has ls 6 [(0, .ref (ra E 0)), (1, .int x1), (2, .int x2), (3, .int x3)] → W p l e rm_X11_tellMost s m args below meth c H locs 0 0 (MQ below (QV (vR E) A q) args s 0 0 A) (F0 m 54 ls [])) : ∀ (n : Nat), ∀ (σ : Mem) (x4 : Int32) (x5 : Int32) , f_X11_tellMost_71 k48 k54 x1 x2 x3 n σ x4 x5 = some q → ∀ (H : Heap) (locs : List Loc) (ls : Array Slot), WI (vR E) A s H locs σ → lv_has ls 6 [(0, .ref (ra E 0)), (1, .int x1), (2, .int x2), (3, .int x3), (4, .int x4), (5, .int x5)] → W p l e rm_X11_tellMost s m args below meth c H locs 0 0 (MQ below (QV (vR E) A q) args s 0 0 A) (F0 m 71 ls []) := by
  have hx := X.1
  have hb := X.2.1
  intro n
  induction n with
  | zero =>
    intro σ x4 x5 h
    cases h
  | succ n ih =>
    intro σ x4 x5 h H locs ls I hl
    rw [f_X11_tellMost_71] at h
    refine lv_iload hx hb dX11_tellMost_71 (lv_at hl 5 rfl) ?_
    refine lv_if_le (tgt := 118) hx hb dX11_tellMost_73 (by decide) (fun c1 => ?_) (fun c1 => ?_)
    · have h := ite_t h c1
      refine lv_aload_n hx hb dX11_tellMost_118 rfl (lv_at hl 0 rfl) ?_
      refine gfR_X11_143 X I dX11_tellMost_119 ?_
      refine lv_iload_n hx hb dX11_tellMost_122 rfl (lv_at hl 2 rfl) ?_
      refine lv_bipush (v := 8) hx hb dX11_tellMost_123 (by decide) ?_
      refine lv_ishl hx hb dX11_tellMost_125 ?_
      refine lv_iload_n hx hb dX11_tellMost_126 rfl (lv_at hl 3 rfl) ?_
      refine lv_iadd hx hb dX11_tellMost_127 ?_
      refine lv_iload hx hb dX11_tellMost_128 (lv_at hl 4 rfl) ?_
      obtain ⟨hin, h⟩ := gd_some h
      refine iastR X I (kR_35 E) hin dX11_tellMost_130 (fun H locs I => ?_)
      obtain ⟨σ2, eσ2, h⟩ := lt_e h
      replace I := wi_nm eσ2 I
      refine lv_iinc (v := (x3 + 1)) (lv' := [(3, .int (x3 + 1)), (0, .ref (ra E 0)), (1, .int x1), (2, .int x2), (4, .int x4), (5, .int x5)]) hx hb dX11_tellMost_131 hl (k := 3) rfl rfl (by decide) rfl (fun ls hl => ?_)
      refine lv_goto (tgt := 54) hx hb dX11_tellMost_134 (by decide) ?_
      exact hk54 σ2 (x3 + 1) h H locs ls I (lv_sub hl [1, 2, 3, 0] rfl)
    · have h := ite_f h c1
      refine lv_aload_n hx hb dX11_tellMost_76 rfl (lv_at hl 0 rfl) ?_
      refine gfR_X11_146 X I dX11_tellMost_77 ?_
      refine lv_iload_n hx hb dX11_tellMost_80 rfl (lv_at hl 2 rfl) ?_
      refine lv_bipush (v := 8) hx hb dX11_tellMost_81 (by decide) ?_
      refine lv_ishl hx hb dX11_tellMost_83 ?_
      refine lv_iload hx hb dX11_tellMost_84 (lv_at hl 5 rfl) ?_
      refine lv_iadd hx hb dX11_tellMost_86 ?_
      obtain ⟨hin, h⟩ := gd_some h
      refine ialdR X I (kR_36 E) hin dX11_tellMost_87 ?_
      refine lv_iconst (v := -1) hx hb dX11_tellMost_88 (by decide) ?_
      refine lv_icmp_eq (tgt := 107) hx hb dX11_tellMost_89 (by decide) (fun c3 => ?_) (fun c3 => ?_)
      · have h := ite_t h c3
        refine lv_iload hx hb dX11_tellMost_107 (lv_at hl 5 rfl) ?_
        refine lv_iconst (v := 1) hx hb dX11_tellMost_109 (by decide) ?_
        refine lv_isub hx hb dX11_tellMost_110 ?_
        refine lv_iload_n hx hb dX11_tellMost_111 rfl (lv_at hl 3 rfl) ?_
        refine lv_iand hx hb dX11_tellMost_112 ?_
        obtain ⟨y4, ey4, h⟩ := lt_e h
        refine nm_i ey4 ?_
        refine lv_istore (lv' := [(5, .int y4), (0, .ref (ra E 0)), (1, .int x1), (2, .int x2), (3, .int x3), (4, .int x4)]) hx hb dX11_tellMost_113 hl (by decide) rfl (fun ls hl => ?_)
        refine lv_goto (tgt := 71) hx hb dX11_tellMost_115 (by decide) ?_
        exact ih σ x4 y4 h H locs ls I (lv_sub hl [1, 2, 3, 4, 5, 0] rfl)
      · have h := ite_f h c3
        refine lv_iload hx hb dX11_tellMost_92 (lv_at hl 4 rfl) ?_
        refine lv_aload_n hx hb dX11_tellMost_94 rfl (lv_at hl 0 rfl) ?_
        refine lv_iload_n hx hb dX11_tellMost_95 rfl (lv_at hl 2 rfl) ?_
        refine lv_iload_n hx hb dX11_tellMost_96 rfl (lv_at hl 3 rfl) ?_
        refine lv_iload hx hb dX11_tellMost_97 (lv_at hl 5 rfl) ?_
        obtain ⟨q5, hq5, h⟩ := bd h
        refine r_callVI (V := (vR E)) (k := 0) (As := [.int x2, .int x3, .int x5]) (rest := [.int x4]) X I hl (c_X11_by  hq5) yv_X11_by tw_1114 ⟨rfl, rfl, Nat.le_of_ble_eq_true rfl, Nat.le_of_ble_eq_true rfl⟩ (Nat.le_of_ble_eq_true rfl) rfl rfl rfl rfl (Nat.le_of_ble_eq_true rfl) dX11_tellMost_99 (fun H locs I => ?_)
        refine r_max X hl tw_998 ⟨Nat.le_of_ble_eq_true rfl, Nat.le_of_ble_eq_true rfl⟩ dX11_tellMost_102 ?_
        obtain ⟨y6, ey6, h⟩ := lt_e h
        refine nm_i ey6 ?_
        refine lv_istore (lv' := [(4, .int y6), (0, .ref (ra E 0)), (1, .int x1), (2, .int x2), (3, .int x3), (5, .int x5)]) hx hb dX11_tellMost_105 hl (by decide) rfl (fun ls hl => ?_)
        refine lv_iload hx hb dX11_tellMost_107 (lv_at hl 5 rfl) ?_
        refine lv_iconst (v := 1) hx hb dX11_tellMost_109 (by decide) ?_
        refine lv_isub hx hb dX11_tellMost_110 ?_
        refine lv_iload_n hx hb dX11_tellMost_111 rfl (lv_at hl 4 rfl) ?_
        refine lv_iand hx hb dX11_tellMost_112 ?_
        obtain ⟨y7, ey7, h⟩ := lt_e h
        refine nm_i ey7 ?_
        refine lv_istore (lv' := [(5, .int y7), (4, .int y6), (0, .ref (ra E 0)), (1, .int x1), (2, .int x2), (3, .int x3)]) hx hb dX11_tellMost_113 hl (by decide) rfl (fun ls hl => ?_)
        refine lv_goto (tgt := 71) hx hb dX11_tellMost_115 (by decide) ?_
        exact ih σ y6 y7 h H locs ls I (lv_sub hl [2, 3, 4, 5, 1, 0] rfl)
set_option maxHeartbeats 4000000 in
set_option maxRecDepth 100000 in
theorem w_X11_tellMost_54 {p : Program} {l : Launch} {e : Env} {s : State} {m : MethodId} {args : Array Value} {below : List Frame} {meth : Method} {c : Code} {A : Nat → Prop} {E : RE} {q : Mem} (X : CX p s m meth c args cX11_tellMost 6 RX11 none) {x1 : Int32} {x2 : Int32} {k48 : Mem → Int32 → Option (Mem)} (hk48 : ∀ (σ : Mem) (x2 : Int32) , k48 σ x2 = some q → ∀ (H : Heap) (locs : List Loc) (ls : Array Slot), WI (vR E) A s H locs σ → lv_has ls 6 [(0, .ref (ra E 0)), (1, .int x1), (2, .int x2)] → W p l e rm_X11_tellMost s m args below meth c H locs 0 0 (MQ below (QV (vR E) A q) args s 0 0 A) (F0 m 48 ls [])) : ∀ (n : Nat), ∀ (σ : Mem) (x3 : Int32) , f_X11_tellMost_54 k48 x1 x2 n σ x3 = some q → ∀ (H : Heap) (locs : List Loc) (ls : Array Slot), WI (vR E) A s H locs σ → lv_has ls 6 [(0, .ref (ra E 0)), (1, .int x1), (2, .int x2), (3, .int x3)] → W p l e rm_X11_tellMost s m args below meth c H locs 0 0 (MQ below (QV (vR E) A q) args s 0 0 A) (F0 m 54 ls []) := by
  have hx := X.1
  have hb := X.2.1
  intro n
  induction n with
  | zero =>
    intro σ x3 h
    cases h
  | succ n ih =>
    intro σ x3 h H locs ls I hl
    rw [f_X11_tellMost_54] at h
    refine lv_iload_n hx hb dX11_tellMost_54 rfl (lv_at hl 3 rfl) ?_
    refine lv_iload_n hx hb dX11_tellMost_55 rfl (lv_at hl 1 rfl) ?_
    refine lv_icmp_ge (tgt := 137) hx hb dX11_tellMost_56 (by decide) (fun c1 => ?_) (fun c1 => ?_)
    · have h := ite_t h c1
      refine lv_iinc (v := (x2 + (-1))) (lv' := [(2, .int (x2 + (-1))), (0, .ref (ra E 0)), (1, .int x1), (3, .int x3)]) hx hb dX11_tellMost_137 hl (k := 2) rfl rfl (by decide) rfl (fun ls hl => ?_)
      refine lv_goto (tgt := 48) hx hb dX11_tellMost_140 (by decide) ?_
      exact hk48 σ (x2 + (-1)) h H locs ls I (lv_sub hl [1, 2, 0] rfl)
    · have h := ite_f h c1
      refine lv_aload_n hx hb dX11_tellMost_59 rfl (lv_at hl 0 rfl) ?_
      refine lv_iload_n hx hb dX11_tellMost_60 rfl (lv_at hl 2 rfl) ?_
      refine lv_iload_n hx hb dX11_tellMost_61 rfl (lv_at hl 3 rfl) ?_
      refine lv_iconst (v := 0) hx hb dX11_tellMost_62 (by decide) ?_
      obtain ⟨q2, hq2, h⟩ := bd h
      refine r_callVI (V := (vR E)) (k := 0) (As := [.int x2, .int x3, .int (0 : Int32)]) (rest := []) X I hl (c_X11_by  hq2) yv_X11_by tw_1114 ⟨rfl, rfl, Nat.le_of_ble_eq_true rfl, Nat.le_of_ble_eq_true rfl⟩ (Nat.le_of_ble_eq_true rfl) rfl rfl rfl rfl (Nat.le_of_ble_eq_true rfl) dX11_tellMost_63 (fun H locs I => ?_)
      refine lv_istore (lv' := [(4, .int q2), (0, .ref (ra E 0)), (1, .int x1), (2, .int x2), (3, .int x3)]) hx hb dX11_tellMost_66 hl (by decide) rfl (fun ls hl => ?_)
      refine lv_iload_n hx hb dX11_tellMost_68 rfl (lv_at hl 4 rfl) ?_
      refine lv_istore (lv' := [(5, .int x3), (4, .int q2), (0, .ref (ra E 0)), (1, .int x1), (2, .int x2), (3, .int x3)]) hx hb dX11_tellMost_69 hl (by decide) rfl (fun ls hl => ?_)
      exact w_X11_tellMost_71 X  hk48 (fun σ a3 h H locs ls I hl => ih σ a3 h H locs ls I hl) KF σ q2 x3 h H locs ls I (lv_sub hl [2, 3, 4, 5, 1, 0] rfl)
set_option maxHeartbeats 4000000 in
set_option maxRecDepth 100000 in
theorem w_X11_tellMost_48 {p : Program} {l : Launch} {e : Env} {s : State} {m : MethodId} {args : Array Value} {below : List Frame} {meth : Method} {c : Code} {A : Nat → Prop} {E : RE} {q : Mem} (X : CX p s m meth c args cX11_tellMost 6 RX11 none) {x1 : Int32} : ∀ (n : Nat), ∀ (σ : Mem) (x2 : Int32) , f_X11_tellMost_48 x1 n σ x2 = some q → ∀ (H : Heap) (locs : List Loc) (ls : Array Slot), WI (vR E) A s H locs σ → lv_has ls 6 [(0, .ref (ra E 0)), (1, .int x1), (2, .int x2)] → W p l e rm_X11_tellMost s m args below meth c H locs 0 0 (MQ below (QV (vR E) A q) args s 0 0 A) (F0 m 48 ls []) := by
  have hx := X.1
  have hb := X.2.1
  intro n
  induction n with
  | zero =>
    intro σ x2 h
    cases h
  | succ n ih =>
    intro σ x2 h H locs ls I hl
    rw [f_X11_tellMost_48] at h
    refine lv_iload_n hx hb dX11_tellMost_48 rfl (lv_at hl 2 rfl) ?_
    refine lv_if_lt (tgt := 143) hx hb dX11_tellMost_49 (by decide) (fun c1 => ?_) (fun c1 => ?_)
    · have h := ite_t h c1
      exact r_vret X I (Option.some.inj h).symm dX11_tellMost_143
    · have h := ite_f h c1
      refine lv_iconst (v := 0) hx hb dX11_tellMost_52 (by decide) ?_
      refine lv_istore_n (lv' := [(3, .int (0 : Int32)), (0, .ref (ra E 0)), (1, .int x1), (2, .int x2)]) hx hb dX11_tellMost_53 rfl hl (by decide) rfl (fun ls hl => ?_)
      exact w_X11_tellMost_54 X  (fun σ a2 h H locs ls I hl => ih σ a2 h H locs ls I hl) KF σ (0 : Int32) h H locs ls I (lv_sub hl [1, 2, 3, 0] rfl)
set_option maxHeartbeats 4000000 in
set_option maxRecDepth 100000 in
theorem w_X11_tellMost_11 {p : Program} {l : Launch} {e : Env} {s : State} {m : MethodId} {args : Array Value} {below : List Frame} {meth : Method} {c : Code} {A : Nat → Prop} {E : RE} {q : Mem} (X : CX p s m meth c args cX11_tellMost 6 RX11 none) {x1 : Int32} : ∀ (n : Nat), ∀ (σ : Mem) (x2 : Int32) , f_X11_tellMost_11 x1 n σ x2 = some q → ∀ (H : Heap) (locs : List Loc) (ls : Array Slot), WI (vR E) A s H locs σ → lv_has ls 6 [(0, .ref (ra E 0)), (1, .int x1), (2, .int x2)] → W p l e rm_X11_tellMost s m args below meth c H locs 0 0 (MQ below (QV (vR E) A q) args s 0 0 A) (F0 m 11 ls []) := by
  have hx := X.1
  have hb := X.2.1
  intro n
  induction n with
  | zero =>
    intro σ x2 h
    cases h
  | succ n ih =>
    intro σ x2 h H locs ls I hl
    rw [f_X11_tellMost_11] at h
    refine lv_iload_n hx hb dX11_tellMost_11 rfl (lv_at hl 2 rfl) ?_
    refine lv_iload_n hx hb dX11_tellMost_12 rfl (lv_at hl 1 rfl) ?_
    refine lv_icmp_ge (tgt := 39) hx hb dX11_tellMost_13 (by decide) (fun c1 => ?_) (fun c1 => ?_)
    · have h := ite_t h c1
      refine lv_aload_n hx hb dX11_tellMost_39 rfl (lv_at hl 0 rfl) ?_
      refine gfR_X11_55 X I dX11_tellMost_40 ?_
      refine lv_iconst (v := 1) hx hb dX11_tellMost_43 (by decide) ?_
      obtain ⟨hin, h⟩ := gd_some h
      refine ialdR X I (kR_5 E) hin dX11_tellMost_44 ?_
      refine lv_iconst (v := 1) hx hb dX11_tellMost_45 (by decide) ?_
      refine lv_isub hx hb dX11_tellMost_46 ?_
      obtain ⟨y2, ey2, h⟩ := lt_e h
      refine nm_i ey2 ?_
      refine lv_istore_n (lv' := [(2, .int y2), (0, .ref (ra E 0)), (1, .int x1)]) hx hb dX11_tellMost_47 rfl hl (by decide) rfl (fun ls hl => ?_)
      exact w_X11_tellMost_48 X   KF σ y2 h H locs ls I (lv_sub hl [1, 2, 0] rfl)
    · have h := ite_f h c1
      refine lv_aload_n hx hb dX11_tellMost_16 rfl (lv_at hl 0 rfl) ?_
      refine gfR_X11_143 X I dX11_tellMost_17 ?_
      refine lv_aload_n hx hb dX11_tellMost_20 rfl (lv_at hl 0 rfl) ?_
      refine gfR_X11_55 X I dX11_tellMost_21 ?_
      refine lv_iconst (v := 1) hx hb dX11_tellMost_24 (by decide) ?_
      obtain ⟨hin, h⟩ := gd_some h
      refine ialdR X I (kR_5 E) hin dX11_tellMost_25 ?_
      refine lv_bipush (v := 8) hx hb dX11_tellMost_26 (by decide) ?_
      refine lv_ishl hx hb dX11_tellMost_28 ?_
      refine lv_iload_n hx hb dX11_tellMost_29 rfl (lv_at hl 2 rfl) ?_
      refine lv_iadd hx hb dX11_tellMost_30 ?_
      refine lv_iconst (v := 0) hx hb dX11_tellMost_31 (by decide) ?_
      obtain ⟨hin, h⟩ := gd_some h
      refine iastR X I (kR_35 E) hin dX11_tellMost_32 (fun H locs I => ?_)
      obtain ⟨σ3, eσ3, h⟩ := lt_e h
      replace I := wi_nm eσ3 I
      refine lv_iinc (v := (x2 + 1)) (lv' := [(2, .int (x2 + 1)), (0, .ref (ra E 0)), (1, .int x1)]) hx hb dX11_tellMost_33 hl (k := 2) rfl rfl (by decide) rfl (fun ls hl => ?_)
      refine lv_goto (tgt := 11) hx hb dX11_tellMost_36 (by decide) ?_
      exact ih σ3 (x2 + 1) h H locs ls I (lv_sub hl [1, 2, 0] rfl)
set_option maxHeartbeats 4000000 in
set_option maxRecDepth 100000 in
theorem w_X11_tellMost_0 {p : Program} {l : Launch} {e : Env} {s : State} {m : MethodId} {args : Array Value} {below : List Frame} {meth : Method} {c : Code} {A : Nat → Prop} {E : RE} {q : Mem} (X : CX p s m meth c args cX11_tellMost 6 RX11 none) : ∀ (σ : Mem)  , m_X11_tellMost σ = some q → ∀ (H : Heap) (locs : List Loc) (ls : Array Slot), WI (vR E) A s H locs σ → lv_has ls 6 [(0, .ref (ra E 0))] → W p l e rm_X11_tellMost s m args below meth c H locs 0 0 (MQ below (QV (vR E) A q) args s 0 0 A) (F0 m 0 ls []) := by
  have hx := X.1
  have hb := X.2.1
  intro σ  h H locs ls I hl
  unfold m_X11_tellMost at h
  refine lv_iconst (v := 1) hx hb dX11_tellMost_0 (by decide) ?_
  refine lv_aload_n hx hb dX11_tellMost_1 rfl (lv_at hl 0 rfl) ?_
  refine gfR_X11_55 X I dX11_tellMost_2 ?_
  refine lv_iconst (v := 0) hx hb dX11_tellMost_5 (by decide) ?_
  obtain ⟨hin, h⟩ := gd_some h
  refine ialdR X I (kR_5 E) hin dX11_tellMost_6 ?_
  refine lv_ishl hx hb dX11_tellMost_7 ?_
  obtain ⟨y1, ey1, h⟩ := lt_e h
  refine nm_i ey1 ?_
  refine lv_istore_n (lv' := [(1, .int y1), (0, .ref (ra E 0))]) hx hb dX11_tellMost_8 rfl hl (by decide) rfl (fun ls hl => ?_)
  refine lv_iconst (v := 0) hx hb dX11_tellMost_9 (by decide) ?_
  refine lv_istore_n (lv' := [(2, .int (0 : Int32)), (1, .int y1), (0, .ref (ra E 0))]) hx hb dX11_tellMost_10 rfl hl (by decide) rfl (fun ls hl => ?_)
  exact w_X11_tellMost_11 X   KF σ (0 : Int32) h H locs ls I (lv_sub hl [2, 1, 0] rfl)
theorem c_X11_tellMost {l : Launch} {E : RE} {σ : Mem} {q : Mem} (h : m_X11_tellMost σ = some q) : CV l (vR E) yX11_tellMost (.code yX11_tellMost cX11_tellMost 6 none :: GG) rm_X11_tellMost [.ref (ra E 0)] σ q :=
  mk_CV (by decide +kernel) (Nat.le_of_ble_eq_true rfl) (fun p e s m args below meth c A ls X I hl => w_X11_tellMost_0 X  σ  h s.heap [] ls I (lv_sub hl [0] rfl))

def rm_X11_goingTo : Room := { frames := 2, cells := 0, slots := 0, locals := 87 }
def f_X11_goingTo_2 (x1 : Int32) (x2 : Int32) : Nat → Mem → Int32 → Option (Int32)
  | 0, _, _ => none
  | n + 1, σ, x3 => (if x2 ≤ x3 then (some x2) else (if (x3 &&& (x2 ^^^ (-1 : Int32))) = (0 : Int32) then (gd ((x1 <<< ((8 : Int32) &&& 31)) + x3) 1792 (if (σ 36 (Int32.toNatClampNeg ((x1 <<< ((8 : Int32) &&& 31)) + x3))) = (-1 : Int32) then f_X11_goingTo_2 x1 x2 n σ (x3 + 1) else ((m_X11_by σ x1 x2 x3).bind fun q4 => (gd ((x1 <<< ((8 : Int32) &&& 31)) + x2) 2048 (if q4 = (σ 35 (Int32.toNatClampNeg ((x1 <<< ((8 : Int32) &&& 31)) + x2))) then (some x3) else f_X11_goingTo_2 x1 x2 n σ (x3 + 1)))))) else f_X11_goingTo_2 x1 x2 n σ (x3 + 1)))
def m_X11_goingTo (σ : Mem) (x1 : Int32) (x2 : Int32) : Option (Int32) := (f_X11_goingTo_2 x1 x2 KF σ (0 : Int32))
set_option maxHeartbeats 4000000 in
set_option maxRecDepth 100000 in
theorem w_X11_goingTo_2 {p : Program} {l : Launch} {e : Env} {s : State} {m : MethodId} {args : Array Value} {below : List Frame} {meth : Method} {c : Code} {A : Nat → Prop} {E : RE} {q : Int32} (X : CX p s m meth c args cX11_goingTo 4 RX11 (some .int)) {x1 : Int32} {x2 : Int32} : ∀ (n : Nat), ∀ (σ : Mem) (x3 : Int32) , f_X11_goingTo_2 x1 x2 n σ x3 = some q → ∀ (H : Heap) (locs : List Loc) (ls : Array Slot), WI (vR E) A s H locs σ → lv_has ls 4 [(0, .ref (ra E 0)), (1, .int x1), (2, .int x2), (3, .int x3)] → W p l e rm_X11_goingTo s m args below meth c H locs 0 0 (MQ below (QI (vR E) A (q, σ)) args s 0 0 A) (F0 m 2 ls []) := by
  have hx := X.1
  have hb := X.2.1
  intro n
  induction n with
  | zero =>
    intro σ x3 h
    cases h
  | succ n ih =>
    intro σ x3 h H locs ls I hl
    rw [f_X11_goingTo_2] at h
    refine lv_iload_n hx hb dX11_goingTo_2 rfl (lv_at hl 3 rfl) ?_
    refine lv_iload_n hx hb dX11_goingTo_3 rfl (lv_at hl 2 rfl) ?_
    refine lv_icmp_ge (tgt := 59) hx hb dX11_goingTo_4 (by decide) (fun c1 => ?_) (fun c1 => ?_)
    · have h := ite_t h c1
      refine lv_iload_n hx hb dX11_goingTo_59 rfl (lv_at hl 2 rfl) ?_
      exact r_iret X I (congrArg (fun z => (z, σ)) (Option.some.inj h).symm) dX11_goingTo_60
    · have h := ite_f h c1
      refine lv_iload_n hx hb dX11_goingTo_7 rfl (lv_at hl 3 rfl) ?_
      refine lv_iload_n hx hb dX11_goingTo_8 rfl (lv_at hl 2 rfl) ?_
      refine lv_iconst (v := -1) hx hb dX11_goingTo_9 (by decide) ?_
      refine lv_ixor hx hb dX11_goingTo_10 ?_
      refine lv_iand hx hb dX11_goingTo_11 ?_
      refine lv_if_ne (tgt := 53) hx hb dX11_goingTo_12 (by decide) (fun c2 => ?_) (fun c2 => ?_)
      · have h := ite_f h c2
        refine lv_iinc (v := (x3 + 1)) (lv' := [(3, .int (x3 + 1)), (0, .ref (ra E 0)), (1, .int x1), (2, .int x2)]) hx hb dX11_goingTo_53 hl (k := 3) rfl rfl (by decide) rfl (fun ls hl => ?_)
        refine lv_goto (tgt := 2) hx hb dX11_goingTo_56 (by decide) ?_
        exact ih σ (x3 + 1) h H locs ls I (lv_sub hl [1, 2, 3, 0] rfl)
      · have h := ite_t h c2
        refine lv_aload_n hx hb dX11_goingTo_15 rfl (lv_at hl 0 rfl) ?_
        refine gfR_X11_146 X I dX11_goingTo_16 ?_
        refine lv_iload_n hx hb dX11_goingTo_19 rfl (lv_at hl 1 rfl) ?_
        refine lv_bipush (v := 8) hx hb dX11_goingTo_20 (by decide) ?_
        refine lv_ishl hx hb dX11_goingTo_22 ?_
        refine lv_iload_n hx hb dX11_goingTo_23 rfl (lv_at hl 3 rfl) ?_
        refine lv_iadd hx hb dX11_goingTo_24 ?_
        obtain ⟨hin, h⟩ := gd_some h
        refine ialdR X I (kR_36 E) hin dX11_goingTo_25 ?_
        refine lv_iconst (v := -1) hx hb dX11_goingTo_26 (by decide) ?_
        refine lv_icmp_eq (tgt := 53) hx hb dX11_goingTo_27 (by decide) (fun c3 => ?_) (fun c3 => ?_)
        · have h := ite_t h c3
          refine lv_iinc (v := (x3 + 1)) (lv' := [(3, .int (x3 + 1)), (0, .ref (ra E 0)), (1, .int x1), (2, .int x2)]) hx hb dX11_goingTo_53 hl (k := 3) rfl rfl (by decide) rfl (fun ls hl => ?_)
          refine lv_goto (tgt := 2) hx hb dX11_goingTo_56 (by decide) ?_
          exact ih σ (x3 + 1) h H locs ls I (lv_sub hl [1, 2, 3, 0] rfl)
        · have h := ite_f h c3
          refine lv_aload_n hx hb dX11_goingTo_30 rfl (lv_at hl 0 rfl) ?_
          refine lv_iload_n hx hb dX11_goingTo_31 rfl (lv_at hl 1 rfl) ?_
          refine lv_iload_n hx hb dX11_goingTo_32 rfl (lv_at hl 2 rfl) ?_
          refine lv_iload_n hx hb dX11_goingTo_33 rfl (lv_at hl 3 rfl) ?_
          obtain ⟨q4, hq4, h⟩ := bd h
          refine r_callVI (V := (vR E)) (k := 0) (As := [.int x1, .int x2, .int x3]) (rest := []) X I hl (c_X11_by  hq4) yv_X11_by tw_1114 ⟨rfl, rfl, Nat.le_of_ble_eq_true rfl, Nat.le_of_ble_eq_true rfl⟩ (Nat.le_of_ble_eq_true rfl) rfl rfl rfl rfl (Nat.le_of_ble_eq_true rfl) dX11_goingTo_34 (fun H locs I => ?_)
          refine lv_aload_n hx hb dX11_goingTo_37 rfl (lv_at hl 0 rfl) ?_
          refine gfR_X11_143 X I dX11_goingTo_38 ?_
          refine lv_iload_n hx hb dX11_goingTo_41 rfl (lv_at hl 1 rfl) ?_
          refine lv_bipush (v := 8) hx hb dX11_goingTo_42 (by decide) ?_
          refine lv_ishl hx hb dX11_goingTo_44 ?_
          refine lv_iload_n hx hb dX11_goingTo_45 rfl (lv_at hl 2 rfl) ?_
          refine lv_iadd hx hb dX11_goingTo_46 ?_
          obtain ⟨hin, h⟩ := gd_some h
          refine ialdR X I (kR_35 E) hin dX11_goingTo_47 ?_
          refine lv_icmp_ne (tgt := 53) hx hb dX11_goingTo_48 (by decide) (fun c5 => ?_) (fun c5 => ?_)
          · have h := ite_f h c5
            refine lv_iinc (v := (x3 + 1)) (lv' := [(3, .int (x3 + 1)), (0, .ref (ra E 0)), (1, .int x1), (2, .int x2)]) hx hb dX11_goingTo_53 hl (k := 3) rfl rfl (by decide) rfl (fun ls hl => ?_)
            refine lv_goto (tgt := 2) hx hb dX11_goingTo_56 (by decide) ?_
            exact ih σ (x3 + 1) h H locs ls I (lv_sub hl [1, 2, 3, 0] rfl)
          · have h := ite_t h c5
            refine lv_iload_n hx hb dX11_goingTo_51 rfl (lv_at hl 3 rfl) ?_
            exact r_iret X I (congrArg (fun z => (z, σ)) (Option.some.inj h).symm) dX11_goingTo_52
set_option maxHeartbeats 4000000 in
set_option maxRecDepth 100000 in
theorem w_X11_goingTo_0 {p : Program} {l : Launch} {e : Env} {s : State} {m : MethodId} {args : Array Value} {below : List Frame} {meth : Method} {c : Code} {A : Nat → Prop} {E : RE} {q : Int32} (X : CX p s m meth c args cX11_goingTo 4 RX11 (some .int)) : ∀ (σ : Mem) (x1 : Int32) (x2 : Int32) , m_X11_goingTo σ x1 x2 = some q → ∀ (H : Heap) (locs : List Loc) (ls : Array Slot), WI (vR E) A s H locs σ → lv_has ls 4 [(0, .ref (ra E 0)), (1, .int x1), (2, .int x2)] → W p l e rm_X11_goingTo s m args below meth c H locs 0 0 (MQ below (QI (vR E) A (q, σ)) args s 0 0 A) (F0 m 0 ls []) := by
  have hx := X.1
  have hb := X.2.1
  intro σ x1 x2 h H locs ls I hl
  unfold m_X11_goingTo at h
  refine lv_iconst (v := 0) hx hb dX11_goingTo_0 (by decide) ?_
  refine lv_istore_n (lv' := [(3, .int (0 : Int32)), (0, .ref (ra E 0)), (1, .int x1), (2, .int x2)]) hx hb dX11_goingTo_1 rfl hl (by decide) rfl (fun ls hl => ?_)
  exact w_X11_goingTo_2 X   KF σ (0 : Int32) h H locs ls I (lv_sub hl [1, 2, 3, 0] rfl)
theorem c_X11_goingTo {l : Launch} {E : RE} {σ : Mem} {x1 : Int32} {x2 : Int32} {q : Int32} (h : m_X11_goingTo σ x1 x2 = some q) : CI l (vR E) yX11_goingTo (.code yX11_goingTo cX11_goingTo 4 (some .int) :: GG) rm_X11_goingTo [.ref (ra E 0), .int x1, .int x2] σ (q, σ) :=
  mk_CI (by decide +kernel) (Nat.le_of_ble_eq_true rfl) (fun p e s m args below meth c A ls X I hl => w_X11_goingTo_0 X  σ x1 x2 h s.heap [] ls I (lv_sub hl [0, 1, 2] rfl))

def rm_X11_share : Room := { frames := 6, cells := 0, slots := 0, locals := 183 }
def f_X11_share_88 (x1 : Int32) : Nat → Mem → Int32 → Int32 → Option (Int32 × Mem)
  | 0, _, _, _ => none
  | n + 1, σ, x3, x4 => (gd (1 : Int32) 10 (if (σ 5 (Int32.toNatClampNeg (1 : Int32))) ≤ x4 then (some ((-1 : Int32), σ)) else ((m_X11_goingTo σ x4 x3).bind fun q2 => ((m_X11_isOf σ q2 x1).bind fun q3 => (if q3 = (0 : Int32) then (lt (x3 &&& (q2 ^^^ (-1 : Int32))) fun y5 => f_X11_share_88 x1 n σ y5 (x4 + 1)) else (some (x4, σ)))))))
def m_X11_share (σ : Mem) (x1 : Int32) (x2 : Int32) : Option (Int32 × Mem) := (lt (ms σ 0 5 (0 : Int32)) fun σ1 => (gd (0 : Int32) 10 ((m_X11_isIn σ1 (Int32.toInt64 x1) (-1 : Int64) (Int32.toInt64 ((σ1 5 (Int32.toNatClampNeg (0 : Int32))) - (1 : Int32)))).bind fun q2 => (if q2 = (0 : Int32) then ((m_X11_fail σ1 (1 : Int32)).bind fun q12 => (some (q12.1, q12.2))) else ((m_X11_isIn σ1 (Int32.toInt64 x2) (1 : Int64) (8 : Int64)).bind fun q4 => (if q4 = (0 : Int32) then ((m_X11_fail σ1 (2 : Int32)).bind fun q11 => (some (q11.1, q11.2))) else ((m_X11_tellBegun σ1).bind fun q6 => ((m_X11_tellLiked q6 x2).bind fun q7 => ((m_X11_tellMost q7).bind fun q8 => (gd (0 : Int32) 10 (lt (((1 : Int32) <<< ((q8 5 (Int32.toNatClampNeg (0 : Int32))) &&& 31)) - (1 : Int32)) fun y9 => (if x1 = (-1 : Int32) then (gd y9 2048 (some ((q8 35 (Int32.toNatClampNeg y9)), q8))) else (f_X11_share_88 x1 KF q8 y9 (0 : Int32))))))))))))))
set_option maxHeartbeats 4000000 in
set_option maxRecDepth 100000 in
theorem w_X11_share_88 {p : Program} {l : Launch} {e : Env} {s : State} {m : MethodId} {args : Array Value} {below : List Frame} {meth : Method} {c : Code} {A : Nat → Prop} {E : RE} {q : Int32 × Mem} (X : CX p s m meth c args cX11_share 6 RX11 (some .int)) {x1 : Int32} : ∀ (n : Nat), ∀ (σ : Mem) (x3 : Int32) (x4 : Int32) , f_X11_share_88 x1 n σ x3 x4 = some q → ∀ (H : Heap) (locs : List Loc) (ls : Array Slot), WI (vR E) A s H locs σ → lv_has ls 6 [(0, .ref (ra E 0)), (1, .int x1), (3, .int x3), (4, .int x4)] → W p l e rm_X11_share s m args below meth c H locs 0 0 (MQ below (QI (vR E) A q) args s 0 0 A) (F0 m 88 ls []) := by
  have hx := X.1
  have hb := X.2.1
  intro n
  induction n with
  | zero =>
    intro σ x3 x4 h
    cases h
  | succ n ih =>
    intro σ x3 x4 h H locs ls I hl
    rw [f_X11_share_88] at h
    refine lv_iload hx hb dX11_share_88 (lv_at hl 3 rfl) ?_
    refine lv_aload_n hx hb dX11_share_90 rfl (lv_at hl 0 rfl) ?_
    refine gfR_X11_55 X I dX11_share_91 ?_
    refine lv_iconst (v := 1) hx hb dX11_share_94 (by decide) ?_
    obtain ⟨hin, h⟩ := gd_some h
    refine ialdR X I (kR_5 E) hin dX11_share_95 ?_
    refine lv_icmp_ge (tgt := 133) hx hb dX11_share_96 (by decide) (fun c1 => ?_) (fun c1 => ?_)
    · have h := ite_t h c1
      refine lv_iconst (v := -1) hx hb dX11_share_133 (by decide) ?_
      exact r_iret X I (Option.some.inj h).symm dX11_share_134
    · have h := ite_f h c1
      refine lv_aload_n hx hb dX11_share_99 rfl (lv_at hl 0 rfl) ?_
      refine lv_iload hx hb dX11_share_100 (lv_at hl 3 rfl) ?_
      refine lv_iload_n hx hb dX11_share_102 rfl (lv_at hl 2 rfl) ?_
      obtain ⟨q2, hq2, h⟩ := bd h
      refine r_callVI (V := (vR E)) (k := 0) (As := [.int x4, .int x3]) (rest := []) X I hl (c_X11_goingTo  hq2) yv_X11_goingTo tw_1131 ⟨rfl, rfl, Nat.le_of_ble_eq_true rfl, Nat.le_of_ble_eq_true rfl⟩ (Nat.le_of_ble_eq_true rfl) rfl rfl rfl rfl (Nat.le_of_ble_eq_true rfl) dX11_share_103 (fun H locs I => ?_)
      refine lv_istore (lv' := [(5, .int q2), (0, .ref (ra E 0)), (1, .int x1), (3, .int x3), (4, .int x4)]) hx hb dX11_share_106 hl (by decide) rfl (fun ls hl => ?_)
      refine lv_iload hx hb dX11_share_108 (lv_at hl 0 rfl) ?_
      refine lv_iload_n hx hb dX11_share_110 rfl (lv_at hl 2 rfl) ?_
      obtain ⟨q3, hq3, h⟩ := bd h
      refine r_callSI (V := (vR E)) (As := [.int q2, .int x1]) (rest := []) X I hl (c_X11_isOf  hq3) ys_X11_isOf tw_1012 ⟨rfl, rfl, Nat.le_of_ble_eq_true rfl, Nat.le_of_ble_eq_true rfl⟩ rfl rfl (Nat.le_of_ble_eq_true rfl) dX11_share_111 (fun H locs I => ?_)
      refine lv_if_eq (tgt := 120) hx hb dX11_share_114 (by decide) (fun c4 => ?_) (fun c4 => ?_)
      · have h := ite_t h c4
        refine lv_iload_n hx hb dX11_share_120 rfl (lv_at hl 3 rfl) ?_
        refine lv_iload hx hb dX11_share_121 (lv_at hl 0 rfl) ?_
        refine lv_iconst (v := -1) hx hb dX11_share_123 (by decide) ?_
        refine lv_ixor hx hb dX11_share_124 ?_
        refine lv_iand hx hb dX11_share_125 ?_
        obtain ⟨y5, ey5, h⟩ := lt_e h
        refine nm_i ey5 ?_
        refine lv_istore_n (lv' := [(3, .int y5), (5, .int q2), (0, .ref (ra E 0)), (1, .int x1), (4, .int x4)]) hx hb dX11_share_126 rfl hl (by decide) rfl (fun ls hl => ?_)
        refine lv_iinc (v := (x4 + 1)) (lv' := [(4, .int (x4 + 1)), (3, .int y5), (5, .int q2), (0, .ref (ra E 0)), (1, .int x1)]) hx hb dX11_share_127 hl (k := 4) rfl rfl (by decide) rfl (fun ls hl => ?_)
        refine lv_goto (tgt := 88) hx hb dX11_share_130 (by decide) ?_
        exact ih σ y5 (x4 + 1) h H locs ls I (lv_sub hl [3, 4, 1, 0] rfl)
      · have h := ite_f h c4
        refine lv_iload hx hb dX11_share_117 (lv_at hl 4 rfl) ?_
        exact r_iret X I (Option.some.inj h).symm dX11_share_119
set_option maxHeartbeats 4000000 in
set_option maxRecDepth 100000 in
theorem w_X11_share_0 {p : Program} {l : Launch} {e : Env} {s : State} {m : MethodId} {args : Array Value} {below : List Frame} {meth : Method} {c : Code} {A : Nat → Prop} {E : RE} {q : Int32 × Mem} (X : CX p s m meth c args cX11_share 6 RX11 (some .int)) : ∀ (σ : Mem) (x1 : Int32) (x2 : Int32) , m_X11_share σ x1 x2 = some q → ∀ (H : Heap) (locs : List Loc) (ls : Array Slot), WI (vR E) A s H locs σ → lv_has ls 6 [(0, .ref (ra E 0)), (1, .int x1), (2, .int x2)] → W p l e rm_X11_share s m args below meth c H locs 0 0 (MQ below (QI (vR E) A q) args s 0 0 A) (F0 m 0 ls []) := by
  have hx := X.1
  have hb := X.2.1
  intro σ x1 x2 h H locs ls I hl
  unfold m_X11_share at h
  refine lv_aload_n hx hb dX11_share_0 rfl (lv_at hl 0 rfl) ?_
  refine lv_iconst (v := 0) hx hb dX11_share_1 (by decide) ?_
  refine pfR_X11_195 X I  dX11_share_2 (fun H locs I => ?_)
  obtain ⟨σ1, eσ1, h⟩ := lt_e h
  replace I := wi_nm eσ1 I
  refine lv_iload_n hx hb dX11_share_5 rfl (lv_at hl 1 rfl) ?_
  refine lv_i2l hx hb dX11_share_6 rfl ?_
  refine lv_ldc2 hx hb X.2.2.2.1 (X.2.2.2.2.1 _ tw_1119) dX11_share_7 ?_
  refine lv_aload_n hx hb dX11_share_10 rfl (lv_at hl 0 rfl) ?_
  refine gfR_X11_55 X I dX11_share_11 ?_
  refine lv_iconst (v := 0) hx hb dX11_share_14 (by decide) ?_
  obtain ⟨hin, h⟩ := gd_some h
  refine ialdR X I (kR_5 E) hin dX11_share_15 ?_
  refine lv_iconst (v := 1) hx hb dX11_share_16 (by decide) ?_
  refine lv_isub hx hb dX11_share_17 ?_
  refine lv_i2l hx hb dX11_share_18 rfl ?_
  obtain ⟨q2, hq2, h⟩ := bd h
  refine r_callSI (V := (vR E)) (As := [.long (Int32.toInt64 x1), .long (-1 : Int64), .long (Int32.toInt64 ((σ1 5 (Int32.toNatClampNeg (0 : Int32))) - (1 : Int32)))]) (rest := []) X I hl (c_X11_isIn  hq2) ys_X11_isIn tw_801 ⟨rfl, rfl, Nat.le_of_ble_eq_true rfl, Nat.le_of_ble_eq_true rfl⟩ rfl rfl (Nat.le_of_ble_eq_true rfl) dX11_share_19 (fun H locs I => ?_)
  refine lv_if_ne (tgt := 31) hx hb dX11_share_22 (by decide) (fun c3 => ?_) (fun c3 => ?_)
  · have h := ite_f h c3
    refine lv_iload_n hx hb dX11_share_31 rfl (lv_at hl 2 rfl) ?_
    refine lv_i2l hx hb dX11_share_32 rfl ?_
    refine lv_lconst (v := 1) hx hb dX11_share_33 (by decide) ?_
    refine lv_ldc2 hx hb X.2.2.2.1 (X.2.2.2.2.1 _ tw_1120) dX11_share_34 ?_
    obtain ⟨q4, hq4, h⟩ := bd h
    refine r_callSI (V := (vR E)) (As := [.long (Int32.toInt64 x2), .long (1 : Int64), .long (8 : Int64)]) (rest := []) X I hl (c_X11_isIn  hq4) ys_X11_isIn tw_801 ⟨rfl, rfl, Nat.le_of_ble_eq_true rfl, Nat.le_of_ble_eq_true rfl⟩ rfl rfl (Nat.le_of_ble_eq_true rfl) dX11_share_37 (fun H locs I => ?_)
    refine lv_if_ne (tgt := 49) hx hb dX11_share_40 (by decide) (fun c5 => ?_) (fun c5 => ?_)
    · have h := ite_f h c5
      refine lv_aload_n hx hb dX11_share_49 rfl (lv_at hl 0 rfl) ?_
      obtain ⟨q6, hq6, h⟩ := bd h
      refine r_callVV (V := (vR E)) (k := 0) (As := []) (rest := []) X I hl (c_X11_tellBegun  hq6) yv_X11_tellBegun tw_1026 ⟨rfl, rfl, Nat.le_of_ble_eq_true rfl, Nat.le_of_ble_eq_true rfl⟩ (Nat.le_of_ble_eq_true rfl) rfl rfl rfl rfl (Nat.le_of_ble_eq_true rfl) dX11_share_50 (fun H locs I => ?_)
      refine lv_aload_n hx hb dX11_share_53 rfl (lv_at hl 0 rfl) ?_
      refine lv_iload_n hx hb dX11_share_54 rfl (lv_at hl 2 rfl) ?_
      obtain ⟨q7, hq7, h⟩ := bd h
      refine r_callVV (V := (vR E)) (k := 0) (As := [.int x2]) (rest := []) X I hl (c_X11_tellLiked  hq7) yv_X11_tellLiked tw_1121 ⟨rfl, rfl, Nat.le_of_ble_eq_true rfl, Nat.le_of_ble_eq_true rfl⟩ (Nat.le_of_ble_eq_true rfl) rfl rfl rfl rfl (Nat.le_of_ble_eq_true rfl) dX11_share_55 (fun H locs I => ?_)
      refine lv_aload_n hx hb dX11_share_58 rfl (lv_at hl 0 rfl) ?_
      obtain ⟨q8, hq8, h⟩ := bd h
      refine r_callVV (V := (vR E)) (k := 0) (As := []) (rest := []) X I hl (c_X11_tellMost  hq8) yv_X11_tellMost tw_1126 ⟨rfl, rfl, Nat.le_of_ble_eq_true rfl, Nat.le_of_ble_eq_true rfl⟩ (Nat.le_of_ble_eq_true rfl) rfl rfl rfl rfl (Nat.le_of_ble_eq_true rfl) dX11_share_59 (fun H locs I => ?_)
      refine lv_iconst (v := 1) hx hb dX11_share_62 (by decide) ?_
      refine lv_aload_n hx hb dX11_share_63 rfl (lv_at hl 0 rfl) ?_
      refine gfR_X11_55 X I dX11_share_64 ?_
      refine lv_iconst (v := 0) hx hb dX11_share_67 (by decide) ?_
      obtain ⟨hin, h⟩ := gd_some h
      refine ialdR X I (kR_5 E) hin dX11_share_68 ?_
      refine lv_ishl hx hb dX11_share_69 ?_
      refine lv_iconst (v := 1) hx hb dX11_share_70 (by decide) ?_
      refine lv_isub hx hb dX11_share_71 ?_
      obtain ⟨y9, ey9, h⟩ := lt_e h
      refine nm_i ey9 ?_
      refine lv_istore_n (lv' := [(3, .int y9), (0, .ref (ra E 0)), (1, .int x1), (2, .int x2)]) hx hb dX11_share_72 rfl hl (by decide) rfl (fun ls hl => ?_)
      refine lv_iload_n hx hb dX11_share_73 rfl (lv_at hl 2 rfl) ?_
      refine lv_iconst (v := -1) hx hb dX11_share_74 (by decide) ?_
      refine lv_icmp_ne (tgt := 85) hx hb dX11_share_75 (by decide) (fun c10 => ?_) (fun c10 => ?_)
      · have h := ite_f h c10
        refine lv_iconst (v := 0) hx hb dX11_share_85 (by decide) ?_
        refine lv_istore (lv' := [(4, .int (0 : Int32)), (3, .int y9), (0, .ref (ra E 0)), (1, .int x1), (2, .int x2)]) hx hb dX11_share_86 hl (by decide) rfl (fun ls hl => ?_)
        exact w_X11_share_88 X   KF q8 y9 (0 : Int32) h H locs ls I (lv_sub hl [2, 3, 1, 0] rfl)
      · have h := ite_t h c10
        refine lv_aload_n hx hb dX11_share_78 rfl (lv_at hl 1 rfl) ?_
        refine gfR_X11_143 X I dX11_share_79 ?_
        refine lv_iload_n hx hb dX11_share_82 rfl (lv_at hl 0 rfl) ?_
        obtain ⟨hin, h⟩ := gd_some h
        refine ialdR X I (kR_35 E) hin dX11_share_83 ?_
        exact r_iret X I (Option.some.inj h).symm dX11_share_84
    · have h := ite_t h c5
      refine lv_aload_n hx hb dX11_share_43 rfl (lv_at hl 0 rfl) ?_
      refine lv_iconst (v := 2) hx hb dX11_share_44 (by decide) ?_
      obtain ⟨q11, hq11, h⟩ := bd h
      refine r_callVI (V := (vR E)) (k := 0) (As := [.int (2 : Int32)]) (rest := []) X I hl (c_X11_fail  hq11) yv_X11_fail tw_957 ⟨rfl, rfl, Nat.le_of_ble_eq_true rfl, Nat.le_of_ble_eq_true rfl⟩ (Nat.le_of_ble_eq_true rfl) rfl rfl rfl rfl (Nat.le_of_ble_eq_true rfl) dX11_share_45 (fun H locs I => ?_)
      exact r_iret X I (Option.some.inj h).symm dX11_share_48
  · have h := ite_t h c3
    refine lv_aload_n hx hb dX11_share_25 rfl (lv_at hl 0 rfl) ?_
    refine lv_iconst (v := 1) hx hb dX11_share_26 (by decide) ?_
    obtain ⟨q12, hq12, h⟩ := bd h
    refine r_callVI (V := (vR E)) (k := 0) (As := [.int (1 : Int32)]) (rest := []) X I hl (c_X11_fail  hq12) yv_X11_fail tw_957 ⟨rfl, rfl, Nat.le_of_ble_eq_true rfl, Nat.le_of_ble_eq_true rfl⟩ (Nat.le_of_ble_eq_true rfl) rfl rfl rfl rfl (Nat.le_of_ble_eq_true rfl) dX11_share_27 (fun H locs I => ?_)
    exact r_iret X I (Option.some.inj h).symm dX11_share_30
theorem c_X11_share {l : Launch} {E : RE} {σ : Mem} {x1 : Int32} {x2 : Int32} {q : Int32 × Mem} (h : m_X11_share σ x1 x2 = some q) : CI l (vR E) yX11_share (.code yX11_share cX11_share 6 (some .int) :: GG) rm_X11_share [.ref (ra E 0), .int x1, .int x2] σ q :=
  mk_CI (by decide +kernel) (Nat.le_of_ble_eq_true rfl) (fun p e s m args below meth c A ls X I hl => w_X11_share_0 X  σ x1 x2 h s.heap [] ls I (lv_sub hl [0, 1, 2] rfl))

def rm_X11_beside : Room := { frames := 3, cells := 0, slots := 0, locals := 110 }
def m_X11_beside (σ : Mem) (x1 : Int32) : Option (Int32 × Mem) := (lt (ms σ 0 5 (0 : Int32)) fun σ1 => ((m_X11_isTenant σ1 x1).bind fun q2 => (if q2 = (0 : Int32) then ((m_X11_fail σ1 (1 : Int32)).bind fun q6 => (some (q6.1, q6.2))) else ((m_X11_housesOf σ1 x1).bind fun q4 => ((m_X11_next σ1 q4).bind fun q5 => (gd (0 : Int32) 10 (some ((((q5 &&& (((1 : Int32) <<< ((σ1 5 (Int32.toNatClampNeg (0 : Int32))) &&& 31)) - (1 : Int32))) &&& (q4 ^^^ (-1 : Int32))) &&& ((σ1 0 42) ^^^ (-1 : Int32))), σ1))))))))
set_option maxHeartbeats 4000000 in
set_option maxRecDepth 100000 in
theorem w_X11_beside_0 {p : Program} {l : Launch} {e : Env} {s : State} {m : MethodId} {args : Array Value} {below : List Frame} {meth : Method} {c : Code} {A : Nat → Prop} {E : RE} {q : Int32 × Mem} (X : CX p s m meth c args cX11_beside 3 RX11 (some .int)) : ∀ (σ : Mem) (x1 : Int32) , m_X11_beside σ x1 = some q → ∀ (H : Heap) (locs : List Loc) (ls : Array Slot), WI (vR E) A s H locs σ → lv_has ls 3 [(0, .ref (ra E 0)), (1, .int x1)] → W p l e rm_X11_beside s m args below meth c H locs 0 0 (MQ below (QI (vR E) A q) args s 0 0 A) (F0 m 0 ls []) := by
  have hx := X.1
  have hb := X.2.1
  intro σ x1 h H locs ls I hl
  unfold m_X11_beside at h
  refine lv_aload_n hx hb dX11_beside_0 rfl (lv_at hl 0 rfl) ?_
  refine lv_iconst (v := 0) hx hb dX11_beside_1 (by decide) ?_
  refine pfR_X11_195 X I  dX11_beside_2 (fun H locs I => ?_)
  obtain ⟨σ1, eσ1, h⟩ := lt_e h
  replace I := wi_nm eσ1 I
  refine lv_aload_n hx hb dX11_beside_5 rfl (lv_at hl 0 rfl) ?_
  refine lv_iload_n hx hb dX11_beside_6 rfl (lv_at hl 1 rfl) ?_
  obtain ⟨q2, hq2, h⟩ := bd h
  refine r_callVI (V := (vR E)) (k := 0) (As := [.int x1]) (rest := []) X I hl (c_X11_isTenant  hq2) yv_X11_isTenant tw_1061 ⟨rfl, rfl, Nat.le_of_ble_eq_true rfl, Nat.le_of_ble_eq_true rfl⟩ (Nat.le_of_ble_eq_true rfl) rfl rfl rfl rfl (Nat.le_of_ble_eq_true rfl) dX11_beside_7 (fun H locs I => ?_)
  refine lv_if_ne (tgt := 19) hx hb dX11_beside_10 (by decide) (fun c3 => ?_) (fun c3 => ?_)
  · have h := ite_f h c3
    refine lv_aload_n hx hb dX11_beside_19 rfl (lv_at hl 0 rfl) ?_
    refine lv_iload_n hx hb dX11_beside_20 rfl (lv_at hl 1 rfl) ?_
    obtain ⟨q4, hq4, h⟩ := bd h
    refine r_callVI (V := (vR E)) (k := 0) (As := [.int x1]) (rest := []) X I hl (c_X11_housesOf  hq4) yv_X11_housesOf tw_981 ⟨rfl, rfl, Nat.le_of_ble_eq_true rfl, Nat.le_of_ble_eq_true rfl⟩ (Nat.le_of_ble_eq_true rfl) rfl rfl rfl rfl (Nat.le_of_ble_eq_true rfl) dX11_beside_21 (fun H locs I => ?_)
    refine lv_istore_n (lv' := [(2, .int q4), (0, .ref (ra E 0)), (1, .int x1)]) hx hb dX11_beside_24 rfl hl (by decide) rfl (fun ls hl => ?_)
    refine lv_iload_n hx hb dX11_beside_25 rfl (lv_at hl 0 rfl) ?_
    obtain ⟨q5, hq5, h⟩ := bd h
    refine r_callSI (V := (vR E)) (As := [.int q4]) (rest := []) X I hl (c_X11_next  hq5) ys_X11_next tw_1003 ⟨rfl, rfl, Nat.le_of_ble_eq_true rfl, Nat.le_of_ble_eq_true rfl⟩ rfl rfl (Nat.le_of_ble_eq_true rfl) dX11_beside_26 (fun H locs I => ?_)
    refine lv_iconst (v := 1) hx hb dX11_beside_29 (by decide) ?_
    refine lv_aload_n hx hb dX11_beside_30 rfl (lv_at hl 1 rfl) ?_
    refine gfR_X11_55 X I dX11_beside_31 ?_
    refine lv_iconst (v := 0) hx hb dX11_beside_34 (by decide) ?_
    obtain ⟨hin, h⟩ := gd_some h
    refine ialdR X I (kR_5 E) hin dX11_beside_35 ?_
    refine lv_ishl hx hb dX11_beside_36 ?_
    refine lv_iconst (v := 1) hx hb dX11_beside_37 (by decide) ?_
    refine lv_isub hx hb dX11_beside_38 ?_
    refine lv_iand hx hb dX11_beside_39 ?_
    refine lv_iload_n hx hb dX11_beside_40 rfl (lv_at hl 0 rfl) ?_
    refine lv_iconst (v := -1) hx hb dX11_beside_41 (by decide) ?_
    refine lv_ixor hx hb dX11_beside_42 ?_
    refine lv_iand hx hb dX11_beside_43 ?_
    refine lv_aload_n hx hb dX11_beside_44 rfl (lv_at hl 1 rfl) ?_
    refine gfR_X11_344 X I dX11_beside_45 ?_
    refine lv_iconst (v := -1) hx hb dX11_beside_48 (by decide) ?_
    refine lv_ixor hx hb dX11_beside_49 ?_
    refine lv_iand hx hb dX11_beside_50 ?_
    exact r_iret X I (Option.some.inj h).symm dX11_beside_51
  · have h := ite_t h c3
    refine lv_aload_n hx hb dX11_beside_13 rfl (lv_at hl 0 rfl) ?_
    refine lv_iconst (v := 1) hx hb dX11_beside_14 (by decide) ?_
    obtain ⟨q6, hq6, h⟩ := bd h
    refine r_callVI (V := (vR E)) (k := 0) (As := [.int (1 : Int32)]) (rest := []) X I hl (c_X11_fail  hq6) yv_X11_fail tw_957 ⟨rfl, rfl, Nat.le_of_ble_eq_true rfl, Nat.le_of_ble_eq_true rfl⟩ (Nat.le_of_ble_eq_true rfl) rfl rfl rfl rfl (Nat.le_of_ble_eq_true rfl) dX11_beside_15 (fun H locs I => ?_)
    exact r_iret X I (Option.some.inj h).symm dX11_beside_18
theorem c_X11_beside {l : Launch} {E : RE} {σ : Mem} {x1 : Int32} {q : Int32 × Mem} (h : m_X11_beside σ x1 = some q) : CI l (vR E) yX11_beside (.code yX11_beside cX11_beside 3 (some .int) :: GG) rm_X11_beside [.ref (ra E 0), .int x1] σ q :=
  mk_CI (by decide +kernel) (Nat.le_of_ble_eq_true rfl) (fun p e s m args below meth c A ls X I hl => w_X11_beside_0 X  σ x1 h s.heap [] ls I (lv_sub hl [0, 1] rfl))

def rm_X11_oldest : Room := { frames := 2, cells := 0, slots := 0, locals := 85 }
def f_X11_oldest_27 (x1 : Int32) : Nat → Mem → Int32 → Int32 → Int32 → Option (Int32 × Mem)
  | 0, _, _, _, _ => none
  | n + 1, σ, x2, x3, x4 => (gd (0 : Int32) 10 (if (σ 5 (Int32.toNatClampNeg (0 : Int32))) ≤ x4 then (if x1 = (0 : Int32) then (some (x2, σ)) else (some (x3, σ))) else ((m_X11_lifeOf σ x4).bind fun q3 => (gd x4 8 (lt (imax (1 : Int32) (q3 - (σ 20 (Int32.toNatClampNeg x4)))) fun y4 => ((m_X11_isOf σ (σ 0 42) x4).bind fun q5 => (if q5 = (0 : Int32) then (if x2 = (-1 : Int32) then f_X11_oldest_27 x1 n σ x4 y4 (x4 + 1) else (if y4 < x3 then f_X11_oldest_27 x1 n σ x4 y4 (x4 + 1) else f_X11_oldest_27 x1 n σ x2 x3 (x4 + 1))) else f_X11_oldest_27 x1 n σ x2 x3 (x4 + 1))))))))
def m_X11_oldest (σ : Mem) (x1 : Int32) : Option (Int32 × Mem) := (lt (ms σ 0 5 (0 : Int32)) fun σ1 => (if x1 < (0 : Int32) then ((m_X11_fail σ1 (1 : Int32)).bind fun q3 => (some (q3.1, q3.2))) else (if x1 ≤ (1 : Int32) then (f_X11_oldest_27 x1 KF σ1 (-1 : Int32) (-1 : Int32) (0 : Int32)) else ((m_X11_fail σ1 (1 : Int32)).bind fun q5 => (some (q5.1, q5.2))))))
set_option maxHeartbeats 4000000 in
set_option maxRecDepth 100000 in
theorem w_X11_oldest_27 {p : Program} {l : Launch} {e : Env} {s : State} {m : MethodId} {args : Array Value} {below : List Frame} {meth : Method} {c : Code} {A : Nat → Prop} {E : RE} {q : Int32 × Mem} (X : CX p s m meth c args cX11_oldest 6 RX11 (some .int)) {x1 : Int32} : ∀ (n : Nat), ∀ (σ : Mem) (x2 : Int32) (x3 : Int32) (x4 : Int32) , f_X11_oldest_27 x1 n σ x2 x3 x4 = some q → ∀ (H : Heap) (locs : List Loc) (ls : Array Slot), WI (vR E) A s H locs σ → lv_has ls 6 [(0, .ref (ra E 0)), (1, .int x1), (2, .int x2), (3, .int x3), (4, .int x4)] → W p l e rm_X11_oldest s m args below meth c H locs 0 0 (MQ below (QI (vR E) A q) args s 0 0 A) (F0 m 27 ls []) := by
  have hx := X.1
  have hb := X.2.1
  intro n
  induction n with
  | zero =>
    intro σ x2 x3 x4 h
    cases h
  | succ n ih =>
    intro σ x2 x3 x4 h H locs ls I hl
    rw [f_X11_oldest_27] at h
    refine lv_iload hx hb dX11_oldest_27 (lv_at hl 4 rfl) ?_
    refine lv_aload_n hx hb dX11_oldest_29 rfl (lv_at hl 0 rfl) ?_
    refine gfR_X11_55 X I dX11_oldest_30 ?_
    refine lv_iconst (v := 0) hx hb dX11_oldest_33 (by decide) ?_
    obtain ⟨hin, h⟩ := gd_some h
    refine ialdR X I (kR_5 E) hin dX11_oldest_34 ?_
    refine lv_icmp_ge (tgt := 96) hx hb dX11_oldest_35 (by decide) (fun c1 => ?_) (fun c1 => ?_)
    · have h := ite_t h c1
      refine lv_iload_n hx hb dX11_oldest_96 rfl (lv_at hl 1 rfl) ?_
      refine lv_if_ne (tgt := 104) hx hb dX11_oldest_97 (by decide) (fun c2 => ?_) (fun c2 => ?_)
      · have h := ite_f h c2
        refine lv_iload_n hx hb dX11_oldest_104 rfl (lv_at hl 3 rfl) ?_
        exact r_iret X I (Option.some.inj h).symm dX11_oldest_105
      · have h := ite_t h c2
        refine lv_iload_n hx hb dX11_oldest_100 rfl (lv_at hl 2 rfl) ?_
        refine lv_goto (tgt := 105) hx hb dX11_oldest_101 (by decide) ?_
        exact r_iret X I (Option.some.inj h).symm dX11_oldest_105
    · have h := ite_f h c1
      refine lv_iconst (v := 1) hx hb dX11_oldest_38 (by decide) ?_
      refine lv_aload_n hx hb dX11_oldest_39 rfl (lv_at hl 0 rfl) ?_
      refine lv_iload hx hb dX11_oldest_40 (lv_at hl 4 rfl) ?_
      obtain ⟨q3, hq3, h⟩ := bd h
      refine r_callVI (V := (vR E)) (k := 0) (As := [.int x4]) (rest := [.int (1 : Int32)]) X I hl (c_X11_lifeOf  hq3) yv_X11_lifeOf tw_1007 ⟨rfl, rfl, Nat.le_of_ble_eq_true rfl, Nat.le_of_ble_eq_true rfl⟩ (Nat.le_of_ble_eq_true rfl) rfl rfl rfl rfl (Nat.le_of_ble_eq_true rfl) dX11_oldest_42 (fun H locs I => ?_)
      refine lv_aload_n hx hb dX11_oldest_45 rfl (lv_at hl 0 rfl) ?_
      refine gfR_X11_102 X I dX11_oldest_46 ?_
      refine lv_iload hx hb dX11_oldest_49 (lv_at hl 4 rfl) ?_
      obtain ⟨hin, h⟩ := gd_some h
      refine ialdR X I (kR_20 E) hin dX11_oldest_51 ?_
      refine lv_isub hx hb dX11_oldest_52 ?_
      refine r_max X hl tw_998 ⟨Nat.le_of_ble_eq_true rfl, Nat.le_of_ble_eq_true rfl⟩ dX11_oldest_53 ?_
      obtain ⟨y4, ey4, h⟩ := lt_e h
      refine nm_i ey4 ?_
      refine lv_istore (lv' := [(5, .int y4), (0, .ref (ra E 0)), (1, .int x1), (2, .int x2), (3, .int x3), (4, .int x4)]) hx hb dX11_oldest_56 hl (by decide) rfl (fun ls hl => ?_)
      refine lv_aload_n hx hb dX11_oldest_58 rfl (lv_at hl 1 rfl) ?_
      refine gfR_X11_344 X I dX11_oldest_59 ?_
      refine lv_iload hx hb dX11_oldest_62 (lv_at hl 5 rfl) ?_
      obtain ⟨q5, hq5, h⟩ := bd h
      refine r_callSI (V := (vR E)) (As := [.int (σ 0 42), .int x4]) (rest := []) X I hl (c_X11_isOf  hq5) ys_X11_isOf tw_1012 ⟨rfl, rfl, Nat.le_of_ble_eq_true rfl, Nat.le_of_ble_eq_true rfl⟩ rfl rfl (Nat.le_of_ble_eq_true rfl) dX11_oldest_64 (fun H locs I => ?_)
      refine lv_if_ne (tgt := 90) hx hb dX11_oldest_67 (by decide) (fun c6 => ?_) (fun c6 => ?_)
      · have h := ite_f h c6
        refine lv_iinc (v := (x4 + 1)) (lv' := [(4, .int (x4 + 1)), (5, .int y4), (0, .ref (ra E 0)), (1, .int x1), (2, .int x2), (3, .int x3)]) hx hb dX11_oldest_90 hl (k := 5) rfl rfl (by decide) rfl (fun ls hl => ?_)
        refine lv_goto (tgt := 27) hx hb dX11_oldest_93 (by decide) ?_
        exact ih σ x2 x3 (x4 + 1) h H locs ls I (lv_sub hl [2, 3, 4, 5, 0] rfl)
      · have h := ite_t h c6
        refine lv_iload_n hx hb dX11_oldest_70 rfl (lv_at hl 3 rfl) ?_
        refine lv_iconst (v := -1) hx hb dX11_oldest_71 (by decide) ?_
        refine lv_icmp_eq (tgt := 84) hx hb dX11_oldest_72 (by decide) (fun c7 => ?_) (fun c7 => ?_)
        · have h := ite_t h c7
          refine lv_iload hx hb dX11_oldest_84 (lv_at hl 5 rfl) ?_
          refine lv_istore_n (lv' := [(2, .int x4), (5, .int y4), (0, .ref (ra E 0)), (1, .int x1), (3, .int x3), (4, .int x4)]) hx hb dX11_oldest_86 rfl hl (by decide) rfl (fun ls hl => ?_)
          refine lv_iload hx hb dX11_oldest_87 (lv_at hl 1 rfl) ?_
          refine lv_istore_n (lv' := [(3, .int y4), (2, .int x4), (5, .int y4), (0, .ref (ra E 0)), (1, .int x1), (4, .int x4)]) hx hb dX11_oldest_89 rfl hl (by decide) rfl (fun ls hl => ?_)
          refine lv_iinc (v := (x4 + 1)) (lv' := [(4, .int (x4 + 1)), (3, .int y4), (2, .int x4), (5, .int y4), (0, .ref (ra E 0)), (1, .int x1)]) hx hb dX11_oldest_90 hl (k := 5) rfl rfl (by decide) rfl (fun ls hl => ?_)
          refine lv_goto (tgt := 27) hx hb dX11_oldest_93 (by decide) ?_
          exact ih σ x4 y4 (x4 + 1) h H locs ls I (lv_sub hl [4, 5, 2, 1, 0] rfl)
        · have h := ite_f h c7
          refine lv_iload hx hb dX11_oldest_75 (lv_at hl 0 rfl) ?_
          refine lv_iload_n hx hb dX11_oldest_77 rfl (lv_at hl 4 rfl) ?_
          refine lv_icmp_lt (tgt := 84) hx hb dX11_oldest_78 (by decide) (fun c8 => ?_) (fun c8 => ?_)
          · have h := ite_t h c8
            refine lv_iload hx hb dX11_oldest_84 (lv_at hl 5 rfl) ?_
            refine lv_istore_n (lv' := [(2, .int x4), (5, .int y4), (0, .ref (ra E 0)), (1, .int x1), (3, .int x3), (4, .int x4)]) hx hb dX11_oldest_86 rfl hl (by decide) rfl (fun ls hl => ?_)
            refine lv_iload hx hb dX11_oldest_87 (lv_at hl 1 rfl) ?_
            refine lv_istore_n (lv' := [(3, .int y4), (2, .int x4), (5, .int y4), (0, .ref (ra E 0)), (1, .int x1), (4, .int x4)]) hx hb dX11_oldest_89 rfl hl (by decide) rfl (fun ls hl => ?_)
            refine lv_iinc (v := (x4 + 1)) (lv' := [(4, .int (x4 + 1)), (3, .int y4), (2, .int x4), (5, .int y4), (0, .ref (ra E 0)), (1, .int x1)]) hx hb dX11_oldest_90 hl (k := 5) rfl rfl (by decide) rfl (fun ls hl => ?_)
            refine lv_goto (tgt := 27) hx hb dX11_oldest_93 (by decide) ?_
            exact ih σ x4 y4 (x4 + 1) h H locs ls I (lv_sub hl [4, 5, 2, 1, 0] rfl)
          · have h := ite_f h c8
            refine lv_goto (tgt := 90) hx hb dX11_oldest_81 (by decide) ?_
            refine lv_iinc (v := (x4 + 1)) (lv' := [(4, .int (x4 + 1)), (5, .int y4), (0, .ref (ra E 0)), (1, .int x1), (2, .int x2), (3, .int x3)]) hx hb dX11_oldest_90 hl (k := 5) rfl rfl (by decide) rfl (fun ls hl => ?_)
            refine lv_goto (tgt := 27) hx hb dX11_oldest_93 (by decide) ?_
            exact ih σ x2 x3 (x4 + 1) h H locs ls I (lv_sub hl [2, 3, 4, 5, 0] rfl)
set_option maxHeartbeats 4000000 in
set_option maxRecDepth 100000 in
theorem w_X11_oldest_0 {p : Program} {l : Launch} {e : Env} {s : State} {m : MethodId} {args : Array Value} {below : List Frame} {meth : Method} {c : Code} {A : Nat → Prop} {E : RE} {q : Int32 × Mem} (X : CX p s m meth c args cX11_oldest 6 RX11 (some .int)) : ∀ (σ : Mem) (x1 : Int32) , m_X11_oldest σ x1 = some q → ∀ (H : Heap) (locs : List Loc) (ls : Array Slot), WI (vR E) A s H locs σ → lv_has ls 6 [(0, .ref (ra E 0)), (1, .int x1)] → W p l e rm_X11_oldest s m args below meth c H locs 0 0 (MQ below (QI (vR E) A q) args s 0 0 A) (F0 m 0 ls []) := by
  have hx := X.1
  have hb := X.2.1
  intro σ x1 h H locs ls I hl
  unfold m_X11_oldest at h
  refine lv_aload_n hx hb dX11_oldest_0 rfl (lv_at hl 0 rfl) ?_
  refine lv_iconst (v := 0) hx hb dX11_oldest_1 (by decide) ?_
  refine pfR_X11_195 X I  dX11_oldest_2 (fun H locs I => ?_)
  obtain ⟨σ1, eσ1, h⟩ := lt_e h
  replace I := wi_nm eσ1 I
  refine lv_iload_n hx hb dX11_oldest_5 rfl (lv_at hl 1 rfl) ?_
  refine lv_if_lt (tgt := 14) hx hb dX11_oldest_6 (by decide) (fun c2 => ?_) (fun c2 => ?_)
  · have h := ite_t h c2
    refine lv_aload_n hx hb dX11_oldest_14 rfl (lv_at hl 0 rfl) ?_
    refine lv_iconst (v := 1) hx hb dX11_oldest_15 (by decide) ?_
    obtain ⟨q3, hq3, h⟩ := bd h
    refine r_callVI (V := (vR E)) (k := 0) (As := [.int (1 : Int32)]) (rest := []) X I hl (c_X11_fail  hq3) yv_X11_fail tw_957 ⟨rfl, rfl, Nat.le_of_ble_eq_true rfl, Nat.le_of_ble_eq_true rfl⟩ (Nat.le_of_ble_eq_true rfl) rfl rfl rfl rfl (Nat.le_of_ble_eq_true rfl) dX11_oldest_16 (fun H locs I => ?_)
    exact r_iret X I (Option.some.inj h).symm dX11_oldest_19
  · have h := ite_f h c2
    refine lv_iload_n hx hb dX11_oldest_9 rfl (lv_at hl 1 rfl) ?_
    refine lv_iconst (v := 1) hx hb dX11_oldest_10 (by decide) ?_
    refine lv_icmp_le (tgt := 20) hx hb dX11_oldest_11 (by decide) (fun c4 => ?_) (fun c4 => ?_)
    · have h := ite_t h c4
      refine lv_iconst (v := -1) hx hb dX11_oldest_20 (by decide) ?_
      refine lv_istore_n (lv' := [(2, .int (-1 : Int32)), (0, .ref (ra E 0)), (1, .int x1)]) hx hb dX11_oldest_21 rfl hl (by decide) rfl (fun ls hl => ?_)
      refine lv_iconst (v := -1) hx hb dX11_oldest_22 (by decide) ?_
      refine lv_istore_n (lv' := [(3, .int (-1 : Int32)), (2, .int (-1 : Int32)), (0, .ref (ra E 0)), (1, .int x1)]) hx hb dX11_oldest_23 rfl hl (by decide) rfl (fun ls hl => ?_)
      refine lv_iconst (v := 0) hx hb dX11_oldest_24 (by decide) ?_
      refine lv_istore (lv' := [(4, .int (0 : Int32)), (3, .int (-1 : Int32)), (2, .int (-1 : Int32)), (0, .ref (ra E 0)), (1, .int x1)]) hx hb dX11_oldest_25 hl (by decide) rfl (fun ls hl => ?_)
      exact w_X11_oldest_27 X   KF σ1 (-1 : Int32) (-1 : Int32) (0 : Int32) h H locs ls I (lv_sub hl [3, 4, 2, 1, 0] rfl)
    · have h := ite_f h c4
      refine lv_aload_n hx hb dX11_oldest_14 rfl (lv_at hl 0 rfl) ?_
      refine lv_iconst (v := 1) hx hb dX11_oldest_15 (by decide) ?_
      obtain ⟨q5, hq5, h⟩ := bd h
      refine r_callVI (V := (vR E)) (k := 0) (As := [.int (1 : Int32)]) (rest := []) X I hl (c_X11_fail  hq5) yv_X11_fail tw_957 ⟨rfl, rfl, Nat.le_of_ble_eq_true rfl, Nat.le_of_ble_eq_true rfl⟩ (Nat.le_of_ble_eq_true rfl) rfl rfl rfl rfl (Nat.le_of_ble_eq_true rfl) dX11_oldest_16 (fun H locs I => ?_)
      exact r_iret X I (Option.some.inj h).symm dX11_oldest_19
theorem c_X11_oldest {l : Launch} {E : RE} {σ : Mem} {x1 : Int32} {q : Int32 × Mem} (h : m_X11_oldest σ x1 = some q) : CI l (vR E) yX11_oldest (.code yX11_oldest cX11_oldest 6 (some .int) :: GG) rm_X11_oldest [.ref (ra E 0), .int x1] σ q :=
  mk_CI (by decide +kernel) (Nat.le_of_ble_eq_true rfl) (fun p e s m args below meth c A ls X I hl => w_X11_oldest_0 X  σ x1 h s.heap [] ls I (lv_sub hl [0, 1] rfl))

def rm_X11_envy : Room := { frames := 5, cells := 0, slots := 0, locals := 157 }
def f_X11_envy_27 (x1 : Int32) : Nat → Mem → Int32 → Int32 → Option (Int32 × Mem)
  | 0, _, _, _ => none
  | n + 1, σ, x2, x3 => (gd (0 : Int32) 10 (if (σ 5 (Int32.toNatClampNeg (0 : Int32))) ≤ x3 then (some (x2, σ)) else (gd x3 8 (if (σ 23 (Int32.toNatClampNeg x3)) = (-1 : Int32) then (lt (x2 ||| (0 : Int32)) fun y3 => f_X11_envy_27 x1 n σ y3 (x3 + 1)) else (gd x3 8 (if (σ 23 (Int32.toNatClampNeg x3)) = x1 then (lt (x2 ||| (0 : Int32)) fun y5 => f_X11_envy_27 x1 n σ y5 (x3 + 1)) else ((m_X11_likingOf σ x3 x1).bind fun q6 => (gd x3 8 ((m_X11_likingOf q6.2 x3 (q6.2 23 (Int32.toNatClampNeg x3))).bind fun q7 => (if q6.1 ≤ q7.1 then (lt (x2 ||| (0 : Int32)) fun y9 => f_X11_envy_27 x1 n q7.2 y9 (x3 + 1)) else (lt (x2 ||| ((1 : Int32) <<< (x3 &&& 31))) fun y10 => f_X11_envy_27 x1 n q7.2 y10 (x3 + 1))))))))))))
def m_X11_envy (σ : Mem) (x1 : Int32) : Option (Int32 × Mem) := (lt (ms σ 0 5 (0 : Int32)) fun σ1 => ((m_X11_isTenant σ1 x1).bind fun q2 => (if q2 = (0 : Int32) then ((m_X11_fail σ1 (1 : Int32)).bind fun q5 => (some (q5.1, q5.2))) else ((m_X11_tellBegun σ1).bind fun q4 => (f_X11_envy_27 x1 KF q4 (0 : Int32) (0 : Int32))))))
set_option maxHeartbeats 4000000 in
set_option maxRecDepth 100000 in
theorem w_X11_envy_27 {p : Program} {l : Launch} {e : Env} {s : State} {m : MethodId} {args : Array Value} {below : List Frame} {meth : Method} {c : Code} {A : Nat → Prop} {E : RE} {q : Int32 × Mem} (X : CX p s m meth c args cX11_envy 4 RX11 (some .int)) {x1 : Int32} : ∀ (n : Nat), ∀ (σ : Mem) (x2 : Int32) (x3 : Int32) , f_X11_envy_27 x1 n σ x2 x3 = some q → ∀ (H : Heap) (locs : List Loc) (ls : Array Slot), WI (vR E) A s H locs σ → lv_has ls 4 [(0, .ref (ra E 0)), (1, .int x1), (2, .int x2), (3, .int x3)] → W p l e rm_X11_envy s m args below meth c H locs 0 0 (MQ below (QI (vR E) A q) args s 0 0 A) (F0 m 27 ls []) := by
  have hx := X.1
  have hb := X.2.1
  intro n
  induction n with
  | zero =>
    intro σ x2 x3 h
    cases h
  | succ n ih =>
    intro σ x2 x3 h H locs ls I hl
    rw [f_X11_envy_27] at h
    refine lv_iload_n hx hb dX11_envy_27 rfl (lv_at hl 3 rfl) ?_
    refine lv_aload_n hx hb dX11_envy_28 rfl (lv_at hl 0 rfl) ?_
    refine gfR_X11_55 X I dX11_envy_29 ?_
    refine lv_iconst (v := 0) hx hb dX11_envy_32 (by decide) ?_
    obtain ⟨hin, h⟩ := gd_some h
    refine ialdR X I (kR_5 E) hin dX11_envy_33 ?_
    refine lv_icmp_ge (tgt := 93) hx hb dX11_envy_34 (by decide) (fun c1 => ?_) (fun c1 => ?_)
    · have h := ite_t h c1
      refine lv_iload_n hx hb dX11_envy_93 rfl (lv_at hl 2 rfl) ?_
      exact r_iret X I (Option.some.inj h).symm dX11_envy_94
    · have h := ite_f h c1
      refine lv_iload_n hx hb dX11_envy_37 rfl (lv_at hl 2 rfl) ?_
      refine lv_aload_n hx hb dX11_envy_38 rfl (lv_at hl 0 rfl) ?_
      refine gfR_X11_110 X I dX11_envy_39 ?_
      refine lv_iload_n hx hb dX11_envy_42 rfl (lv_at hl 3 rfl) ?_
      obtain ⟨hin, h⟩ := gd_some h
      refine ialdR X I (kR_23 E) hin dX11_envy_43 ?_
      refine lv_iconst (v := -1) hx hb dX11_envy_44 (by decide) ?_
      refine lv_icmp_eq (tgt := 84) hx hb dX11_envy_45 (by decide) (fun c2 => ?_) (fun c2 => ?_)
      · have h := ite_t h c2
        refine lv_iconst (v := 0) hx hb dX11_envy_84 (by decide) ?_
        refine lv_ior hx hb dX11_envy_85 ?_
        obtain ⟨y3, ey3, h⟩ := lt_e h
        refine nm_i ey3 ?_
        refine lv_istore_n (lv' := [(2, .int y3), (0, .ref (ra E 0)), (1, .int x1), (3, .int x3)]) hx hb dX11_envy_86 rfl hl (by decide) rfl (fun ls hl => ?_)
        refine lv_iinc (v := (x3 + 1)) (lv' := [(3, .int (x3 + 1)), (2, .int y3), (0, .ref (ra E 0)), (1, .int x1)]) hx hb dX11_envy_87 hl (k := 3) rfl rfl (by decide) rfl (fun ls hl => ?_)
        refine lv_goto (tgt := 27) hx hb dX11_envy_90 (by decide) ?_
        exact ih σ y3 (x3 + 1) h H locs ls I (lv_sub hl [2, 3, 1, 0] rfl)
      · have h := ite_f h c2
        refine lv_aload_n hx hb dX11_envy_48 rfl (lv_at hl 0 rfl) ?_
        refine gfR_X11_110 X I dX11_envy_49 ?_
        refine lv_iload_n hx hb dX11_envy_52 rfl (lv_at hl 3 rfl) ?_
        obtain ⟨hin, h⟩ := gd_some h
        refine ialdR X I (kR_23 E) hin dX11_envy_53 ?_
        refine lv_iload_n hx hb dX11_envy_54 rfl (lv_at hl 1 rfl) ?_
        refine lv_icmp_eq (tgt := 84) hx hb dX11_envy_55 (by decide) (fun c4 => ?_) (fun c4 => ?_)
        · have h := ite_t h c4
          refine lv_iconst (v := 0) hx hb dX11_envy_84 (by decide) ?_
          refine lv_ior hx hb dX11_envy_85 ?_
          obtain ⟨y5, ey5, h⟩ := lt_e h
          refine nm_i ey5 ?_
          refine lv_istore_n (lv' := [(2, .int y5), (0, .ref (ra E 0)), (1, .int x1), (3, .int x3)]) hx hb dX11_envy_86 rfl hl (by decide) rfl (fun ls hl => ?_)
          refine lv_iinc (v := (x3 + 1)) (lv' := [(3, .int (x3 + 1)), (2, .int y5), (0, .ref (ra E 0)), (1, .int x1)]) hx hb dX11_envy_87 hl (k := 3) rfl rfl (by decide) rfl (fun ls hl => ?_)
          refine lv_goto (tgt := 27) hx hb dX11_envy_90 (by decide) ?_
          exact ih σ y5 (x3 + 1) h H locs ls I (lv_sub hl [2, 3, 1, 0] rfl)
        · have h := ite_f h c4
          refine lv_aload_n hx hb dX11_envy_58 rfl (lv_at hl 0 rfl) ?_
          refine lv_iload_n hx hb dX11_envy_59 rfl (lv_at hl 3 rfl) ?_
          refine lv_iload_n hx hb dX11_envy_60 rfl (lv_at hl 1 rfl) ?_
          obtain ⟨q6, hq6, h⟩ := bd h
          refine r_callVI (V := (vR E)) (k := 0) (As := [.int x3, .int x1]) (rest := [.int x2]) X I hl (c_X11_likingOf  hq6) yv_X11_likingOf tw_1102 ⟨rfl, rfl, Nat.le_of_ble_eq_true rfl, Nat.le_of_ble_eq_true rfl⟩ (Nat.le_of_ble_eq_true rfl) rfl rfl rfl rfl (Nat.le_of_ble_eq_true rfl) dX11_envy_61 (fun H locs I => ?_)
          refine lv_aload_n hx hb dX11_envy_64 rfl (lv_at hl 0 rfl) ?_
          refine lv_iload_n hx hb dX11_envy_65 rfl (lv_at hl 3 rfl) ?_
          refine lv_aload_n hx hb dX11_envy_66 rfl (lv_at hl 0 rfl) ?_
          refine gfR_X11_110 X I dX11_envy_67 ?_
          refine lv_iload_n hx hb dX11_envy_70 rfl (lv_at hl 3 rfl) ?_
          obtain ⟨hin, h⟩ := gd_some h
          refine ialdR X I (kR_23 E) hin dX11_envy_71 ?_
          obtain ⟨q7, hq7, h⟩ := bd h
          refine r_callVI (V := (vR E)) (k := 0) (As := [.int x3, .int (q6.2 23 (Int32.toNatClampNeg x3))]) (rest := [.int q6.1, .int x2]) X I hl (c_X11_likingOf  hq7) yv_X11_likingOf tw_1102 ⟨rfl, rfl, Nat.le_of_ble_eq_true rfl, Nat.le_of_ble_eq_true rfl⟩ (Nat.le_of_ble_eq_true rfl) rfl rfl rfl rfl (Nat.le_of_ble_eq_true rfl) dX11_envy_72 (fun H locs I => ?_)
          refine lv_icmp_le (tgt := 84) hx hb dX11_envy_75 (by decide) (fun c8 => ?_) (fun c8 => ?_)
          · have h := ite_t h c8
            refine lv_iconst (v := 0) hx hb dX11_envy_84 (by decide) ?_
            refine lv_ior hx hb dX11_envy_85 ?_
            obtain ⟨y9, ey9, h⟩ := lt_e h
            refine nm_i ey9 ?_
            refine lv_istore_n (lv' := [(2, .int y9), (0, .ref (ra E 0)), (1, .int x1), (3, .int x3)]) hx hb dX11_envy_86 rfl hl (by decide) rfl (fun ls hl => ?_)
            refine lv_iinc (v := (x3 + 1)) (lv' := [(3, .int (x3 + 1)), (2, .int y9), (0, .ref (ra E 0)), (1, .int x1)]) hx hb dX11_envy_87 hl (k := 3) rfl rfl (by decide) rfl (fun ls hl => ?_)
            refine lv_goto (tgt := 27) hx hb dX11_envy_90 (by decide) ?_
            exact ih q7.2 y9 (x3 + 1) h H locs ls I (lv_sub hl [2, 3, 1, 0] rfl)
          · have h := ite_f h c8
            refine lv_iconst (v := 1) hx hb dX11_envy_78 (by decide) ?_
            refine lv_iload_n hx hb dX11_envy_79 rfl (lv_at hl 3 rfl) ?_
            refine lv_ishl hx hb dX11_envy_80 ?_
            refine lv_goto (tgt := 85) hx hb dX11_envy_81 (by decide) ?_
            refine lv_ior hx hb dX11_envy_85 ?_
            obtain ⟨y10, ey10, h⟩ := lt_e h
            refine nm_i ey10 ?_
            refine lv_istore_n (lv' := [(2, .int y10), (0, .ref (ra E 0)), (1, .int x1), (3, .int x3)]) hx hb dX11_envy_86 rfl hl (by decide) rfl (fun ls hl => ?_)
            refine lv_iinc (v := (x3 + 1)) (lv' := [(3, .int (x3 + 1)), (2, .int y10), (0, .ref (ra E 0)), (1, .int x1)]) hx hb dX11_envy_87 hl (k := 3) rfl rfl (by decide) rfl (fun ls hl => ?_)
            refine lv_goto (tgt := 27) hx hb dX11_envy_90 (by decide) ?_
            exact ih q7.2 y10 (x3 + 1) h H locs ls I (lv_sub hl [2, 3, 1, 0] rfl)
set_option maxHeartbeats 4000000 in
set_option maxRecDepth 100000 in
theorem w_X11_envy_0 {p : Program} {l : Launch} {e : Env} {s : State} {m : MethodId} {args : Array Value} {below : List Frame} {meth : Method} {c : Code} {A : Nat → Prop} {E : RE} {q : Int32 × Mem} (X : CX p s m meth c args cX11_envy 4 RX11 (some .int)) : ∀ (σ : Mem) (x1 : Int32) , m_X11_envy σ x1 = some q → ∀ (H : Heap) (locs : List Loc) (ls : Array Slot), WI (vR E) A s H locs σ → lv_has ls 4 [(0, .ref (ra E 0)), (1, .int x1)] → W p l e rm_X11_envy s m args below meth c H locs 0 0 (MQ below (QI (vR E) A q) args s 0 0 A) (F0 m 0 ls []) := by
  have hx := X.1
  have hb := X.2.1
  intro σ x1 h H locs ls I hl
  unfold m_X11_envy at h
  refine lv_aload_n hx hb dX11_envy_0 rfl (lv_at hl 0 rfl) ?_
  refine lv_iconst (v := 0) hx hb dX11_envy_1 (by decide) ?_
  refine pfR_X11_195 X I  dX11_envy_2 (fun H locs I => ?_)
  obtain ⟨σ1, eσ1, h⟩ := lt_e h
  replace I := wi_nm eσ1 I
  refine lv_aload_n hx hb dX11_envy_5 rfl (lv_at hl 0 rfl) ?_
  refine lv_iload_n hx hb dX11_envy_6 rfl (lv_at hl 1 rfl) ?_
  obtain ⟨q2, hq2, h⟩ := bd h
  refine r_callVI (V := (vR E)) (k := 0) (As := [.int x1]) (rest := []) X I hl (c_X11_isTenant  hq2) yv_X11_isTenant tw_1061 ⟨rfl, rfl, Nat.le_of_ble_eq_true rfl, Nat.le_of_ble_eq_true rfl⟩ (Nat.le_of_ble_eq_true rfl) rfl rfl rfl rfl (Nat.le_of_ble_eq_true rfl) dX11_envy_7 (fun H locs I => ?_)
  refine lv_if_ne (tgt := 19) hx hb dX11_envy_10 (by decide) (fun c3 => ?_) (fun c3 => ?_)
  · have h := ite_f h c3
    refine lv_aload_n hx hb dX11_envy_19 rfl (lv_at hl 0 rfl) ?_
    obtain ⟨q4, hq4, h⟩ := bd h
    refine r_callVV (V := (vR E)) (k := 0) (As := []) (rest := []) X I hl (c_X11_tellBegun  hq4) yv_X11_tellBegun tw_1026 ⟨rfl, rfl, Nat.le_of_ble_eq_true rfl, Nat.le_of_ble_eq_true rfl⟩ (Nat.le_of_ble_eq_true rfl) rfl rfl rfl rfl (Nat.le_of_ble_eq_true rfl) dX11_envy_20 (fun H locs I => ?_)
    refine lv_iconst (v := 0) hx hb dX11_envy_23 (by decide) ?_
    refine lv_istore_n (lv' := [(2, .int (0 : Int32)), (0, .ref (ra E 0)), (1, .int x1)]) hx hb dX11_envy_24 rfl hl (by decide) rfl (fun ls hl => ?_)
    refine lv_iconst (v := 0) hx hb dX11_envy_25 (by decide) ?_
    refine lv_istore_n (lv' := [(3, .int (0 : Int32)), (2, .int (0 : Int32)), (0, .ref (ra E 0)), (1, .int x1)]) hx hb dX11_envy_26 rfl hl (by decide) rfl (fun ls hl => ?_)
    exact w_X11_envy_27 X   KF q4 (0 : Int32) (0 : Int32) h H locs ls I (lv_sub hl [2, 3, 1, 0] rfl)
  · have h := ite_t h c3
    refine lv_aload_n hx hb dX11_envy_13 rfl (lv_at hl 0 rfl) ?_
    refine lv_iconst (v := 1) hx hb dX11_envy_14 (by decide) ?_
    obtain ⟨q5, hq5, h⟩ := bd h
    refine r_callVI (V := (vR E)) (k := 0) (As := [.int (1 : Int32)]) (rest := []) X I hl (c_X11_fail  hq5) yv_X11_fail tw_957 ⟨rfl, rfl, Nat.le_of_ble_eq_true rfl, Nat.le_of_ble_eq_true rfl⟩ (Nat.le_of_ble_eq_true rfl) rfl rfl rfl rfl (Nat.le_of_ble_eq_true rfl) dX11_envy_15 (fun H locs I => ?_)
    exact r_iret X I (Option.some.inj h).symm dX11_envy_18
theorem c_X11_envy {l : Launch} {E : RE} {σ : Mem} {x1 : Int32} {q : Int32 × Mem} (h : m_X11_envy σ x1 = some q) : CI l (vR E) yX11_envy (.code yX11_envy cX11_envy 4 (some .int) :: GG) rm_X11_envy [.ref (ra E 0), .int x1] σ q :=
  mk_CI (by decide +kernel) (Nat.le_of_ble_eq_true rfl) (fun p e s m args below meth c A ls X I hl => w_X11_envy_0 X  σ x1 h s.heap [] ls I (lv_sub hl [0, 1] rfl))

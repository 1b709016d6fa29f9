def rm_X10_gets : Room := { frames := 8, cells := 2, slots := 12, locals := 221 }
def m_X10_gets (σ : Mem) (x1 : Int32) (x2 : Int32) : Option ((Nat × Mem) ⊕ (Int32 × Mem)) := (xb (m_X10_needTenant σ x1) fun σ2 => (xb (m_X10_needHouse σ2 x2) fun σ4 => ((m_X10_firstWhen σ4 x2 x1 (1 : Int32)).bind fun q5 => (some (.inr (q5.1, q5.2))))))
set_option maxHeartbeats 4000000 in
set_option maxRecDepth 100000 in
theorem w_X10_gets_0 {p : Program} {l : Launch} {e : Env} {s : State} {m : MethodId} {args : Array Value} {below : List Frame} {meth : Method} {c : Code} {A : Nat → Prop} {E : CE} {q : (Nat × Mem) ⊕ (Int32 × Mem)} (X : CX p s m meth c args cX10_gets 3 RX10 (some .int)) (hlt : l.stackTraces = false) (hex : ∀ x ∈ c.exceptionTable.toList, False) : ∀ (σ : Mem) (x1 : Int32) (x2 : Int32) , m_X10_gets σ x1 x2 = some q → ∀ (H : Heap) (locs : List Loc) (ls : Array Slot), WI (vC E) A s H locs σ → lv_has ls 3 [(0, .ref (ca E 0)), (1, .int x1), (2, .int x2)] → W p l e rm_X10_gets s m args below meth c H locs 0 0 (vx_MQ below (QXI (vC E) A q) (XX (vC E) A q) args s 2 12 A) (F0 m 0 ls []) := by
  have hx := X.1
  have hb := X.2.1
  intro σ x1 x2 h H locs ls I hl
  unfold m_X10_gets at h
  refine lv_aload_n hx hb dX10_gets_0 rfl (lv_at hl 0 rfl) ?_
  refine lv_iload_n hx hb dX10_gets_1 rfl (lv_at hl 1 rfl) ?_
  obtain ⟨q1, hq1, h⟩ := xb_e h
  refine r_callXV (V := (vC E)) (k := 0) (As := [.int x1]) (rest := []) X hex I hl (c_X10_needTenant hlt hq1) yv_X10_needTenant tw_558 ⟨rfl, rfl, Nat.le_of_ble_eq_true rfl, Nat.le_of_ble_eq_true rfl⟩ (kC_0 E).1 rfl rfl rfl rfl (Nat.le_of_ble_eq_true rfl) ⟨Nat.le_of_ble_eq_true rfl, Nat.le_of_ble_eq_true rfl⟩ ⟨Nat.le_of_ble_eq_true rfl, Nat.le_of_ble_eq_true rfl⟩ dX10_gets_2 h (fun σ2 h H locs I => ?_)
  refine lv_aload_n hx hb dX10_gets_5 rfl (lv_at hl 0 rfl) ?_
  refine lv_iload_n hx hb dX10_gets_6 rfl (lv_at hl 2 rfl) ?_
  obtain ⟨q3, hq3, h⟩ := xb_e h
  refine r_callXV (V := (vC E)) (k := 0) (As := [.int x2]) (rest := []) X hex I hl (c_X10_needHouse hlt hq3) yv_X10_needHouse tw_545 ⟨rfl, rfl, Nat.le_of_ble_eq_true rfl, Nat.le_of_ble_eq_true rfl⟩ (kC_0 E).1 rfl rfl rfl rfl (Nat.le_of_ble_eq_true rfl) ⟨Nat.le_of_ble_eq_true rfl, Nat.le_of_ble_eq_true rfl⟩ ⟨Nat.le_of_ble_eq_true rfl, Nat.le_of_ble_eq_true rfl⟩ dX10_gets_7 h (fun σ4 h H locs I => ?_)
  refine lv_aload_n hx hb dX10_gets_10 rfl (lv_at hl 0 rfl) ?_
  refine lv_iload_n hx hb dX10_gets_11 rfl (lv_at hl 2 rfl) ?_
  refine lv_iload_n hx hb dX10_gets_12 rfl (lv_at hl 1 rfl) ?_
  refine lv_iconst (v := 1) hx hb dX10_gets_13 (by decide) ?_
  obtain ⟨q5, hq5, h⟩ := bd h
  refine r_callVIk (V := (vC E)) (k := 0) (As := [.int x2, .int x1, .int (1 : Int32)]) (rest := []) X I hl (c_X10_firstWhen  hq5) yv_X10_firstWhen tw_591 ⟨rfl, rfl, Nat.le_of_ble_eq_true rfl, Nat.le_of_ble_eq_true rfl⟩ (kC_0 E).1 ((kC_0 E).2 (σ4 0)) rfl rfl rfl (Nat.le_of_ble_eq_true rfl) ⟨Nat.le_of_ble_eq_true rfl, Nat.le_of_ble_eq_true rfl⟩ dX10_gets_14 (fun H locs I => ?_)
  exact r_xiret X I (Option.some.inj h).symm ⟨Nat.le_of_ble_eq_true rfl, Nat.le_of_ble_eq_true rfl⟩ dX10_gets_17
theorem c_X10_gets {l : Launch} {E : CE} {σ : Mem} {x1 : Int32} {x2 : Int32} (hlt : l.stackTraces = false) {q : (Nat × Mem) ⊕ (Int32 × Mem)} (h : m_X10_gets σ x1 x2 = some q) : CXI l (vC E) yX10_gets (.code yX10_gets cX10_gets 3 (some .int) :: GG) rm_X10_gets 2 12 [.ref (ca E 0), .int x1, .int x2] σ q :=
  mk_CXI (by decide +kernel) (Nat.le_of_ble_eq_true rfl) (fun p e s m args below meth c A ls X hex I hl => w_X10_gets_0 X hlt hex σ x1 x2 h s.heap [] ls I (lv_sub hl [0, 1, 2] rfl))

def rm_X10_loses : Room := { frames := 8, cells := 1, slots := 6, locals := 221 }
def m_X10_loses (σ : Mem) (x1 : Int32) : Option ((Nat × Mem) ⊕ (Int32 × Mem)) := (xb (m_X10_needHouse σ x1) fun σ2 => (gd ((24 : Int32) + x1) 64 (lt (σ2 43 (Int32.toNatClampNeg ((24 : Int32) + x1))) fun y3 => (if y3 = (-1 : Int32) then (some (.inr ((-1 : Int32), σ2))) else ((m_X10_firstWhen σ2 x1 y3 (0 : Int32)).bind fun q5 => (some (.inr (q5.1, q5.2))))))))
set_option maxHeartbeats 4000000 in
set_option maxRecDepth 100000 in
theorem w_X10_loses_0 {p : Program} {l : Launch} {e : Env} {s : State} {m : MethodId} {args : Array Value} {below : List Frame} {meth : Method} {c : Code} {A : Nat → Prop} {E : CE} {q : (Nat × Mem) ⊕ (Int32 × Mem)} (X : CX p s m meth c args cX10_loses 3 RX10 (some .int)) (hlt : l.stackTraces = false) (hex : ∀ x ∈ c.exceptionTable.toList, False) : ∀ (σ : Mem) (x1 : Int32) , m_X10_loses σ x1 = some q → ∀ (H : Heap) (locs : List Loc) (ls : Array Slot), WI (vC E) A s H locs σ → lv_has ls 3 [(0, .ref (ca E 0)), (1, .int x1)] → W p l e rm_X10_loses s m args below meth c H locs 0 0 (vx_MQ below (QXI (vC E) A q) (XX (vC E) A q) args s 1 6 A) (F0 m 0 ls []) := by
  have hx := X.1
  have hb := X.2.1
  intro σ x1 h H locs ls I hl
  unfold m_X10_loses at h
  refine lv_aload_n hx hb dX10_loses_0 rfl (lv_at hl 0 rfl) ?_
  refine lv_iload_n hx hb dX10_loses_1 rfl (lv_at hl 1 rfl) ?_
  obtain ⟨q1, hq1, h⟩ := xb_e h
  refine r_callXV (V := (vC E)) (k := 0) (As := [.int x1]) (rest := []) X hex I hl (c_X10_needHouse hlt hq1) yv_X10_needHouse tw_545 ⟨rfl, rfl, Nat.le_of_ble_eq_true rfl, Nat.le_of_ble_eq_true rfl⟩ (kC_0 E).1 rfl rfl rfl rfl (Nat.le_of_ble_eq_true rfl) ⟨Nat.le_of_ble_eq_true rfl, Nat.le_of_ble_eq_true rfl⟩ ⟨Nat.le_of_ble_eq_true rfl, Nat.le_of_ble_eq_true rfl⟩ dX10_loses_2 h (fun σ2 h H locs I => ?_)
  refine lv_aload_n hx hb dX10_loses_5 rfl (lv_at hl 0 rfl) ?_
  refine gfC_X10_43 X I (kC_0 E) (k' := 42) rfl dX10_loses_6 ?_
  refine gfC_X10_122 X I (kC_42 E) (k' := 43) rfl dX10_loses_9 ?_
  refine lv_bipush (v := 24) hx hb dX10_loses_12 (by decide) ?_
  refine lv_iload_n hx hb dX10_loses_14 rfl (lv_at hl 1 rfl) ?_
  refine lv_iadd hx hb dX10_loses_15 ?_
  obtain ⟨hin, h⟩ := gd_some h
  refine ialdC X I (kC_43 E) hin dX10_loses_16 ?_
  obtain ⟨y3, ey3, h⟩ := lt_e h
  refine nm_i ey3 ?_
  refine lv_istore_n (lv' := [(2, .int y3), (0, .ref (ca E 0)), (1, .int x1)]) hx hb dX10_loses_17 rfl hl (by decide) rfl (fun ls hl => ?_)
  refine lv_iload_n hx hb dX10_loses_18 rfl (lv_at hl 0 rfl) ?_
  refine lv_iconst (v := -1) hx hb dX10_loses_19 (by decide) ?_
  refine lv_icmp_ne (tgt := 27) hx hb dX10_loses_20 (by decide) (fun c4 => ?_) (fun c4 => ?_)
  · have h := ite_f h c4
    refine lv_aload_n hx hb dX10_loses_27 rfl (lv_at hl 1 rfl) ?_
    refine lv_iload_n hx hb dX10_loses_28 rfl (lv_at hl 2 rfl) ?_
    refine lv_iload_n hx hb dX10_loses_29 rfl (lv_at hl 0 rfl) ?_
    refine lv_iconst (v := 0) hx hb dX10_loses_30 (by decide) ?_
    obtain ⟨q5, hq5, h⟩ := bd h
    refine r_callVIk (V := (vC E)) (k := 0) (As := [.int x1, .int y3, .int (0 : Int32)]) (rest := []) X I hl (c_X10_firstWhen  hq5) yv_X10_firstWhen tw_591 ⟨rfl, rfl, Nat.le_of_ble_eq_true rfl, Nat.le_of_ble_eq_true rfl⟩ (kC_0 E).1 ((kC_0 E).2 (σ2 0)) rfl rfl rfl (Nat.le_of_ble_eq_true rfl) ⟨Nat.le_of_ble_eq_true rfl, Nat.le_of_ble_eq_true rfl⟩ dX10_loses_31 (fun H locs I => ?_)
    exact r_xiret X I (Option.some.inj h).symm ⟨Nat.le_of_ble_eq_true rfl, Nat.le_of_ble_eq_true rfl⟩ dX10_loses_34
  · have h := ite_t h c4
    refine lv_iconst (v := -1) hx hb dX10_loses_23 (by decide) ?_
    refine lv_goto (tgt := 34) hx hb dX10_loses_24 (by decide) ?_
    exact r_xiret X I (Option.some.inj h).symm ⟨Nat.le_of_ble_eq_true rfl, Nat.le_of_ble_eq_true rfl⟩ dX10_loses_34
theorem c_X10_loses {l : Launch} {E : CE} {σ : Mem} {x1 : Int32} (hlt : l.stackTraces = false) {q : (Nat × Mem) ⊕ (Int32 × Mem)} (h : m_X10_loses σ x1 = some q) : CXI l (vC E) yX10_loses (.code yX10_loses cX10_loses 3 (some .int) :: GG) rm_X10_loses 1 6 [.ref (ca E 0), .int x1] σ q :=
  mk_CXI (by decide +kernel) (Nat.le_of_ble_eq_true rfl) (fun p e s m args below meth c A ls X hex I hl => w_X10_loses_0 X hlt hex σ x1 h s.heap [] ls I (lv_sub hl [0, 1] rfl))

def rm_X10_most : Room := { frames := 8, cells := 1, slots := 6, locals := 227 }
def f_X10_most_17 : Nat → Mem → Int32 → Int32 → Int32 → Option ((Nat × Mem) ⊕ (Int32 × Mem))
  | 0, _, _, _, _ => none
  | n + 1, σ, x2, x3, x4 => (if (σ 23 1) ≤ x4 then (some (.inr (x2, σ))) else ((m_X8_housesOf 56 σ x4).bind fun q2 => ((m_J6_bitCount_0f7a4 σ q2).bind fun q3 => (if q3 ≤ x3 then f_X10_most_17 n σ x2 x3 (x4 + 1) else f_X10_most_17 n σ x4 q3 (x4 + 1)))))
def m_X10_most (σ : Mem) (x1 : Int32) : Option ((Nat × Mem) ⊕ (Int32 × Mem)) := (xb (m_X10_needAhead σ x1) fun σ2 => ((m_X10_tryAhead σ2 x1).bind fun q3 => (f_X10_most_17 KF q3 (-1 : Int32) (0 : Int32) (0 : Int32))))
set_option maxHeartbeats 4000000 in
set_option maxRecDepth 100000 in
theorem w_X10_most_17 {p : Program} {l : Launch} {e : Env} {s : State} {m : MethodId} {args : Array Value} {below : List Frame} {meth : Method} {c : Code} {A : Nat → Prop} {E : CE} {q : (Nat × Mem) ⊕ (Int32 × Mem)} (X : CX p s m meth c args cX10_most 6 RX10 (some .int)) (hlt : l.stackTraces = false) (hex : ∀ x ∈ c.exceptionTable.toList, False) : ∀ (n : Nat), ∀ (σ : Mem) (x2 : Int32) (x3 : Int32) (x4 : Int32) , f_X10_most_17 n σ x2 x3 x4 = some q → ∀ (H : Heap) (locs : List Loc) (ls : Array Slot), WI (vC E) A s H locs σ → lv_has ls 6 [(0, .ref (ca E 0)), (2, .int x2), (3, .int x3), (4, .int x4)] → W p l e rm_X10_most s m args below meth c H locs 1 6 (vx_MQ below (QXI (vC E) A q) (XX (vC E) A q) args s 1 6 A) (F0 m 17 ls []) := by
  have hx := X.1
  have hb := X.2.1
  intro n
  induction n with
  | zero =>
    intro σ x2 x3 x4 h
    cases h
  | succ n ih =>
    intro σ x2 x3 x4 h H locs ls I hl
    rw [f_X10_most_17] at h
    refine lv_iload hx hb dX10_most_17 (lv_at hl 3 rfl) ?_
    refine lv_aload_n hx hb dX10_most_19 rfl (lv_at hl 0 rfl) ?_
    refine gfC_X10_32 X I (kC_0 E) (k' := 23) rfl dX10_most_20 ?_
    refine gfC_X10_116 X I (kC_23 E) dX10_most_23 ?_
    refine lv_icmp_ge (tgt := 65) hx hb dX10_most_26 (by decide) (fun c1 => ?_) (fun c1 => ?_)
    · have h := ite_t h c1
      refine lv_iload_n hx hb dX10_most_65 rfl (lv_at hl 1 rfl) ?_
      exact r_xiret X I (Option.some.inj h).symm ⟨Nat.le_of_ble_eq_true rfl, Nat.le_of_ble_eq_true rfl⟩ dX10_most_66
    · have h := ite_f h c1
      refine lv_aload_n hx hb dX10_most_29 rfl (lv_at hl 0 rfl) ?_
      refine gfC_X10_24 X I (kC_0 E) (k' := 22) rfl dX10_most_30 ?_
      refine lv_aload_n hx hb dX10_most_33 rfl (lv_at hl 0 rfl) ?_
      refine gfC_X10_58 X I (kC_0 E) (k' := 56) rfl dX10_most_34 ?_
      refine lv_iload hx hb dX10_most_37 (lv_at hl 3 rfl) ?_
      obtain ⟨q2, hq2, h⟩ := bd h
      refine r_callVIk (V := (vC E)) (k := 22) (As := [.ref (ca E 56), .int x4]) (rest := []) X I hl (c_X8_housesOf (kC_56 E) hq2) yv_X8_housesOf tw_533 ⟨rfl, rfl, Nat.le_of_ble_eq_true rfl, Nat.le_of_ble_eq_true rfl⟩ (kC_22 E).1 ((kC_22 E).2 (σ 22)) rfl rfl rfl (Nat.le_of_ble_eq_true rfl) ⟨Nat.le_of_ble_eq_true rfl, Nat.le_of_ble_eq_true rfl⟩ dX10_most_39 (fun H locs I => ?_)
      obtain ⟨q3, hq3, h⟩ := bd h
      refine r_callSIk (V := (vC E)) (As := [.int q2]) (rest := []) X I hl (c_J6_bitCount_0f7a4  hq3) ys_J6_bitCount_0f7a4 tw_596 ⟨rfl, rfl, Nat.le_of_ble_eq_true rfl, Nat.le_of_ble_eq_true rfl⟩ rfl rfl (Nat.le_of_ble_eq_true rfl) ⟨Nat.le_of_ble_eq_true rfl, Nat.le_of_ble_eq_true rfl⟩ dX10_most_42 (fun H locs I => ?_)
      refine lv_istore (lv' := [(5, .int q3), (0, .ref (ca E 0)), (2, .int x2), (3, .int x3), (4, .int x4)]) hx hb dX10_most_45 hl (by decide) rfl (fun ls hl => ?_)
      refine lv_iload hx hb dX10_most_47 (lv_at hl 0 rfl) ?_
      refine lv_iload_n hx hb dX10_most_49 rfl (lv_at hl 3 rfl) ?_
      refine lv_icmp_le (tgt := 59) hx hb dX10_most_50 (by decide) (fun c4 => ?_) (fun c4 => ?_)
      · have h := ite_t h c4
        refine lv_iinc (v := (x4 + 1)) (lv' := [(4, .int (x4 + 1)), (5, .int q3), (0, .ref (ca E 0)), (2, .int x2), (3, .int x3)]) hx hb dX10_most_59 hl (k := 4) rfl rfl (by decide) rfl (fun ls hl => ?_)
        refine lv_goto (tgt := 17) hx hb dX10_most_62 (by decide) ?_
        exact ih σ x2 x3 (x4 + 1) h H locs ls I (lv_sub hl [2, 3, 4, 0] rfl)
      · have h := ite_f h c4
        refine lv_iload hx hb dX10_most_53 (lv_at hl 0 rfl) ?_
        refine lv_istore_n (lv' := [(3, .int q3), (5, .int q3), (0, .ref (ca E 0)), (2, .int x2), (4, .int x4)]) hx hb dX10_most_55 rfl hl (by decide) rfl (fun ls hl => ?_)
        refine lv_iload hx hb dX10_most_56 (lv_at hl 4 rfl) ?_
        refine lv_istore_n (lv' := [(2, .int x4), (3, .int q3), (5, .int q3), (0, .ref (ca E 0)), (4, .int x4)]) hx hb dX10_most_58 rfl hl (by decide) rfl (fun ls hl => ?_)
        refine lv_iinc (v := (x4 + 1)) (lv' := [(4, .int (x4 + 1)), (2, .int x4), (3, .int q3), (5, .int q3), (0, .ref (ca E 0))]) hx hb dX10_most_59 hl (k := 4) rfl rfl (by decide) rfl (fun ls hl => ?_)
        refine lv_goto (tgt := 17) hx hb dX10_most_62 (by decide) ?_
        exact ih σ x4 q3 (x4 + 1) h H locs ls I (lv_sub hl [4, 1, 2, 0] rfl)
set_option maxHeartbeats 4000000 in
set_option maxRecDepth 100000 in
theorem w_X10_most_0 {p : Program} {l : Launch} {e : Env} {s : State} {m : MethodId} {args : Array Value} {below : List Frame} {meth : Method} {c : Code} {A : Nat → Prop} {E : CE} {q : (Nat × Mem) ⊕ (Int32 × Mem)} (X : CX p s m meth c args cX10_most 6 RX10 (some .int)) (hlt : l.stackTraces = false) (hex : ∀ x ∈ c.exceptionTable.toList, False) : ∀ (σ : Mem) (x1 : Int32) , m_X10_most σ x1 = some q → ∀ (H : Heap) (locs : List Loc) (ls : Array Slot), WI (vC E) A s H locs σ → lv_has ls 6 [(0, .ref (ca E 0)), (1, .int x1)] → W p l e rm_X10_most s m args below meth c H locs 0 0 (vx_MQ below (QXI (vC E) A q) (XX (vC E) A q) args s 1 6 A) (F0 m 0 ls []) := by
  have hx := X.1
  have hb := X.2.1
  intro σ x1 h H locs ls I hl
  unfold m_X10_most at h
  refine lv_aload_n hx hb dX10_most_0 rfl (lv_at hl 0 rfl) ?_
  refine lv_iload_n hx hb dX10_most_1 rfl (lv_at hl 1 rfl) ?_
  obtain ⟨q1, hq1, h⟩ := xb_e h
  refine r_callXV (V := (vC E)) (k := 0) (As := [.int x1]) (rest := []) X hex I hl (c_X10_needAhead hlt hq1) yv_X10_needAhead tw_570 ⟨rfl, rfl, Nat.le_of_ble_eq_true rfl, Nat.le_of_ble_eq_true rfl⟩ (kC_0 E).1 rfl rfl rfl rfl (Nat.le_of_ble_eq_true rfl) ⟨Nat.le_of_ble_eq_true rfl, Nat.le_of_ble_eq_true rfl⟩ ⟨Nat.le_of_ble_eq_true rfl, Nat.le_of_ble_eq_true rfl⟩ dX10_most_2 h (fun σ2 h H locs I => ?_)
  refine lv_aload_n hx hb dX10_most_5 rfl (lv_at hl 0 rfl) ?_
  refine lv_iload_n hx hb dX10_most_6 rfl (lv_at hl 1 rfl) ?_
  obtain ⟨q3, hq3, h⟩ := bd h
  refine r_callVVk (V := (vC E)) (k := 0) (As := [.int x1]) (rest := []) X I hl (c_X10_tryAhead  hq3) yv_X10_tryAhead tw_575 ⟨rfl, rfl, Nat.le_of_ble_eq_true rfl, Nat.le_of_ble_eq_true rfl⟩ (kC_0 E).1 ((kC_0 E).2 (σ2 0)) rfl rfl rfl (Nat.le_of_ble_eq_true rfl) ⟨Nat.le_of_ble_eq_true rfl, Nat.le_of_ble_eq_true rfl⟩ dX10_most_7 (fun H locs I => ?_)
  refine lv_iconst (v := -1) hx hb dX10_most_10 (by decide) ?_
  refine lv_istore_n (lv' := [(2, .int (-1 : Int32)), (0, .ref (ca E 0)), (1, .int x1)]) hx hb dX10_most_11 rfl hl (by decide) rfl (fun ls hl => ?_)
  refine lv_iconst (v := 0) hx hb dX10_most_12 (by decide) ?_
  refine lv_istore_n (lv' := [(3, .int (0 : Int32)), (2, .int (-1 : Int32)), (0, .ref (ca E 0)), (1, .int x1)]) hx hb dX10_most_13 rfl hl (by decide) rfl (fun ls hl => ?_)
  refine lv_iconst (v := 0) hx hb dX10_most_14 (by decide) ?_
  refine lv_istore (lv' := [(4, .int (0 : Int32)), (3, .int (0 : Int32)), (2, .int (-1 : Int32)), (0, .ref (ca E 0)), (1, .int x1)]) hx hb dX10_most_15 hl (by decide) rfl (fun ls hl => ?_)
  exact w_X10_most_17 X hlt hex   KF q3 (-1 : Int32) (0 : Int32) (0 : Int32) h H locs ls I (lv_sub hl [3, 2, 1, 0] rfl)
theorem c_X10_most {l : Launch} {E : CE} {σ : Mem} {x1 : Int32} (hlt : l.stackTraces = false) {q : (Nat × Mem) ⊕ (Int32 × Mem)} (h : m_X10_most σ x1 = some q) : CXI l (vC E) yX10_most (.code yX10_most cX10_most 6 (some .int) :: GG) rm_X10_most 1 6 [.ref (ca E 0), .int x1] σ q :=
  mk_CXI (by decide +kernel) (Nat.le_of_ble_eq_true rfl) (fun p e s m args below meth c A ls X hex I hl => w_X10_most_0 X hlt hex σ x1 h s.heap [] ls I (lv_sub hl [0, 1] rfl))

def rm_X10_row : Room := { frames := 8, cells := 2, slots := 12, locals := 222 }
def f_X10_row_22 (x1 : Int32) (x2 : Int32) : Nat → Mem → Int32 → Int32 → Int32 → Int32 → Option ((Nat × Mem) ⊕ (Int32 × Mem))
  | 0, _, _, _, _, _ => none
  | n + 1, σ, x3, x4, x5, x6 => (if (σ 23 0) ≤ x6 then (if x2 = (0 : Int32) then (some (.inr (x3, σ))) else (some (.inr (x4, σ)))) else (gd ((24 : Int32) + x6) 64 (if (σ 43 (Int32.toNatClampNeg ((24 : Int32) + x6))) = x1 then (lt (x5 + (1 : Int32)) fun y6 => (if y6 ≤ x3 then f_X10_row_22 x1 x2 n σ x3 x4 y6 (x6 + 1) else (lt ((x6 - y6) + (1 : Int32)) fun y8 => f_X10_row_22 x1 x2 n σ y6 y8 y6 (x6 + 1)))) else (if (0 : Int32) ≤ x3 then f_X10_row_22 x1 x2 n σ x3 x4 (0 : Int32) (x6 + 1) else (lt ((x6 - (0 : Int32)) + (1 : Int32)) fun y5 => f_X10_row_22 x1 x2 n σ (0 : Int32) y5 (0 : Int32) (x6 + 1))))))
def m_X10_row (σ : Mem) (x1 : Int32) (x2 : Int32) : Option ((Nat × Mem) ⊕ (Int32 × Mem)) := (xb (m_X10_needTenant σ x1) fun σ2 => (xb (m_X10_needWhat σ2 x2 (1 : Int32)) fun σ4 => (f_X10_row_22 x1 x2 KF σ4 (0 : Int32) (-1 : Int32) (0 : Int32) (0 : Int32))))
set_option maxHeartbeats 4000000 in
set_option maxRecDepth 100000 in
theorem w_X10_row_22 {p : Program} {l : Launch} {e : Env} {s : State} {m : MethodId} {args : Array Value} {below : List Frame} {meth : Method} {c : Code} {A : Nat → Prop} {E : CE} {q : (Nat × Mem) ⊕ (Int32 × Mem)} (X : CX p s m meth c args cX10_row 7 RX10 (some .int)) (hlt : l.stackTraces = false) (hex : ∀ x ∈ c.exceptionTable.toList, False) {x1 : Int32} {x2 : Int32} : ∀ (n : Nat), ∀ (σ : Mem) (x3 : Int32) (x4 : Int32) (x5 : Int32) (x6 : Int32) , f_X10_row_22 x1 x2 n σ x3 x4 x5 x6 = some q → ∀ (H : Heap) (locs : List Loc) (ls : Array Slot), WI (vC E) A s H locs σ → lv_has ls 7 [(0, .ref (ca E 0)), (1, .int x1), (2, .int x2), (3, .int x3), (4, .int x4), (5, .int x5), (6, .int x6)] → W p l e rm_X10_row s m args below meth c H locs 2 12 (vx_MQ below (QXI (vC E) A q) (XX (vC E) A q) args s 2 12 A) (F0 m 22 ls []) := by
  have hx := X.1
  have hb := X.2.1
  intro n
  induction n with
  | zero =>
    intro σ x3 x4 x5 x6 h
    cases h
  | succ n ih =>
    intro σ x3 x4 x5 x6 h H locs ls I hl
    rw [f_X10_row_22] at h
    refine lv_iload hx hb dX10_row_22 (lv_at hl 6 rfl) ?_
    refine lv_aload_n hx hb dX10_row_24 rfl (lv_at hl 0 rfl) ?_
    refine gfC_X10_32 X I (kC_0 E) (k' := 23) rfl dX10_row_25 ?_
    refine gfC_X10_113 X I (kC_23 E) dX10_row_28 ?_
    refine lv_icmp_ge (tgt := 85) hx hb dX10_row_31 (by decide) (fun c1 => ?_) (fun c1 => ?_)
    · have h := ite_t h c1
      refine lv_iload_n hx hb dX10_row_85 rfl (lv_at hl 2 rfl) ?_
      refine lv_if_ne (tgt := 93) hx hb dX10_row_86 (by decide) (fun c2 => ?_) (fun c2 => ?_)
      · have h := ite_f h c2
        refine lv_iload hx hb dX10_row_93 (lv_at hl 4 rfl) ?_
        exact r_xiret X I (Option.some.inj h).symm ⟨Nat.le_of_ble_eq_true rfl, Nat.le_of_ble_eq_true rfl⟩ dX10_row_95
      · have h := ite_t h c2
        refine lv_iload_n hx hb dX10_row_89 rfl (lv_at hl 3 rfl) ?_
        refine lv_goto (tgt := 95) hx hb dX10_row_90 (by decide) ?_
        exact r_xiret X I (Option.some.inj h).symm ⟨Nat.le_of_ble_eq_true rfl, Nat.le_of_ble_eq_true rfl⟩ dX10_row_95
    · have h := ite_f h c1
      refine lv_aload_n hx hb dX10_row_34 rfl (lv_at hl 0 rfl) ?_
      refine gfC_X10_43 X I (kC_0 E) (k' := 42) rfl dX10_row_35 ?_
      refine gfC_X10_122 X I (kC_42 E) (k' := 43) rfl dX10_row_38 ?_
      refine lv_bipush (v := 24) hx hb dX10_row_41 (by decide) ?_
      refine lv_iload hx hb dX10_row_43 (lv_at hl 6 rfl) ?_
      refine lv_iadd hx hb dX10_row_45 ?_
      obtain ⟨hin, h⟩ := gd_some h
      refine ialdC X I (kC_43 E) hin dX10_row_46 ?_
      refine lv_iload_n hx hb dX10_row_47 rfl (lv_at hl 1 rfl) ?_
      refine lv_icmp_ne (tgt := 58) hx hb dX10_row_48 (by decide) (fun c3 => ?_) (fun c3 => ?_)
      · have h := ite_f h c3
        refine lv_iconst (v := 0) hx hb dX10_row_58 (by decide) ?_
        refine lv_istore (lv' := [(5, .int (0 : Int32)), (0, .ref (ca E 0)), (1, .int x1), (2, .int x2), (3, .int x3), (4, .int x4), (6, .int x6)]) hx hb dX10_row_59 hl (by decide) rfl (fun ls hl => ?_)
        refine lv_iload hx hb dX10_row_61 (lv_at hl 0 rfl) ?_
        refine lv_iload_n hx hb dX10_row_63 rfl (lv_at hl 4 rfl) ?_
        refine lv_icmp_le (tgt := 79) hx hb dX10_row_64 (by decide) (fun c4 => ?_) (fun c4 => ?_)
        · have h := ite_t h c4
          refine lv_iinc (v := (x6 + 1)) (lv' := [(6, .int (x6 + 1)), (5, .int (0 : Int32)), (0, .ref (ca E 0)), (1, .int x1), (2, .int x2), (3, .int x3), (4, .int x4)]) hx hb dX10_row_79 hl (k := 6) rfl rfl (by decide) rfl (fun ls hl => ?_)
          refine lv_goto (tgt := 22) hx hb dX10_row_82 (by decide) ?_
          exact ih σ x3 x4 (0 : Int32) (x6 + 1) h H locs ls I (lv_sub hl [2, 3, 4, 5, 6, 1, 0] rfl)
        · have h := ite_f h c4
          refine lv_iload hx hb dX10_row_67 (lv_at hl 0 rfl) ?_
          refine lv_istore_n (lv' := [(3, .int (0 : Int32)), (5, .int (0 : Int32)), (0, .ref (ca E 0)), (1, .int x1), (2, .int x2), (4, .int x4), (6, .int x6)]) hx hb dX10_row_69 rfl hl (by decide) rfl (fun ls hl => ?_)
          refine lv_iload hx hb dX10_row_70 (lv_at hl 6 rfl) ?_
          refine lv_iload hx hb dX10_row_72 (lv_at hl 1 rfl) ?_
          refine lv_isub hx hb dX10_row_74 ?_
          refine lv_iconst (v := 1) hx hb dX10_row_75 (by decide) ?_
          refine lv_iadd hx hb dX10_row_76 ?_
          obtain ⟨y5, ey5, h⟩ := lt_e h
          refine nm_i ey5 ?_
          refine lv_istore (lv' := [(4, .int y5), (3, .int (0 : Int32)), (5, .int (0 : Int32)), (0, .ref (ca E 0)), (1, .int x1), (2, .int x2), (6, .int x6)]) hx hb dX10_row_77 hl (by decide) rfl (fun ls hl => ?_)
          refine lv_iinc (v := (x6 + 1)) (lv' := [(6, .int (x6 + 1)), (4, .int y5), (3, .int (0 : Int32)), (5, .int (0 : Int32)), (0, .ref (ca E 0)), (1, .int x1), (2, .int x2)]) hx hb dX10_row_79 hl (k := 6) rfl rfl (by decide) rfl (fun ls hl => ?_)
          refine lv_goto (tgt := 22) hx hb dX10_row_82 (by decide) ?_
          exact ih σ (0 : Int32) y5 (0 : Int32) (x6 + 1) h H locs ls I (lv_sub hl [4, 5, 6, 2, 1, 3, 0] rfl)
      · have h := ite_t h c3
        refine lv_iload hx hb dX10_row_51 (lv_at hl 5 rfl) ?_
        refine lv_iconst (v := 1) hx hb dX10_row_53 (by decide) ?_
        refine lv_iadd hx hb dX10_row_54 ?_
        refine lv_goto (tgt := 59) hx hb dX10_row_55 (by decide) ?_
        obtain ⟨y6, ey6, h⟩ := lt_e h
        refine nm_i ey6 ?_
        refine lv_istore (lv' := [(5, .int y6), (0, .ref (ca E 0)), (1, .int x1), (2, .int x2), (3, .int x3), (4, .int x4), (6, .int x6)]) hx hb dX10_row_59 hl (by decide) rfl (fun ls hl => ?_)
        refine lv_iload hx hb dX10_row_61 (lv_at hl 0 rfl) ?_
        refine lv_iload_n hx hb dX10_row_63 rfl (lv_at hl 4 rfl) ?_
        refine lv_icmp_le (tgt := 79) hx hb dX10_row_64 (by decide) (fun c7 => ?_) (fun c7 => ?_)
        · have h := ite_t h c7
          refine lv_iinc (v := (x6 + 1)) (lv' := [(6, .int (x6 + 1)), (5, .int y6), (0, .ref (ca E 0)), (1, .int x1), (2, .int x2), (3, .int x3), (4, .int x4)]) hx hb dX10_row_79 hl (k := 6) rfl rfl (by decide) rfl (fun ls hl => ?_)
          refine lv_goto (tgt := 22) hx hb dX10_row_82 (by decide) ?_
          exact ih σ x3 x4 y6 (x6 + 1) h H locs ls I (lv_sub hl [2, 3, 4, 5, 6, 1, 0] rfl)
        · have h := ite_f h c7
          refine lv_iload hx hb dX10_row_67 (lv_at hl 0 rfl) ?_
          refine lv_istore_n (lv' := [(3, .int y6), (5, .int y6), (0, .ref (ca E 0)), (1, .int x1), (2, .int x2), (4, .int x4), (6, .int x6)]) hx hb dX10_row_69 rfl hl (by decide) rfl (fun ls hl => ?_)
          refine lv_iload hx hb dX10_row_70 (lv_at hl 6 rfl) ?_
          refine lv_iload hx hb dX10_row_72 (lv_at hl 1 rfl) ?_
          refine lv_isub hx hb dX10_row_74 ?_
          refine lv_iconst (v := 1) hx hb dX10_row_75 (by decide) ?_
          refine lv_iadd hx hb dX10_row_76 ?_
          obtain ⟨y8, ey8, h⟩ := lt_e h
          refine nm_i ey8 ?_
          refine lv_istore (lv' := [(4, .int y8), (3, .int y6), (5, .int y6), (0, .ref (ca E 0)), (1, .int x1), (2, .int x2), (6, .int x6)]) hx hb dX10_row_77 hl (by decide) rfl (fun ls hl => ?_)
          refine lv_iinc (v := (x6 + 1)) (lv' := [(6, .int (x6 + 1)), (4, .int y8), (3, .int y6), (5, .int y6), (0, .ref (ca E 0)), (1, .int x1), (2, .int x2)]) hx hb dX10_row_79 hl (k := 6) rfl rfl (by decide) rfl (fun ls hl => ?_)
          refine lv_goto (tgt := 22) hx hb dX10_row_82 (by decide) ?_
          exact ih σ y6 y8 y6 (x6 + 1) h H locs ls I (lv_sub hl [4, 5, 6, 2, 1, 3, 0] rfl)
set_option maxHeartbeats 4000000 in
set_option maxRecDepth 100000 in
theorem w_X10_row_0 {p : Program} {l : Launch} {e : Env} {s : State} {m : MethodId} {args : Array Value} {below : List Frame} {meth : Method} {c : Code} {A : Nat → Prop} {E : CE} {q : (Nat × Mem) ⊕ (Int32 × Mem)} (X : CX p s m meth c args cX10_row 7 RX10 (some .int)) (hlt : l.stackTraces = false) (hex : ∀ x ∈ c.exceptionTable.toList, False) : ∀ (σ : Mem) (x1 : Int32) (x2 : Int32) , m_X10_row σ x1 x2 = some q → ∀ (H : Heap) (locs : List Loc) (ls : Array Slot), WI (vC E) A s H locs σ → lv_has ls 7 [(0, .ref (ca E 0)), (1, .int x1), (2, .int x2)] → W p l e rm_X10_row s m args below meth c H locs 0 0 (vx_MQ below (QXI (vC E) A q) (XX (vC E) A q) args s 2 12 A) (F0 m 0 ls []) := by
  have hx := X.1
  have hb := X.2.1
  intro σ x1 x2 h H locs ls I hl
  unfold m_X10_row at h
  refine lv_aload_n hx hb dX10_row_0 rfl (lv_at hl 0 rfl) ?_
  refine lv_iload_n hx hb dX10_row_1 rfl (lv_at hl 1 rfl) ?_
  obtain ⟨q1, hq1, h⟩ := xb_e h
  refine r_callXV (V := (vC E)) (k := 0) (As := [.int x1]) (rest := []) X hex I hl (c_X10_needTenant hlt hq1) yv_X10_needTenant tw_558 ⟨rfl, rfl, Nat.le_of_ble_eq_true rfl, Nat.le_of_ble_eq_true rfl⟩ (kC_0 E).1 rfl rfl rfl rfl (Nat.le_of_ble_eq_true rfl) ⟨Nat.le_of_ble_eq_true rfl, Nat.le_of_ble_eq_true rfl⟩ ⟨Nat.le_of_ble_eq_true rfl, Nat.le_of_ble_eq_true rfl⟩ dX10_row_2 h (fun σ2 h H locs I => ?_)
  refine lv_aload_n hx hb dX10_row_5 rfl (lv_at hl 0 rfl) ?_
  refine lv_iload_n hx hb dX10_row_6 rfl (lv_at hl 2 rfl) ?_
  refine lv_iconst (v := 1) hx hb dX10_row_7 (by decide) ?_
  obtain ⟨q3, hq3, h⟩ := xb_e h
  refine r_callXV (V := (vC E)) (k := 0) (As := [.int x2, .int (1 : Int32)]) (rest := []) X hex I hl (c_X10_needWhat hlt hq3) yv_X10_needWhat tw_580 ⟨rfl, rfl, Nat.le_of_ble_eq_true rfl, Nat.le_of_ble_eq_true rfl⟩ (kC_0 E).1 rfl rfl rfl rfl (Nat.le_of_ble_eq_true rfl) ⟨Nat.le_of_ble_eq_true rfl, Nat.le_of_ble_eq_true rfl⟩ ⟨Nat.le_of_ble_eq_true rfl, Nat.le_of_ble_eq_true rfl⟩ dX10_row_8 h (fun σ4 h H locs I => ?_)
  refine lv_iconst (v := 0) hx hb dX10_row_11 (by decide) ?_
  refine lv_istore_n (lv' := [(3, .int (0 : Int32)), (0, .ref (ca E 0)), (1, .int x1), (2, .int x2)]) hx hb dX10_row_12 rfl hl (by decide) rfl (fun ls hl => ?_)
  refine lv_iconst (v := -1) hx hb dX10_row_13 (by decide) ?_
  refine lv_istore (lv' := [(4, .int (-1 : Int32)), (3, .int (0 : Int32)), (0, .ref (ca E 0)), (1, .int x1), (2, .int x2)]) hx hb dX10_row_14 hl (by decide) rfl (fun ls hl => ?_)
  refine lv_iconst (v := 0) hx hb dX10_row_16 (by decide) ?_
  refine lv_istore (lv' := [(5, .int (0 : Int32)), (4, .int (-1 : Int32)), (3, .int (0 : Int32)), (0, .ref (ca E 0)), (1, .int x1), (2, .int x2)]) hx hb dX10_row_17 hl (by decide) rfl (fun ls hl => ?_)
  refine lv_iconst (v := 0) hx hb dX10_row_19 (by decide) ?_
  refine lv_istore (lv' := [(6, .int (0 : Int32)), (5, .int (0 : Int32)), (4, .int (-1 : Int32)), (3, .int (0 : Int32)), (0, .ref (ca E 0)), (1, .int x1), (2, .int x2)]) hx hb dX10_row_20 hl (by decide) rfl (fun ls hl => ?_)
  exact w_X10_row_22 X hlt hex   KF σ4 (0 : Int32) (-1 : Int32) (0 : Int32) (0 : Int32) h H locs ls I (lv_sub hl [4, 5, 6, 3, 2, 1, 0] rfl)
theorem c_X10_row {l : Launch} {E : CE} {σ : Mem} {x1 : Int32} {x2 : Int32} (hlt : l.stackTraces = false) {q : (Nat × Mem) ⊕ (Int32 × Mem)} (h : m_X10_row σ x1 x2 = some q) : CXI l (vC E) yX10_row (.code yX10_row cX10_row 7 (some .int) :: GG) rm_X10_row 2 12 [.ref (ca E 0), .int x1, .int x2] σ q :=
  mk_CXI (by decide +kernel) (Nat.le_of_ble_eq_true rfl) (fun p e s m args below meth c A ls X hex I hl => w_X10_row_0 X hlt hex σ x1 x2 h s.heap [] ls I (lv_sub hl [0, 1, 2] rfl))

def rm_X10_empty : Room := { frames := 8, cells := 1, slots := 6, locals := 227 }
def m_X10_empty (σ : Mem) (x1 : Int32) : Option ((Nat × Mem) ⊕ (Int32 × Mem)) := (xb (m_X10_needAhead σ x1) fun σ2 => ((m_X10_tryAhead σ2 x1).bind fun q3 => ((m_X8_housesOf 56 q3 (-1 : Int32)).bind fun q4 => (some (.inr (q4, q3))))))
set_option maxHeartbeats 4000000 in
set_option maxRecDepth 100000 in
theorem w_X10_empty_0 {p : Program} {l : Launch} {e : Env} {s : State} {m : MethodId} {args : Array Value} {below : List Frame} {meth : Method} {c : Code} {A : Nat → Prop} {E : CE} {q : (Nat × Mem) ⊕ (Int32 × Mem)} (X : CX p s m meth c args cX10_empty 2 RX10 (some .int)) (hlt : l.stackTraces = false) (hex : ∀ x ∈ c.exceptionTable.toList, False) : ∀ (σ : Mem) (x1 : Int32) , m_X10_empty σ x1 = some q → ∀ (H : Heap) (locs : List Loc) (ls : Array Slot), WI (vC E) A s H locs σ → lv_has ls 2 [(0, .ref (ca E 0)), (1, .int x1)] → W p l e rm_X10_empty s m args below meth c H locs 0 0 (vx_MQ below (QXI (vC E) A q) (XX (vC E) A q) args s 1 6 A) (F0 m 0 ls []) := by
  have hx := X.1
  have hb := X.2.1
  intro σ x1 h H locs ls I hl
  unfold m_X10_empty at h
  refine lv_aload_n hx hb dX10_empty_0 rfl (lv_at hl 0 rfl) ?_
  refine lv_iload_n hx hb dX10_empty_1 rfl (lv_at hl 1 rfl) ?_
  obtain ⟨q1, hq1, h⟩ := xb_e h
  refine r_callXV (V := (vC E)) (k := 0) (As := [.int x1]) (rest := []) X hex I hl (c_X10_needAhead hlt hq1) yv_X10_needAhead tw_570 ⟨rfl, rfl, Nat.le_of_ble_eq_true rfl, Nat.le_of_ble_eq_true rfl⟩ (kC_0 E).1 rfl rfl rfl rfl (Nat.le_of_ble_eq_true rfl) ⟨Nat.le_of_ble_eq_true rfl, Nat.le_of_ble_eq_true rfl⟩ ⟨Nat.le_of_ble_eq_true rfl, Nat.le_of_ble_eq_true rfl⟩ dX10_empty_2 h (fun σ2 h H locs I => ?_)
  refine lv_aload_n hx hb dX10_empty_5 rfl (lv_at hl 0 rfl) ?_
  refine lv_iload_n hx hb dX10_empty_6 rfl (lv_at hl 1 rfl) ?_
  obtain ⟨q3, hq3, h⟩ := bd h
  refine r_callVVk (V := (vC E)) (k := 0) (As := [.int x1]) (rest := []) X I hl (c_X10_tryAhead  hq3) yv_X10_tryAhead tw_575 ⟨rfl, rfl, Nat.le_of_ble_eq_true rfl, Nat.le_of_ble_eq_true rfl⟩ (kC_0 E).1 ((kC_0 E).2 (σ2 0)) rfl rfl rfl (Nat.le_of_ble_eq_true rfl) ⟨Nat.le_of_ble_eq_true rfl, Nat.le_of_ble_eq_true rfl⟩ dX10_empty_7 (fun H locs I => ?_)
  refine lv_aload_n hx hb dX10_empty_10 rfl (lv_at hl 0 rfl) ?_
  refine gfC_X10_24 X I (kC_0 E) (k' := 22) rfl dX10_empty_11 ?_
  refine lv_aload_n hx hb dX10_empty_14 rfl (lv_at hl 0 rfl) ?_
  refine gfC_X10_58 X I (kC_0 E) (k' := 56) rfl dX10_empty_15 ?_
  refine lv_iconst (v := -1) hx hb dX10_empty_18 (by decide) ?_
  obtain ⟨q4, hq4, h⟩ := bd h
  refine r_callVIk (V := (vC E)) (k := 22) (As := [.ref (ca E 56), .int (-1 : Int32)]) (rest := []) X I hl (c_X8_housesOf (kC_56 E) hq4) yv_X8_housesOf tw_533 ⟨rfl, rfl, Nat.le_of_ble_eq_true rfl, Nat.le_of_ble_eq_true rfl⟩ (kC_22 E).1 ((kC_22 E).2 (q3 22)) rfl rfl rfl (Nat.le_of_ble_eq_true rfl) ⟨Nat.le_of_ble_eq_true rfl, Nat.le_of_ble_eq_true rfl⟩ dX10_empty_19 (fun H locs I => ?_)
  exact r_xiret X I (Option.some.inj h).symm ⟨Nat.le_of_ble_eq_true rfl, Nat.le_of_ble_eq_true rfl⟩ dX10_empty_22
theorem c_X10_empty {l : Launch} {E : CE} {σ : Mem} {x1 : Int32} (hlt : l.stackTraces = false) {q : (Nat × Mem) ⊕ (Int32 × Mem)} (h : m_X10_empty σ x1 = some q) : CXI l (vC E) yX10_empty (.code yX10_empty cX10_empty 2 (some .int) :: GG) rm_X10_empty 1 6 [.ref (ca E 0), .int x1] σ q :=
  mk_CXI (by decide +kernel) (Nat.le_of_ble_eq_true rfl) (fun p e s m args below meth c A ls X hex I hl => w_X10_empty_0 X hlt hex σ x1 h s.heap [] ls I (lv_sub hl [0, 1] rfl))

def rm_X10_liking : Room := { frames := 8, cells := 2, slots := 12, locals := 221 }
def m_X10_liking (σ : Mem) (x1 : Int32) (x2 : Int32) : Option ((Nat × Mem) ⊕ (Int32 × Mem)) := (xb (m_X10_needHouse σ x1) fun σ2 => (xb (m_X10_needTenant σ2 x2) fun σ4 => ((m_X8_likingNow 43 σ4 x1 x2).bind fun q5 => (some (.inr (q5.1, q5.2))))))
set_option maxHeartbeats 4000000 in
set_option maxRecDepth 100000 in
theorem w_X10_liking_0 {p : Program} {l : Launch} {e : Env} {s : State} {m : MethodId} {args : Array Value} {below : List Frame} {meth : Method} {c : Code} {A : Nat → Prop} {E : CE} {q : (Nat × Mem) ⊕ (Int32 × Mem)} (X : CX p s m meth c args cX10_liking 3 RX10 (some .int)) (hlt : l.stackTraces = false) (hex : ∀ x ∈ c.exceptionTable.toList, False) : ∀ (σ : Mem) (x1 : Int32) (x2 : Int32) , m_X10_liking σ x1 x2 = some q → ∀ (H : Heap) (locs : List Loc) (ls : Array Slot), WI (vC E) A s H locs σ → lv_has ls 3 [(0, .ref (ca E 0)), (1, .int x1), (2, .int x2)] → W p l e rm_X10_liking s m args below meth c H locs 0 0 (vx_MQ below (QXI (vC E) A q) (XX (vC E) A q) args s 2 12 A) (F0 m 0 ls []) := by
  have hx := X.1
  have hb := X.2.1
  intro σ x1 x2 h H locs ls I hl
  unfold m_X10_liking at h
  refine lv_aload_n hx hb dX10_liking_0 rfl (lv_at hl 0 rfl) ?_
  refine lv_iload_n hx hb dX10_liking_1 rfl (lv_at hl 1 rfl) ?_
  obtain ⟨q1, hq1, h⟩ := xb_e h
  refine r_callXV (V := (vC E)) (k := 0) (As := [.int x1]) (rest := []) X hex I hl (c_X10_needHouse hlt hq1) yv_X10_needHouse tw_545 ⟨rfl, rfl, Nat.le_of_ble_eq_true rfl, Nat.le_of_ble_eq_true rfl⟩ (kC_0 E).1 rfl rfl rfl rfl (Nat.le_of_ble_eq_true rfl) ⟨Nat.le_of_ble_eq_true rfl, Nat.le_of_ble_eq_true rfl⟩ ⟨Nat.le_of_ble_eq_true rfl, Nat.le_of_ble_eq_true rfl⟩ dX10_liking_2 h (fun σ2 h H locs I => ?_)
  refine lv_aload_n hx hb dX10_liking_5 rfl (lv_at hl 0 rfl) ?_
  refine lv_iload_n hx hb dX10_liking_6 rfl (lv_at hl 2 rfl) ?_
  obtain ⟨q3, hq3, h⟩ := xb_e h
  refine r_callXV (V := (vC E)) (k := 0) (As := [.int x2]) (rest := []) X hex I hl (c_X10_needTenant hlt hq3) yv_X10_needTenant tw_558 ⟨rfl, rfl, Nat.le_of_ble_eq_true rfl, Nat.le_of_ble_eq_true rfl⟩ (kC_0 E).1 rfl rfl rfl rfl (Nat.le_of_ble_eq_true rfl) ⟨Nat.le_of_ble_eq_true rfl, Nat.le_of_ble_eq_true rfl⟩ ⟨Nat.le_of_ble_eq_true rfl, Nat.le_of_ble_eq_true rfl⟩ dX10_liking_7 h (fun σ4 h H locs I => ?_)
  refine lv_aload_n hx hb dX10_liking_10 rfl (lv_at hl 0 rfl) ?_
  refine gfC_X10_24 X I (kC_0 E) (k' := 22) rfl dX10_liking_11 ?_
  refine lv_aload_n hx hb dX10_liking_14 rfl (lv_at hl 0 rfl) ?_
  refine gfC_X10_43 X I (kC_0 E) (k' := 42) rfl dX10_liking_15 ?_
  refine gfC_X10_122 X I (kC_42 E) (k' := 43) rfl dX10_liking_18 ?_
  refine lv_iload_n hx hb dX10_liking_21 rfl (lv_at hl 1 rfl) ?_
  refine lv_iload_n hx hb dX10_liking_22 rfl (lv_at hl 2 rfl) ?_
  obtain ⟨q5, hq5, h⟩ := bd h
  refine r_callVIk (V := (vC E)) (k := 22) (As := [.ref (ca E 43), .int x1, .int x2]) (rest := []) X I hl (c_X8_likingNow (kC_43 E) hq5) yv_X8_likingNow tw_597 ⟨rfl, rfl, Nat.le_of_ble_eq_true rfl, Nat.le_of_ble_eq_true rfl⟩ (kC_22 E).1 ((kC_22 E).2 (σ4 22)) rfl rfl rfl (Nat.le_of_ble_eq_true rfl) ⟨Nat.le_of_ble_eq_true rfl, Nat.le_of_ble_eq_true rfl⟩ dX10_liking_23 (fun H locs I => ?_)
  exact r_xiret X I (Option.some.inj h).symm ⟨Nat.le_of_ble_eq_true rfl, Nat.le_of_ble_eq_true rfl⟩ dX10_liking_26
theorem c_X10_liking {l : Launch} {E : CE} {σ : Mem} {x1 : Int32} {x2 : Int32} (hlt : l.stackTraces = false) {q : (Nat × Mem) ⊕ (Int32 × Mem)} (h : m_X10_liking σ x1 x2 = some q) : CXI l (vC E) yX10_liking (.code yX10_liking cX10_liking 3 (some .int) :: GG) rm_X10_liking 2 12 [.ref (ca E 0), .int x1, .int x2] σ q :=
  mk_CXI (by decide +kernel) (Nat.le_of_ble_eq_true rfl) (fun p e s m args below meth c A ls X hex I hl => w_X10_liking_0 X hlt hex σ x1 x2 h s.heap [] ls I (lv_sub hl [0, 1, 2] rfl))

def rm_X10_leastChops : Room := { frames := 8, cells := 2, slots := 12, locals := 221 }
def f_X10_leastChops_12 (x1 : Int32) (x2 : Int32) : Nat → Mem → Int32 → Option ((Nat × Mem) ⊕ (Int32 × Mem))
  | 0, _, _ => none
  | n + 1, σ, x3 => (if (20 : Int32) < x3 then (some (.inr ((-1 : Int32), σ))) else ((m_X10_tryQuarterWith σ ((40 : Int32) + x1) x3).bind fun q2 => (gd ((24 : Int32) + x2) 64 (if (q2 56 (Int32.toNatClampNeg ((24 : Int32) + x2))) = x1 then (some (.inr (x3, q2))) else f_X10_leastChops_12 x1 x2 n q2 (x3 + 1)))))
def m_X10_leastChops (σ : Mem) (x1 : Int32) (x2 : Int32) : Option ((Nat × Mem) ⊕ (Int32 × Mem)) := (xb (m_X10_needTenant σ x1) fun σ2 => (xb (m_X10_needHouse σ2 x2) fun σ4 => (f_X10_leastChops_12 x1 x2 KF σ4 (0 : Int32))))
set_option maxHeartbeats 4000000 in
set_option maxRecDepth 100000 in
theorem w_X10_leastChops_12 {p : Program} {l : Launch} {e : Env} {s : State} {m : MethodId} {args : Array Value} {below : List Frame} {meth : Method} {c : Code} {A : Nat → Prop} {E : CE} {q : (Nat × Mem) ⊕ (Int32 × Mem)} (X : CX p s m meth c args cX10_leastChops 4 RX10 (some .int)) (hlt : l.stackTraces = false) (hex : ∀ x ∈ c.exceptionTable.toList, False) {x1 : Int32} {x2 : Int32} : ∀ (n : Nat), ∀ (σ : Mem) (x3 : Int32) , f_X10_leastChops_12 x1 x2 n σ x3 = some q → ∀ (H : Heap) (locs : List Loc) (ls : Array Slot), WI (vC E) A s H locs σ → lv_has ls 4 [(0, .ref (ca E 0)), (1, .int x1), (2, .int x2), (3, .int x3)] → W p l e rm_X10_leastChops s m args below meth c H locs 2 12 (vx_MQ below (QXI (vC E) A q) (XX (vC E) A q) args s 2 12 A) (F0 m 12 ls []) := by
  have hx := X.1
  have hb := X.2.1
  intro n
  induction n with
  | zero =>
    intro σ x3 h
    cases h
  | succ n ih =>
    intro σ x3 h H locs ls I hl
    rw [f_X10_leastChops_12] at h
    refine lv_iload_n hx hb dX10_leastChops_12 rfl (lv_at hl 3 rfl) ?_
    refine lv_bipush (v := 20) hx hb dX10_leastChops_13 (by decide) ?_
    refine lv_icmp_gt (tgt := 48) hx hb dX10_leastChops_15 (by decide) (fun c1 => ?_) (fun c1 => ?_)
    · have h := ite_t h c1
      refine lv_iconst (v := -1) hx hb dX10_leastChops_48 (by decide) ?_
      exact r_xiret X I (Option.some.inj h).symm ⟨Nat.le_of_ble_eq_true rfl, Nat.le_of_ble_eq_true rfl⟩ dX10_leastChops_49
    · have h := ite_f h c1
      refine lv_aload_n hx hb dX10_leastChops_18 rfl (lv_at hl 0 rfl) ?_
      refine lv_bipush (v := 40) hx hb dX10_leastChops_19 (by decide) ?_
      refine lv_iload_n hx hb dX10_leastChops_21 rfl (lv_at hl 1 rfl) ?_
      refine lv_iadd hx hb dX10_leastChops_22 ?_
      refine lv_iload_n hx hb dX10_leastChops_23 rfl (lv_at hl 3 rfl) ?_
      obtain ⟨q2, hq2, h⟩ := bd h
      refine r_callVVk (V := (vC E)) (k := 0) (As := [.int ((40 : Int32) + x1), .int x3]) (rest := []) X I hl (c_X10_tryQuarterWith  hq2) yv_X10_tryQuarterWith tw_457 ⟨rfl, rfl, Nat.le_of_ble_eq_true rfl, Nat.le_of_ble_eq_true rfl⟩ (kC_0 E).1 ((kC_0 E).2 (σ 0)) rfl rfl rfl (Nat.le_of_ble_eq_true rfl) ⟨Nat.le_of_ble_eq_true rfl, Nat.le_of_ble_eq_true rfl⟩ dX10_leastChops_24 (fun H locs I => ?_)
      refine lv_aload_n hx hb dX10_leastChops_27 rfl (lv_at hl 0 rfl) ?_
      refine gfC_X10_58 X I (kC_0 E) (k' := 56) rfl dX10_leastChops_28 ?_
      refine lv_bipush (v := 24) hx hb dX10_leastChops_31 (by decide) ?_
      refine lv_iload_n hx hb dX10_leastChops_33 rfl (lv_at hl 2 rfl) ?_
      refine lv_iadd hx hb dX10_leastChops_34 ?_
      obtain ⟨hin, h⟩ := gd_some h
      refine ialdC X I (kC_56 E) hin dX10_leastChops_35 ?_
      refine lv_iload_n hx hb dX10_leastChops_36 rfl (lv_at hl 1 rfl) ?_
      refine lv_icmp_ne (tgt := 42) hx hb dX10_leastChops_37 (by decide) (fun c3 => ?_) (fun c3 => ?_)
      · have h := ite_f h c3
        refine lv_iinc (v := (x3 + 1)) (lv' := [(3, .int (x3 + 1)), (0, .ref (ca E 0)), (1, .int x1), (2, .int x2)]) hx hb dX10_leastChops_42 hl (k := 3) rfl rfl (by decide) rfl (fun ls hl => ?_)
        refine lv_goto (tgt := 12) hx hb dX10_leastChops_45 (by decide) ?_
        exact ih q2 (x3 + 1) h H locs ls I (lv_sub hl [1, 2, 3, 0] rfl)
      · have h := ite_t h c3
        refine lv_iload_n hx hb dX10_leastChops_40 rfl (lv_at hl 3 rfl) ?_
        exact r_xiret X I (Option.some.inj h).symm ⟨Nat.le_of_ble_eq_true rfl, Nat.le_of_ble_eq_true rfl⟩ dX10_leastChops_41
set_option maxHeartbeats 4000000 in
set_option maxRecDepth 100000 in
theorem w_X10_leastChops_0 {p : Program} {l : Launch} {e : Env} {s : State} {m : MethodId} {args : Array Value} {below : List Frame} {meth : Method} {c : Code} {A : Nat → Prop} {E : CE} {q : (Nat × Mem) ⊕ (Int32 × Mem)} (X : CX p s m meth c args cX10_leastChops 4 RX10 (some .int)) (hlt : l.stackTraces = false) (hex : ∀ x ∈ c.exceptionTable.toList, False) : ∀ (σ : Mem) (x1 : Int32) (x2 : Int32) , m_X10_leastChops σ x1 x2 = some q → ∀ (H : Heap) (locs : List Loc) (ls : Array Slot), WI (vC E) A s H locs σ → lv_has ls 4 [(0, .ref (ca E 0)), (1, .int x1), (2, .int x2)] → W p l e rm_X10_leastChops s m args below meth c H locs 0 0 (vx_MQ below (QXI (vC E) A q) (XX (vC E) A q) args s 2 12 A) (F0 m 0 ls []) := by
  have hx := X.1
  have hb := X.2.1
  intro σ x1 x2 h H locs ls I hl
  unfold m_X10_leastChops at h
  refine lv_aload_n hx hb dX10_leastChops_0 rfl (lv_at hl 0 rfl) ?_
  refine lv_iload_n hx hb dX10_leastChops_1 rfl (lv_at hl 1 rfl) ?_
  obtain ⟨q1, hq1, h⟩ := xb_e h
  refine r_callXV (V := (vC E)) (k := 0) (As := [.int x1]) (rest := []) X hex I hl (c_X10_needTenant hlt hq1) yv_X10_needTenant tw_558 ⟨rfl, rfl, Nat.le_of_ble_eq_true rfl, Nat.le_of_ble_eq_true rfl⟩ (kC_0 E).1 rfl rfl rfl rfl (Nat.le_of_ble_eq_true rfl) ⟨Nat.le_of_ble_eq_true rfl, Nat.le_of_ble_eq_true rfl⟩ ⟨Nat.le_of_ble_eq_true rfl, Nat.le_of_ble_eq_true rfl⟩ dX10_leastChops_2 h (fun σ2 h H locs I => ?_)
  refine lv_aload_n hx hb dX10_leastChops_5 rfl (lv_at hl 0 rfl) ?_
  refine lv_iload_n hx hb dX10_leastChops_6 rfl (lv_at hl 2 rfl) ?_
  obtain ⟨q3, hq3, h⟩ := xb_e h
  refine r_callXV (V := (vC E)) (k := 0) (As := [.int x2]) (rest := []) X hex I hl (c_X10_needHouse hlt hq3) yv_X10_needHouse tw_545 ⟨rfl, rfl, Nat.le_of_ble_eq_true rfl, Nat.le_of_ble_eq_true rfl⟩ (kC_0 E).1 rfl rfl rfl rfl (Nat.le_of_ble_eq_true rfl) ⟨Nat.le_of_ble_eq_true rfl, Nat.le_of_ble_eq_true rfl⟩ ⟨Nat.le_of_ble_eq_true rfl, Nat.le_of_ble_eq_true rfl⟩ dX10_leastChops_7 h (fun σ4 h H locs I => ?_)
  refine lv_iconst (v := 0) hx hb dX10_leastChops_10 (by decide) ?_
  refine lv_istore_n (lv' := [(3, .int (0 : Int32)), (0, .ref (ca E 0)), (1, .int x1), (2, .int x2)]) hx hb dX10_leastChops_11 rfl hl (by decide) rfl (fun ls hl => ?_)
  exact w_X10_leastChops_12 X hlt hex   KF σ4 (0 : Int32) h H locs ls I (lv_sub hl [1, 2, 3, 0] rfl)
theorem c_X10_leastChops {l : Launch} {E : CE} {σ : Mem} {x1 : Int32} {x2 : Int32} (hlt : l.stackTraces = false) {q : (Nat × Mem) ⊕ (Int32 × Mem)} (h : m_X10_leastChops σ x1 x2 = some q) : CXI l (vC E) yX10_leastChops (.code yX10_leastChops cX10_leastChops 4 (some .int) :: GG) rm_X10_leastChops 2 12 [.ref (ca E 0), .int x1, .int x2] σ q :=
  mk_CXI (by decide +kernel) (Nat.le_of_ble_eq_true rfl) (fun p e s m args below meth c A ls X hex I hl => w_X10_leastChops_0 X hlt hex σ x1 x2 h s.heap [] ls I (lv_sub hl [0, 1, 2] rfl))

def rm_X10_toWin : Room := { frames := 8, cells := 2, slots := 12, locals := 222 }
def f_X10_toWin_19 (x1 : Int32) (x2 : Int32) : Nat → Mem → Int32 → Int32 → Int32 → Option ((Nat × Mem) ⊕ (Int32 × Mem))
  | 0, _, _, _, _ => none
  | n + 1, σ, x3, x4, x5 => (if (20 : Int32) < x5 then (if x2 = (0 : Int32) then (some (.inr (x3, σ))) else (some (.inr (x4, σ)))) else ((m_X10_tryQuarterWith σ ((40 : Int32) + x1) x5).bind fun q3 => ((m_X8_housesOf 56 q3 x1).bind fun q4 => ((m_J6_bitCount_0f7a4 q3 q4).bind fun q5 => (if q5 ≤ x3 then f_X10_toWin_19 x1 x2 n q3 x3 x4 (x5 + 1) else f_X10_toWin_19 x1 x2 n q3 q5 x5 (x5 + 1))))))
def m_X10_toWin (σ : Mem) (x1 : Int32) (x2 : Int32) : Option ((Nat × Mem) ⊕ (Int32 × Mem)) := (xb (m_X10_needTenant σ x1) fun σ2 => (xb (m_X10_needWhat σ2 x2 (1 : Int32)) fun σ4 => (f_X10_toWin_19 x1 x2 KF σ4 (-1 : Int32) (0 : Int32) (0 : Int32))))
set_option maxHeartbeats 4000000 in
set_option maxRecDepth 100000 in
theorem w_X10_toWin_19 {p : Program} {l : Launch} {e : Env} {s : State} {m : MethodId} {args : Array Value} {below : List Frame} {meth : Method} {c : Code} {A : Nat → Prop} {E : CE} {q : (Nat × Mem) ⊕ (Int32 × Mem)} (X : CX p s m meth c args cX10_toWin 7 RX10 (some .int)) (hlt : l.stackTraces = false) (hex : ∀ x ∈ c.exceptionTable.toList, False) {x1 : Int32} {x2 : Int32} : ∀ (n : Nat), ∀ (σ : Mem) (x3 : Int32) (x4 : Int32) (x5 : Int32) , f_X10_toWin_19 x1 x2 n σ x3 x4 x5 = some q → ∀ (H : Heap) (locs : List Loc) (ls : Array Slot), WI (vC E) A s H locs σ → lv_has ls 7 [(0, .ref (ca E 0)), (1, .int x1), (2, .int x2), (3, .int x3), (4, .int x4), (5, .int x5)] → W p l e rm_X10_toWin s m args below meth c H locs 2 12 (vx_MQ below (QXI (vC E) A q) (XX (vC E) A q) args s 2 12 A) (F0 m 19 ls []) := by
  have hx := X.1
  have hb := X.2.1
  intro n
  induction n with
  | zero =>
    intro σ x3 x4 x5 h
    cases h
  | succ n ih =>
    intro σ x3 x4 x5 h H locs ls I hl
    rw [f_X10_toWin_19] at h
    refine lv_iload hx hb dX10_toWin_19 (lv_at hl 5 rfl) ?_
    refine lv_bipush (v := 20) hx hb dX10_toWin_21 (by decide) ?_
    refine lv_icmp_gt (tgt := 72) hx hb dX10_toWin_23 (by decide) (fun c1 => ?_) (fun c1 => ?_)
    · have h := ite_t h c1
      refine lv_iload_n hx hb dX10_toWin_72 rfl (lv_at hl 2 rfl) ?_
      refine lv_if_ne (tgt := 80) hx hb dX10_toWin_73 (by decide) (fun c2 => ?_) (fun c2 => ?_)
      · have h := ite_f h c2
        refine lv_iload hx hb dX10_toWin_80 (lv_at hl 4 rfl) ?_
        exact r_xiret X I (Option.some.inj h).symm ⟨Nat.le_of_ble_eq_true rfl, Nat.le_of_ble_eq_true rfl⟩ dX10_toWin_82
      · have h := ite_t h c2
        refine lv_iload_n hx hb dX10_toWin_76 rfl (lv_at hl 3 rfl) ?_
        refine lv_goto (tgt := 82) hx hb dX10_toWin_77 (by decide) ?_
        exact r_xiret X I (Option.some.inj h).symm ⟨Nat.le_of_ble_eq_true rfl, Nat.le_of_ble_eq_true rfl⟩ dX10_toWin_82
    · have h := ite_f h c1
      refine lv_aload_n hx hb dX10_toWin_26 rfl (lv_at hl 0 rfl) ?_
      refine lv_bipush (v := 40) hx hb dX10_toWin_27 (by decide) ?_
      refine lv_iload_n hx hb dX10_toWin_29 rfl (lv_at hl 1 rfl) ?_
      refine lv_iadd hx hb dX10_toWin_30 ?_
      refine lv_iload hx hb dX10_toWin_31 (lv_at hl 5 rfl) ?_
      obtain ⟨q3, hq3, h⟩ := bd h
      refine r_callVVk (V := (vC E)) (k := 0) (As := [.int ((40 : Int32) + x1), .int x5]) (rest := []) X I hl (c_X10_tryQuarterWith  hq3) yv_X10_tryQuarterWith tw_457 ⟨rfl, rfl, Nat.le_of_ble_eq_true rfl, Nat.le_of_ble_eq_true rfl⟩ (kC_0 E).1 ((kC_0 E).2 (σ 0)) rfl rfl rfl (Nat.le_of_ble_eq_true rfl) ⟨Nat.le_of_ble_eq_true rfl, Nat.le_of_ble_eq_true rfl⟩ dX10_toWin_33 (fun H locs I => ?_)
      refine lv_aload_n hx hb dX10_toWin_36 rfl (lv_at hl 0 rfl) ?_
      refine gfC_X10_24 X I (kC_0 E) (k' := 22) rfl dX10_toWin_37 ?_
      refine lv_aload_n hx hb dX10_toWin_40 rfl (lv_at hl 0 rfl) ?_
      refine gfC_X10_58 X I (kC_0 E) (k' := 56) rfl dX10_toWin_41 ?_
      refine lv_iload_n hx hb dX10_toWin_44 rfl (lv_at hl 1 rfl) ?_
      obtain ⟨q4, hq4, h⟩ := bd h
      refine r_callVIk (V := (vC E)) (k := 22) (As := [.ref (ca E 56), .int x1]) (rest := []) X I hl (c_X8_housesOf (kC_56 E) hq4) yv_X8_housesOf tw_533 ⟨rfl, rfl, Nat.le_of_ble_eq_true rfl, Nat.le_of_ble_eq_true rfl⟩ (kC_22 E).1 ((kC_22 E).2 (q3 22)) rfl rfl rfl (Nat.le_of_ble_eq_true rfl) ⟨Nat.le_of_ble_eq_true rfl, Nat.le_of_ble_eq_true rfl⟩ dX10_toWin_45 (fun H locs I => ?_)
      obtain ⟨q5, hq5, h⟩ := bd h
      refine r_callSIk (V := (vC E)) (As := [.int q4]) (rest := []) X I hl (c_J6_bitCount_0f7a4  hq5) ys_J6_bitCount_0f7a4 tw_596 ⟨rfl, rfl, Nat.le_of_ble_eq_true rfl, Nat.le_of_ble_eq_true rfl⟩ rfl rfl (Nat.le_of_ble_eq_true rfl) ⟨Nat.le_of_ble_eq_true rfl, Nat.le_of_ble_eq_true rfl⟩ dX10_toWin_48 (fun H locs I => ?_)
      refine lv_istore (lv' := [(6, .int q5), (0, .ref (ca E 0)), (1, .int x1), (2, .int x2), (3, .int x3), (4, .int x4), (5, .int x5)]) hx hb dX10_toWin_51 hl (by decide) rfl (fun ls hl => ?_)
      refine lv_iload hx hb dX10_toWin_53 (lv_at hl 0 rfl) ?_
      refine lv_iload_n hx hb dX10_toWin_55 rfl (lv_at hl 4 rfl) ?_
      refine lv_icmp_le (tgt := 66) hx hb dX10_toWin_56 (by decide) (fun c6 => ?_) (fun c6 => ?_)
      · have h := ite_t h c6
        refine lv_iinc (v := (x5 + 1)) (lv' := [(5, .int (x5 + 1)), (6, .int q5), (0, .ref (ca E 0)), (1, .int x1), (2, .int x2), (3, .int x3), (4, .int x4)]) hx hb dX10_toWin_66 hl (k := 6) rfl rfl (by decide) rfl (fun ls hl => ?_)
        refine lv_goto (tgt := 19) hx hb dX10_toWin_69 (by decide) ?_
        exact ih q3 x3 x4 (x5 + 1) h H locs ls I (lv_sub hl [2, 3, 4, 5, 6, 0] rfl)
      · have h := ite_f h c6
        refine lv_iload hx hb dX10_toWin_59 (lv_at hl 0 rfl) ?_
        refine lv_istore_n (lv' := [(3, .int q5), (6, .int q5), (0, .ref (ca E 0)), (1, .int x1), (2, .int x2), (4, .int x4), (5, .int x5)]) hx hb dX10_toWin_61 rfl hl (by decide) rfl (fun ls hl => ?_)
        refine lv_iload hx hb dX10_toWin_62 (lv_at hl 6 rfl) ?_
        refine lv_istore (lv' := [(4, .int x5), (3, .int q5), (6, .int q5), (0, .ref (ca E 0)), (1, .int x1), (2, .int x2), (5, .int x5)]) hx hb dX10_toWin_64 hl (by decide) rfl (fun ls hl => ?_)
        refine lv_iinc (v := (x5 + 1)) (lv' := [(5, .int (x5 + 1)), (4, .int x5), (3, .int q5), (6, .int q5), (0, .ref (ca E 0)), (1, .int x1), (2, .int x2)]) hx hb dX10_toWin_66 hl (k := 6) rfl rfl (by decide) rfl (fun ls hl => ?_)
        refine lv_goto (tgt := 19) hx hb dX10_toWin_69 (by decide) ?_
        exact ih q3 q5 x5 (x5 + 1) h H locs ls I (lv_sub hl [4, 5, 6, 2, 1, 0] rfl)
set_option maxHeartbeats 4000000 in
set_option maxRecDepth 100000 in
theorem w_X10_toWin_0 {p : Program} {l : Launch} {e : Env} {s : State} {m : MethodId} {args : Array Value} {below : List Frame} {meth : Method} {c : Code} {A : Nat → Prop} {E : CE} {q : (Nat × Mem) ⊕ (Int32 × Mem)} (X : CX p s m meth c args cX10_toWin 7 RX10 (some .int)) (hlt : l.stackTraces = false) (hex : ∀ x ∈ c.exceptionTable.toList, False) : ∀ (σ : Mem) (x1 : Int32) (x2 : Int32) , m_X10_toWin σ x1 x2 = some q → ∀ (H : Heap) (locs : List Loc) (ls : Array Slot), WI (vC E) A s H locs σ → lv_has ls 7 [(0, .ref (ca E 0)), (1, .int x1), (2, .int x2)] → W p l e rm_X10_toWin s m args below meth c H locs 0 0 (vx_MQ below (QXI (vC E) A q) (XX (vC E) A q) args s 2 12 A) (F0 m 0 ls []) := by
  have hx := X.1
  have hb := X.2.1
  intro σ x1 x2 h H locs ls I hl
  unfold m_X10_toWin at h
  refine lv_aload_n hx hb dX10_toWin_0 rfl (lv_at hl 0 rfl) ?_
  refine lv_iload_n hx hb dX10_toWin_1 rfl (lv_at hl 1 rfl) ?_
  obtain ⟨q1, hq1, h⟩ := xb_e h
  refine r_callXV (V := (vC E)) (k := 0) (As := [.int x1]) (rest := []) X hex I hl (c_X10_needTenant hlt hq1) yv_X10_needTenant tw_558 ⟨rfl, rfl, Nat.le_of_ble_eq_true rfl, Nat.le_of_ble_eq_true rfl⟩ (kC_0 E).1 rfl rfl rfl rfl (Nat.le_of_ble_eq_true rfl) ⟨Nat.le_of_ble_eq_true rfl, Nat.le_of_ble_eq_true rfl⟩ ⟨Nat.le_of_ble_eq_true rfl, Nat.le_of_ble_eq_true rfl⟩ dX10_toWin_2 h (fun σ2 h H locs I => ?_)
  refine lv_aload_n hx hb dX10_toWin_5 rfl (lv_at hl 0 rfl) ?_
  refine lv_iload_n hx hb dX10_toWin_6 rfl (lv_at hl 2 rfl) ?_
  refine lv_iconst (v := 1) hx hb dX10_toWin_7 (by decide) ?_
  obtain ⟨q3, hq3, h⟩ := xb_e h
  refine r_callXV (V := (vC E)) (k := 0) (As := [.int x2, .int (1 : Int32)]) (rest := []) X hex I hl (c_X10_needWhat hlt hq3) yv_X10_needWhat tw_580 ⟨rfl, rfl, Nat.le_of_ble_eq_true rfl, Nat.le_of_ble_eq_true rfl⟩ (kC_0 E).1 rfl rfl rfl rfl (Nat.le_of_ble_eq_true rfl) ⟨Nat.le_of_ble_eq_true rfl, Nat.le_of_ble_eq_true rfl⟩ ⟨Nat.le_of_ble_eq_true rfl, Nat.le_of_ble_eq_true rfl⟩ dX10_toWin_8 h (fun σ4 h H locs I => ?_)
  refine lv_iconst (v := -1) hx hb dX10_toWin_11 (by decide) ?_
  refine lv_istore_n (lv' := [(3, .int (-1 : Int32)), (0, .ref (ca E 0)), (1, .int x1), (2, .int x2)]) hx hb dX10_toWin_12 rfl hl (by decide) rfl (fun ls hl => ?_)
  refine lv_iconst (v := 0) hx hb dX10_toWin_13 (by decide) ?_
  refine lv_istore (lv' := [(4, .int (0 : Int32)), (3, .int (-1 : Int32)), (0, .ref (ca E 0)), (1, .int x1), (2, .int x2)]) hx hb dX10_toWin_14 hl (by decide) rfl (fun ls hl => ?_)
  refine lv_iconst (v := 0) hx hb dX10_toWin_16 (by decide) ?_
  refine lv_istore (lv' := [(5, .int (0 : Int32)), (4, .int (0 : Int32)), (3, .int (-1 : Int32)), (0, .ref (ca E 0)), (1, .int x1), (2, .int x2)]) hx hb dX10_toWin_17 hl (by decide) rfl (fun ls hl => ?_)
  exact w_X10_toWin_19 X hlt hex   KF σ4 (-1 : Int32) (0 : Int32) (0 : Int32) h H locs ls I (lv_sub hl [3, 4, 5, 2, 1, 0] rfl)
theorem c_X10_toWin {l : Launch} {E : CE} {σ : Mem} {x1 : Int32} {x2 : Int32} (hlt : l.stackTraces = false) {q : (Nat × Mem) ⊕ (Int32 × Mem)} (h : m_X10_toWin σ x1 x2 = some q) : CXI l (vC E) yX10_toWin (.code yX10_toWin cX10_toWin 7 (some .int) :: GG) rm_X10_toWin 2 12 [.ref (ca E 0), .int x1, .int x2] σ q :=
  mk_CXI (by decide +kernel) (Nat.le_of_ble_eq_true rfl) (fun p e s m args below meth c A ls X hex I hl => w_X10_toWin_0 X hlt hex σ x1 x2 h s.heap [] ls I (lv_sub hl [0, 1, 2] rfl))

def rm_X10_ruin : Room := { frames := 8, cells := 1, slots := 6, locals := 227 }
def f_X10_ruin_31 (x1 : Int32) : Nat → Mem → Int32 → Int32 → Int32 → Option ((Nat × Mem) ⊕ (Int32 × Mem))
  | 0, _, _, _, _ => none
  | n + 1, σ, x2, x3, x4 => (if (σ 23 1) ≤ x4 then (some (.inr (x3, σ))) else (if x4 = x1 then f_X10_ruin_31 x1 n σ x2 x3 (x4 + 1) else ((m_X10_tryQuarterWith σ ((47 : Int32) + x4) (0 : Int32)).bind fun q3 => ((m_X8_housesOf 56 q3 x1).bind fun q4 => ((m_J6_bitCount_0f7a4 q3 q4).bind fun q5 => (if x2 ≤ q5 then f_X10_ruin_31 x1 n q3 x2 x3 (x4 + 1) else f_X10_ruin_31 x1 n q3 q5 x4 (x4 + 1)))))))
def m_X10_ruin (σ : Mem) (x1 : Int32) : Option ((Nat × Mem) ⊕ (Int32 × Mem)) := (xb (m_X10_needTenant σ x1) fun σ2 => ((m_X10_tryAhead σ2 (1 : Int32)).bind fun q3 => ((m_X8_housesOf 56 q3 x1).bind fun q4 => ((m_J6_bitCount_0f7a4 q3 q4).bind fun q5 => (f_X10_ruin_31 x1 KF q3 q5 (-1 : Int32) (0 : Int32))))))
set_option maxHeartbeats 4000000 in
set_option maxRecDepth 100000 in
theorem w_X10_ruin_31 {p : Program} {l : Launch} {e : Env} {s : State} {m : MethodId} {args : Array Value} {below : List Frame} {meth : Method} {c : Code} {A : Nat → Prop} {E : CE} {q : (Nat × Mem) ⊕ (Int32 × Mem)} (X : CX p s m meth c args cX10_ruin 6 RX10 (some .int)) (hlt : l.stackTraces = false) (hex : ∀ x ∈ c.exceptionTable.toList, False) {x1 : Int32} : ∀ (n : Nat), ∀ (σ : Mem) (x2 : Int32) (x3 : Int32) (x4 : Int32) , f_X10_ruin_31 x1 n σ x2 x3 x4 = some q → ∀ (H : Heap) (locs : List Loc) (ls : Array Slot), WI (vC E) A s H locs σ → lv_has ls 6 [(0, .ref (ca E 0)), (1, .int x1), (2, .int x2), (3, .int x3), (4, .int x4)] → W p l e rm_X10_ruin s m args below meth c H locs 1 6 (vx_MQ below (QXI (vC E) A q) (XX (vC E) A q) args s 1 6 A) (F0 m 31 ls []) := by
  have hx := X.1
  have hb := X.2.1
  intro n
  induction n with
  | zero =>
    intro σ x2 x3 x4 h
    cases h
  | succ n ih =>
    intro σ x2 x3 x4 h H locs ls I hl
    rw [f_X10_ruin_31] at h
    refine lv_iload hx hb dX10_ruin_31 (lv_at hl 4 rfl) ?_
    refine lv_aload_n hx hb dX10_ruin_33 rfl (lv_at hl 0 rfl) ?_
    refine gfC_X10_32 X I (kC_0 E) (k' := 23) rfl dX10_ruin_34 ?_
    refine gfC_X10_116 X I (kC_23 E) dX10_ruin_37 ?_
    refine lv_icmp_ge (tgt := 97) hx hb dX10_ruin_40 (by decide) (fun c1 => ?_) (fun c1 => ?_)
    · have h := ite_t h c1
      refine lv_iload_n hx hb dX10_ruin_97 rfl (lv_at hl 3 rfl) ?_
      exact r_xiret X I (Option.some.inj h).symm ⟨Nat.le_of_ble_eq_true rfl, Nat.le_of_ble_eq_true rfl⟩ dX10_ruin_98
    · have h := ite_f h c1
      refine lv_iload hx hb dX10_ruin_43 (lv_at hl 4 rfl) ?_
      refine lv_iload_n hx hb dX10_ruin_45 rfl (lv_at hl 1 rfl) ?_
      refine lv_icmp_ne (tgt := 52) hx hb dX10_ruin_46 (by decide) (fun c2 => ?_) (fun c2 => ?_)
      · have h := ite_f h c2
        refine lv_aload_n hx hb dX10_ruin_52 rfl (lv_at hl 0 rfl) ?_
        refine lv_bipush (v := 47) hx hb dX10_ruin_53 (by decide) ?_
        refine lv_iload hx hb dX10_ruin_55 (lv_at hl 4 rfl) ?_
        refine lv_iadd hx hb dX10_ruin_57 ?_
        refine lv_iconst (v := 0) hx hb dX10_ruin_58 (by decide) ?_
        obtain ⟨q3, hq3, h⟩ := bd h
        refine r_callVVk (V := (vC E)) (k := 0) (As := [.int ((47 : Int32) + x4), .int (0 : Int32)]) (rest := []) X I hl (c_X10_tryQuarterWith  hq3) yv_X10_tryQuarterWith tw_457 ⟨rfl, rfl, Nat.le_of_ble_eq_true rfl, Nat.le_of_ble_eq_true rfl⟩ (kC_0 E).1 ((kC_0 E).2 (σ 0)) rfl rfl rfl (Nat.le_of_ble_eq_true rfl) ⟨Nat.le_of_ble_eq_true rfl, Nat.le_of_ble_eq_true rfl⟩ dX10_ruin_59 (fun H locs I => ?_)
        refine lv_aload_n hx hb dX10_ruin_62 rfl (lv_at hl 0 rfl) ?_
        refine gfC_X10_24 X I (kC_0 E) (k' := 22) rfl dX10_ruin_63 ?_
        refine lv_aload_n hx hb dX10_ruin_66 rfl (lv_at hl 0 rfl) ?_
        refine gfC_X10_58 X I (kC_0 E) (k' := 56) rfl dX10_ruin_67 ?_
        refine lv_iload_n hx hb dX10_ruin_70 rfl (lv_at hl 1 rfl) ?_
        obtain ⟨q4, hq4, h⟩ := bd h
        refine r_callVIk (V := (vC E)) (k := 22) (As := [.ref (ca E 56), .int x1]) (rest := []) X I hl (c_X8_housesOf (kC_56 E) hq4) yv_X8_housesOf tw_533 ⟨rfl, rfl, Nat.le_of_ble_eq_true rfl, Nat.le_of_ble_eq_true rfl⟩ (kC_22 E).1 ((kC_22 E).2 (q3 22)) rfl rfl rfl (Nat.le_of_ble_eq_true rfl) ⟨Nat.le_of_ble_eq_true rfl, Nat.le_of_ble_eq_true rfl⟩ dX10_ruin_71 (fun H locs I => ?_)
        obtain ⟨q5, hq5, h⟩ := bd h
        refine r_callSIk (V := (vC E)) (As := [.int q4]) (rest := []) X I hl (c_J6_bitCount_0f7a4  hq5) ys_J6_bitCount_0f7a4 tw_596 ⟨rfl, rfl, Nat.le_of_ble_eq_true rfl, Nat.le_of_ble_eq_true rfl⟩ rfl rfl (Nat.le_of_ble_eq_true rfl) ⟨Nat.le_of_ble_eq_true rfl, Nat.le_of_ble_eq_true rfl⟩ dX10_ruin_74 (fun H locs I => ?_)
        refine lv_istore (lv' := [(5, .int q5), (0, .ref (ca E 0)), (1, .int x1), (2, .int x2), (3, .int x3), (4, .int x4)]) hx hb dX10_ruin_77 hl (by decide) rfl (fun ls hl => ?_)
        refine lv_iload hx hb dX10_ruin_79 (lv_at hl 0 rfl) ?_
        refine lv_iload_n hx hb dX10_ruin_81 rfl (lv_at hl 3 rfl) ?_
        refine lv_icmp_ge (tgt := 91) hx hb dX10_ruin_82 (by decide) (fun c6 => ?_) (fun c6 => ?_)
        · have h := ite_t h c6
          refine lv_iinc (v := (x4 + 1)) (lv' := [(4, .int (x4 + 1)), (5, .int q5), (0, .ref (ca E 0)), (1, .int x1), (2, .int x2), (3, .int x3)]) hx hb dX10_ruin_91 hl (k := 5) rfl rfl (by decide) rfl (fun ls hl => ?_)
          refine lv_goto (tgt := 31) hx hb dX10_ruin_94 (by decide) ?_
          exact ih q3 x2 x3 (x4 + 1) h H locs ls I (lv_sub hl [2, 3, 4, 5, 0] rfl)
        · have h := ite_f h c6
          refine lv_iload hx hb dX10_ruin_85 (lv_at hl 0 rfl) ?_
          refine lv_istore_n (lv' := [(2, .int q5), (5, .int q5), (0, .ref (ca E 0)), (1, .int x1), (3, .int x3), (4, .int x4)]) hx hb dX10_ruin_87 rfl hl (by decide) rfl (fun ls hl => ?_)
          refine lv_iload hx hb dX10_ruin_88 (lv_at hl 5 rfl) ?_
          refine lv_istore_n (lv' := [(3, .int x4), (2, .int q5), (5, .int q5), (0, .ref (ca E 0)), (1, .int x1), (4, .int x4)]) hx hb dX10_ruin_90 rfl hl (by decide) rfl (fun ls hl => ?_)
          refine lv_iinc (v := (x4 + 1)) (lv' := [(4, .int (x4 + 1)), (3, .int x4), (2, .int q5), (5, .int q5), (0, .ref (ca E 0)), (1, .int x1)]) hx hb dX10_ruin_91 hl (k := 5) rfl rfl (by decide) rfl (fun ls hl => ?_)
          refine lv_goto (tgt := 31) hx hb dX10_ruin_94 (by decide) ?_
          exact ih q3 q5 x4 (x4 + 1) h H locs ls I (lv_sub hl [4, 5, 2, 1, 0] rfl)
      · have h := ite_t h c2
        refine lv_goto (tgt := 91) hx hb dX10_ruin_49 (by decide) ?_
        refine lv_iinc (v := (x4 + 1)) (lv' := [(4, .int (x4 + 1)), (0, .ref (ca E 0)), (1, .int x1), (2, .int x2), (3, .int x3)]) hx hb dX10_ruin_91 hl (k := 4) rfl rfl (by decide) rfl (fun ls hl => ?_)
        refine lv_goto (tgt := 31) hx hb dX10_ruin_94 (by decide) ?_
        exact ih σ x2 x3 (x4 + 1) h H locs ls I (lv_sub hl [1, 2, 3, 4, 0] rfl)
set_option maxHeartbeats 4000000 in
set_option maxRecDepth 100000 in
theorem w_X10_ruin_0 {p : Program} {l : Launch} {e : Env} {s : State} {m : MethodId} {args : Array Value} {below : List Frame} {meth : Method} {c : Code} {A : Nat → Prop} {E : CE} {q : (Nat × Mem) ⊕ (Int32 × Mem)} (X : CX p s m meth c args cX10_ruin 6 RX10 (some .int)) (hlt : l.stackTraces = false) (hex : ∀ x ∈ c.exceptionTable.toList, False) : ∀ (σ : Mem) (x1 : Int32) , m_X10_ruin σ x1 = some q → ∀ (H : Heap) (locs : List Loc) (ls : Array Slot), WI (vC E) A s H locs σ → lv_has ls 6 [(0, .ref (ca E 0)), (1, .int x1)] → W p l e rm_X10_ruin s m args below meth c H locs 0 0 (vx_MQ below (QXI (vC E) A q) (XX (vC E) A q) args s 1 6 A) (F0 m 0 ls []) := by
  have hx := X.1
  have hb := X.2.1
  intro σ x1 h H locs ls I hl
  unfold m_X10_ruin at h
  refine lv_aload_n hx hb dX10_ruin_0 rfl (lv_at hl 0 rfl) ?_
  refine lv_iload_n hx hb dX10_ruin_1 rfl (lv_at hl 1 rfl) ?_
  obtain ⟨q1, hq1, h⟩ := xb_e h
  refine r_callXV (V := (vC E)) (k := 0) (As := [.int x1]) (rest := []) X hex I hl (c_X10_needTenant hlt hq1) yv_X10_needTenant tw_558 ⟨rfl, rfl, Nat.le_of_ble_eq_true rfl, Nat.le_of_ble_eq_true rfl⟩ (kC_0 E).1 rfl rfl rfl rfl (Nat.le_of_ble_eq_true rfl) ⟨Nat.le_of_ble_eq_true rfl, Nat.le_of_ble_eq_true rfl⟩ ⟨Nat.le_of_ble_eq_true rfl, Nat.le_of_ble_eq_true rfl⟩ dX10_ruin_2 h (fun σ2 h H locs I => ?_)
  refine lv_aload_n hx hb dX10_ruin_5 rfl (lv_at hl 0 rfl) ?_
  refine lv_iconst (v := 1) hx hb dX10_ruin_6 (by decide) ?_
  obtain ⟨q3, hq3, h⟩ := bd h
  refine r_callVVk (V := (vC E)) (k := 0) (As := [.int (1 : Int32)]) (rest := []) X I hl (c_X10_tryAhead  hq3) yv_X10_tryAhead tw_575 ⟨rfl, rfl, Nat.le_of_ble_eq_true rfl, Nat.le_of_ble_eq_true rfl⟩ (kC_0 E).1 ((kC_0 E).2 (σ2 0)) rfl rfl rfl (Nat.le_of_ble_eq_true rfl) ⟨Nat.le_of_ble_eq_true rfl, Nat.le_of_ble_eq_true rfl⟩ dX10_ruin_7 (fun H locs I => ?_)
  refine lv_aload_n hx hb dX10_ruin_10 rfl (lv_at hl 0 rfl) ?_
  refine gfC_X10_24 X I (kC_0 E) (k' := 22) rfl dX10_ruin_11 ?_
  refine lv_aload_n hx hb dX10_ruin_14 rfl (lv_at hl 0 rfl) ?_
  refine gfC_X10_58 X I (kC_0 E) (k' := 56) rfl dX10_ruin_15 ?_
  refine lv_iload_n hx hb dX10_ruin_18 rfl (lv_at hl 1 rfl) ?_
  obtain ⟨q4, hq4, h⟩ := bd h
  refine r_callVIk (V := (vC E)) (k := 22) (As := [.ref (ca E 56), .int x1]) (rest := []) X I hl (c_X8_housesOf (kC_56 E) hq4) yv_X8_housesOf tw_533 ⟨rfl, rfl, Nat.le_of_ble_eq_true rfl, Nat.le_of_ble_eq_true rfl⟩ (kC_22 E).1 ((kC_22 E).2 (q3 22)) rfl rfl rfl (Nat.le_of_ble_eq_true rfl) ⟨Nat.le_of_ble_eq_true rfl, Nat.le_of_ble_eq_true rfl⟩ dX10_ruin_19 (fun H locs I => ?_)
  obtain ⟨q5, hq5, h⟩ := bd h
  refine r_callSIk (V := (vC E)) (As := [.int q4]) (rest := []) X I hl (c_J6_bitCount_0f7a4  hq5) ys_J6_bitCount_0f7a4 tw_596 ⟨rfl, rfl, Nat.le_of_ble_eq_true rfl, Nat.le_of_ble_eq_true rfl⟩ rfl rfl (Nat.le_of_ble_eq_true rfl) ⟨Nat.le_of_ble_eq_true rfl, Nat.le_of_ble_eq_true rfl⟩ dX10_ruin_22 (fun H locs I => ?_)
  refine lv_istore_n (lv' := [(2, .int q5), (0, .ref (ca E 0)), (1, .int x1)]) hx hb dX10_ruin_25 rfl hl (by decide) rfl (fun ls hl => ?_)
  refine lv_iconst (v := -1) hx hb dX10_ruin_26 (by decide) ?_
  refine lv_istore_n (lv' := [(3, .int (-1 : Int32)), (2, .int q5), (0, .ref (ca E 0)), (1, .int x1)]) hx hb dX10_ruin_27 rfl hl (by decide) rfl (fun ls hl => ?_)
  refine lv_iconst (v := 0) hx hb dX10_ruin_28 (by decide) ?_
  refine lv_istore (lv' := [(4, .int (0 : Int32)), (3, .int (-1 : Int32)), (2, .int q5), (0, .ref (ca E 0)), (1, .int x1)]) hx hb dX10_ruin_29 hl (by decide) rfl (fun ls hl => ?_)
  exact w_X10_ruin_31 X hlt hex   KF q3 q5 (-1 : Int32) (0 : Int32) h H locs ls I (lv_sub hl [3, 4, 2, 1, 0] rfl)
theorem c_X10_ruin {l : Launch} {E : CE} {σ : Mem} {x1 : Int32} (hlt : l.stackTraces = false) {q : (Nat × Mem) ⊕ (Int32 × Mem)} (h : m_X10_ruin σ x1 = some q) : CXI l (vC E) yX10_ruin (.code yX10_ruin cX10_ruin 6 (some .int) :: GG) rm_X10_ruin 1 6 [.ref (ca E 0), .int x1] σ q :=
  mk_CXI (by decide +kernel) (Nat.le_of_ble_eq_true rfl) (fun p e s m args below meth c A ls X hex I hl => w_X10_ruin_0 X hlt hex σ x1 h s.heap [] ls I (lv_sub hl [0, 1] rfl))

def rm_X10_share : Room := { frames := 8, cells := 2, slots := 12, locals := 221 }
def f_X10_share_69 (k55 : Mem → Int32 → Option ((Nat × Mem) ⊕ (Int32 × Mem))) (x1 : Int32) (x3 : Int32) : Nat → Mem → Int32 → Option ((Nat × Mem) ⊕ (Int32 × Mem))
  | 0, _, _ => none
  | n + 1, σ, x4 => (if (σ 23 0) ≤ x4 then (k55 σ (x3 + 1)) else ((m_X8_likingNow 43 σ x4 x3).bind fun q2 => ((m_X7_tell q2.2 x3 x4 q2.1).bind fun q3 => f_X10_share_69 k55 x1 x3 n q3 (x4 + 1))))
def f_X10_share_55 (x1 : Int32) : Nat → Mem → Int32 → Option ((Nat × Mem) ⊕ (Int32 × Mem))
  | 0, _, _ => none
  | n + 1, σ, x3 => (if (σ 23 1) ≤ x3 then ((m_X7_weigh σ).bind fun q2 => (if x1 = (-1 : Int32) then ((m_X7_howMuch q2).bind fun q5 => (some (.inr (q5, q2)))) else ((m_X7_whoHas q2 x1).bind fun q4 => (some (.inr (q4, q2)))))) else (f_X10_share_69 (f_X10_share_55 x1 n) x1 x3 KF σ (0 : Int32)))
def f_X10_share_10 (σ : Mem) (x1 : Int32) (x2 : Int32) : Option ((Nat × Mem) ⊕ (Int32 × Mem)) := (if x2 < (1 : Int32) then (some (.inl (1, σ))) else (if x2 ≤ (8 : Int32) then ((m_X7_begin σ (σ 23 0) (σ 23 1) x2).bind fun q3 => (f_X10_share_55 x1 KF q3 (0 : Int32))) else (some (.inl (1, σ)))))
def m_X10_share (σ : Mem) (x1 : Int32) (x2 : Int32) : Option ((Nat × Mem) ⊕ (Int32 × Mem)) := (if x1 = (-1 : Int32) then (f_X10_share_10 σ x1 x2) else (xb (m_X10_needHouse σ x1) fun σ3 => (f_X10_share_10 σ3 x1 x2)))
set_option maxHeartbeats 4000000 in
set_option maxRecDepth 100000 in
theorem w_X10_share_69 {p : Program} {l : Launch} {e : Env} {s : State} {m : MethodId} {args : Array Value} {below : List Frame} {meth : Method} {c : Code} {A : Nat → Prop} {E : CE} {q : (Nat × Mem) ⊕ (Int32 × Mem)} (X : CX p s m meth c args cX10_share 5 RX10 (some .int)) (hlt : l.stackTraces = false) (hex : ∀ x ∈ c.exceptionTable.toList, False) {x1 : Int32} {x3 : Int32} {k55 : Mem → Int32 → Option ((Nat × Mem) ⊕ (Int32 × Mem))} (hk55 : ∀ (σ : Mem) (x3 : Int32) , k55 σ x3 = some q → ∀ (H : Heap) (locs : List Loc) (ls : Array Slot), WI (vC E) A s H locs σ → lv_has ls 5 [(0, .ref (ca E 0)), (1, .int x1), (3, .int x3)] → W p l e rm_X10_share s m args below meth c H locs 1 6 (vx_MQ below (QXI (vC E) A q) (XX (vC E) A q) args s 2 12 A) (F0 m 55 ls [])) : ∀ (n : Nat), ∀ (σ : Mem) (x4 : Int32) , f_X10_share_69 k55 x1 x3 n σ x4 = some q → ∀ (H : Heap) (locs : List Loc) (ls : Array Slot), WI (vC E) A s H locs σ → lv_has ls 5 [(0, .ref (ca E 0)), (1, .int x1), (3, .int x3), (4, .int x4)] → W p l e rm_X10_share s m args below meth c H locs 1 6 (vx_MQ below (QXI (vC E) A q) (XX (vC E) A q) args s 2 12 A) (F0 m 69 ls []) := by
  have hx := X.1
  have hb := X.2.1
  intro n
  induction n with
  | zero =>
    intro σ x4 h
    cases h
  | succ n ih =>
    intro σ x4 h H locs ls I hl
    rw [f_X10_share_69] at h
    refine lv_iload hx hb dX10_share_69 (lv_at hl 3 rfl) ?_
    refine lv_aload_n hx hb dX10_share_71 rfl (lv_at hl 0 rfl) ?_
    refine gfC_X10_32 X I (kC_0 E) (k' := 23) rfl dX10_share_72 ?_
    refine gfC_X10_113 X I (kC_23 E) dX10_share_75 ?_
    refine lv_icmp_ge (tgt := 114) hx hb dX10_share_78 (by decide) (fun c1 => ?_) (fun c1 => ?_)
    · have h := ite_t h c1
      refine lv_iinc (v := (x3 + 1)) (lv' := [(3, .int (x3 + 1)), (0, .ref (ca E 0)), (1, .int x1), (4, .int x4)]) hx hb dX10_share_114 hl (k := 2) rfl rfl (by decide) rfl (fun ls hl => ?_)
      refine lv_goto (tgt := 55) hx hb dX10_share_117 (by decide) ?_
      exact hk55 σ (x3 + 1) h H locs ls I (lv_sub hl [1, 2, 0] rfl)
    · have h := ite_f h c1
      refine lv_aload_n hx hb dX10_share_81 rfl (lv_at hl 0 rfl) ?_
      refine gfC_X10_36 X I (kC_0 E) (k' := 38) rfl dX10_share_82 ?_
      refine lv_iload_n hx hb dX10_share_85 rfl (lv_at hl 2 rfl) ?_
      refine lv_iload hx hb dX10_share_86 (lv_at hl 3 rfl) ?_
      refine lv_aload_n hx hb dX10_share_88 rfl (lv_at hl 0 rfl) ?_
      refine gfC_X10_24 X I (kC_0 E) (k' := 22) rfl dX10_share_89 ?_
      refine lv_aload_n hx hb dX10_share_92 rfl (lv_at hl 0 rfl) ?_
      refine gfC_X10_43 X I (kC_0 E) (k' := 42) rfl dX10_share_93 ?_
      refine gfC_X10_122 X I (kC_42 E) (k' := 43) rfl dX10_share_96 ?_
      refine lv_iload hx hb dX10_share_99 (lv_at hl 3 rfl) ?_
      refine lv_iload_n hx hb dX10_share_101 rfl (lv_at hl 2 rfl) ?_
      obtain ⟨q2, hq2, h⟩ := bd h
      refine r_callVIk (V := (vC E)) (k := 22) (As := [.ref (ca E 43), .int x4, .int x3]) (rest := [.int x4, .int x3, .ref (ca E 38)]) X I hl (c_X8_likingNow (kC_43 E) hq2) yv_X8_likingNow tw_597 ⟨rfl, rfl, Nat.le_of_ble_eq_true rfl, Nat.le_of_ble_eq_true rfl⟩ (kC_22 E).1 ((kC_22 E).2 (σ 22)) rfl rfl rfl (Nat.le_of_ble_eq_true rfl) ⟨Nat.le_of_ble_eq_true rfl, Nat.le_of_ble_eq_true rfl⟩ dX10_share_102 (fun H locs I => ?_)
      obtain ⟨q3, hq3, h⟩ := bd h
      refine r_callVVk (V := (vC E)) (k := 38) (As := [.int x3, .int x4, .int q2.1]) (rest := []) X I hl (c_X7_tell  hq3) yv_X7_tell tw_623 ⟨rfl, rfl, Nat.le_of_ble_eq_true rfl, Nat.le_of_ble_eq_true rfl⟩ (kC_38 E).1 ((kC_38 E).2 (q2.2 38)) rfl rfl rfl (Nat.le_of_ble_eq_true rfl) ⟨Nat.le_of_ble_eq_true rfl, Nat.le_of_ble_eq_true rfl⟩ dX10_share_105 (fun H locs I => ?_)
      refine lv_iinc (v := (x4 + 1)) (lv' := [(4, .int (x4 + 1)), (0, .ref (ca E 0)), (1, .int x1), (3, .int x3)]) hx hb dX10_share_108 hl (k := 3) rfl rfl (by decide) rfl (fun ls hl => ?_)
      refine lv_goto (tgt := 69) hx hb dX10_share_111 (by decide) ?_
      exact ih q3 (x4 + 1) h H locs ls I (lv_sub hl [1, 2, 3, 0] rfl)
set_option maxHeartbeats 4000000 in
set_option maxRecDepth 100000 in
theorem w_X10_share_55 {p : Program} {l : Launch} {e : Env} {s : State} {m : MethodId} {args : Array Value} {below : List Frame} {meth : Method} {c : Code} {A : Nat → Prop} {E : CE} {q : (Nat × Mem) ⊕ (Int32 × Mem)} (X : CX p s m meth c args cX10_share 5 RX10 (some .int)) (hlt : l.stackTraces = false) (hex : ∀ x ∈ c.exceptionTable.toList, False) {x1 : Int32} : ∀ (n : Nat), ∀ (σ : Mem) (x3 : Int32) , f_X10_share_55 x1 n σ x3 = some q → ∀ (H : Heap) (locs : List Loc) (ls : Array Slot), WI (vC E) A s H locs σ → lv_has ls 5 [(0, .ref (ca E 0)), (1, .int x1), (3, .int x3)] → W p l e rm_X10_share s m args below meth c H locs 1 6 (vx_MQ below (QXI (vC E) A q) (XX (vC E) A q) args s 2 12 A) (F0 m 55 ls []) := by
  have hx := X.1
  have hb := X.2.1
  intro n
  induction n with
  | zero =>
    intro σ x3 h
    cases h
  | succ n ih =>
    intro σ x3 h H locs ls I hl
    rw [f_X10_share_55] at h
    refine lv_iload_n hx hb dX10_share_55 rfl (lv_at hl 2 rfl) ?_
    refine lv_aload_n hx hb dX10_share_56 rfl (lv_at hl 0 rfl) ?_
    refine gfC_X10_32 X I (kC_0 E) (k' := 23) rfl dX10_share_57 ?_
    refine gfC_X10_116 X I (kC_23 E) dX10_share_60 ?_
    refine lv_icmp_ge (tgt := 120) hx hb dX10_share_63 (by decide) (fun c1 => ?_) (fun c1 => ?_)
    · have h := ite_t h c1
      refine lv_aload_n hx hb dX10_share_120 rfl (lv_at hl 0 rfl) ?_
      refine gfC_X10_36 X I (kC_0 E) (k' := 38) rfl dX10_share_121 ?_
      obtain ⟨q2, hq2, h⟩ := bd h
      refine r_callVVk (V := (vC E)) (k := 38) (As := []) (rest := []) X I hl (c_X7_weigh  hq2) yv_X7_weigh tw_608 ⟨rfl, rfl, Nat.le_of_ble_eq_true rfl, Nat.le_of_ble_eq_true rfl⟩ (kC_38 E).1 ((kC_38 E).2 (σ 38)) rfl rfl rfl (Nat.le_of_ble_eq_true rfl) ⟨Nat.le_of_ble_eq_true rfl, Nat.le_of_ble_eq_true rfl⟩ dX10_share_124 (fun H locs I => ?_)
      refine lv_iload_n hx hb dX10_share_127 rfl (lv_at hl 1 rfl) ?_
      refine lv_iconst (v := -1) hx hb dX10_share_128 (by decide) ?_
      refine lv_icmp_ne (tgt := 142) hx hb dX10_share_129 (by decide) (fun c3 => ?_) (fun c3 => ?_)
      · have h := ite_f h c3
        refine lv_aload_n hx hb dX10_share_142 rfl (lv_at hl 0 rfl) ?_
        refine gfC_X10_36 X I (kC_0 E) (k' := 38) rfl dX10_share_143 ?_
        refine lv_iload_n hx hb dX10_share_146 rfl (lv_at hl 1 rfl) ?_
        obtain ⟨q4, hq4, h⟩ := bd h
        refine r_callVIk (V := (vC E)) (k := 38) (As := [.int x1]) (rest := []) X I hl (c_X7_whoHas  hq4) yv_X7_whoHas tw_613 ⟨rfl, rfl, Nat.le_of_ble_eq_true rfl, Nat.le_of_ble_eq_true rfl⟩ (kC_38 E).1 ((kC_38 E).2 (q2 38)) rfl rfl rfl (Nat.le_of_ble_eq_true rfl) ⟨Nat.le_of_ble_eq_true rfl, Nat.le_of_ble_eq_true rfl⟩ dX10_share_147 (fun H locs I => ?_)
        exact r_xiret X I (Option.some.inj h).symm ⟨Nat.le_of_ble_eq_true rfl, Nat.le_of_ble_eq_true rfl⟩ dX10_share_150
      · have h := ite_t h c3
        refine lv_aload_n hx hb dX10_share_132 rfl (lv_at hl 0 rfl) ?_
        refine gfC_X10_36 X I (kC_0 E) (k' := 38) rfl dX10_share_133 ?_
        obtain ⟨q5, hq5, h⟩ := bd h
        refine r_callVIk (V := (vC E)) (k := 38) (As := []) (rest := []) X I hl (c_X7_howMuch  hq5) yv_X7_howMuch tw_618 ⟨rfl, rfl, Nat.le_of_ble_eq_true rfl, Nat.le_of_ble_eq_true rfl⟩ (kC_38 E).1 ((kC_38 E).2 (q2 38)) rfl rfl rfl (Nat.le_of_ble_eq_true rfl) ⟨Nat.le_of_ble_eq_true rfl, Nat.le_of_ble_eq_true rfl⟩ dX10_share_136 (fun H locs I => ?_)
        refine lv_goto (tgt := 150) hx hb dX10_share_139 (by decide) ?_
        exact r_xiret X I (Option.some.inj h).symm ⟨Nat.le_of_ble_eq_true rfl, Nat.le_of_ble_eq_true rfl⟩ dX10_share_150
    · have h := ite_f h c1
      refine lv_iconst (v := 0) hx hb dX10_share_66 (by decide) ?_
      refine lv_istore (lv' := [(4, .int (0 : Int32)), (0, .ref (ca E 0)), (1, .int x1), (3, .int x3)]) hx hb dX10_share_67 hl (by decide) rfl (fun ls hl => ?_)
      exact w_X10_share_69 X hlt hex  (fun σ a3 h H locs ls I hl => ih σ a3 h H locs ls I hl) KF σ (0 : Int32) h H locs ls I (lv_sub hl [1, 2, 3, 0] rfl)
set_option maxHeartbeats 4000000 in
set_option maxRecDepth 100000 in
theorem w_X10_share_10 {p : Program} {l : Launch} {e : Env} {s : State} {m : MethodId} {args : Array Value} {below : List Frame} {meth : Method} {c : Code} {A : Nat → Prop} {E : CE} {q : (Nat × Mem) ⊕ (Int32 × Mem)} (X : CX p s m meth c args cX10_share 5 RX10 (some .int)) (hlt : l.stackTraces = false) (hex : ∀ x ∈ c.exceptionTable.toList, False) : ∀ (σ : Mem) (x1 : Int32) (x2 : Int32) , f_X10_share_10 σ x1 x2 = some q → ∀ (H : Heap) (locs : List Loc) (ls : Array Slot), WI (vC E) A s H locs σ → lv_has ls 5 [(0, .ref (ca E 0)), (1, .int x1), (2, .int x2)] → W p l e rm_X10_share s m args below meth c H locs 1 6 (vx_MQ below (QXI (vC E) A q) (XX (vC E) A q) args s 2 12 A) (F0 m 10 ls []) := by
  have hx := X.1
  have hb := X.2.1
  intro σ x1 x2 h H locs ls I hl
  unfold f_X10_share_10 at h
  refine lv_iload_n hx hb dX10_share_10 rfl (lv_at hl 2 rfl) ?_
  refine lv_iconst (v := 1) hx hb dX10_share_11 (by decide) ?_
  refine lv_icmp_lt (tgt := 21) hx hb dX10_share_12 (by decide) (fun c1 => ?_) (fun c1 => ?_)
  · have h := ite_t h c1
    exact r_throwS (k := 1) hlt X hex I (x := E.2.2.2.2.2.1) rfl hl (Option.some.inj h).symm tw_iae (by decide +kernel) (w := 4) (by decide) rfl rfl ⟨Nat.le_of_ble_eq_true rfl, Nat.le_of_ble_eq_true rfl, Nat.le_of_ble_eq_true rfl, Nat.le_of_ble_eq_true rfl⟩ ⟨Nat.le_of_ble_eq_true rfl, Nat.le_of_ble_eq_true rfl⟩ dX10_share_21 dX10_share_24 dX10_share_25 dX10_share_27 dX10_share_30
  · have h := ite_f h c1
    refine lv_iload_n hx hb dX10_share_15 rfl (lv_at hl 2 rfl) ?_
    refine lv_bipush (v := 8) hx hb dX10_share_16 (by decide) ?_
    refine lv_icmp_le (tgt := 31) hx hb dX10_share_18 (by decide) (fun c2 => ?_) (fun c2 => ?_)
    · have h := ite_t h c2
      refine lv_aload_n hx hb dX10_share_31 rfl (lv_at hl 0 rfl) ?_
      refine gfC_X10_36 X I (kC_0 E) (k' := 38) rfl dX10_share_32 ?_
      refine lv_aload_n hx hb dX10_share_35 rfl (lv_at hl 0 rfl) ?_
      refine gfC_X10_32 X I (kC_0 E) (k' := 23) rfl dX10_share_36 ?_
      refine gfC_X10_113 X I (kC_23 E) dX10_share_39 ?_
      refine lv_aload_n hx hb dX10_share_42 rfl (lv_at hl 0 rfl) ?_
      refine gfC_X10_32 X I (kC_0 E) (k' := 23) rfl dX10_share_43 ?_
      refine gfC_X10_116 X I (kC_23 E) dX10_share_46 ?_
      refine lv_iload_n hx hb dX10_share_49 rfl (lv_at hl 2 rfl) ?_
      obtain ⟨q3, hq3, h⟩ := bd h
      refine r_callVVk (V := (vC E)) (k := 38) (As := [.int (σ 23 0), .int (σ 23 1), .int x2]) (rest := []) X I hl (c_X7_begin  hq3) yv_X7_begin tw_603 ⟨rfl, rfl, Nat.le_of_ble_eq_true rfl, Nat.le_of_ble_eq_true rfl⟩ (kC_38 E).1 ((kC_38 E).2 (σ 38)) rfl rfl rfl (Nat.le_of_ble_eq_true rfl) ⟨Nat.le_of_ble_eq_true rfl, Nat.le_of_ble_eq_true rfl⟩ dX10_share_50 (fun H locs I => ?_)
      refine lv_iconst (v := 0) hx hb dX10_share_53 (by decide) ?_
      refine lv_istore_n (lv' := [(3, .int (0 : Int32)), (0, .ref (ca E 0)), (1, .int x1), (2, .int x2)]) hx hb dX10_share_54 rfl hl (by decide) rfl (fun ls hl => ?_)
      exact w_X10_share_55 X hlt hex   KF q3 (0 : Int32) h H locs ls I (lv_sub hl [1, 2, 0] rfl)
    · have h := ite_f h c2
      exact r_throwS (k := 1) hlt X hex I (x := E.2.2.2.2.2.1) rfl hl (Option.some.inj h).symm tw_iae (by decide +kernel) (w := 4) (by decide) rfl rfl ⟨Nat.le_of_ble_eq_true rfl, Nat.le_of_ble_eq_true rfl, Nat.le_of_ble_eq_true rfl, Nat.le_of_ble_eq_true rfl⟩ ⟨Nat.le_of_ble_eq_true rfl, Nat.le_of_ble_eq_true rfl⟩ dX10_share_21 dX10_share_24 dX10_share_25 dX10_share_27 dX10_share_30
set_option maxHeartbeats 4000000 in
set_option maxRecDepth 100000 in
theorem w_X10_share_0 {p : Program} {l : Launch} {e : Env} {s : State} {m : MethodId} {args : Array Value} {below : List Frame} {meth : Method} {c : Code} {A : Nat → Prop} {E : CE} {q : (Nat × Mem) ⊕ (Int32 × Mem)} (X : CX p s m meth c args cX10_share 5 RX10 (some .int)) (hlt : l.stackTraces = false) (hex : ∀ x ∈ c.exceptionTable.toList, False) : ∀ (σ : Mem) (x1 : Int32) (x2 : Int32) , m_X10_share σ x1 x2 = some q → ∀ (H : Heap) (locs : List Loc) (ls : Array Slot), WI (vC E) A s H locs σ → lv_has ls 5 [(0, .ref (ca E 0)), (1, .int x1), (2, .int x2)] → W p l e rm_X10_share s m args below meth c H locs 0 0 (vx_MQ below (QXI (vC E) A q) (XX (vC E) A q) args s 2 12 A) (F0 m 0 ls []) := by
  have hx := X.1
  have hb := X.2.1
  intro σ x1 x2 h H locs ls I hl
  unfold m_X10_share at h
  refine lv_iload_n hx hb dX10_share_0 rfl (lv_at hl 1 rfl) ?_
  refine lv_iconst (v := -1) hx hb dX10_share_1 (by decide) ?_
  refine lv_icmp_eq (tgt := 10) hx hb dX10_share_2 (by decide) (fun c1 => ?_) (fun c1 => ?_)
  · have h := ite_t h c1
    refine W.widen (k := 1) (n := 6) (Nat.le_of_ble_eq_true rfl) (Nat.le_of_ble_eq_true rfl) ?_
    exact w_X10_share_10 X hlt hex   σ x1 x2 h H locs ls I (lv_sub hl [0, 1, 2] rfl)
  · have h := ite_f h c1
    refine lv_aload_n hx hb dX10_share_5 rfl (lv_at hl 0 rfl) ?_
    refine lv_iload_n hx hb dX10_share_6 rfl (lv_at hl 1 rfl) ?_
    obtain ⟨q2, hq2, h⟩ := xb_e h
    refine r_callXV (V := (vC E)) (k := 0) (As := [.int x1]) (rest := []) X hex I hl (c_X10_needHouse hlt hq2) yv_X10_needHouse tw_545 ⟨rfl, rfl, Nat.le_of_ble_eq_true rfl, Nat.le_of_ble_eq_true rfl⟩ (kC_0 E).1 rfl rfl rfl rfl (Nat.le_of_ble_eq_true rfl) ⟨Nat.le_of_ble_eq_true rfl, Nat.le_of_ble_eq_true rfl⟩ ⟨Nat.le_of_ble_eq_true rfl, Nat.le_of_ble_eq_true rfl⟩ dX10_share_7 h (fun σ3 h H locs I => ?_)
    exact w_X10_share_10 X hlt hex   σ3 x1 x2 h H locs ls I (lv_sub hl [0, 1, 2] rfl)
theorem c_X10_share {l : Launch} {E : CE} {σ : Mem} {x1 : Int32} {x2 : Int32} (hlt : l.stackTraces = false) {q : (Nat × Mem) ⊕ (Int32 × Mem)} (h : m_X10_share σ x1 x2 = some q) : CXI l (vC E) yX10_share (.code yX10_share cX10_share 5 (some .int) :: GG) rm_X10_share 2 12 [.ref (ca E 0), .int x1, .int x2] σ q :=
  mk_CXI (by decide +kernel) (Nat.le_of_ble_eq_true rfl) (fun p e s m args below meth c A ls X hex I hl => w_X10_share_0 X hlt hex σ x1 x2 h s.heap [] ls I (lv_sub hl [0, 1, 2] rfl))

def rm_X10_beside : Room := { frames := 8, cells := 1, slots := 6, locals := 221 }
def m_X10_beside (σ : Mem) (x1 : Int32) : Option ((Nat × Mem) ⊕ (Int32 × Mem)) := (xb (m_X10_needTenant σ x1) fun σ2 => ((m_X8_housesOf 43 σ2 x1).bind fun q3 => (lt (((q3 <<< ((1 : Int32) &&& 31)) ||| (q3 >>> ((1 : Int32) &&& 31))) &&& (((1 : Int32) <<< ((σ2 23 0) &&& 31)) - (1 : Int32))) fun y4 => (gd (62 : Int32) 64 (some (.inr (((y4 &&& (q3 ^^^ (-1 : Int32))) &&& ((σ2 43 (Int32.toNatClampNeg (62 : Int32))) ^^^ (-1 : Int32))), σ2)))))))
set_option maxHeartbeats 4000000 in
set_option maxRecDepth 100000 in
theorem w_X10_beside_0 {p : Program} {l : Launch} {e : Env} {s : State} {m : MethodId} {args : Array Value} {below : List Frame} {meth : Method} {c : Code} {A : Nat → Prop} {E : CE} {q : (Nat × Mem) ⊕ (Int32 × Mem)} (X : CX p s m meth c args cX10_beside 4 RX10 (some .int)) (hlt : l.stackTraces = false) (hex : ∀ x ∈ c.exceptionTable.toList, False) : ∀ (σ : Mem) (x1 : Int32) , m_X10_beside σ x1 = some q → ∀ (H : Heap) (locs : List Loc) (ls : Array Slot), WI (vC E) A s H locs σ → lv_has ls 4 [(0, .ref (ca E 0)), (1, .int x1)] → W p l e rm_X10_beside s m args below meth c H locs 0 0 (vx_MQ below (QXI (vC E) A q) (XX (vC E) A q) args s 1 6 A) (F0 m 0 ls []) := by
  have hx := X.1
  have hb := X.2.1
  intro σ x1 h H locs ls I hl
  unfold m_X10_beside at h
  refine lv_aload_n hx hb dX10_beside_0 rfl (lv_at hl 0 rfl) ?_
  refine lv_iload_n hx hb dX10_beside_1 rfl (lv_at hl 1 rfl) ?_
  obtain ⟨q1, hq1, h⟩ := xb_e h
  refine r_callXV (V := (vC E)) (k := 0) (As := [.int x1]) (rest := []) X hex I hl (c_X10_needTenant hlt hq1) yv_X10_needTenant tw_558 ⟨rfl, rfl, Nat.le_of_ble_eq_true rfl, Nat.le_of_ble_eq_true rfl⟩ (kC_0 E).1 rfl rfl rfl rfl (Nat.le_of_ble_eq_true rfl) ⟨Nat.le_of_ble_eq_true rfl, Nat.le_of_ble_eq_true rfl⟩ ⟨Nat.le_of_ble_eq_true rfl, Nat.le_of_ble_eq_true rfl⟩ dX10_beside_2 h (fun σ2 h H locs I => ?_)
  refine lv_aload_n hx hb dX10_beside_5 rfl (lv_at hl 0 rfl) ?_
  refine gfC_X10_24 X I (kC_0 E) (k' := 22) rfl dX10_beside_6 ?_
  refine lv_aload_n hx hb dX10_beside_9 rfl (lv_at hl 0 rfl) ?_
  refine gfC_X10_43 X I (kC_0 E) (k' := 42) rfl dX10_beside_10 ?_
  refine gfC_X10_122 X I (kC_42 E) (k' := 43) rfl dX10_beside_13 ?_
  refine lv_iload_n hx hb dX10_beside_16 rfl (lv_at hl 1 rfl) ?_
  obtain ⟨q3, hq3, h⟩ := bd h
  refine r_callVIk (V := (vC E)) (k := 22) (As := [.ref (ca E 43), .int x1]) (rest := []) X I hl (c_X8_housesOf (kC_43 E) hq3) yv_X8_housesOf tw_533 ⟨rfl, rfl, Nat.le_of_ble_eq_true rfl, Nat.le_of_ble_eq_true rfl⟩ (kC_22 E).1 ((kC_22 E).2 (σ2 22)) rfl rfl rfl (Nat.le_of_ble_eq_true rfl) ⟨Nat.le_of_ble_eq_true rfl, Nat.le_of_ble_eq_true rfl⟩ dX10_beside_17 (fun H locs I => ?_)
  refine lv_istore_n (lv' := [(2, .int q3), (0, .ref (ca E 0)), (1, .int x1)]) hx hb dX10_beside_20 rfl hl (by decide) rfl (fun ls hl => ?_)
  refine lv_iload_n hx hb dX10_beside_21 rfl (lv_at hl 0 rfl) ?_
  refine lv_iconst (v := 1) hx hb dX10_beside_22 (by decide) ?_
  refine lv_ishl hx hb dX10_beside_23 ?_
  refine lv_iload_n hx hb dX10_beside_24 rfl (lv_at hl 0 rfl) ?_
  refine lv_iconst (v := 1) hx hb dX10_beside_25 (by decide) ?_
  refine lv_ishr hx hb dX10_beside_26 ?_
  refine lv_ior hx hb dX10_beside_27 ?_
  refine lv_iconst (v := 1) hx hb dX10_beside_28 (by decide) ?_
  refine lv_aload_n hx hb dX10_beside_29 rfl (lv_at hl 1 rfl) ?_
  refine gfC_X10_32 X I (kC_0 E) (k' := 23) rfl dX10_beside_30 ?_
  refine gfC_X10_113 X I (kC_23 E) dX10_beside_33 ?_
  refine lv_ishl hx hb dX10_beside_36 ?_
  refine lv_iconst (v := 1) hx hb dX10_beside_37 (by decide) ?_
  refine lv_isub hx hb dX10_beside_38 ?_
  refine lv_iand hx hb dX10_beside_39 ?_
  obtain ⟨y4, ey4, h⟩ := lt_e h
  refine nm_i ey4 ?_
  refine lv_istore_n (lv' := [(3, .int y4), (2, .int q3), (0, .ref (ca E 0)), (1, .int x1)]) hx hb dX10_beside_40 rfl hl (by decide) rfl (fun ls hl => ?_)
  refine lv_iload_n hx hb dX10_beside_41 rfl (lv_at hl 0 rfl) ?_
  refine lv_iload_n hx hb dX10_beside_42 rfl (lv_at hl 1 rfl) ?_
  refine lv_iconst (v := -1) hx hb dX10_beside_43 (by decide) ?_
  refine lv_ixor hx hb dX10_beside_44 ?_
  refine lv_iand hx hb dX10_beside_45 ?_
  refine lv_aload_n hx hb dX10_beside_46 rfl (lv_at hl 2 rfl) ?_
  refine gfC_X10_43 X I (kC_0 E) (k' := 42) rfl dX10_beside_47 ?_
  refine gfC_X10_122 X I (kC_42 E) (k' := 43) rfl dX10_beside_50 ?_
  refine lv_bipush (v := 62) hx hb dX10_beside_53 (by decide) ?_
  obtain ⟨hin, h⟩ := gd_some h
  refine ialdC X I (kC_43 E) hin dX10_beside_55 ?_
  refine lv_iconst (v := -1) hx hb dX10_beside_56 (by decide) ?_
  refine lv_ixor hx hb dX10_beside_57 ?_
  refine lv_iand hx hb dX10_beside_58 ?_
  exact r_xiret X I (Option.some.inj h).symm ⟨Nat.le_of_ble_eq_true rfl, Nat.le_of_ble_eq_true rfl⟩ dX10_beside_59
theorem c_X10_beside {l : Launch} {E : CE} {σ : Mem} {x1 : Int32} (hlt : l.stackTraces = false) {q : (Nat × Mem) ⊕ (Int32 × Mem)} (h : m_X10_beside σ x1 = some q) : CXI l (vC E) yX10_beside (.code yX10_beside cX10_beside 4 (some .int) :: GG) rm_X10_beside 1 6 [.ref (ca E 0), .int x1] σ q :=
  mk_CXI (by decide +kernel) (Nat.le_of_ble_eq_true rfl) (fun p e s m args below meth c A ls X hex I hl => w_X10_beside_0 X hlt hex σ x1 h s.heap [] ls I (lv_sub hl [0, 1] rfl))

def rm_X10_oldest : Room := { frames := 8, cells := 1, slots := 6, locals := 222 }
def f_X10_oldest_13 (x1 : Int32) : Nat → Mem → Int32 → Int32 → Int32 → Option ((Nat × Mem) ⊕ (Int32 × Mem))
  | 0, _, _, _, _ => none
  | n + 1, σ, x2, x3, x4 => (if (σ 23 0) ≤ x4 then (if x1 = (0 : Int32) then (some (.inr (x2, σ))) else (some (.inr (x3, σ)))) else ((m_X8_buriedIn 43 σ x4).bind fun q3 => ((m_X10_isSealedNow σ x4).bind fun q4 => (if q4 = (0 : Int32) then (if x2 = (-1 : Int32) then f_X10_oldest_13 x1 n σ x4 q3 (x4 + 1) else (if x3 ≤ q3 then f_X10_oldest_13 x1 n σ x2 x3 (x4 + 1) else f_X10_oldest_13 x1 n σ x4 q3 (x4 + 1))) else f_X10_oldest_13 x1 n σ x2 x3 (x4 + 1)))))
def m_X10_oldest (σ : Mem) (x1 : Int32) : Option ((Nat × Mem) ⊕ (Int32 × Mem)) := (xb (m_X10_needWhat σ x1 (1 : Int32)) fun σ2 => (f_X10_oldest_13 x1 KF σ2 (-1 : Int32) (-1 : Int32) (0 : Int32)))
set_option maxHeartbeats 4000000 in
set_option maxRecDepth 100000 in
theorem w_X10_oldest_13 {p : Program} {l : Launch} {e : Env} {s : State} {m : MethodId} {args : Array Value} {below : List Frame} {meth : Method} {c : Code} {A : Nat → Prop} {E : CE} {q : (Nat × Mem) ⊕ (Int32 × Mem)} (X : CX p s m meth c args cX10_oldest 6 RX10 (some .int)) (hlt : l.stackTraces = false) (hex : ∀ x ∈ c.exceptionTable.toList, False) {x1 : Int32} : ∀ (n : Nat), ∀ (σ : Mem) (x2 : Int32) (x3 : Int32) (x4 : Int32) , f_X10_oldest_13 x1 n σ x2 x3 x4 = some q → ∀ (H : Heap) (locs : List Loc) (ls : Array Slot), WI (vC E) A s H locs σ → lv_has ls 6 [(0, .ref (ca E 0)), (1, .int x1), (2, .int x2), (3, .int x3), (4, .int x4)] → W p l e rm_X10_oldest s m args below meth c H locs 1 6 (vx_MQ below (QXI (vC E) A q) (XX (vC E) A q) args s 1 6 A) (F0 m 13 ls []) := by
  have hx := X.1
  have hb := X.2.1
  intro n
  induction n with
  | zero =>
    intro σ x2 x3 x4 h
    cases h
  | succ n ih =>
    intro σ x2 x3 x4 h H locs ls I hl
    rw [f_X10_oldest_13] at h
    refine lv_iload hx hb dX10_oldest_13 (lv_at hl 4 rfl) ?_
    refine lv_aload_n hx hb dX10_oldest_15 rfl (lv_at hl 0 rfl) ?_
    refine gfC_X10_32 X I (kC_0 E) (k' := 23) rfl dX10_oldest_16 ?_
    refine gfC_X10_113 X I (kC_23 E) dX10_oldest_19 ?_
    refine lv_icmp_ge (tgt := 75) hx hb dX10_oldest_22 (by decide) (fun c1 => ?_) (fun c1 => ?_)
    · have h := ite_t h c1
      refine lv_iload_n hx hb dX10_oldest_75 rfl (lv_at hl 1 rfl) ?_
      refine lv_if_ne (tgt := 83) hx hb dX10_oldest_76 (by decide) (fun c2 => ?_) (fun c2 => ?_)
      · have h := ite_f h c2
        refine lv_iload_n hx hb dX10_oldest_83 rfl (lv_at hl 3 rfl) ?_
        exact r_xiret X I (Option.some.inj h).symm ⟨Nat.le_of_ble_eq_true rfl, Nat.le_of_ble_eq_true rfl⟩ dX10_oldest_84
      · have h := ite_t h c2
        refine lv_iload_n hx hb dX10_oldest_79 rfl (lv_at hl 2 rfl) ?_
        refine lv_goto (tgt := 84) hx hb dX10_oldest_80 (by decide) ?_
        exact r_xiret X I (Option.some.inj h).symm ⟨Nat.le_of_ble_eq_true rfl, Nat.le_of_ble_eq_true rfl⟩ dX10_oldest_84
    · have h := ite_f h c1
      refine lv_aload_n hx hb dX10_oldest_25 rfl (lv_at hl 0 rfl) ?_
      refine gfC_X10_24 X I (kC_0 E) (k' := 22) rfl dX10_oldest_26 ?_
      refine lv_aload_n hx hb dX10_oldest_29 rfl (lv_at hl 0 rfl) ?_
      refine gfC_X10_43 X I (kC_0 E) (k' := 42) rfl dX10_oldest_30 ?_
      refine gfC_X10_122 X I (kC_42 E) (k' := 43) rfl dX10_oldest_33 ?_
      refine lv_iload hx hb dX10_oldest_36 (lv_at hl 4 rfl) ?_
      obtain ⟨q3, hq3, h⟩ := bd h
      refine r_callVIk (V := (vC E)) (k := 22) (As := [.ref (ca E 43), .int x4]) (rest := []) X I hl (c_X8_buriedIn (kC_43 E) hq3) yv_X8_buriedIn tw_585 ⟨rfl, rfl, Nat.le_of_ble_eq_true rfl, Nat.le_of_ble_eq_true rfl⟩ (kC_22 E).1 ((kC_22 E).2 (σ 22)) rfl rfl rfl (Nat.le_of_ble_eq_true rfl) ⟨Nat.le_of_ble_eq_true rfl, Nat.le_of_ble_eq_true rfl⟩ dX10_oldest_38 (fun H locs I => ?_)
      refine lv_istore (lv' := [(5, .int q3), (0, .ref (ca E 0)), (1, .int x1), (2, .int x2), (3, .int x3), (4, .int x4)]) hx hb dX10_oldest_41 hl (by decide) rfl (fun ls hl => ?_)
      refine lv_aload_n hx hb dX10_oldest_43 rfl (lv_at hl 1 rfl) ?_
      refine lv_iload hx hb dX10_oldest_44 (lv_at hl 5 rfl) ?_
      obtain ⟨q4, hq4, h⟩ := bd h
      refine r_callVIk (V := (vC E)) (k := 0) (As := [.int x4]) (rest := []) X I hl (c_X10_isSealedNow  hq4) yv_X10_isSealedNow tw_552 ⟨rfl, rfl, Nat.le_of_ble_eq_true rfl, Nat.le_of_ble_eq_true rfl⟩ (kC_0 E).1 ((kC_0 E).2 (σ 0)) rfl rfl rfl (Nat.le_of_ble_eq_true rfl) ⟨Nat.le_of_ble_eq_true rfl, Nat.le_of_ble_eq_true rfl⟩ dX10_oldest_46 (fun H locs I => ?_)
      refine lv_if_ne (tgt := 69) hx hb dX10_oldest_49 (by decide) (fun c5 => ?_) (fun c5 => ?_)
      · have h := ite_f h c5
        refine lv_iinc (v := (x4 + 1)) (lv' := [(4, .int (x4 + 1)), (5, .int q3), (0, .ref (ca E 0)), (1, .int x1), (2, .int x2), (3, .int x3)]) hx hb dX10_oldest_69 hl (k := 5) rfl rfl (by decide) rfl (fun ls hl => ?_)
        refine lv_goto (tgt := 13) hx hb dX10_oldest_72 (by decide) ?_
        exact ih σ x2 x3 (x4 + 1) h H locs ls I (lv_sub hl [2, 3, 4, 5, 0] rfl)
      · have h := ite_t h c5
        refine lv_iload_n hx hb dX10_oldest_52 rfl (lv_at hl 3 rfl) ?_
        refine lv_iconst (v := -1) hx hb dX10_oldest_53 (by decide) ?_
        refine lv_icmp_eq (tgt := 63) hx hb dX10_oldest_54 (by decide) (fun c6 => ?_) (fun c6 => ?_)
        · have h := ite_t h c6
          refine lv_iload hx hb dX10_oldest_63 (lv_at hl 5 rfl) ?_
          refine lv_istore_n (lv' := [(2, .int x4), (5, .int q3), (0, .ref (ca E 0)), (1, .int x1), (3, .int x3), (4, .int x4)]) hx hb dX10_oldest_65 rfl hl (by decide) rfl (fun ls hl => ?_)
          refine lv_iload hx hb dX10_oldest_66 (lv_at hl 1 rfl) ?_
          refine lv_istore_n (lv' := [(3, .int q3), (2, .int x4), (5, .int q3), (0, .ref (ca E 0)), (1, .int x1), (4, .int x4)]) hx hb dX10_oldest_68 rfl hl (by decide) rfl (fun ls hl => ?_)
          refine lv_iinc (v := (x4 + 1)) (lv' := [(4, .int (x4 + 1)), (3, .int q3), (2, .int x4), (5, .int q3), (0, .ref (ca E 0)), (1, .int x1)]) hx hb dX10_oldest_69 hl (k := 5) rfl rfl (by decide) rfl (fun ls hl => ?_)
          refine lv_goto (tgt := 13) hx hb dX10_oldest_72 (by decide) ?_
          exact ih σ x4 q3 (x4 + 1) h H locs ls I (lv_sub hl [4, 5, 2, 1, 0] rfl)
        · have h := ite_f h c6
          refine lv_iload hx hb dX10_oldest_57 (lv_at hl 0 rfl) ?_
          refine lv_iload_n hx hb dX10_oldest_59 rfl (lv_at hl 4 rfl) ?_
          refine lv_icmp_ge (tgt := 69) hx hb dX10_oldest_60 (by decide) (fun c7 => ?_) (fun c7 => ?_)
          · have h := ite_t h c7
            refine lv_iinc (v := (x4 + 1)) (lv' := [(4, .int (x4 + 1)), (5, .int q3), (0, .ref (ca E 0)), (1, .int x1), (2, .int x2), (3, .int x3)]) hx hb dX10_oldest_69 hl (k := 5) rfl rfl (by decide) rfl (fun ls hl => ?_)
            refine lv_goto (tgt := 13) hx hb dX10_oldest_72 (by decide) ?_
            exact ih σ x2 x3 (x4 + 1) h H locs ls I (lv_sub hl [2, 3, 4, 5, 0] rfl)
          · have h := ite_f h c7
            refine lv_iload hx hb dX10_oldest_63 (lv_at hl 5 rfl) ?_
            refine lv_istore_n (lv' := [(2, .int x4), (5, .int q3), (0, .ref (ca E 0)), (1, .int x1), (3, .int x3), (4, .int x4)]) hx hb dX10_oldest_65 rfl hl (by decide) rfl (fun ls hl => ?_)
            refine lv_iload hx hb dX10_oldest_66 (lv_at hl 1 rfl) ?_
            refine lv_istore_n (lv' := [(3, .int q3), (2, .int x4), (5, .int q3), (0, .ref (ca E 0)), (1, .int x1), (4, .int x4)]) hx hb dX10_oldest_68 rfl hl (by decide) rfl (fun ls hl => ?_)
            refine lv_iinc (v := (x4 + 1)) (lv' := [(4, .int (x4 + 1)), (3, .int q3), (2, .int x4), (5, .int q3), (0, .ref (ca E 0)), (1, .int x1)]) hx hb dX10_oldest_69 hl (k := 5) rfl rfl (by decide) rfl (fun ls hl => ?_)
            refine lv_goto (tgt := 13) hx hb dX10_oldest_72 (by decide) ?_
            exact ih σ x4 q3 (x4 + 1) h H locs ls I (lv_sub hl [4, 5, 2, 1, 0] rfl)
set_option maxHeartbeats 4000000 in
set_option maxRecDepth 100000 in
theorem w_X10_oldest_0 {p : Program} {l : Launch} {e : Env} {s : State} {m : MethodId} {args : Array Value} {below : List Frame} {meth : Method} {c : Code} {A : Nat → Prop} {E : CE} {q : (Nat × Mem) ⊕ (Int32 × Mem)} (X : CX p s m meth c args cX10_oldest 6 RX10 (some .int)) (hlt : l.stackTraces = false) (hex : ∀ x ∈ c.exceptionTable.toList, False) : ∀ (σ : Mem) (x1 : Int32) , m_X10_oldest σ x1 = some q → ∀ (H : Heap) (locs : List Loc) (ls : Array Slot), WI (vC E) A s H locs σ → lv_has ls 6 [(0, .ref (ca E 0)), (1, .int x1)] → W p l e rm_X10_oldest s m args below meth c H locs 0 0 (vx_MQ below (QXI (vC E) A q) (XX (vC E) A q) args s 1 6 A) (F0 m 0 ls []) := by
  have hx := X.1
  have hb := X.2.1
  intro σ x1 h H locs ls I hl
  unfold m_X10_oldest at h
  refine lv_aload_n hx hb dX10_oldest_0 rfl (lv_at hl 0 rfl) ?_
  refine lv_iload_n hx hb dX10_oldest_1 rfl (lv_at hl 1 rfl) ?_
  refine lv_iconst (v := 1) hx hb dX10_oldest_2 (by decide) ?_
  obtain ⟨q1, hq1, h⟩ := xb_e h
  refine r_callXV (V := (vC E)) (k := 0) (As := [.int x1, .int (1 : Int32)]) (rest := []) X hex I hl (c_X10_needWhat hlt hq1) yv_X10_needWhat tw_580 ⟨rfl, rfl, Nat.le_of_ble_eq_true rfl, Nat.le_of_ble_eq_true rfl⟩ (kC_0 E).1 rfl rfl rfl rfl (Nat.le_of_ble_eq_true rfl) ⟨Nat.le_of_ble_eq_true rfl, Nat.le_of_ble_eq_true rfl⟩ ⟨Nat.le_of_ble_eq_true rfl, Nat.le_of_ble_eq_true rfl⟩ dX10_oldest_3 h (fun σ2 h H locs I => ?_)
  refine lv_iconst (v := -1) hx hb dX10_oldest_6 (by decide) ?_
  refine lv_istore_n (lv' := [(2, .int (-1 : Int32)), (0, .ref (ca E 0)), (1, .int x1)]) hx hb dX10_oldest_7 rfl hl (by decide) rfl (fun ls hl => ?_)
  refine lv_iconst (v := -1) hx hb dX10_oldest_8 (by decide) ?_
  refine lv_istore_n (lv' := [(3, .int (-1 : Int32)), (2, .int (-1 : Int32)), (0, .ref (ca E 0)), (1, .int x1)]) hx hb dX10_oldest_9 rfl hl (by decide) rfl (fun ls hl => ?_)
  refine lv_iconst (v := 0) hx hb dX10_oldest_10 (by decide) ?_
  refine lv_istore (lv' := [(4, .int (0 : Int32)), (3, .int (-1 : Int32)), (2, .int (-1 : Int32)), (0, .ref (ca E 0)), (1, .int x1)]) hx hb dX10_oldest_11 hl (by decide) rfl (fun ls hl => ?_)
  exact w_X10_oldest_13 X hlt hex   KF σ2 (-1 : Int32) (-1 : Int32) (0 : Int32) h H locs ls I (lv_sub hl [3, 4, 2, 1, 0] rfl)
theorem c_X10_oldest {l : Launch} {E : CE} {σ : Mem} {x1 : Int32} (hlt : l.stackTraces = false) {q : (Nat × Mem) ⊕ (Int32 × Mem)} (h : m_X10_oldest σ x1 = some q) : CXI l (vC E) yX10_oldest (.code yX10_oldest cX10_oldest 6 (some .int) :: GG) rm_X10_oldest 1 6 [.ref (ca E 0), .int x1] σ q :=
  mk_CXI (by decide +kernel) (Nat.le_of_ble_eq_true rfl) (fun p e s m args below meth c A ls X hex I hl => w_X10_oldest_0 X hlt hex σ x1 h s.heap [] ls I (lv_sub hl [0, 1] rfl))

def rm_X10_envy : Room := { frames := 8, cells := 1, slots := 6, locals := 221 }
def f_X10_envy_9 (x1 : Int32) : Nat → Mem → Int32 → Int32 → Option ((Nat × Mem) ⊕ (Int32 × Mem))
  | 0, _, _, _ => none
  | n + 1, σ, x2, x3 => (if (σ 23 0) ≤ x3 then (some (.inr (x2, σ))) else (gd ((24 : Int32) + x3) 64 (lt (σ 43 (Int32.toNatClampNeg ((24 : Int32) + x3))) fun y2 => (if y2 = (-1 : Int32) then f_X10_envy_9 x1 n σ x2 (x3 + 1) else (if y2 = x1 then f_X10_envy_9 x1 n σ x2 (x3 + 1) else ((m_X8_likingNow 43 σ x3 x1).bind fun q5 => ((m_X8_likingNow 43 q5.2 x3 y2).bind fun q6 => (if q5.1 ≤ q6.1 then f_X10_envy_9 x1 n q6.2 x2 (x3 + 1) else (lt (x2 ||| ((1 : Int32) <<< (x3 &&& 31))) fun y8 => f_X10_envy_9 x1 n q6.2 y8 (x3 + 1))))))))))
def m_X10_envy (σ : Mem) (x1 : Int32) : Option ((Nat × Mem) ⊕ (Int32 × Mem)) := (xb (m_X10_needTenant σ x1) fun σ2 => (f_X10_envy_9 x1 KF σ2 (0 : Int32) (0 : Int32)))
set_option maxHeartbeats 4000000 in
set_option maxRecDepth 100000 in
theorem w_X10_envy_9 {p : Program} {l : Launch} {e : Env} {s : State} {m : MethodId} {args : Array Value} {below : List Frame} {meth : Method} {c : Code} {A : Nat → Prop} {E : CE} {q : (Nat × Mem) ⊕ (Int32 × Mem)} (X : CX p s m meth c args cX10_envy 5 RX10 (some .int)) (hlt : l.stackTraces = false) (hex : ∀ x ∈ c.exceptionTable.toList, False) {x1 : Int32} : ∀ (n : Nat), ∀ (σ : Mem) (x2 : Int32) (x3 : Int32) , f_X10_envy_9 x1 n σ x2 x3 = some q → ∀ (H : Heap) (locs : List Loc) (ls : Array Slot), WI (vC E) A s H locs σ → lv_has ls 5 [(0, .ref (ca E 0)), (1, .int x1), (2, .int x2), (3, .int x3)] → W p l e rm_X10_envy s m args below meth c H locs 1 6 (vx_MQ below (QXI (vC E) A q) (XX (vC E) A q) args s 1 6 A) (F0 m 9 ls []) := by
  have hx := X.1
  have hb := X.2.1
  intro n
  induction n with
  | zero =>
    intro σ x2 x3 h
    cases h
  | succ n ih =>
    intro σ x2 x3 h H locs ls I hl
    rw [f_X10_envy_9] at h
    refine lv_iload_n hx hb dX10_envy_9 rfl (lv_at hl 3 rfl) ?_
    refine lv_aload_n hx hb dX10_envy_10 rfl (lv_at hl 0 rfl) ?_
    refine gfC_X10_32 X I (kC_0 E) (k' := 23) rfl dX10_envy_11 ?_
    refine gfC_X10_113 X I (kC_23 E) dX10_envy_14 ?_
    refine lv_icmp_ge (tgt := 94) hx hb dX10_envy_17 (by decide) (fun c1 => ?_) (fun c1 => ?_)
    · have h := ite_t h c1
      refine lv_iload_n hx hb dX10_envy_94 rfl (lv_at hl 2 rfl) ?_
      exact r_xiret X I (Option.some.inj h).symm ⟨Nat.le_of_ble_eq_true rfl, Nat.le_of_ble_eq_true rfl⟩ dX10_envy_95
    · have h := ite_f h c1
      refine lv_aload_n hx hb dX10_envy_20 rfl (lv_at hl 0 rfl) ?_
      refine gfC_X10_43 X I (kC_0 E) (k' := 42) rfl dX10_envy_21 ?_
      refine gfC_X10_122 X I (kC_42 E) (k' := 43) rfl dX10_envy_24 ?_
      refine lv_bipush (v := 24) hx hb dX10_envy_27 (by decide) ?_
      refine lv_iload_n hx hb dX10_envy_29 rfl (lv_at hl 3 rfl) ?_
      refine lv_iadd hx hb dX10_envy_30 ?_
      obtain ⟨hin, h⟩ := gd_some h
      refine ialdC X I (kC_43 E) hin dX10_envy_31 ?_
      obtain ⟨y2, ey2, h⟩ := lt_e h
      refine nm_i ey2 ?_
      refine lv_istore (lv' := [(4, .int y2), (0, .ref (ca E 0)), (1, .int x1), (2, .int x2), (3, .int x3)]) hx hb dX10_envy_32 hl (by decide) rfl (fun ls hl => ?_)
      refine lv_iload hx hb dX10_envy_34 (lv_at hl 0 rfl) ?_
      refine lv_iconst (v := -1) hx hb dX10_envy_36 (by decide) ?_
      refine lv_icmp_eq (tgt := 88) hx hb dX10_envy_37 (by decide) (fun c3 => ?_) (fun c3 => ?_)
      · have h := ite_t h c3
        refine lv_iinc (v := (x3 + 1)) (lv' := [(3, .int (x3 + 1)), (4, .int y2), (0, .ref (ca E 0)), (1, .int x1), (2, .int x2)]) hx hb dX10_envy_88 hl (k := 4) rfl rfl (by decide) rfl (fun ls hl => ?_)
        refine lv_goto (tgt := 9) hx hb dX10_envy_91 (by decide) ?_
        exact ih σ x2 (x3 + 1) h H locs ls I (lv_sub hl [2, 3, 4, 0] rfl)
      · have h := ite_f h c3
        refine lv_iload hx hb dX10_envy_40 (lv_at hl 0 rfl) ?_
        refine lv_iload_n hx hb dX10_envy_42 rfl (lv_at hl 2 rfl) ?_
        refine lv_icmp_eq (tgt := 88) hx hb dX10_envy_43 (by decide) (fun c4 => ?_) (fun c4 => ?_)
        · have h := ite_t h c4
          refine lv_iinc (v := (x3 + 1)) (lv' := [(3, .int (x3 + 1)), (4, .int y2), (0, .ref (ca E 0)), (1, .int x1), (2, .int x2)]) hx hb dX10_envy_88 hl (k := 4) rfl rfl (by decide) rfl (fun ls hl => ?_)
          refine lv_goto (tgt := 9) hx hb dX10_envy_91 (by decide) ?_
          exact ih σ x2 (x3 + 1) h H locs ls I (lv_sub hl [2, 3, 4, 0] rfl)
        · have h := ite_f h c4
          refine lv_aload_n hx hb dX10_envy_46 rfl (lv_at hl 1 rfl) ?_
          refine gfC_X10_24 X I (kC_0 E) (k' := 22) rfl dX10_envy_47 ?_
          refine lv_aload_n hx hb dX10_envy_50 rfl (lv_at hl 1 rfl) ?_
          refine gfC_X10_43 X I (kC_0 E) (k' := 42) rfl dX10_envy_51 ?_
          refine gfC_X10_122 X I (kC_42 E) (k' := 43) rfl dX10_envy_54 ?_
          refine lv_iload_n hx hb dX10_envy_57 rfl (lv_at hl 4 rfl) ?_
          refine lv_iload_n hx hb dX10_envy_58 rfl (lv_at hl 2 rfl) ?_
          obtain ⟨q5, hq5, h⟩ := bd h
          refine r_callVIk (V := (vC E)) (k := 22) (As := [.ref (ca E 43), .int x3, .int x1]) (rest := []) X I hl (c_X8_likingNow (kC_43 E) hq5) yv_X8_likingNow tw_597 ⟨rfl, rfl, Nat.le_of_ble_eq_true rfl, Nat.le_of_ble_eq_true rfl⟩ (kC_22 E).1 ((kC_22 E).2 (σ 22)) rfl rfl rfl (Nat.le_of_ble_eq_true rfl) ⟨Nat.le_of_ble_eq_true rfl, Nat.le_of_ble_eq_true rfl⟩ dX10_envy_59 (fun H locs I => ?_)
          refine lv_aload_n hx hb dX10_envy_62 rfl (lv_at hl 1 rfl) ?_
          refine gfC_X10_24 X I (kC_0 E) (k' := 22) rfl dX10_envy_63 ?_
          refine lv_aload_n hx hb dX10_envy_66 rfl (lv_at hl 1 rfl) ?_
          refine gfC_X10_43 X I (kC_0 E) (k' := 42) rfl dX10_envy_67 ?_
          refine gfC_X10_122 X I (kC_42 E) (k' := 43) rfl dX10_envy_70 ?_
          refine lv_iload_n hx hb dX10_envy_73 rfl (lv_at hl 4 rfl) ?_
          refine lv_iload hx hb dX10_envy_74 (lv_at hl 0 rfl) ?_
          obtain ⟨q6, hq6, h⟩ := bd h
          refine r_callVIk (V := (vC E)) (k := 22) (As := [.ref (ca E 43), .int x3, .int y2]) (rest := [.int q5.1]) X I hl (c_X8_likingNow (kC_43 E) hq6) yv_X8_likingNow tw_597 ⟨rfl, rfl, Nat.le_of_ble_eq_true rfl, Nat.le_of_ble_eq_true rfl⟩ (kC_22 E).1 ((kC_22 E).2 (q5.2 22)) rfl rfl rfl (Nat.le_of_ble_eq_true rfl) ⟨Nat.le_of_ble_eq_true rfl, Nat.le_of_ble_eq_true rfl⟩ dX10_envy_76 (fun H locs I => ?_)
          refine lv_icmp_le (tgt := 88) hx hb dX10_envy_79 (by decide) (fun c7 => ?_) (fun c7 => ?_)
          · have h := ite_t h c7
            refine lv_iinc (v := (x3 + 1)) (lv' := [(3, .int (x3 + 1)), (4, .int y2), (0, .ref (ca E 0)), (1, .int x1), (2, .int x2)]) hx hb dX10_envy_88 hl (k := 4) rfl rfl (by decide) rfl (fun ls hl => ?_)
            refine lv_goto (tgt := 9) hx hb dX10_envy_91 (by decide) ?_
            exact ih q6.2 x2 (x3 + 1) h H locs ls I (lv_sub hl [2, 3, 4, 0] rfl)
          · have h := ite_f h c7
            refine lv_iload_n hx hb dX10_envy_82 rfl (lv_at hl 3 rfl) ?_
            refine lv_iconst (v := 1) hx hb dX10_envy_83 (by decide) ?_
            refine lv_iload_n hx hb dX10_envy_84 rfl (lv_at hl 4 rfl) ?_
            refine lv_ishl hx hb dX10_envy_85 ?_
            refine lv_ior hx hb dX10_envy_86 ?_
            obtain ⟨y8, ey8, h⟩ := lt_e h
            refine nm_i ey8 ?_
            refine lv_istore_n (lv' := [(2, .int y8), (4, .int y2), (0, .ref (ca E 0)), (1, .int x1), (3, .int x3)]) hx hb dX10_envy_87 rfl hl (by decide) rfl (fun ls hl => ?_)
            refine lv_iinc (v := (x3 + 1)) (lv' := [(3, .int (x3 + 1)), (2, .int y8), (4, .int y2), (0, .ref (ca E 0)), (1, .int x1)]) hx hb dX10_envy_88 hl (k := 4) rfl rfl (by decide) rfl (fun ls hl => ?_)
            refine lv_goto (tgt := 9) hx hb dX10_envy_91 (by decide) ?_
            exact ih q6.2 y8 (x3 + 1) h H locs ls I (lv_sub hl [3, 4, 1, 0] rfl)
set_option maxHeartbeats 4000000 in
set_option maxRecDepth 100000 in
theorem w_X10_envy_0 {p : Program} {l : Launch} {e : Env} {s : State} {m : MethodId} {args : Array Value} {below : List Frame} {meth : Method} {c : Code} {A : Nat → Prop} {E : CE} {q : (Nat × Mem) ⊕ (Int32 × Mem)} (X : CX p s m meth c args cX10_envy 5 RX10 (some .int)) (hlt : l.stackTraces = false) (hex : ∀ x ∈ c.exceptionTable.toList, False) : ∀ (σ : Mem) (x1 : Int32) , m_X10_envy σ x1 = some q → ∀ (H : Heap) (locs : List Loc) (ls : Array Slot), WI (vC E) A s H locs σ → lv_has ls 5 [(0, .ref (ca E 0)), (1, .int x1)] → W p l e rm_X10_envy s m args below meth c H locs 0 0 (vx_MQ below (QXI (vC E) A q) (XX (vC E) A q) args s 1 6 A) (F0 m 0 ls []) := by
  have hx := X.1
  have hb := X.2.1
  intro σ x1 h H locs ls I hl
  unfold m_X10_envy at h
  refine lv_aload_n hx hb dX10_envy_0 rfl (lv_at hl 0 rfl) ?_
  refine lv_iload_n hx hb dX10_envy_1 rfl (lv_at hl 1 rfl) ?_
  obtain ⟨q1, hq1, h⟩ := xb_e h
  refine r_callXV (V := (vC E)) (k := 0) (As := [.int x1]) (rest := []) X hex I hl (c_X10_needTenant hlt hq1) yv_X10_needTenant tw_558 ⟨rfl, rfl, Nat.le_of_ble_eq_true rfl, Nat.le_of_ble_eq_true rfl⟩ (kC_0 E).1 rfl rfl rfl rfl (Nat.le_of_ble_eq_true rfl) ⟨Nat.le_of_ble_eq_true rfl, Nat.le_of_ble_eq_true rfl⟩ ⟨Nat.le_of_ble_eq_true rfl, Nat.le_of_ble_eq_true rfl⟩ dX10_envy_2 h (fun σ2 h H locs I => ?_)
  refine lv_iconst (v := 0) hx hb dX10_envy_5 (by decide) ?_
  refine lv_istore_n (lv' := [(2, .int (0 : Int32)), (0, .ref (ca E 0)), (1, .int x1)]) hx hb dX10_envy_6 rfl hl (by decide) rfl (fun ls hl => ?_)
  refine lv_iconst (v := 0) hx hb dX10_envy_7 (by decide) ?_
  refine lv_istore_n (lv' := [(3, .int (0 : Int32)), (2, .int (0 : Int32)), (0, .ref (ca E 0)), (1, .int x1)]) hx hb dX10_envy_8 rfl hl (by decide) rfl (fun ls hl => ?_)
  exact w_X10_envy_9 X hlt hex   KF σ2 (0 : Int32) (0 : Int32) h H locs ls I (lv_sub hl [2, 3, 1, 0] rfl)
theorem c_X10_envy {l : Launch} {E : CE} {σ : Mem} {x1 : Int32} (hlt : l.stackTraces = false) {q : (Nat × Mem) ⊕ (Int32 × Mem)} (h : m_X10_envy σ x1 = some q) : CXI l (vC E) yX10_envy (.code yX10_envy cX10_envy 5 (some .int) :: GG) rm_X10_envy 1 6 [.ref (ca E 0), .int x1] σ q :=
  mk_CXI (by decide +kernel) (Nat.le_of_ble_eq_true rfl) (fun p e s m args below meth c A ls X hex I hl => w_X10_envy_0 X hlt hex σ x1 h s.heap [] ls I (lv_sub hl [0, 1] rfl))

def rm_X10_see : Room := { frames := 8, cells := 2, slots := 12, locals := 221 }
def m_X10_see (σ : Mem) (x1 : Int32) (x2 : Int32) (x3 : Int32) (x4 : Int32) : Option ((Nat × Mem) ⊕ (Int32 × Mem)) := (xb (m_X10_needTenant σ x1) fun σ2 => (xb (m_X10_needHouse σ2 x2) fun σ4 => (if (8 : Int32) ≤ (σ4 46 1) then ((m_X1_refuse 42 σ4 (2 : Int32)).bind fun q6 => (some (.inr (q6.1, q6.2)))) else (if x3 < (1 : Int32) then ((m_X1_refuse 42 σ4 (2 : Int32)).bind fun q8 => (some (.inr (q8.1, q8.2)))) else (if x3 ≤ (12 : Int32) then ((m_X6_add 46 σ4 x1 x2 x3 x4).bind fun q10 => (some (.inr ((q10 46 1), q10)))) else ((m_X1_refuse 42 σ4 (2 : Int32)).bind fun q11 => (some (.inr (q11.1, q11.2)))))))))
set_option maxHeartbeats 4000000 in
set_option maxRecDepth 100000 in
theorem w_X10_see_0 {p : Program} {l : Launch} {e : Env} {s : State} {m : MethodId} {args : Array Value} {below : List Frame} {meth : Method} {c : Code} {A : Nat → Prop} {E : CE} {q : (Nat × Mem) ⊕ (Int32 × Mem)} (X : CX p s m meth c args cX10_see 5 RX10 (some .int)) (hlt : l.stackTraces = false) (hex : ∀ x ∈ c.exceptionTable.toList, False) : ∀ (σ : Mem) (x1 : Int32) (x2 : Int32) (x3 : Int32) (x4 : Int32) , m_X10_see σ x1 x2 x3 x4 = some q → ∀ (H : Heap) (locs : List Loc) (ls : Array Slot), WI (vC E) A s H locs σ → lv_has ls 5 [(0, .ref (ca E 0)), (1, .int x1), (2, .int x2), (3, .int x3), (4, .int x4)] → W p l e rm_X10_see s m args below meth c H locs 0 0 (vx_MQ below (QXI (vC E) A q) (XX (vC E) A q) args s 2 12 A) (F0 m 0 ls []) := by
  have hx := X.1
  have hb := X.2.1
  intro σ x1 x2 x3 x4 h H locs ls I hl
  unfold m_X10_see at h
  refine lv_aload_n hx hb dX10_see_0 rfl (lv_at hl 0 rfl) ?_
  refine lv_iload_n hx hb dX10_see_1 rfl (lv_at hl 1 rfl) ?_
  obtain ⟨q1, hq1, h⟩ := xb_e h
  refine r_callXV (V := (vC E)) (k := 0) (As := [.int x1]) (rest := []) X hex I hl (c_X10_needTenant hlt hq1) yv_X10_needTenant tw_558 ⟨rfl, rfl, Nat.le_of_ble_eq_true rfl, Nat.le_of_ble_eq_true rfl⟩ (kC_0 E).1 rfl rfl rfl rfl (Nat.le_of_ble_eq_true rfl) ⟨Nat.le_of_ble_eq_true rfl, Nat.le_of_ble_eq_true rfl⟩ ⟨Nat.le_of_ble_eq_true rfl, Nat.le_of_ble_eq_true rfl⟩ dX10_see_2 h (fun σ2 h H locs I => ?_)
  refine lv_aload_n hx hb dX10_see_5 rfl (lv_at hl 0 rfl) ?_
  refine lv_iload_n hx hb dX10_see_6 rfl (lv_at hl 2 rfl) ?_
  obtain ⟨q3, hq3, h⟩ := xb_e h
  refine r_callXV (V := (vC E)) (k := 0) (As := [.int x2]) (rest := []) X hex I hl (c_X10_needHouse hlt hq3) yv_X10_needHouse tw_545 ⟨rfl, rfl, Nat.le_of_ble_eq_true rfl, Nat.le_of_ble_eq_true rfl⟩ (kC_0 E).1 rfl rfl rfl rfl (Nat.le_of_ble_eq_true rfl) ⟨Nat.le_of_ble_eq_true rfl, Nat.le_of_ble_eq_true rfl⟩ ⟨Nat.le_of_ble_eq_true rfl, Nat.le_of_ble_eq_true rfl⟩ dX10_see_7 h (fun σ4 h H locs I => ?_)
  refine lv_aload_n hx hb dX10_see_10 rfl (lv_at hl 0 rfl) ?_
  refine gfC_X10_43 X I (kC_0 E) (k' := 42) rfl dX10_see_11 ?_
  refine gfC_X10_142 X I (kC_42 E) (k' := 46) rfl dX10_see_14 ?_
  refine gfC_X10_146 X I (kC_46 E) dX10_see_17 ?_
  refine lv_bipush (v := 8) hx hb dX10_see_20 (by decide) ?_
  refine lv_icmp_ge (tgt := 36) hx hb dX10_see_22 (by decide) (fun c5 => ?_) (fun c5 => ?_)
  · have h := ite_t h c5
    refine lv_aload_n hx hb dX10_see_36 rfl (lv_at hl 0 rfl) ?_
    refine gfC_X10_43 X I (kC_0 E) (k' := 42) rfl dX10_see_37 ?_
    refine lv_iconst (v := 2) hx hb dX10_see_40 (by decide) ?_
    obtain ⟨q6, hq6, h⟩ := bd h
    refine r_callVIk (V := (vC E)) (k := 42) (As := [.int (2 : Int32)]) (rest := []) X I hl (c_X1_refuse (kC_42 E) (kC_43 E) (kC_44 E) (kC_45 E) (kC_46 E) (kC_47 E) (kC_48 E) hq6) yv_X1_refuse tw_488 ⟨rfl, rfl, Nat.le_of_ble_eq_true rfl, Nat.le_of_ble_eq_true rfl⟩ (kC_42 E).1 ((kC_42 E).2 (σ4 42)) rfl rfl rfl (Nat.le_of_ble_eq_true rfl) ⟨Nat.le_of_ble_eq_true rfl, Nat.le_of_ble_eq_true rfl⟩ dX10_see_41 (fun H locs I => ?_)
    exact r_xiret X I (Option.some.inj h).symm ⟨Nat.le_of_ble_eq_true rfl, Nat.le_of_ble_eq_true rfl⟩ dX10_see_44
  · have h := ite_f h c5
    refine lv_iload_n hx hb dX10_see_25 rfl (lv_at hl 3 rfl) ?_
    refine lv_iconst (v := 1) hx hb dX10_see_26 (by decide) ?_
    refine lv_icmp_lt (tgt := 36) hx hb dX10_see_27 (by decide) (fun c7 => ?_) (fun c7 => ?_)
    · have h := ite_t h c7
      refine lv_aload_n hx hb dX10_see_36 rfl (lv_at hl 0 rfl) ?_
      refine gfC_X10_43 X I (kC_0 E) (k' := 42) rfl dX10_see_37 ?_
      refine lv_iconst (v := 2) hx hb dX10_see_40 (by decide) ?_
      obtain ⟨q8, hq8, h⟩ := bd h
      refine r_callVIk (V := (vC E)) (k := 42) (As := [.int (2 : Int32)]) (rest := []) X I hl (c_X1_refuse (kC_42 E) (kC_43 E) (kC_44 E) (kC_45 E) (kC_46 E) (kC_47 E) (kC_48 E) hq8) yv_X1_refuse tw_488 ⟨rfl, rfl, Nat.le_of_ble_eq_true rfl, Nat.le_of_ble_eq_true rfl⟩ (kC_42 E).1 ((kC_42 E).2 (σ4 42)) rfl rfl rfl (Nat.le_of_ble_eq_true rfl) ⟨Nat.le_of_ble_eq_true rfl, Nat.le_of_ble_eq_true rfl⟩ dX10_see_41 (fun H locs I => ?_)
      exact r_xiret X I (Option.some.inj h).symm ⟨Nat.le_of_ble_eq_true rfl, Nat.le_of_ble_eq_true rfl⟩ dX10_see_44
    · have h := ite_f h c7
      refine lv_iload_n hx hb dX10_see_30 rfl (lv_at hl 3 rfl) ?_
      refine lv_bipush (v := 12) hx hb dX10_see_31 (by decide) ?_
      refine lv_icmp_le (tgt := 45) hx hb dX10_see_33 (by decide) (fun c9 => ?_) (fun c9 => ?_)
      · have h := ite_t h c9
        refine lv_aload_n hx hb dX10_see_45 rfl (lv_at hl 0 rfl) ?_
        refine gfC_X10_43 X I (kC_0 E) (k' := 42) rfl dX10_see_46 ?_
        refine gfC_X10_142 X I (kC_42 E) (k' := 46) rfl dX10_see_49 ?_
        refine lv_iload_n hx hb dX10_see_52 rfl (lv_at hl 1 rfl) ?_
        refine lv_iload_n hx hb dX10_see_53 rfl (lv_at hl 2 rfl) ?_
        refine lv_iload_n hx hb dX10_see_54 rfl (lv_at hl 3 rfl) ?_
        refine lv_iload hx hb dX10_see_55 (lv_at hl 4 rfl) ?_
        obtain ⟨q10, hq10, h⟩ := bd h
        refine r_callVVk (V := (vC E)) (k := 46) (As := [.int x1, .int x2, .int x3, .int x4]) (rest := []) X I hl (c_X6_add (kC_46 E) (kC_47 E) hq10) yv_X6_add tw_628 ⟨rfl, rfl, Nat.le_of_ble_eq_true rfl, Nat.le_of_ble_eq_true rfl⟩ (kC_46 E).1 ((kC_46 E).2 (σ4 46)) rfl rfl rfl (Nat.le_of_ble_eq_true rfl) ⟨Nat.le_of_ble_eq_true rfl, Nat.le_of_ble_eq_true rfl⟩ dX10_see_57 (fun H locs I => ?_)
        refine lv_aload_n hx hb dX10_see_60 rfl (lv_at hl 0 rfl) ?_
        refine gfC_X10_43 X I (kC_0 E) (k' := 42) rfl dX10_see_61 ?_
        refine gfC_X10_142 X I (kC_42 E) (k' := 46) rfl dX10_see_64 ?_
        refine gfC_X10_146 X I (kC_46 E) dX10_see_67 ?_
        exact r_xiret X I (Option.some.inj h).symm ⟨Nat.le_of_ble_eq_true rfl, Nat.le_of_ble_eq_true rfl⟩ dX10_see_70
      · have h := ite_f h c9
        refine lv_aload_n hx hb dX10_see_36 rfl (lv_at hl 0 rfl) ?_
        refine gfC_X10_43 X I (kC_0 E) (k' := 42) rfl dX10_see_37 ?_
        refine lv_iconst (v := 2) hx hb dX10_see_40 (by decide) ?_
        obtain ⟨q11, hq11, h⟩ := bd h
        refine r_callVIk (V := (vC E)) (k := 42) (As := [.int (2 : Int32)]) (rest := []) X I hl (c_X1_refuse (kC_42 E) (kC_43 E) (kC_44 E) (kC_45 E) (kC_46 E) (kC_47 E) (kC_48 E) hq11) yv_X1_refuse tw_488 ⟨rfl, rfl, Nat.le_of_ble_eq_true rfl, Nat.le_of_ble_eq_true rfl⟩ (kC_42 E).1 ((kC_42 E).2 (σ4 42)) rfl rfl rfl (Nat.le_of_ble_eq_true rfl) ⟨Nat.le_of_ble_eq_true rfl, Nat.le_of_ble_eq_true rfl⟩ dX10_see_41 (fun H locs I => ?_)
        exact r_xiret X I (Option.some.inj h).symm ⟨Nat.le_of_ble_eq_true rfl, Nat.le_of_ble_eq_true rfl⟩ dX10_see_44
theorem c_X10_see {l : Launch} {E : CE} {σ : Mem} {x1 : Int32} {x2 : Int32} {x3 : Int32} {x4 : Int32} (hlt : l.stackTraces = false) {q : (Nat × Mem) ⊕ (Int32 × Mem)} (h : m_X10_see σ x1 x2 x3 x4 = some q) : CXI l (vC E) yX10_see (.code yX10_see cX10_see 5 (some .int) :: GG) rm_X10_see 2 12 [.ref (ca E 0), .int x1, .int x2, .int x3, .int x4] σ q :=
  mk_CXI (by decide +kernel) (Nat.le_of_ble_eq_true rfl) (fun p e s m args below meth c A ls X hex I hl => w_X10_see_0 X hlt hex σ x1 x2 x3 x4 h s.heap [] ls I (lv_sub hl [0, 1, 2, 3, 4] rfl))

def rm_X10_pockets : Room := { frames := 8, cells := 1, slots := 6, locals := 222 }
def f_X10_pockets_48 (k33 : Mem → Int32 → Int32 → Int32 → Option ((Nat × Mem) ⊕ (Int32 × Mem))) (x1 : Int32) (x4 : Int32) : Nat → Mem → Int32 → Int32 → Int32 → Option ((Nat × Mem) ⊕ (Int32 × Mem))
  | 0, _, _, _, _ => none
  | n + 1, σ, x2, x3, x5 => (if (20 : Int32) < x5 then (k33 σ x2 x3 (x4 + 1)) else (gd ((40 : Int32) + x4) 64 (if x5 = (σ 43 (Int32.toNatClampNeg ((40 : Int32) + x4))) then f_X10_pockets_48 k33 x1 x4 n σ x2 x3 (x5 + 1) else ((m_X10_isAsSeen σ x4 x5).bind fun q3 => (if q3.1 = (0 : Int32) then f_X10_pockets_48 k33 x1 x4 n q3.2 x2 x3 (x5 + 1) else (if x2 = (0 : Int32) then (lt (((100 : Int32) * x4) + x5) fun y6 => f_X10_pockets_48 k33 x1 x4 n q3.2 (x2 + 1) y6 (x5 + 1)) else f_X10_pockets_48 k33 x1 x4 n q3.2 (x2 + 1) x3 (x5 + 1)))))))
def f_X10_pockets_33 (x1 : Int32) : Nat → Mem → Int32 → Int32 → Int32 → Option ((Nat × Mem) ⊕ (Int32 × Mem))
  | 0, _, _, _, _ => none
  | n + 1, σ, x2, x3, x4 => (if (σ 23 1) ≤ x4 then (if x1 = (0 : Int32) then (some (.inr (x2, σ))) else (some (.inr (x3, σ)))) else (f_X10_pockets_48 (f_X10_pockets_33 x1 n) x1 x4 KF σ x2 x3 (0 : Int32)))
def m_X10_pockets (σ : Mem) (x1 : Int32) : Option ((Nat × Mem) ⊕ (Int32 × Mem)) := (xb (m_X10_needWhat σ x1 (2 : Int32)) fun σ2 => (if x1 = (2 : Int32) then ((m_X10_isAsSeen σ2 (-1 : Int32) (0 : Int32)).bind fun q4 => (if q4.1 = (0 : Int32) then (some (.inr ((0 : Int32), q4.2))) else (some (.inr ((1 : Int32), q4.2))))) else (f_X10_pockets_33 x1 KF σ2 (0 : Int32) (-1 : Int32) (0 : Int32))))
set_option maxHeartbeats 4000000 in
set_option maxRecDepth 100000 in
theorem w_X10_pockets_48 {p : Program} {l : Launch} {e : Env} {s : State} {m : MethodId} {args : Array Value} {below : List Frame} {meth : Method} {c : Code} {A : Nat → Prop} {E : CE} {q : (Nat × Mem) ⊕ (Int32 × Mem)} (X : CX p s m meth c args cX10_pockets 6 RX10 (some .int)) (hlt : l.stackTraces = false) (hex : ∀ x ∈ c.exceptionTable.toList, False) {x1 : Int32} {x4 : Int32} {k33 : Mem → Int32 → Int32 → Int32 → Option ((Nat × Mem) ⊕ (Int32 × Mem))} (hk33 : ∀ (σ : Mem) (x2 : Int32) (x3 : Int32) (x4 : Int32) , k33 σ x2 x3 x4 = some q → ∀ (H : Heap) (locs : List Loc) (ls : Array Slot), WI (vC E) A s H locs σ → lv_has ls 6 [(0, .ref (ca E 0)), (1, .int x1), (2, .int x2), (3, .int x3), (4, .int x4)] → W p l e rm_X10_pockets s m args below meth c H locs 1 6 (vx_MQ below (QXI (vC E) A q) (XX (vC E) A q) args s 1 6 A) (F0 m 33 ls [])) : ∀ (n : Nat), ∀ (σ : Mem) (x2 : Int32) (x3 : Int32) (x5 : Int32) , f_X10_pockets_48 k33 x1 x4 n σ x2 x3 x5 = some q → ∀ (H : Heap) (locs : List Loc) (ls : Array Slot), WI (vC E) A s H locs σ → lv_has ls 6 [(0, .ref (ca E 0)), (1, .int x1), (2, .int x2), (3, .int x3), (4, .int x4), (5, .int x5)] → W p l e rm_X10_pockets s m args below meth c H locs 1 6 (vx_MQ below (QXI (vC E) A q) (XX (vC E) A q) args s 1 6 A) (F0 m 48 ls []) := by
  have hx := X.1
  have hb := X.2.1
  intro n
  induction n with
  | zero =>
    intro σ x2 x3 x5 h
    cases h
  | succ n ih =>
    intro σ x2 x3 x5 h H locs ls I hl
    rw [f_X10_pockets_48] at h
    refine lv_iload hx hb dX10_pockets_48 (lv_at hl 5 rfl) ?_
    refine lv_bipush (v := 20) hx hb dX10_pockets_50 (by decide) ?_
    refine lv_icmp_gt (tgt := 110) hx hb dX10_pockets_52 (by decide) (fun c1 => ?_) (fun c1 => ?_)
    · have h := ite_t h c1
      refine lv_iinc (v := (x4 + 1)) (lv' := [(4, .int (x4 + 1)), (0, .ref (ca E 0)), (1, .int x1), (2, .int x2), (3, .int x3), (5, .int x5)]) hx hb dX10_pockets_110 hl (k := 4) rfl rfl (by decide) rfl (fun ls hl => ?_)
      refine lv_goto (tgt := 33) hx hb dX10_pockets_113 (by decide) ?_
      exact hk33 σ x2 x3 (x4 + 1) h H locs ls I (lv_sub hl [1, 2, 3, 4, 0] rfl)
    · have h := ite_f h c1
      refine lv_iload hx hb dX10_pockets_55 (lv_at hl 5 rfl) ?_
      refine lv_aload_n hx hb dX10_pockets_57 rfl (lv_at hl 0 rfl) ?_
      refine gfC_X10_43 X I (kC_0 E) (k' := 42) rfl dX10_pockets_58 ?_
      refine gfC_X10_122 X I (kC_42 E) (k' := 43) rfl dX10_pockets_61 ?_
      refine lv_bipush (v := 40) hx hb dX10_pockets_64 (by decide) ?_
      refine lv_iload hx hb dX10_pockets_66 (lv_at hl 4 rfl) ?_
      refine lv_iadd hx hb dX10_pockets_68 ?_
      obtain ⟨hin, h⟩ := gd_some h
      refine ialdC X I (kC_43 E) hin dX10_pockets_69 ?_
      refine lv_icmp_eq (tgt := 104) hx hb dX10_pockets_70 (by decide) (fun c2 => ?_) (fun c2 => ?_)
      · have h := ite_t h c2
        refine lv_iinc (v := (x5 + 1)) (lv' := [(5, .int (x5 + 1)), (0, .ref (ca E 0)), (1, .int x1), (2, .int x2), (3, .int x3), (4, .int x4)]) hx hb dX10_pockets_104 hl (k := 5) rfl rfl (by decide) rfl (fun ls hl => ?_)
        refine lv_goto (tgt := 48) hx hb dX10_pockets_107 (by decide) ?_
        exact ih σ x2 x3 (x5 + 1) h H locs ls I (lv_sub hl [1, 2, 3, 4, 5, 0] rfl)
      · have h := ite_f h c2
        refine lv_aload_n hx hb dX10_pockets_73 rfl (lv_at hl 0 rfl) ?_
        refine lv_iload hx hb dX10_pockets_74 (lv_at hl 4 rfl) ?_
        refine lv_iload hx hb dX10_pockets_76 (lv_at hl 5 rfl) ?_
        obtain ⟨q3, hq3, h⟩ := bd h
        refine r_callVIk (V := (vC E)) (k := 0) (As := [.int x4, .int x5]) (rest := []) X I hl (c_X10_isAsSeen  hq3) yv_X10_isAsSeen tw_452 ⟨rfl, rfl, Nat.le_of_ble_eq_true rfl, Nat.le_of_ble_eq_true rfl⟩ (kC_0 E).1 ((kC_0 E).2 (σ 0)) rfl rfl rfl (Nat.le_of_ble_eq_true rfl) ⟨Nat.le_of_ble_eq_true rfl, Nat.le_of_ble_eq_true rfl⟩ dX10_pockets_78 (fun H locs I => ?_)
        refine lv_if_eq (tgt := 104) hx hb dX10_pockets_81 (by decide) (fun c4 => ?_) (fun c4 => ?_)
        · have h := ite_t h c4
          refine lv_iinc (v := (x5 + 1)) (lv' := [(5, .int (x5 + 1)), (0, .ref (ca E 0)), (1, .int x1), (2, .int x2), (3, .int x3), (4, .int x4)]) hx hb dX10_pockets_104 hl (k := 5) rfl rfl (by decide) rfl (fun ls hl => ?_)
          refine lv_goto (tgt := 48) hx hb dX10_pockets_107 (by decide) ?_
          exact ih q3.2 x2 x3 (x5 + 1) h H locs ls I (lv_sub hl [1, 2, 3, 4, 5, 0] rfl)
        · have h := ite_f h c4
          refine lv_iload_n hx hb dX10_pockets_84 rfl (lv_at hl 2 rfl) ?_
          refine lv_if_ne (tgt := 99) hx hb dX10_pockets_85 (by decide) (fun c5 => ?_) (fun c5 => ?_)
          · have h := ite_f h c5
            refine lv_iload_n hx hb dX10_pockets_99 rfl (lv_at hl 3 rfl) ?_
            refine lv_istore_n (lv' := [(3, .int x3), (0, .ref (ca E 0)), (1, .int x1), (2, .int x2), (4, .int x4), (5, .int x5)]) hx hb dX10_pockets_100 rfl hl (by decide) rfl (fun ls hl => ?_)
            refine lv_iinc (v := (x2 + 1)) (lv' := [(2, .int (x2 + 1)), (3, .int x3), (0, .ref (ca E 0)), (1, .int x1), (4, .int x4), (5, .int x5)]) hx hb dX10_pockets_101 hl (k := 3) rfl rfl (by decide) rfl (fun ls hl => ?_)
            refine lv_iinc (v := (x5 + 1)) (lv' := [(5, .int (x5 + 1)), (2, .int (x2 + 1)), (3, .int x3), (0, .ref (ca E 0)), (1, .int x1), (4, .int x4)]) hx hb dX10_pockets_104 hl (k := 5) rfl rfl (by decide) rfl (fun ls hl => ?_)
            refine lv_goto (tgt := 48) hx hb dX10_pockets_107 (by decide) ?_
            exact ih q3.2 (x2 + 1) x3 (x5 + 1) h H locs ls I (lv_sub hl [3, 4, 1, 2, 5, 0] rfl)
          · have h := ite_t h c5
            refine lv_bipush (v := 100) hx hb dX10_pockets_88 (by decide) ?_
            refine lv_iload hx hb dX10_pockets_90 (lv_at hl 4 rfl) ?_
            refine lv_imul hx hb dX10_pockets_92 ?_
            refine lv_iload hx hb dX10_pockets_93 (lv_at hl 5 rfl) ?_
            refine lv_iadd hx hb dX10_pockets_95 ?_
            refine lv_goto (tgt := 100) hx hb dX10_pockets_96 (by decide) ?_
            obtain ⟨y6, ey6, h⟩ := lt_e h
            refine nm_i ey6 ?_
            refine lv_istore_n (lv' := [(3, .int y6), (0, .ref (ca E 0)), (1, .int x1), (2, .int x2), (4, .int x4), (5, .int x5)]) hx hb dX10_pockets_100 rfl hl (by decide) rfl (fun ls hl => ?_)
            refine lv_iinc (v := (x2 + 1)) (lv' := [(2, .int (x2 + 1)), (3, .int y6), (0, .ref (ca E 0)), (1, .int x1), (4, .int x4), (5, .int x5)]) hx hb dX10_pockets_101 hl (k := 3) rfl rfl (by decide) rfl (fun ls hl => ?_)
            refine lv_iinc (v := (x5 + 1)) (lv' := [(5, .int (x5 + 1)), (2, .int (x2 + 1)), (3, .int y6), (0, .ref (ca E 0)), (1, .int x1), (4, .int x4)]) hx hb dX10_pockets_104 hl (k := 5) rfl rfl (by decide) rfl (fun ls hl => ?_)
            refine lv_goto (tgt := 48) hx hb dX10_pockets_107 (by decide) ?_
            exact ih q3.2 (x2 + 1) y6 (x5 + 1) h H locs ls I (lv_sub hl [3, 4, 1, 2, 5, 0] rfl)
set_option maxHeartbeats 4000000 in
set_option maxRecDepth 100000 in
theorem w_X10_pockets_33 {p : Program} {l : Launch} {e : Env} {s : State} {m : MethodId} {args : Array Value} {below : List Frame} {meth : Method} {c : Code} {A : Nat → Prop} {E : CE} {q : (Nat × Mem) ⊕ (Int32 × Mem)} (X : CX p s m meth c args cX10_pockets 6 RX10 (some .int)) (hlt : l.stackTraces = false) (hex : ∀ x ∈ c.exceptionTable.toList, False) {x1 : Int32} : ∀ (n : Nat), ∀ (σ : Mem) (x2 : Int32) (x3 : Int32) (x4 : Int32) , f_X10_pockets_33 x1 n σ x2 x3 x4 = some q → ∀ (H : Heap) (locs : List Loc) (ls : Array Slot), WI (vC E) A s H locs σ → lv_has ls 6 [(0, .ref (ca E 0)), (1, .int x1), (2, .int x2), (3, .int x3), (4, .int x4)] → W p l e rm_X10_pockets s m args below meth c H locs 1 6 (vx_MQ below (QXI (vC E) A q) (XX (vC E) A q) args s 1 6 A) (F0 m 33 ls []) := by
  have hx := X.1
  have hb := X.2.1
  intro n
  induction n with
  | zero =>
    intro σ x2 x3 x4 h
    cases h
  | succ n ih =>
    intro σ x2 x3 x4 h H locs ls I hl
    rw [f_X10_pockets_33] at h
    refine lv_iload hx hb dX10_pockets_33 (lv_at hl 4 rfl) ?_
    refine lv_aload_n hx hb dX10_pockets_35 rfl (lv_at hl 0 rfl) ?_
    refine gfC_X10_32 X I (kC_0 E) (k' := 23) rfl dX10_pockets_36 ?_
    refine gfC_X10_116 X I (kC_23 E) dX10_pockets_39 ?_
    refine lv_icmp_ge (tgt := 116) hx hb dX10_pockets_42 (by decide) (fun c1 => ?_) (fun c1 => ?_)
    · have h := ite_t h c1
      refine lv_iload_n hx hb dX10_pockets_116 rfl (lv_at hl 1 rfl) ?_
      refine lv_if_ne (tgt := 124) hx hb dX10_pockets_117 (by decide) (fun c2 => ?_) (fun c2 => ?_)
      · have h := ite_f h c2
        refine lv_iload_n hx hb dX10_pockets_124 rfl (lv_at hl 3 rfl) ?_
        exact r_xiret X I (Option.some.inj h).symm ⟨Nat.le_of_ble_eq_true rfl, Nat.le_of_ble_eq_true rfl⟩ dX10_pockets_125
      · have h := ite_t h c2
        refine lv_iload_n hx hb dX10_pockets_120 rfl (lv_at hl 2 rfl) ?_
        refine lv_goto (tgt := 125) hx hb dX10_pockets_121 (by decide) ?_
        exact r_xiret X I (Option.some.inj h).symm ⟨Nat.le_of_ble_eq_true rfl, Nat.le_of_ble_eq_true rfl⟩ dX10_pockets_125
    · have h := ite_f h c1
      refine lv_iconst (v := 0) hx hb dX10_pockets_45 (by decide) ?_
      refine lv_istore (lv' := [(5, .int (0 : Int32)), (0, .ref (ca E 0)), (1, .int x1), (2, .int x2), (3, .int x3), (4, .int x4)]) hx hb dX10_pockets_46 hl (by decide) rfl (fun ls hl => ?_)
      exact w_X10_pockets_48 X hlt hex  (fun σ a2 a3 a4 h H locs ls I hl => ih σ a2 a3 a4 h H locs ls I hl) KF σ x2 x3 (0 : Int32) h H locs ls I (lv_sub hl [1, 2, 3, 4, 5, 0] rfl)
set_option maxHeartbeats 4000000 in
set_option maxRecDepth 100000 in
theorem w_X10_pockets_0 {p : Program} {l : Launch} {e : Env} {s : State} {m : MethodId} {args : Array Value} {below : List Frame} {meth : Method} {c : Code} {A : Nat → Prop} {E : CE} {q : (Nat × Mem) ⊕ (Int32 × Mem)} (X : CX p s m meth c args cX10_pockets 6 RX10 (some .int)) (hlt : l.stackTraces = false) (hex : ∀ x ∈ c.exceptionTable.toList, False) : ∀ (σ : Mem) (x1 : Int32) , m_X10_pockets σ x1 = some q → ∀ (H : Heap) (locs : List Loc) (ls : Array Slot), WI (vC E) A s H locs σ → lv_has ls 6 [(0, .ref (ca E 0)), (1, .int x1)] → W p l e rm_X10_pockets s m args below meth c H locs 0 0 (vx_MQ below (QXI (vC E) A q) (XX (vC E) A q) args s 1 6 A) (F0 m 0 ls []) := by
  have hx := X.1
  have hb := X.2.1
  intro σ x1 h H locs ls I hl
  unfold m_X10_pockets at h
  refine lv_aload_n hx hb dX10_pockets_0 rfl (lv_at hl 0 rfl) ?_
  refine lv_iload_n hx hb dX10_pockets_1 rfl (lv_at hl 1 rfl) ?_
  refine lv_iconst (v := 2) hx hb dX10_pockets_2 (by decide) ?_
  obtain ⟨q1, hq1, h⟩ := xb_e h
  refine r_callXV (V := (vC E)) (k := 0) (As := [.int x1, .int (2 : Int32)]) (rest := []) X hex I hl (c_X10_needWhat hlt hq1) yv_X10_needWhat tw_580 ⟨rfl, rfl, Nat.le_of_ble_eq_true rfl, Nat.le_of_ble_eq_true rfl⟩ (kC_0 E).1 rfl rfl rfl rfl (Nat.le_of_ble_eq_true rfl) ⟨Nat.le_of_ble_eq_true rfl, Nat.le_of_ble_eq_true rfl⟩ ⟨Nat.le_of_ble_eq_true rfl, Nat.le_of_ble_eq_true rfl⟩ dX10_pockets_3 h (fun σ2 h H locs I => ?_)
  refine lv_iload_n hx hb dX10_pockets_6 rfl (lv_at hl 1 rfl) ?_
  refine lv_iconst (v := 2) hx hb dX10_pockets_7 (by decide) ?_
  refine lv_icmp_ne (tgt := 26) hx hb dX10_pockets_8 (by decide) (fun c3 => ?_) (fun c3 => ?_)
  · have h := ite_f h c3
    refine lv_iconst (v := 0) hx hb dX10_pockets_26 (by decide) ?_
    refine lv_istore_n (lv' := [(2, .int (0 : Int32)), (0, .ref (ca E 0)), (1, .int x1)]) hx hb dX10_pockets_27 rfl hl (by decide) rfl (fun ls hl => ?_)
    refine lv_iconst (v := -1) hx hb dX10_pockets_28 (by decide) ?_
    refine lv_istore_n (lv' := [(3, .int (-1 : Int32)), (2, .int (0 : Int32)), (0, .ref (ca E 0)), (1, .int x1)]) hx hb dX10_pockets_29 rfl hl (by decide) rfl (fun ls hl => ?_)
    refine lv_iconst (v := 0) hx hb dX10_pockets_30 (by decide) ?_
    refine lv_istore (lv' := [(4, .int (0 : Int32)), (3, .int (-1 : Int32)), (2, .int (0 : Int32)), (0, .ref (ca E 0)), (1, .int x1)]) hx hb dX10_pockets_31 hl (by decide) rfl (fun ls hl => ?_)
    exact w_X10_pockets_33 X hlt hex   KF σ2 (0 : Int32) (-1 : Int32) (0 : Int32) h H locs ls I (lv_sub hl [3, 4, 2, 1, 0] rfl)
  · have h := ite_t h c3
    refine lv_aload_n hx hb dX10_pockets_11 rfl (lv_at hl 0 rfl) ?_
    refine lv_iconst (v := -1) hx hb dX10_pockets_12 (by decide) ?_
    refine lv_iconst (v := 0) hx hb dX10_pockets_13 (by decide) ?_
    obtain ⟨q4, hq4, h⟩ := bd h
    refine r_callVIk (V := (vC E)) (k := 0) (As := [.int (-1 : Int32), .int (0 : Int32)]) (rest := []) X I hl (c_X10_isAsSeen  hq4) yv_X10_isAsSeen tw_452 ⟨rfl, rfl, Nat.le_of_ble_eq_true rfl, Nat.le_of_ble_eq_true rfl⟩ (kC_0 E).1 ((kC_0 E).2 (σ2 0)) rfl rfl rfl (Nat.le_of_ble_eq_true rfl) ⟨Nat.le_of_ble_eq_true rfl, Nat.le_of_ble_eq_true rfl⟩ dX10_pockets_14 (fun H locs I => ?_)
    refine lv_if_eq (tgt := 24) hx hb dX10_pockets_17 (by decide) (fun c5 => ?_) (fun c5 => ?_)
    · have h := ite_t h c5
      refine lv_iconst (v := 0) hx hb dX10_pockets_24 (by decide) ?_
      exact r_xiret X I (Option.some.inj h).symm ⟨Nat.le_of_ble_eq_true rfl, Nat.le_of_ble_eq_true rfl⟩ dX10_pockets_25
    · have h := ite_f h c5
      refine lv_iconst (v := 1) hx hb dX10_pockets_20 (by decide) ?_
      refine lv_goto (tgt := 25) hx hb dX10_pockets_21 (by decide) ?_
      exact r_xiret X I (Option.some.inj h).symm ⟨Nat.le_of_ble_eq_true rfl, Nat.le_of_ble_eq_true rfl⟩ dX10_pockets_25
theorem c_X10_pockets {l : Launch} {E : CE} {σ : Mem} {x1 : Int32} (hlt : l.stackTraces = false) {q : (Nat × Mem) ⊕ (Int32 × Mem)} (h : m_X10_pockets σ x1 = some q) : CXI l (vC E) yX10_pockets (.code yX10_pockets cX10_pockets 6 (some .int) :: GG) rm_X10_pockets 1 6 [.ref (ca E 0), .int x1] σ q :=
  mk_CXI (by decide +kernel) (Nat.le_of_ble_eq_true rfl) (fun p e s m args below meth c A ls X hex I hl => w_X10_pockets_0 X hlt hex σ x1 h s.heap [] ls I (lv_sub hl [0, 1] rfl))

def rm_X10_look : Room := { frames := 8, cells := 1, slots := 6, locals := 229 }
def f_X10_look_17 (x1 : Int32) : Nat → Mem → Int32 → Int32 → Int32 → Option ((Nat × Mem) ⊕ (Int32 × Mem))
  | 0, _, _, _, _ => none
  | n + 1, σ, x2, x3, x4 => (if (σ 23 0) ≤ x4 then (if x1 = (0 : Int32) then (some (.inr (x2, σ))) else (some (.inr (x3, σ)))) else (gd x4 8 ((m_J6_bitCount_0f7a4 σ (σ 57 (Int32.toNatClampNeg x4))).bind fun q3 => (if q3 ≤ x3 then f_X10_look_17 x1 n σ x2 x3 (x4 + 1) else f_X10_look_17 x1 n σ x4 q3 (x4 + 1)))))
def m_X10_look (σ : Mem) (x1 : Int32) : Option ((Nat × Mem) ⊕ (Int32 × Mem)) := (xb (m_X10_needWhat σ x1 (1 : Int32)) fun σ2 => ((m_X10_meetOwners σ2).bind fun q3 => (f_X10_look_17 x1 KF q3 (-1 : Int32) (0 : Int32) (0 : Int32))))
set_option maxHeartbeats 4000000 in
set_option maxRecDepth 100000 in
theorem w_X10_look_17 {p : Program} {l : Launch} {e : Env} {s : State} {m : MethodId} {args : Array Value} {below : List Frame} {meth : Method} {c : Code} {A : Nat → Prop} {E : CE} {q : (Nat × Mem) ⊕ (Int32 × Mem)} (X : CX p s m meth c args cX10_look 6 RX10 (some .int)) (hlt : l.stackTraces = false) (hex : ∀ x ∈ c.exceptionTable.toList, False) {x1 : Int32} : ∀ (n : Nat), ∀ (σ : Mem) (x2 : Int32) (x3 : Int32) (x4 : Int32) , f_X10_look_17 x1 n σ x2 x3 x4 = some q → ∀ (H : Heap) (locs : List Loc) (ls : Array Slot), WI (vC E) A s H locs σ → lv_has ls 6 [(0, .ref (ca E 0)), (1, .int x1), (2, .int x2), (3, .int x3), (4, .int x4)] → W p l e rm_X10_look s m args below meth c H locs 1 6 (vx_MQ below (QXI (vC E) A q) (XX (vC E) A q) args s 1 6 A) (F0 m 17 ls []) := by
  have hx := X.1
  have hb := X.2.1
  intro n
  induction n with
  | zero =>
    intro σ x2 x3 x4 h
    cases h
  | succ n ih =>
    intro σ x2 x3 x4 h H locs ls I hl
    rw [f_X10_look_17] at h
    refine lv_iload hx hb dX10_look_17 (lv_at hl 4 rfl) ?_
    refine lv_aload_n hx hb dX10_look_19 rfl (lv_at hl 0 rfl) ?_
    refine gfC_X10_32 X I (kC_0 E) (k' := 23) rfl dX10_look_20 ?_
    refine gfC_X10_113 X I (kC_23 E) dX10_look_23 ?_
    refine lv_icmp_ge (tgt := 59) hx hb dX10_look_26 (by decide) (fun c1 => ?_) (fun c1 => ?_)
    · have h := ite_t h c1
      refine lv_iload_n hx hb dX10_look_59 rfl (lv_at hl 1 rfl) ?_
      refine lv_if_ne (tgt := 67) hx hb dX10_look_60 (by decide) (fun c2 => ?_) (fun c2 => ?_)
      · have h := ite_f h c2
        refine lv_iload_n hx hb dX10_look_67 rfl (lv_at hl 3 rfl) ?_
        exact r_xiret X I (Option.some.inj h).symm ⟨Nat.le_of_ble_eq_true rfl, Nat.le_of_ble_eq_true rfl⟩ dX10_look_68
      · have h := ite_t h c2
        refine lv_iload_n hx hb dX10_look_63 rfl (lv_at hl 2 rfl) ?_
        refine lv_goto (tgt := 68) hx hb dX10_look_64 (by decide) ?_
        exact r_xiret X I (Option.some.inj h).symm ⟨Nat.le_of_ble_eq_true rfl, Nat.le_of_ble_eq_true rfl⟩ dX10_look_68
    · have h := ite_f h c1
      refine lv_aload_n hx hb dX10_look_29 rfl (lv_at hl 0 rfl) ?_
      refine gfC_X10_62 X I (kC_0 E) (k' := 57) rfl dX10_look_30 ?_
      refine lv_iload hx hb dX10_look_33 (lv_at hl 4 rfl) ?_
      obtain ⟨hin, h⟩ := gd_some h
      refine ialdC X I (kC_57 E) hin dX10_look_35 ?_
      obtain ⟨q3, hq3, h⟩ := bd h
      refine r_callSIk (V := (vC E)) (As := [.int (σ 57 (Int32.toNatClampNeg x4))]) (rest := []) X I hl (c_J6_bitCount_0f7a4  hq3) ys_J6_bitCount_0f7a4 tw_596 ⟨rfl, rfl, Nat.le_of_ble_eq_true rfl, Nat.le_of_ble_eq_true rfl⟩ rfl rfl (Nat.le_of_ble_eq_true rfl) ⟨Nat.le_of_ble_eq_true rfl, Nat.le_of_ble_eq_true rfl⟩ dX10_look_36 (fun H locs I => ?_)
      refine lv_istore (lv' := [(5, .int q3), (0, .ref (ca E 0)), (1, .int x1), (2, .int x2), (3, .int x3), (4, .int x4)]) hx hb dX10_look_39 hl (by decide) rfl (fun ls hl => ?_)
      refine lv_iload hx hb dX10_look_41 (lv_at hl 0 rfl) ?_
      refine lv_iload_n hx hb dX10_look_43 rfl (lv_at hl 4 rfl) ?_
      refine lv_icmp_le (tgt := 53) hx hb dX10_look_44 (by decide) (fun c4 => ?_) (fun c4 => ?_)
      · have h := ite_t h c4
        refine lv_iinc (v := (x4 + 1)) (lv' := [(4, .int (x4 + 1)), (5, .int q3), (0, .ref (ca E 0)), (1, .int x1), (2, .int x2), (3, .int x3)]) hx hb dX10_look_53 hl (k := 5) rfl rfl (by decide) rfl (fun ls hl => ?_)
        refine lv_goto (tgt := 17) hx hb dX10_look_56 (by decide) ?_
        exact ih σ x2 x3 (x4 + 1) h H locs ls I (lv_sub hl [2, 3, 4, 5, 0] rfl)
      · have h := ite_f h c4
        refine lv_iload hx hb dX10_look_47 (lv_at hl 0 rfl) ?_
        refine lv_istore_n (lv' := [(3, .int q3), (5, .int q3), (0, .ref (ca E 0)), (1, .int x1), (2, .int x2), (4, .int x4)]) hx hb dX10_look_49 rfl hl (by decide) rfl (fun ls hl => ?_)
        refine lv_iload hx hb dX10_look_50 (lv_at hl 5 rfl) ?_
        refine lv_istore_n (lv' := [(2, .int x4), (3, .int q3), (5, .int q3), (0, .ref (ca E 0)), (1, .int x1), (4, .int x4)]) hx hb dX10_look_52 rfl hl (by decide) rfl (fun ls hl => ?_)
        refine lv_iinc (v := (x4 + 1)) (lv' := [(4, .int (x4 + 1)), (2, .int x4), (3, .int q3), (5, .int q3), (0, .ref (ca E 0)), (1, .int x1)]) hx hb dX10_look_53 hl (k := 5) rfl rfl (by decide) rfl (fun ls hl => ?_)
        refine lv_goto (tgt := 17) hx hb dX10_look_56 (by decide) ?_
        exact ih σ x4 q3 (x4 + 1) h H locs ls I (lv_sub hl [4, 5, 1, 2, 0] rfl)
set_option maxHeartbeats 4000000 in
set_option maxRecDepth 100000 in
theorem w_X10_look_0 {p : Program} {l : Launch} {e : Env} {s : State} {m : MethodId} {args : Array Value} {below : List Frame} {meth : Method} {c : Code} {A : Nat → Prop} {E : CE} {q : (Nat × Mem) ⊕ (Int32 × Mem)} (X : CX p s m meth c args cX10_look 6 RX10 (some .int)) (hlt : l.stackTraces = false) (hex : ∀ x ∈ c.exceptionTable.toList, False) : ∀ (σ : Mem) (x1 : Int32) , m_X10_look σ x1 = some q → ∀ (H : Heap) (locs : List Loc) (ls : Array Slot), WI (vC E) A s H locs σ → lv_has ls 6 [(0, .ref (ca E 0)), (1, .int x1)] → W p l e rm_X10_look s m args below meth c H locs 0 0 (vx_MQ below (QXI (vC E) A q) (XX (vC E) A q) args s 1 6 A) (F0 m 0 ls []) := by
  have hx := X.1
  have hb := X.2.1
  intro σ x1 h H locs ls I hl
  unfold m_X10_look at h
  refine lv_aload_n hx hb dX10_look_0 rfl (lv_at hl 0 rfl) ?_
  refine lv_iload_n hx hb dX10_look_1 rfl (lv_at hl 1 rfl) ?_
  refine lv_iconst (v := 1) hx hb dX10_look_2 (by decide) ?_
  obtain ⟨q1, hq1, h⟩ := xb_e h
  refine r_callXV (V := (vC E)) (k := 0) (As := [.int x1, .int (1 : Int32)]) (rest := []) X hex I hl (c_X10_needWhat hlt hq1) yv_X10_needWhat tw_580 ⟨rfl, rfl, Nat.le_of_ble_eq_true rfl, Nat.le_of_ble_eq_true rfl⟩ (kC_0 E).1 rfl rfl rfl rfl (Nat.le_of_ble_eq_true rfl) ⟨Nat.le_of_ble_eq_true rfl, Nat.le_of_ble_eq_true rfl⟩ ⟨Nat.le_of_ble_eq_true rfl, Nat.le_of_ble_eq_true rfl⟩ dX10_look_3 h (fun σ2 h H locs I => ?_)
  refine lv_aload_n hx hb dX10_look_6 rfl (lv_at hl 0 rfl) ?_
  obtain ⟨q3, hq3, h⟩ := bd h
  refine r_callVVk (V := (vC E)) (k := 0) (As := []) (rest := []) X I hl (c_X10_meetOwners  hq3) yv_X10_meetOwners tw_633 ⟨rfl, rfl, Nat.le_of_ble_eq_true rfl, Nat.le_of_ble_eq_true rfl⟩ (kC_0 E).1 ((kC_0 E).2 (σ2 0)) rfl rfl rfl (Nat.le_of_ble_eq_true rfl) ⟨Nat.le_of_ble_eq_true rfl, Nat.le_of_ble_eq_true rfl⟩ dX10_look_7 (fun H locs I => ?_)
  refine lv_iconst (v := -1) hx hb dX10_look_10 (by decide) ?_
  refine lv_istore_n (lv' := [(2, .int (-1 : Int32)), (0, .ref (ca E 0)), (1, .int x1)]) hx hb dX10_look_11 rfl hl (by decide) rfl (fun ls hl => ?_)
  refine lv_iconst (v := 0) hx hb dX10_look_12 (by decide) ?_
  refine lv_istore_n (lv' := [(3, .int (0 : Int32)), (2, .int (-1 : Int32)), (0, .ref (ca E 0)), (1, .int x1)]) hx hb dX10_look_13 rfl hl (by decide) rfl (fun ls hl => ?_)
  refine lv_iconst (v := 0) hx hb dX10_look_14 (by decide) ?_
  refine lv_istore (lv' := [(4, .int (0 : Int32)), (3, .int (0 : Int32)), (2, .int (-1 : Int32)), (0, .ref (ca E 0)), (1, .int x1)]) hx hb dX10_look_15 hl (by decide) rfl (fun ls hl => ?_)
  exact w_X10_look_17 X hlt hex   KF q3 (-1 : Int32) (0 : Int32) (0 : Int32) h H locs ls I (lv_sub hl [3, 4, 2, 1, 0] rfl)
theorem c_X10_look {l : Launch} {E : CE} {σ : Mem} {x1 : Int32} (hlt : l.stackTraces = false) {q : (Nat × Mem) ⊕ (Int32 × Mem)} (h : m_X10_look σ x1 = some q) : CXI l (vC E) yX10_look (.code yX10_look cX10_look 6 (some .int) :: GG) rm_X10_look 1 6 [.ref (ca E 0), .int x1] σ q :=
  mk_CXI (by decide +kernel) (Nat.le_of_ble_eq_true rfl) (fun p e s m args below meth c A ls X hex I hl => w_X10_look_0 X hlt hex σ x1 h s.heap [] ls I (lv_sub hl [0, 1] rfl))

def rm_X10_game : Room := { frames := 8, cells := 4, slots := 24, locals := 222 }
def f_X10_game_117 (k64 : Mem → Int32 → Int32 → Int32 → Option ((Nat × Mem) ⊕ (Int32 × Mem))) (x3 : Int32) (σ : Mem) (x4 : Int32) (x5 : Int32) (x6 : Int32) (z0 : Int32) : Option ((Nat × Mem) ⊕ (Int32 × Mem)) := (if z0 = (0 : Int32) then (k64 σ x4 x5 (x6 + 1)) else (if x4 = (0 : Int32) then (lt (((10 : Int32) * (x6 >>> ((1 : Int32) &&& 31))) + (x6 &&& (1 : Int32))) fun y3 => (k64 σ (x4 + 1) y3 (x6 + 1))) else (k64 σ (x4 + 1) x5 (x6 + 1))))
def f_X10_game_64 (x3 : Int32) : Nat → Mem → Int32 → Int32 → Int32 → Option ((Nat × Mem) ⊕ (Int32 × Mem))
  | 0, _, _, _, _ => none
  | n + 1, σ, x4, x5, x6 => (if (4 : Int32) ≤ x6 then (if x3 = (0 : Int32) then (some (.inr (x4, σ))) else (some (.inr (x5, σ)))) else (gd x6 8 (gd (x6 ^^^ (2 : Int32)) 8 (if (σ 58 (Int32.toNatClampNeg x6)) < (σ 58 (Int32.toNatClampNeg (x6 ^^^ (2 : Int32)))) then (f_X10_game_117 (f_X10_game_64 x3 n) x3 σ x4 x5 x6 (0 : Int32)) else (gd ((4 : Int32) + x6) 8 (gd ((4 : Int32) + (x6 ^^^ (1 : Int32))) 8 (if (σ 58 (Int32.toNatClampNeg ((4 : Int32) + x6))) < (σ 58 (Int32.toNatClampNeg ((4 : Int32) + (x6 ^^^ (1 : Int32))))) then (f_X10_game_117 (f_X10_game_64 x3 n) x3 σ x4 x5 x6 (0 : Int32)) else (f_X10_game_117 (f_X10_game_64 x3 n) x3 σ x4 x5 x6 (1 : Int32)))))))))
def f_X10_game_35 (x1 : Int32) (x2 : Int32) (x3 : Int32) : Nat → Mem → Int32 → Option ((Nat × Mem) ⊕ (Int32 × Mem))
  | 0, _, _ => none
  | n + 1, σ, x4 => (if (4 : Int32) ≤ x4 then (f_X10_game_64 x3 KF σ (0 : Int32) (-1 : Int32) (0 : Int32)) else ((m_X10_playCouple σ x1 x2 x4).bind fun q2 => f_X10_game_35 x1 x2 x3 n q2 (x4 + 1)))
def m_X10_game (σ : Mem) (x1 : Int32) (x2 : Int32) (x3 : Int32) : Option ((Nat × Mem) ⊕ (Int32 × Mem)) := (xb (m_X10_needTenant σ x1) fun σ2 => (xb (m_X10_needTenant σ2 x2) fun σ4 => (xb (m_X10_needWhat σ4 x3 (1 : Int32)) fun σ6 => (if x1 = x2 then (some (.inl (1, σ6))) else (f_X10_game_35 x1 x2 x3 KF σ6 (0 : Int32))))))
set_option maxHeartbeats 4000000 in
set_option maxRecDepth 100000 in
theorem w_X10_game_117 {p : Program} {l : Launch} {e : Env} {s : State} {m : MethodId} {args : Array Value} {below : List Frame} {meth : Method} {c : Code} {A : Nat → Prop} {E : CE} {q : (Nat × Mem) ⊕ (Int32 × Mem)} (X : CX p s m meth c args cX10_game 8 RX10 (some .int)) (hlt : l.stackTraces = false) (hex : ∀ x ∈ c.exceptionTable.toList, False) {x3 : Int32} {k64 : Mem → Int32 → Int32 → Int32 → Option ((Nat × Mem) ⊕ (Int32 × Mem))} (hk64 : ∀ (σ : Mem) (x4 : Int32) (x5 : Int32) (x6 : Int32) , k64 σ x4 x5 x6 = some q → ∀ (H : Heap) (locs : List Loc) (ls : Array Slot), WI (vC E) A s H locs σ → lv_has ls 8 [(0, .ref (ca E 0)), (3, .int x3), (4, .int x4), (5, .int x5), (6, .int x6)] → W p l e rm_X10_game s m args below meth c H locs 3 18 (vx_MQ below (QXI (vC E) A q) (XX (vC E) A q) args s 4 24 A) (F0 m 64 ls [])) : ∀ (σ : Mem) (x4 : Int32) (x5 : Int32) (x6 : Int32) (z0 : Int32), f_X10_game_117 k64 x3 σ x4 x5 x6 z0 = some q → ∀ (H : Heap) (locs : List Loc) (ls : Array Slot), WI (vC E) A s H locs σ → lv_has ls 8 [(0, .ref (ca E 0)), (3, .int x3), (4, .int x4), (5, .int x5), (6, .int x6)] → W p l e rm_X10_game s m args below meth c H locs 3 18 (vx_MQ below (QXI (vC E) A q) (XX (vC E) A q) args s 4 24 A) (F0 m 117 ls [.int z0]) := by
  have hx := X.1
  have hb := X.2.1
  intro σ x4 x5 x6 z0 h H locs ls I hl
  unfold f_X10_game_117 at h
  refine lv_istore (lv' := [(7, .int z0), (0, .ref (ca E 0)), (3, .int x3), (4, .int x4), (5, .int x5), (6, .int x6)]) hx hb dX10_game_117 hl (by decide) rfl (fun ls hl => ?_)
  refine lv_iload hx hb dX10_game_119 (lv_at hl 0 rfl) ?_
  refine lv_if_eq (tgt := 151) hx hb dX10_game_121 (by decide) (fun c1 => ?_) (fun c1 => ?_)
  · have h := ite_t h c1
    refine lv_iinc (v := (x6 + 1)) (lv' := [(6, .int (x6 + 1)), (7, .int z0), (0, .ref (ca E 0)), (3, .int x3), (4, .int x4), (5, .int x5)]) hx hb dX10_game_151 hl (k := 5) rfl rfl (by decide) rfl (fun ls hl => ?_)
    refine lv_goto (tgt := 64) hx hb dX10_game_154 (by decide) ?_
    exact hk64 σ x4 x5 (x6 + 1) h H locs ls I (lv_sub hl [2, 3, 4, 5, 0] rfl)
  · have h := ite_f h c1
    refine lv_iload hx hb dX10_game_124 (lv_at hl 3 rfl) ?_
    refine lv_if_ne (tgt := 144) hx hb dX10_game_126 (by decide) (fun c2 => ?_) (fun c2 => ?_)
    · have h := ite_f h c2
      refine lv_iload hx hb dX10_game_144 (lv_at hl 4 rfl) ?_
      refine lv_istore (lv' := [(5, .int x5), (7, .int z0), (0, .ref (ca E 0)), (3, .int x3), (4, .int x4), (6, .int x6)]) hx hb dX10_game_146 hl (by decide) rfl (fun ls hl => ?_)
      refine lv_iinc (v := (x4 + 1)) (lv' := [(4, .int (x4 + 1)), (5, .int x5), (7, .int z0), (0, .ref (ca E 0)), (3, .int x3), (6, .int x6)]) hx hb dX10_game_148 hl (k := 4) rfl rfl (by decide) rfl (fun ls hl => ?_)
      refine lv_iinc (v := (x6 + 1)) (lv' := [(6, .int (x6 + 1)), (4, .int (x4 + 1)), (5, .int x5), (7, .int z0), (0, .ref (ca E 0)), (3, .int x3)]) hx hb dX10_game_151 hl (k := 5) rfl rfl (by decide) rfl (fun ls hl => ?_)
      refine lv_goto (tgt := 64) hx hb dX10_game_154 (by decide) ?_
      exact hk64 σ (x4 + 1) x5 (x6 + 1) h H locs ls I (lv_sub hl [4, 5, 1, 2, 0] rfl)
    · have h := ite_t h c2
      refine lv_bipush (v := 10) hx hb dX10_game_129 (by decide) ?_
      refine lv_iload hx hb dX10_game_131 (lv_at hl 5 rfl) ?_
      refine lv_iconst (v := 1) hx hb dX10_game_133 (by decide) ?_
      refine lv_ishr hx hb dX10_game_134 ?_
      refine lv_imul hx hb dX10_game_135 ?_
      refine lv_iload hx hb dX10_game_136 (lv_at hl 5 rfl) ?_
      refine lv_iconst (v := 1) hx hb dX10_game_138 (by decide) ?_
      refine lv_iand hx hb dX10_game_139 ?_
      refine lv_iadd hx hb dX10_game_140 ?_
      refine lv_goto (tgt := 146) hx hb dX10_game_141 (by decide) ?_
      obtain ⟨y3, ey3, h⟩ := lt_e h
      refine nm_i ey3 ?_
      refine lv_istore (lv' := [(5, .int y3), (7, .int z0), (0, .ref (ca E 0)), (3, .int x3), (4, .int x4), (6, .int x6)]) hx hb dX10_game_146 hl (by decide) rfl (fun ls hl => ?_)
      refine lv_iinc (v := (x4 + 1)) (lv' := [(4, .int (x4 + 1)), (5, .int y3), (7, .int z0), (0, .ref (ca E 0)), (3, .int x3), (6, .int x6)]) hx hb dX10_game_148 hl (k := 4) rfl rfl (by decide) rfl (fun ls hl => ?_)
      refine lv_iinc (v := (x6 + 1)) (lv' := [(6, .int (x6 + 1)), (4, .int (x4 + 1)), (5, .int y3), (7, .int z0), (0, .ref (ca E 0)), (3, .int x3)]) hx hb dX10_game_151 hl (k := 5) rfl rfl (by decide) rfl (fun ls hl => ?_)
      refine lv_goto (tgt := 64) hx hb dX10_game_154 (by decide) ?_
      exact hk64 σ (x4 + 1) y3 (x6 + 1) h H locs ls I (lv_sub hl [4, 5, 1, 2, 0] rfl)
set_option maxHeartbeats 4000000 in
set_option maxRecDepth 100000 in
theorem w_X10_game_64 {p : Program} {l : Launch} {e : Env} {s : State} {m : MethodId} {args : Array Value} {below : List Frame} {meth : Method} {c : Code} {A : Nat → Prop} {E : CE} {q : (Nat × Mem) ⊕ (Int32 × Mem)} (X : CX p s m meth c args cX10_game 8 RX10 (some .int)) (hlt : l.stackTraces = false) (hex : ∀ x ∈ c.exceptionTable.toList, False) {x3 : Int32} : ∀ (n : Nat), ∀ (σ : Mem) (x4 : Int32) (x5 : Int32) (x6 : Int32) , f_X10_game_64 x3 n σ x4 x5 x6 = some q → ∀ (H : Heap) (locs : List Loc) (ls : Array Slot), WI (vC E) A s H locs σ → lv_has ls 8 [(0, .ref (ca E 0)), (3, .int x3), (4, .int x4), (5, .int x5), (6, .int x6)] → W p l e rm_X10_game s m args below meth c H locs 3 18 (vx_MQ below (QXI (vC E) A q) (XX (vC E) A q) args s 4 24 A) (F0 m 64 ls []) := by
  have hx := X.1
  have hb := X.2.1
  intro n
  induction n with
  | zero =>
    intro σ x4 x5 x6 h
    cases h
  | succ n ih =>
    intro σ x4 x5 x6 h H locs ls I hl
    rw [f_X10_game_64] at h
    refine lv_iload hx hb dX10_game_64 (lv_at hl 4 rfl) ?_
    refine lv_iconst (v := 4) hx hb dX10_game_66 (by decide) ?_
    refine lv_icmp_ge (tgt := 157) hx hb dX10_game_67 (by decide) (fun c1 => ?_) (fun c1 => ?_)
    · have h := ite_t h c1
      refine lv_iload_n hx hb dX10_game_157 rfl (lv_at hl 1 rfl) ?_
      refine lv_if_ne (tgt := 166) hx hb dX10_game_158 (by decide) (fun c2 => ?_) (fun c2 => ?_)
      · have h := ite_f h c2
        refine lv_iload hx hb dX10_game_166 (lv_at hl 3 rfl) ?_
        exact r_xiret X I (Option.some.inj h).symm ⟨Nat.le_of_ble_eq_true rfl, Nat.le_of_ble_eq_true rfl⟩ dX10_game_168
      · have h := ite_t h c2
        refine lv_iload hx hb dX10_game_161 (lv_at hl 2 rfl) ?_
        refine lv_goto (tgt := 168) hx hb dX10_game_163 (by decide) ?_
        exact r_xiret X I (Option.some.inj h).symm ⟨Nat.le_of_ble_eq_true rfl, Nat.le_of_ble_eq_true rfl⟩ dX10_game_168
    · have h := ite_f h c1
      refine lv_aload_n hx hb dX10_game_70 rfl (lv_at hl 0 rfl) ?_
      refine gfC_X10_65 X I (kC_0 E) (k' := 58) rfl dX10_game_71 ?_
      refine lv_iload hx hb dX10_game_74 (lv_at hl 4 rfl) ?_
      obtain ⟨hin, h⟩ := gd_some h
      refine ialdC X I (kC_58 E) hin dX10_game_76 ?_
      refine lv_aload_n hx hb dX10_game_77 rfl (lv_at hl 0 rfl) ?_
      refine gfC_X10_65 X I (kC_0 E) (k' := 58) rfl dX10_game_78 ?_
      refine lv_iload hx hb dX10_game_81 (lv_at hl 4 rfl) ?_
      refine lv_iconst (v := 2) hx hb dX10_game_83 (by decide) ?_
      refine lv_ixor hx hb dX10_game_84 ?_
      obtain ⟨hin, h⟩ := gd_some h
      refine ialdC X I (kC_58 E) hin dX10_game_85 ?_
      refine lv_icmp_lt (tgt := 116) hx hb dX10_game_86 (by decide) (fun c3 => ?_) (fun c3 => ?_)
      · have h := ite_t h c3
        refine lv_iconst (v := 0) hx hb dX10_game_116 (by decide) ?_
        exact w_X10_game_117 X hlt hex  (fun σ a4 a5 a6 h H locs ls I hl => ih σ a4 a5 a6 h H locs ls I hl) σ x4 x5 x6 (0 : Int32) h H locs ls I (lv_sub hl [0, 1, 2, 3, 4] rfl)
      · have h := ite_f h c3
        refine lv_aload_n hx hb dX10_game_89 rfl (lv_at hl 0 rfl) ?_
        refine gfC_X10_65 X I (kC_0 E) (k' := 58) rfl dX10_game_90 ?_
        refine lv_iconst (v := 4) hx hb dX10_game_93 (by decide) ?_
        refine lv_iload hx hb dX10_game_94 (lv_at hl 4 rfl) ?_
        refine lv_iadd hx hb dX10_game_96 ?_
        obtain ⟨hin, h⟩ := gd_some h
        refine ialdC X I (kC_58 E) hin dX10_game_97 ?_
        refine lv_aload_n hx hb dX10_game_98 rfl (lv_at hl 0 rfl) ?_
        refine gfC_X10_65 X I (kC_0 E) (k' := 58) rfl dX10_game_99 ?_
        refine lv_iconst (v := 4) hx hb dX10_game_102 (by decide) ?_
        refine lv_iload hx hb dX10_game_103 (lv_at hl 4 rfl) ?_
        refine lv_iconst (v := 1) hx hb dX10_game_105 (by decide) ?_
        refine lv_ixor hx hb dX10_game_106 ?_
        refine lv_iadd hx hb dX10_game_107 ?_
        obtain ⟨hin, h⟩ := gd_some h
        refine ialdC X I (kC_58 E) hin dX10_game_108 ?_
        refine lv_icmp_lt (tgt := 116) hx hb dX10_game_109 (by decide) (fun c4 => ?_) (fun c4 => ?_)
        · have h := ite_t h c4
          refine lv_iconst (v := 0) hx hb dX10_game_116 (by decide) ?_
          exact w_X10_game_117 X hlt hex  (fun σ a4 a5 a6 h H locs ls I hl => ih σ a4 a5 a6 h H locs ls I hl) σ x4 x5 x6 (0 : Int32) h H locs ls I (lv_sub hl [0, 1, 2, 3, 4] rfl)
        · have h := ite_f h c4
          refine lv_iconst (v := 1) hx hb dX10_game_112 (by decide) ?_
          refine lv_goto (tgt := 117) hx hb dX10_game_113 (by decide) ?_
          exact w_X10_game_117 X hlt hex  (fun σ a4 a5 a6 h H locs ls I hl => ih σ a4 a5 a6 h H locs ls I hl) σ x4 x5 x6 (1 : Int32) h H locs ls I (lv_sub hl [0, 1, 2, 3, 4] rfl)
set_option maxHeartbeats 4000000 in
set_option maxRecDepth 100000 in
theorem w_X10_game_35 {p : Program} {l : Launch} {e : Env} {s : State} {m : MethodId} {args : Array Value} {below : List Frame} {meth : Method} {c : Code} {A : Nat → Prop} {E : CE} {q : (Nat × Mem) ⊕ (Int32 × Mem)} (X : CX p s m meth c args cX10_game 8 RX10 (some .int)) (hlt : l.stackTraces = false) (hex : ∀ x ∈ c.exceptionTable.toList, False) {x1 : Int32} {x2 : Int32} {x3 : Int32} : ∀ (n : Nat), ∀ (σ : Mem) (x4 : Int32) , f_X10_game_35 x1 x2 x3 n σ x4 = some q → ∀ (H : Heap) (locs : List Loc) (ls : Array Slot), WI (vC E) A s H locs σ → lv_has ls 8 [(0, .ref (ca E 0)), (1, .int x1), (2, .int x2), (3, .int x3), (4, .int x4)] → W p l e rm_X10_game s m args below meth c H locs 3 18 (vx_MQ below (QXI (vC E) A q) (XX (vC E) A q) args s 4 24 A) (F0 m 35 ls []) := by
  have hx := X.1
  have hb := X.2.1
  intro n
  induction n with
  | zero =>
    intro σ x4 h
    cases h
  | succ n ih =>
    intro σ x4 h H locs ls I hl
    rw [f_X10_game_35] at h
    refine lv_iload hx hb dX10_game_35 (lv_at hl 4 rfl) ?_
    refine lv_iconst (v := 4) hx hb dX10_game_37 (by decide) ?_
    refine lv_icmp_ge (tgt := 55) hx hb dX10_game_38 (by decide) (fun c1 => ?_) (fun c1 => ?_)
    · have h := ite_t h c1
      refine lv_iconst (v := 0) hx hb dX10_game_55 (by decide) ?_
      refine lv_istore (lv' := [(4, .int (0 : Int32)), (0, .ref (ca E 0)), (1, .int x1), (2, .int x2), (3, .int x3)]) hx hb dX10_game_56 hl (by decide) rfl (fun ls hl => ?_)
      refine lv_iconst (v := -1) hx hb dX10_game_58 (by decide) ?_
      refine lv_istore (lv' := [(5, .int (-1 : Int32)), (4, .int (0 : Int32)), (0, .ref (ca E 0)), (1, .int x1), (2, .int x2), (3, .int x3)]) hx hb dX10_game_59 hl (by decide) rfl (fun ls hl => ?_)
      refine lv_iconst (v := 0) hx hb dX10_game_61 (by decide) ?_
      refine lv_istore (lv' := [(6, .int (0 : Int32)), (5, .int (-1 : Int32)), (4, .int (0 : Int32)), (0, .ref (ca E 0)), (1, .int x1), (2, .int x2), (3, .int x3)]) hx hb dX10_game_62 hl (by decide) rfl (fun ls hl => ?_)
      exact w_X10_game_64 X hlt hex   KF σ (0 : Int32) (-1 : Int32) (0 : Int32) h H locs ls I (lv_sub hl [3, 6, 2, 1, 0] rfl)
    · have h := ite_f h c1
      refine lv_aload_n hx hb dX10_game_41 rfl (lv_at hl 0 rfl) ?_
      refine lv_iload_n hx hb dX10_game_42 rfl (lv_at hl 1 rfl) ?_
      refine lv_iload_n hx hb dX10_game_43 rfl (lv_at hl 2 rfl) ?_
      refine lv_iload hx hb dX10_game_44 (lv_at hl 4 rfl) ?_
      obtain ⟨q2, hq2, h⟩ := bd h
      refine r_callVVk (V := (vC E)) (k := 0) (As := [.int x1, .int x2, .int x4]) (rest := []) X I hl (c_X10_playCouple  hq2) yv_X10_playCouple tw_638 ⟨rfl, rfl, Nat.le_of_ble_eq_true rfl, Nat.le_of_ble_eq_true rfl⟩ (kC_0 E).1 ((kC_0 E).2 (σ 0)) rfl rfl rfl (Nat.le_of_ble_eq_true rfl) ⟨Nat.le_of_ble_eq_true rfl, Nat.le_of_ble_eq_true rfl⟩ dX10_game_46 (fun H locs I => ?_)
      refine lv_iinc (v := (x4 + 1)) (lv' := [(4, .int (x4 + 1)), (0, .ref (ca E 0)), (1, .int x1), (2, .int x2), (3, .int x3)]) hx hb dX10_game_49 hl (k := 4) rfl rfl (by decide) rfl (fun ls hl => ?_)
      refine lv_goto (tgt := 35) hx hb dX10_game_52 (by decide) ?_
      exact ih q2 (x4 + 1) h H locs ls I (lv_sub hl [1, 2, 3, 4, 0] rfl)
set_option maxHeartbeats 4000000 in
set_option maxRecDepth 100000 in
theorem w_X10_game_0 {p : Program} {l : Launch} {e : Env} {s : State} {m : MethodId} {args : Array Value} {below : List Frame} {meth : Method} {c : Code} {A : Nat → Prop} {E : CE} {q : (Nat × Mem) ⊕ (Int32 × Mem)} (X : CX p s m meth c args cX10_game 8 RX10 (some .int)) (hlt : l.stackTraces = false) (hex : ∀ x ∈ c.exceptionTable.toList, False) : ∀ (σ : Mem) (x1 : Int32) (x2 : Int32) (x3 : Int32) , m_X10_game σ x1 x2 x3 = some q → ∀ (H : Heap) (locs : List Loc) (ls : Array Slot), WI (vC E) A s H locs σ → lv_has ls 8 [(0, .ref (ca E 0)), (1, .int x1), (2, .int x2), (3, .int x3)] → W p l e rm_X10_game s m args below meth c H locs 0 0 (vx_MQ below (QXI (vC E) A q) (XX (vC E) A q) args s 4 24 A) (F0 m 0 ls []) := by
  have hx := X.1
  have hb := X.2.1
  intro σ x1 x2 x3 h H locs ls I hl
  unfold m_X10_game at h
  refine lv_aload_n hx hb dX10_game_0 rfl (lv_at hl 0 rfl) ?_
  refine lv_iload_n hx hb dX10_game_1 rfl (lv_at hl 1 rfl) ?_
  obtain ⟨q1, hq1, h⟩ := xb_e h
  refine r_callXV (V := (vC E)) (k := 0) (As := [.int x1]) (rest := []) X hex I hl (c_X10_needTenant hlt hq1) yv_X10_needTenant tw_558 ⟨rfl, rfl, Nat.le_of_ble_eq_true rfl, Nat.le_of_ble_eq_true rfl⟩ (kC_0 E).1 rfl rfl rfl rfl (Nat.le_of_ble_eq_true rfl) ⟨Nat.le_of_ble_eq_true rfl, Nat.le_of_ble_eq_true rfl⟩ ⟨Nat.le_of_ble_eq_true rfl, Nat.le_of_ble_eq_true rfl⟩ dX10_game_2 h (fun σ2 h H locs I => ?_)
  refine lv_aload_n hx hb dX10_game_5 rfl (lv_at hl 0 rfl) ?_
  refine lv_iload_n hx hb dX10_game_6 rfl (lv_at hl 2 rfl) ?_
  obtain ⟨q3, hq3, h⟩ := xb_e h
  refine r_callXV (V := (vC E)) (k := 0) (As := [.int x2]) (rest := []) X hex I hl (c_X10_needTenant hlt hq3) yv_X10_needTenant tw_558 ⟨rfl, rfl, Nat.le_of_ble_eq_true rfl, Nat.le_of_ble_eq_true rfl⟩ (kC_0 E).1 rfl rfl rfl rfl (Nat.le_of_ble_eq_true rfl) ⟨Nat.le_of_ble_eq_true rfl, Nat.le_of_ble_eq_true rfl⟩ ⟨Nat.le_of_ble_eq_true rfl, Nat.le_of_ble_eq_true rfl⟩ dX10_game_7 h (fun σ4 h H locs I => ?_)
  refine lv_aload_n hx hb dX10_game_10 rfl (lv_at hl 0 rfl) ?_
  refine lv_iload_n hx hb dX10_game_11 rfl (lv_at hl 3 rfl) ?_
  refine lv_iconst (v := 1) hx hb dX10_game_12 (by decide) ?_
  obtain ⟨q5, hq5, h⟩ := xb_e h
  refine r_callXV (V := (vC E)) (k := 0) (As := [.int x3, .int (1 : Int32)]) (rest := []) X hex I hl (c_X10_needWhat hlt hq5) yv_X10_needWhat tw_580 ⟨rfl, rfl, Nat.le_of_ble_eq_true rfl, Nat.le_of_ble_eq_true rfl⟩ (kC_0 E).1 rfl rfl rfl rfl (Nat.le_of_ble_eq_true rfl) ⟨Nat.le_of_ble_eq_true rfl, Nat.le_of_ble_eq_true rfl⟩ ⟨Nat.le_of_ble_eq_true rfl, Nat.le_of_ble_eq_true rfl⟩ dX10_game_13 h (fun σ6 h H locs I => ?_)
  refine lv_iload_n hx hb dX10_game_16 rfl (lv_at hl 1 rfl) ?_
  refine lv_iload_n hx hb dX10_game_17 rfl (lv_at hl 2 rfl) ?_
  refine lv_icmp_ne (tgt := 32) hx hb dX10_game_18 (by decide) (fun c7 => ?_) (fun c7 => ?_)
  · have h := ite_f h c7
    refine lv_iconst (v := 0) hx hb dX10_game_32 (by decide) ?_
    refine lv_istore (lv' := [(4, .int (0 : Int32)), (0, .ref (ca E 0)), (1, .int x1), (2, .int x2), (3, .int x3)]) hx hb dX10_game_33 hl (by decide) rfl (fun ls hl => ?_)
    exact w_X10_game_35 X hlt hex   KF σ6 (0 : Int32) h H locs ls I (lv_sub hl [1, 2, 3, 4, 0] rfl)
  · have h := ite_t h c7
    exact r_throwSW (k := 1) hlt X hex I (x := E.2.2.2.2.2.1) rfl hl (Option.some.inj h).symm tw_iae (by decide +kernel) (w := 5) (by decide) rfl rfl ⟨Nat.le_of_ble_eq_true rfl, Nat.le_of_ble_eq_true rfl, Nat.le_of_ble_eq_true rfl, Nat.le_of_ble_eq_true rfl⟩ ⟨Nat.le_of_ble_eq_true rfl, Nat.le_of_ble_eq_true rfl⟩ dX10_game_21 dX10_game_24 dX10_game_25 dX10_game_28 dX10_game_31
theorem c_X10_game {l : Launch} {E : CE} {σ : Mem} {x1 : Int32} {x2 : Int32} {x3 : Int32} (hlt : l.stackTraces = false) {q : (Nat × Mem) ⊕ (Int32 × Mem)} (h : m_X10_game σ x1 x2 x3 = some q) : CXI l (vC E) yX10_game (.code yX10_game cX10_game 8 (some .int) :: GG) rm_X10_game 4 24 [.ref (ca E 0), .int x1, .int x2, .int x3] σ q :=
  mk_CXI (by decide +kernel) (Nat.le_of_ble_eq_true rfl) (fun p e s m args below meth c A ls X hex I hl => w_X10_game_0 X hlt hex σ x1 x2 x3 h s.heap [] ls I (lv_sub hl [0, 1, 2, 3] rfl))

def rm_X10_years : Room := { frames := 8, cells := 2, slots := 12, locals := 222 }
def m_X10_years (σ : Mem) (x1 : Int32) (x2 : Int32) (x3 : Int32) : Option ((Nat × Mem) ⊕ (Int32 × Mem)) := (xb (m_X10_needWhat σ x3 (2 : Int32)) fun σ2 => (xb (m_X10_needAhead σ2 x2) fun σ4 => ((m_X10_copyToTrial σ4).bind fun q5 => ((m_X8_passYears 56 q5 x1 x2).bind fun q6 => (if x3 = (0 : Int32) then (some (.inr (q6.1, q6.2))) else (if x3 = (1 : Int32) then (gd (62 : Int32) 64 ((m_J6_bitCount_0f7a4 q6.2 (q6.2 56 (Int32.toNatClampNeg (62 : Int32)))).bind fun q9 => (some (.inr (q9, q6.2))))) else ((m_X8_coinsOfAll 56 q6.2).bind fun q10 => (some (.inr (q10, q6.2))))))))))
set_option maxHeartbeats 4000000 in
set_option maxRecDepth 100000 in
theorem w_X10_years_0 {p : Program} {l : Launch} {e : Env} {s : State} {m : MethodId} {args : Array Value} {below : List Frame} {meth : Method} {c : Code} {A : Nat → Prop} {E : CE} {q : (Nat × Mem) ⊕ (Int32 × Mem)} (X : CX p s m meth c args cX10_years 5 RX10 (some .int)) (hlt : l.stackTraces = false) (hex : ∀ x ∈ c.exceptionTable.toList, False) : ∀ (σ : Mem) (x1 : Int32) (x2 : Int32) (x3 : Int32) , m_X10_years σ x1 x2 x3 = some q → ∀ (H : Heap) (locs : List Loc) (ls : Array Slot), WI (vC E) A s H locs σ → lv_has ls 5 [(0, .ref (ca E 0)), (1, .int x1), (2, .int x2), (3, .int x3)] → W p l e rm_X10_years s m args below meth c H locs 0 0 (vx_MQ below (QXI (vC E) A q) (XX (vC E) A q) args s 2 12 A) (F0 m 0 ls []) := by
  have hx := X.1
  have hb := X.2.1
  intro σ x1 x2 x3 h H locs ls I hl
  unfold m_X10_years at h
  refine lv_aload_n hx hb dX10_years_0 rfl (lv_at hl 0 rfl) ?_
  refine lv_iload_n hx hb dX10_years_1 rfl (lv_at hl 3 rfl) ?_
  refine lv_iconst (v := 2) hx hb dX10_years_2 (by decide) ?_
  obtain ⟨q1, hq1, h⟩ := xb_e h
  refine r_callXV (V := (vC E)) (k := 0) (As := [.int x3, .int (2 : Int32)]) (rest := []) X hex I hl (c_X10_needWhat hlt hq1) yv_X10_needWhat tw_580 ⟨rfl, rfl, Nat.le_of_ble_eq_true rfl, Nat.le_of_ble_eq_true rfl⟩ (kC_0 E).1 rfl rfl rfl rfl (Nat.le_of_ble_eq_true rfl) ⟨Nat.le_of_ble_eq_true rfl, Nat.le_of_ble_eq_true rfl⟩ ⟨Nat.le_of_ble_eq_true rfl, Nat.le_of_ble_eq_true rfl⟩ dX10_years_3 h (fun σ2 h H locs I => ?_)
  refine lv_aload_n hx hb dX10_years_6 rfl (lv_at hl 0 rfl) ?_
  refine lv_iload_n hx hb dX10_years_7 rfl (lv_at hl 2 rfl) ?_
  obtain ⟨q3, hq3, h⟩ := xb_e h
  refine r_callXV (V := (vC E)) (k := 0) (As := [.int x2]) (rest := []) X hex I hl (c_X10_needAhead hlt hq3) yv_X10_needAhead tw_570 ⟨rfl, rfl, Nat.le_of_ble_eq_true rfl, Nat.le_of_ble_eq_true rfl⟩ (kC_0 E).1 rfl rfl rfl rfl (Nat.le_of_ble_eq_true rfl) ⟨Nat.le_of_ble_eq_true rfl, Nat.le_of_ble_eq_true rfl⟩ ⟨Nat.le_of_ble_eq_true rfl, Nat.le_of_ble_eq_true rfl⟩ dX10_years_8 h (fun σ4 h H locs I => ?_)
  refine lv_aload_n hx hb dX10_years_11 rfl (lv_at hl 0 rfl) ?_
  obtain ⟨q5, hq5, h⟩ := bd h
  refine r_callVVk (V := (vC E)) (k := 0) (As := []) (rest := []) X I hl (c_X10_copyToTrial  hq5) yv_X10_copyToTrial tw_425 ⟨rfl, rfl, Nat.le_of_ble_eq_true rfl, Nat.le_of_ble_eq_true rfl⟩ (kC_0 E).1 ((kC_0 E).2 (σ4 0)) rfl rfl rfl (Nat.le_of_ble_eq_true rfl) ⟨Nat.le_of_ble_eq_true rfl, Nat.le_of_ble_eq_true rfl⟩ dX10_years_12 (fun H locs I => ?_)
  refine lv_aload_n hx hb dX10_years_15 rfl (lv_at hl 0 rfl) ?_
  refine gfC_X10_24 X I (kC_0 E) (k' := 22) rfl dX10_years_16 ?_
  refine lv_aload_n hx hb dX10_years_19 rfl (lv_at hl 0 rfl) ?_
  refine gfC_X10_58 X I (kC_0 E) (k' := 56) rfl dX10_years_20 ?_
  refine lv_iload_n hx hb dX10_years_23 rfl (lv_at hl 1 rfl) ?_
  refine lv_iload_n hx hb dX10_years_24 rfl (lv_at hl 2 rfl) ?_
  obtain ⟨q6, hq6, h⟩ := bd h
  refine r_callVIk (V := (vC E)) (k := 22) (As := [.ref (ca E 56), .int x1, .int x2]) (rest := []) X I hl (c_X8_passYears (kC_56 E) hq6) yv_X8_passYears tw_643 ⟨rfl, rfl, Nat.le_of_ble_eq_true rfl, Nat.le_of_ble_eq_true rfl⟩ (kC_22 E).1 ((kC_22 E).2 (q5 22)) rfl rfl rfl (Nat.le_of_ble_eq_true rfl) ⟨Nat.le_of_ble_eq_true rfl, Nat.le_of_ble_eq_true rfl⟩ dX10_years_25 (fun H locs I => ?_)
  refine lv_istore (lv' := [(4, .int q6.1), (0, .ref (ca E 0)), (1, .int x1), (2, .int x2), (3, .int x3)]) hx hb dX10_years_28 hl (by decide) rfl (fun ls hl => ?_)
  refine lv_iload_n hx hb dX10_years_30 rfl (lv_at hl 4 rfl) ?_
  by_cases c7 : x3 = (0 : Int32)
  · have h := ite_t h c7
    have ht : Int32.toInt x3 = 0 := by rw [c7]; rfl
    refine lv_lookup (off := 25) (tgt := 56) hx hb dX10_years_31 (by decide) (by rw [ht]; rfl) (by decide) ?_
    refine lv_iload hx hb dX10_years_56 (lv_at hl 0 rfl) ?_
    exact r_xiret X I (Option.some.inj h).symm ⟨Nat.le_of_ble_eq_true rfl, Nat.le_of_ble_eq_true rfl⟩ dX10_years_58
  replace h := ite_f h c7
  by_cases c8 : x3 = (1 : Int32)
  · have h := ite_t h c8
    have ht : Int32.toInt x3 = 1 := by rw [c8]; rfl
    refine lv_lookup (off := 28) (tgt := 59) hx hb dX10_years_31 (by decide) (by rw [ht]; rfl) (by decide) ?_
    refine lv_aload_n hx hb dX10_years_59 rfl (lv_at hl 1 rfl) ?_
    refine gfC_X10_58 X I (kC_0 E) (k' := 56) rfl dX10_years_60 ?_
    refine lv_bipush (v := 62) hx hb dX10_years_63 (by decide) ?_
    obtain ⟨hin, h⟩ := gd_some h
    refine ialdC X I (kC_56 E) hin dX10_years_65 ?_
    obtain ⟨q9, hq9, h⟩ := bd h
    refine r_callSIk (V := (vC E)) (As := [.int (q6.2 56 (Int32.toNatClampNeg (62 : Int32)))]) (rest := []) X I hl (c_J6_bitCount_0f7a4  hq9) ys_J6_bitCount_0f7a4 tw_596 ⟨rfl, rfl, Nat.le_of_ble_eq_true rfl, Nat.le_of_ble_eq_true rfl⟩ rfl rfl (Nat.le_of_ble_eq_true rfl) ⟨Nat.le_of_ble_eq_true rfl, Nat.le_of_ble_eq_true rfl⟩ dX10_years_66 (fun H locs I => ?_)
    exact r_xiret X I (Option.some.inj h).symm ⟨Nat.le_of_ble_eq_true rfl, Nat.le_of_ble_eq_true rfl⟩ dX10_years_69
  replace h := ite_f h c8
  refine lv_lookup (off := 39) (tgt := 70) hx hb dX10_years_31 (by decide) (((lv_osw c7 (by decide)).trans ((lv_osw c8 (by decide)).trans rfl))) (by decide) ?_
  refine lv_aload_n hx hb dX10_years_70 rfl (lv_at hl 1 rfl) ?_
  refine gfC_X10_24 X I (kC_0 E) (k' := 22) rfl dX10_years_71 ?_
  refine lv_aload_n hx hb dX10_years_74 rfl (lv_at hl 1 rfl) ?_
  refine gfC_X10_58 X I (kC_0 E) (k' := 56) rfl dX10_years_75 ?_
  obtain ⟨q10, hq10, h⟩ := bd h
  refine r_callVIk (V := (vC E)) (k := 22) (As := [.ref (ca E 56)]) (rest := []) X I hl (c_X8_coinsOfAll (kC_56 E) hq10) yv_X8_coinsOfAll tw_538 ⟨rfl, rfl, Nat.le_of_ble_eq_true rfl, Nat.le_of_ble_eq_true rfl⟩ (kC_22 E).1 ((kC_22 E).2 (q6.2 22)) rfl rfl rfl (Nat.le_of_ble_eq_true rfl) ⟨Nat.le_of_ble_eq_true rfl, Nat.le_of_ble_eq_true rfl⟩ dX10_years_78 (fun H locs I => ?_)
  exact r_xiret X I (Option.some.inj h).symm ⟨Nat.le_of_ble_eq_true rfl, Nat.le_of_ble_eq_true rfl⟩ dX10_years_81
theorem c_X10_years {l : Launch} {E : CE} {σ : Mem} {x1 : Int32} {x2 : Int32} {x3 : Int32} (hlt : l.stackTraces = false) {q : (Nat × Mem) ⊕ (Int32 × Mem)} (h : m_X10_years σ x1 x2 x3 = some q) : CXI l (vC E) yX10_years (.code yX10_years cX10_years 5 (some .int) :: GG) rm_X10_years 2 12 [.ref (ca E 0), .int x1, .int x2, .int x3] σ q :=
  mk_CXI (by decide +kernel) (Nat.le_of_ble_eq_true rfl) (fun p e s m args below meth c A ls X hex I hl => w_X10_years_0 X hlt hex σ x1 x2 x3 h s.heap [] ls I (lv_sub hl [0, 1, 2, 3] rfl))

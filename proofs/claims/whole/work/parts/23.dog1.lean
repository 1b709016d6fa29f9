def rm_X10_fault : Room := { frames := 1, cells := 0, slots := 0, locals := 64 }
def m_X10_fault (σ : Mem) : Option (Int32) := (some (σ 0 8))
set_option maxHeartbeats 4000000 in
set_option maxRecDepth 100000 in
theorem w_X10_fault_0 {p : Program} {l : Launch} {e : Env} {s : State} {m : MethodId} {args : Array Value} {below : List Frame} {meth : Method} {c : Code} {A : Nat → Prop} {E : CE} {q : Int32} (X : CX p s m meth c args cX10_fault 1 RX10 (some .int)) : ∀ (σ : Mem)  , m_X10_fault σ = some q → ∀ (H : Heap) (locs : List Loc) (ls : Array Slot), WI (vC E) A s H locs σ → lv_has ls 1 [(0, .ref (ca E 0))] → W p l e rm_X10_fault s m args below meth c H locs 0 0 (MQ below (QI (vC E) A (q, σ)) args s 0 0 A) (F0 m 0 ls []) := by
  have hx := X.1
  have hb := X.2.1
  intro σ  h H locs ls I hl
  unfold m_X10_fault at h
  refine lv_aload_n hx hb dX10_fault_0 rfl (lv_at hl 0 rfl) ?_
  refine gfC_X10_54 X I (kC_0 E) dX10_fault_1 ?_
  exact r_iret X I (congrArg (fun z => (z, σ)) (Option.some.inj h).symm) dX10_fault_4
theorem c_X10_fault {l : Launch} {E : CE} {σ : Mem} {q : Int32} (h : m_X10_fault σ = some q) : CI l (vC E) yX10_fault (.code yX10_fault cX10_fault 1 (some .int) :: GG) rm_X10_fault [.ref (ca E 0)] σ (q, σ) :=
  mk_CI (by decide +kernel) (Nat.le_of_ble_eq_true rfl) (fun p e s m args below meth c A ls X I hl => w_X10_fault_0 X  σ  h s.heap [] ls I (lv_sub hl [0] rfl))

def rm_X10_isSealedNow : Room := { frames := 1, cells := 0, slots := 0, locals := 64 }
def m_X10_isSealedNow (σ : Mem) (x1 : Int32) : Option (Int32) := (gd (62 : Int32) 64 (if (((σ 43 (Int32.toNatClampNeg (62 : Int32))) >>> (x1 &&& 31)) &&& (1 : Int32)) = (1 : Int32) then (some (1 : Int32)) else (some (0 : Int32))))
set_option maxHeartbeats 4000000 in
set_option maxRecDepth 100000 in
theorem w_X10_isSealedNow_0 {p : Program} {l : Launch} {e : Env} {s : State} {m : MethodId} {args : Array Value} {below : List Frame} {meth : Method} {c : Code} {A : Nat → Prop} {E : CE} {q : Int32} (X : CX p s m meth c args cX10_isSealedNow 2 RX10 (some .boolean)) : ∀ (σ : Mem) (x1 : Int32) , m_X10_isSealedNow σ x1 = some q → ∀ (H : Heap) (locs : List Loc) (ls : Array Slot), WI (vC E) A s H locs σ → lv_has ls 2 [(0, .ref (ca E 0)), (1, .int x1)] → W p l e rm_X10_isSealedNow s m args below meth c H locs 0 0 (MQ below (QI (vC E) A (q, σ)) args s 0 0 A) (F0 m 0 ls []) := by
  have hx := X.1
  have hb := X.2.1
  intro σ x1 h H locs ls I hl
  unfold m_X10_isSealedNow at h
  refine lv_aload_n hx hb dX10_isSealedNow_0 rfl (lv_at hl 0 rfl) ?_
  refine gfC_X10_43 X I (kC_0 E) (k' := 42) rfl dX10_isSealedNow_1 ?_
  refine gfC_X10_122 X I (kC_42 E) (k' := 43) rfl dX10_isSealedNow_4 ?_
  refine lv_bipush (v := 62) hx hb dX10_isSealedNow_7 (by decide) ?_
  obtain ⟨hin, h⟩ := gd_some h
  refine ialdC X I (kC_43 E) hin dX10_isSealedNow_9 ?_
  refine lv_iload_n hx hb dX10_isSealedNow_10 rfl (lv_at hl 1 rfl) ?_
  refine lv_ishr hx hb dX10_isSealedNow_11 ?_
  refine lv_iconst (v := 1) hx hb dX10_isSealedNow_12 (by decide) ?_
  refine lv_iand hx hb dX10_isSealedNow_13 ?_
  refine lv_iconst (v := 1) hx hb dX10_isSealedNow_14 (by decide) ?_
  refine lv_icmp_ne (tgt := 22) hx hb dX10_isSealedNow_15 (by decide) (fun c1 => ?_) (fun c1 => ?_)
  · have h := ite_f h c1
    refine lv_iconst (v := 0) hx hb dX10_isSealedNow_22 (by decide) ?_
    exact r_zret X I (congrArg (fun z => (z, σ)) (Option.some.inj h).symm) rfl dX10_isSealedNow_23
  · have h := ite_t h c1
    refine lv_iconst (v := 1) hx hb dX10_isSealedNow_18 (by decide) ?_
    refine lv_goto (tgt := 23) hx hb dX10_isSealedNow_19 (by decide) ?_
    exact r_zret X I (congrArg (fun z => (z, σ)) (Option.some.inj h).symm) rfl dX10_isSealedNow_23
theorem c_X10_isSealedNow {l : Launch} {E : CE} {σ : Mem} {x1 : Int32} {q : Int32} (h : m_X10_isSealedNow σ x1 = some q) : CI l (vC E) yX10_isSealedNow (.code yX10_isSealedNow cX10_isSealedNow 2 (some .boolean) :: GG) rm_X10_isSealedNow [.ref (ca E 0), .int x1] σ (q, σ) :=
  mk_CI (by decide +kernel) (Nat.le_of_ble_eq_true rfl) (fun p e s m args below meth c A ls X I hl => w_X10_isSealedNow_0 X  σ x1 h s.heap [] ls I (lv_sub hl [0, 1] rfl))

def rm_X10_copyToTrial : Room := { frames := 1, cells := 0, slots := 0, locals := 64 }
def m_X10_copyToTrial (σ : Mem) : Option (Mem) := (gcp (0 : Int32) (0 : Int32) (64 : Int32) 64 64 (lt (mcp σ 43 56 (0 : Int32) (0 : Int32) (64 : Int32)) fun σ1 => (some σ1)))
set_option maxHeartbeats 4000000 in
set_option maxRecDepth 100000 in
theorem w_X10_copyToTrial_0 {p : Program} {l : Launch} {e : Env} {s : State} {m : MethodId} {args : Array Value} {below : List Frame} {meth : Method} {c : Code} {A : Nat → Prop} {E : CE} {q : Mem} (X : CX p s m meth c args cX10_copyToTrial 1 RX10 none) : ∀ (σ : Mem)  , m_X10_copyToTrial σ = some q → ∀ (H : Heap) (locs : List Loc) (ls : Array Slot), WI (vC E) A s H locs σ → lv_has ls 1 [(0, .ref (ca E 0))] → W p l e rm_X10_copyToTrial s m args below meth c H locs 0 0 (MQ below (QV (vC E) A q) args s 0 0 A) (F0 m 0 ls []) := by
  have hx := X.1
  have hb := X.2.1
  intro σ  h H locs ls I hl
  unfold m_X10_copyToTrial at h
  refine lv_aload_n hx hb dX10_copyToTrial_0 rfl (lv_at hl 0 rfl) ?_
  refine gfC_X10_43 X I (kC_0 E) (k' := 42) rfl dX10_copyToTrial_1 ?_
  refine gfC_X10_122 X I (kC_42 E) (k' := 43) rfl dX10_copyToTrial_4 ?_
  refine lv_iconst (v := 0) hx hb dX10_copyToTrial_7 (by decide) ?_
  refine lv_aload_n hx hb dX10_copyToTrial_8 rfl (lv_at hl 0 rfl) ?_
  refine gfC_X10_58 X I (kC_0 E) (k' := 56) rfl dX10_copyToTrial_9 ?_
  refine lv_iconst (v := 0) hx hb dX10_copyToTrial_12 (by decide) ?_
  refine lv_bipush (v := 64) hx hb dX10_copyToTrial_13 (by decide) ?_
  obtain ⟨hcp, h⟩ := gcp_some h
  refine icpC X I hl tw_424 (kC_43 E) (kC_56 E) hcp ⟨Nat.le_of_ble_eq_true rfl, Nat.le_of_ble_eq_true rfl⟩ dX10_copyToTrial_15 (fun H locs I => ?_)
  obtain ⟨σ1, eσ1, h⟩ := lt_e h
  replace I := wi_nm eσ1 I
  exact r_vret X I (Option.some.inj h).symm dX10_copyToTrial_18
theorem c_X10_copyToTrial {l : Launch} {E : CE} {σ : Mem} {q : Mem} (h : m_X10_copyToTrial σ = some q) : CV l (vC E) yX10_copyToTrial (.code yX10_copyToTrial cX10_copyToTrial 1 none :: GG) rm_X10_copyToTrial [.ref (ca E 0)] σ q :=
  mk_CV (by decide +kernel) (Nat.le_of_ble_eq_true rfl) (fun p e s m args below meth c A ls X I hl => w_X10_copyToTrial_0 X  σ  h s.heap [] ls I (lv_sub hl [0] rfl))

def rm_X10_tryAhead : Room := { frames := 7, cells := 0, slots := 0, locals := 206 }
def m_X10_tryAhead (σ : Mem) (x1 : Int32) : Option (Mem) := ((m_X10_copyToTrial σ).bind fun q1 => ((m_X8_passQuarters 56 q1 x1).bind fun q2 => (some q2)))
set_option maxHeartbeats 4000000 in
set_option maxRecDepth 100000 in
theorem w_X10_tryAhead_0 {p : Program} {l : Launch} {e : Env} {s : State} {m : MethodId} {args : Array Value} {below : List Frame} {meth : Method} {c : Code} {A : Nat → Prop} {E : CE} {q : Mem} (X : CX p s m meth c args cX10_tryAhead 2 RX10 none) : ∀ (σ : Mem) (x1 : Int32) , m_X10_tryAhead σ x1 = some q → ∀ (H : Heap) (locs : List Loc) (ls : Array Slot), WI (vC E) A s H locs σ → lv_has ls 2 [(0, .ref (ca E 0)), (1, .int x1)] → W p l e rm_X10_tryAhead s m args below meth c H locs 0 0 (MQ below (QV (vC E) A q) args s 0 0 A) (F0 m 0 ls []) := by
  have hx := X.1
  have hb := X.2.1
  intro σ x1 h H locs ls I hl
  unfold m_X10_tryAhead at h
  refine lv_aload_n hx hb dX10_tryAhead_0 rfl (lv_at hl 0 rfl) ?_
  obtain ⟨q1, hq1, h⟩ := bd h
  refine r_callVV (V := (vC E)) (k := 0) (As := []) (rest := []) X I hl (c_X10_copyToTrial  hq1) yv_X10_copyToTrial tw_425 ⟨rfl, rfl, Nat.le_of_ble_eq_true rfl, Nat.le_of_ble_eq_true rfl⟩ (kC_0 E).1 ((kC_0 E).2 (σ 0)) rfl rfl rfl (Nat.le_of_ble_eq_true rfl) dX10_tryAhead_1 (fun H locs I => ?_)
  refine lv_aload_n hx hb dX10_tryAhead_4 rfl (lv_at hl 0 rfl) ?_
  refine gfC_X10_24 X I (kC_0 E) (k' := 22) rfl dX10_tryAhead_5 ?_
  refine lv_aload_n hx hb dX10_tryAhead_8 rfl (lv_at hl 0 rfl) ?_
  refine gfC_X10_58 X I (kC_0 E) (k' := 56) rfl dX10_tryAhead_9 ?_
  refine lv_iload_n hx hb dX10_tryAhead_12 rfl (lv_at hl 1 rfl) ?_
  obtain ⟨q2, hq2, h⟩ := bd h
  refine r_callVV (V := (vC E)) (k := 22) (As := [.ref (ca E 56), .int x1]) (rest := []) X I hl (c_X8_passQuarters (kC_56 E) hq2) yv_X8_passQuarters tw_431 ⟨rfl, rfl, Nat.le_of_ble_eq_true rfl, Nat.le_of_ble_eq_true rfl⟩ (kC_22 E).1 ((kC_22 E).2 (q1 22)) rfl rfl rfl (Nat.le_of_ble_eq_true rfl) dX10_tryAhead_13 (fun H locs I => ?_)
  exact r_vret X I (Option.some.inj h).symm dX10_tryAhead_16
theorem c_X10_tryAhead {l : Launch} {E : CE} {σ : Mem} {x1 : Int32} {q : Mem} (h : m_X10_tryAhead σ x1 = some q) : CV l (vC E) yX10_tryAhead (.code yX10_tryAhead cX10_tryAhead 2 none :: GG) rm_X10_tryAhead [.ref (ca E 0), .int x1] σ q :=
  mk_CV (by decide +kernel) (Nat.le_of_ble_eq_true rfl) (fun p e s m args below meth c A ls X I hl => w_X10_tryAhead_0 X  σ x1 h s.heap [] ls I (lv_sub hl [0, 1] rfl))

def rm_X10_tryQuarterWith : Room := { frames := 6, cells := 0, slots := 0, locals := 183 }
def m_X10_tryQuarterWith (σ : Mem) (x1 : Int32) (x2 : Int32) : Option (Mem) := ((m_X10_copyToTrial σ).bind fun q1 => (gd x1 64 (lt (ms q1 56 (Int32.toNatClampNeg x1) (x2)) fun σ2 => ((m_X8_passQuarter 56 σ2).bind fun q3 => (some q3)))))
set_option maxHeartbeats 4000000 in
set_option maxRecDepth 100000 in
theorem w_X10_tryQuarterWith_0 {p : Program} {l : Launch} {e : Env} {s : State} {m : MethodId} {args : Array Value} {below : List Frame} {meth : Method} {c : Code} {A : Nat → Prop} {E : CE} {q : Mem} (X : CX p s m meth c args cX10_tryQuarterWith 3 RX10 none) : ∀ (σ : Mem) (x1 : Int32) (x2 : Int32) , m_X10_tryQuarterWith σ x1 x2 = some q → ∀ (H : Heap) (locs : List Loc) (ls : Array Slot), WI (vC E) A s H locs σ → lv_has ls 3 [(0, .ref (ca E 0)), (1, .int x1), (2, .int x2)] → W p l e rm_X10_tryQuarterWith s m args below meth c H locs 0 0 (MQ below (QV (vC E) A q) args s 0 0 A) (F0 m 0 ls []) := by
  have hx := X.1
  have hb := X.2.1
  intro σ x1 x2 h H locs ls I hl
  unfold m_X10_tryQuarterWith at h
  refine lv_aload_n hx hb dX10_tryQuarterWith_0 rfl (lv_at hl 0 rfl) ?_
  obtain ⟨q1, hq1, h⟩ := bd h
  refine r_callVV (V := (vC E)) (k := 0) (As := []) (rest := []) X I hl (c_X10_copyToTrial  hq1) yv_X10_copyToTrial tw_425 ⟨rfl, rfl, Nat.le_of_ble_eq_true rfl, Nat.le_of_ble_eq_true rfl⟩ (kC_0 E).1 ((kC_0 E).2 (σ 0)) rfl rfl rfl (Nat.le_of_ble_eq_true rfl) dX10_tryQuarterWith_1 (fun H locs I => ?_)
  refine lv_aload_n hx hb dX10_tryQuarterWith_4 rfl (lv_at hl 0 rfl) ?_
  refine gfC_X10_58 X I (kC_0 E) (k' := 56) rfl dX10_tryQuarterWith_5 ?_
  refine lv_iload_n hx hb dX10_tryQuarterWith_8 rfl (lv_at hl 1 rfl) ?_
  refine lv_iload_n hx hb dX10_tryQuarterWith_9 rfl (lv_at hl 2 rfl) ?_
  obtain ⟨hin, h⟩ := gd_some h
  refine iastC X I (kC_56 E) hin dX10_tryQuarterWith_10 (fun H locs I => ?_)
  obtain ⟨σ2, eσ2, h⟩ := lt_e h
  replace I := wi_nm eσ2 I
  refine lv_aload_n hx hb dX10_tryQuarterWith_11 rfl (lv_at hl 0 rfl) ?_
  refine gfC_X10_24 X I (kC_0 E) (k' := 22) rfl dX10_tryQuarterWith_12 ?_
  refine lv_aload_n hx hb dX10_tryQuarterWith_15 rfl (lv_at hl 0 rfl) ?_
  refine gfC_X10_58 X I (kC_0 E) (k' := 56) rfl dX10_tryQuarterWith_16 ?_
  obtain ⟨q3, hq3, h⟩ := bd h
  refine r_callVV (V := (vC E)) (k := 22) (As := [.ref (ca E 56)]) (rest := []) X I hl (c_X8_passQuarter (kC_56 E) hq3) yv_X8_passQuarter tw_436 ⟨rfl, rfl, Nat.le_of_ble_eq_true rfl, Nat.le_of_ble_eq_true rfl⟩ (kC_22 E).1 ((kC_22 E).2 (σ2 22)) rfl rfl rfl (Nat.le_of_ble_eq_true rfl) dX10_tryQuarterWith_19 (fun H locs I => ?_)
  exact r_vret X I (Option.some.inj h).symm dX10_tryQuarterWith_22
theorem c_X10_tryQuarterWith {l : Launch} {E : CE} {σ : Mem} {x1 : Int32} {x2 : Int32} {q : Mem} (h : m_X10_tryQuarterWith σ x1 x2 = some q) : CV l (vC E) yX10_tryQuarterWith (.code yX10_tryQuarterWith cX10_tryQuarterWith 3 none :: GG) rm_X10_tryQuarterWith [.ref (ca E 0), .int x1, .int x2] σ q :=
  mk_CV (by decide +kernel) (Nat.le_of_ble_eq_true rfl) (fun p e s m args below meth c A ls X I hl => w_X10_tryQuarterWith_0 X  σ x1 x2 h s.heap [] ls I (lv_sub hl [0, 1, 2] rfl))

def rm_X10_firstWhen : Room := { frames := 6, cells := 0, slots := 0, locals := 183 }
def f_X10_firstWhen_7 (x1 : Int32) (x2 : Int32) (x3 : Int32) : Nat → Mem → Int32 → Option (Int32 × Mem)
  | 0, _, _ => none
  | n + 1, σ, x4 => (if (40 : Int32) < x4 then (some ((-1 : Int32), σ)) else (gd ((24 : Int32) + x1) 64 (if (σ 56 (Int32.toNatClampNeg ((24 : Int32) + x1))) = x2 then (if (1 : Int32) = x3 then (some (x4, σ)) else (if (40 : Int32) ≤ x4 then f_X10_firstWhen_7 x1 x2 x3 n σ (x4 + 1) else ((m_X8_passQuarter 56 σ).bind fun q8 => f_X10_firstWhen_7 x1 x2 x3 n q8 (x4 + 1)))) else (if (0 : Int32) = x3 then (some (x4, σ)) else (if (40 : Int32) ≤ x4 then f_X10_firstWhen_7 x1 x2 x3 n σ (x4 + 1) else ((m_X8_passQuarter 56 σ).bind fun q5 => f_X10_firstWhen_7 x1 x2 x3 n q5 (x4 + 1)))))))
def m_X10_firstWhen (σ : Mem) (x1 : Int32) (x2 : Int32) (x3 : Int32) : Option (Int32 × Mem) := ((m_X10_copyToTrial σ).bind fun q1 => (f_X10_firstWhen_7 x1 x2 x3 KF q1 (0 : Int32)))
set_option maxHeartbeats 4000000 in
set_option maxRecDepth 100000 in
theorem w_X10_firstWhen_7 {p : Program} {l : Launch} {e : Env} {s : State} {m : MethodId} {args : Array Value} {below : List Frame} {meth : Method} {c : Code} {A : Nat → Prop} {E : CE} {q : Int32 × Mem} (X : CX p s m meth c args cX10_firstWhen 5 RX10 (some .int)) {x1 : Int32} {x2 : Int32} {x3 : Int32} : ∀ (n : Nat), ∀ (σ : Mem) (x4 : Int32) , f_X10_firstWhen_7 x1 x2 x3 n σ x4 = some q → ∀ (H : Heap) (locs : List Loc) (ls : Array Slot), WI (vC E) A s H locs σ → lv_has ls 5 [(0, .ref (ca E 0)), (1, .int x1), (2, .int x2), (3, .int x3), (4, .int x4)] → W p l e rm_X10_firstWhen s m args below meth c H locs 0 0 (MQ below (QI (vC E) A q) args s 0 0 A) (F0 m 7 ls []) := by
  have hx := X.1
  have hb := X.2.1
  intro n
  induction n with
  | zero =>
    intro σ x4 h
    cases h
  | succ n ih =>
    intro σ x4 h H locs ls I hl
    rw [f_X10_firstWhen_7] at h
    refine lv_iload hx hb dX10_firstWhen_7 (lv_at hl 4 rfl) ?_
    refine lv_bipush (v := 40) hx hb dX10_firstWhen_9 (by decide) ?_
    refine lv_icmp_gt (tgt := 63) hx hb dX10_firstWhen_11 (by decide) (fun c1 => ?_) (fun c1 => ?_)
    · have h := ite_t h c1
      refine lv_iconst (v := -1) hx hb dX10_firstWhen_63 (by decide) ?_
      exact r_iret X I (Option.some.inj h).symm dX10_firstWhen_64
    · have h := ite_f h c1
      refine lv_aload_n hx hb dX10_firstWhen_14 rfl (lv_at hl 0 rfl) ?_
      refine gfC_X10_58 X I (kC_0 E) (k' := 56) rfl dX10_firstWhen_15 ?_
      refine lv_bipush (v := 24) hx hb dX10_firstWhen_18 (by decide) ?_
      refine lv_iload_n hx hb dX10_firstWhen_20 rfl (lv_at hl 1 rfl) ?_
      refine lv_iadd hx hb dX10_firstWhen_21 ?_
      obtain ⟨hin, h⟩ := gd_some h
      refine ialdC X I (kC_56 E) hin dX10_firstWhen_22 ?_
      refine lv_iload_n hx hb dX10_firstWhen_23 rfl (lv_at hl 2 rfl) ?_
      refine lv_icmp_ne (tgt := 31) hx hb dX10_firstWhen_24 (by decide) (fun c2 => ?_) (fun c2 => ?_)
      · have h := ite_f h c2
        refine lv_iconst (v := 0) hx hb dX10_firstWhen_31 (by decide) ?_
        refine lv_iload_n hx hb dX10_firstWhen_32 rfl (lv_at hl 3 rfl) ?_
        refine lv_icmp_ne (tgt := 39) hx hb dX10_firstWhen_33 (by decide) (fun c3 => ?_) (fun c3 => ?_)
        · have h := ite_f h c3
          refine lv_iload hx hb dX10_firstWhen_39 (lv_at hl 4 rfl) ?_
          refine lv_bipush (v := 40) hx hb dX10_firstWhen_41 (by decide) ?_
          refine lv_icmp_ge (tgt := 57) hx hb dX10_firstWhen_43 (by decide) (fun c4 => ?_) (fun c4 => ?_)
          · have h := ite_t h c4
            refine lv_iinc (v := (x4 + 1)) (lv' := [(4, .int (x4 + 1)), (0, .ref (ca E 0)), (1, .int x1), (2, .int x2), (3, .int x3)]) hx hb dX10_firstWhen_57 hl (k := 4) rfl rfl (by decide) rfl (fun ls hl => ?_)
            refine lv_goto (tgt := 7) hx hb dX10_firstWhen_60 (by decide) ?_
            exact ih σ (x4 + 1) h H locs ls I (lv_sub hl [1, 2, 3, 4, 0] rfl)
          · have h := ite_f h c4
            refine lv_aload_n hx hb dX10_firstWhen_46 rfl (lv_at hl 0 rfl) ?_
            refine gfC_X10_24 X I (kC_0 E) (k' := 22) rfl dX10_firstWhen_47 ?_
            refine lv_aload_n hx hb dX10_firstWhen_50 rfl (lv_at hl 0 rfl) ?_
            refine gfC_X10_58 X I (kC_0 E) (k' := 56) rfl dX10_firstWhen_51 ?_
            obtain ⟨q5, hq5, h⟩ := bd h
            refine r_callVV (V := (vC E)) (k := 22) (As := [.ref (ca E 56)]) (rest := []) X I hl (c_X8_passQuarter (kC_56 E) hq5) yv_X8_passQuarter tw_436 ⟨rfl, rfl, Nat.le_of_ble_eq_true rfl, Nat.le_of_ble_eq_true rfl⟩ (kC_22 E).1 ((kC_22 E).2 (σ 22)) rfl rfl rfl (Nat.le_of_ble_eq_true rfl) dX10_firstWhen_54 (fun H locs I => ?_)
            refine lv_iinc (v := (x4 + 1)) (lv' := [(4, .int (x4 + 1)), (0, .ref (ca E 0)), (1, .int x1), (2, .int x2), (3, .int x3)]) hx hb dX10_firstWhen_57 hl (k := 4) rfl rfl (by decide) rfl (fun ls hl => ?_)
            refine lv_goto (tgt := 7) hx hb dX10_firstWhen_60 (by decide) ?_
            exact ih q5 (x4 + 1) h H locs ls I (lv_sub hl [1, 2, 3, 4, 0] rfl)
        · have h := ite_t h c3
          refine lv_iload hx hb dX10_firstWhen_36 (lv_at hl 4 rfl) ?_
          exact r_iret X I (Option.some.inj h).symm dX10_firstWhen_38
      · have h := ite_t h c2
        refine lv_iconst (v := 1) hx hb dX10_firstWhen_27 (by decide) ?_
        refine lv_goto (tgt := 32) hx hb dX10_firstWhen_28 (by decide) ?_
        refine lv_iload_n hx hb dX10_firstWhen_32 rfl (lv_at hl 3 rfl) ?_
        refine lv_icmp_ne (tgt := 39) hx hb dX10_firstWhen_33 (by decide) (fun c6 => ?_) (fun c6 => ?_)
        · have h := ite_f h c6
          refine lv_iload hx hb dX10_firstWhen_39 (lv_at hl 4 rfl) ?_
          refine lv_bipush (v := 40) hx hb dX10_firstWhen_41 (by decide) ?_
          refine lv_icmp_ge (tgt := 57) hx hb dX10_firstWhen_43 (by decide) (fun c7 => ?_) (fun c7 => ?_)
          · have h := ite_t h c7
            refine lv_iinc (v := (x4 + 1)) (lv' := [(4, .int (x4 + 1)), (0, .ref (ca E 0)), (1, .int x1), (2, .int x2), (3, .int x3)]) hx hb dX10_firstWhen_57 hl (k := 4) rfl rfl (by decide) rfl (fun ls hl => ?_)
            refine lv_goto (tgt := 7) hx hb dX10_firstWhen_60 (by decide) ?_
            exact ih σ (x4 + 1) h H locs ls I (lv_sub hl [1, 2, 3, 4, 0] rfl)
          · have h := ite_f h c7
            refine lv_aload_n hx hb dX10_firstWhen_46 rfl (lv_at hl 0 rfl) ?_
            refine gfC_X10_24 X I (kC_0 E) (k' := 22) rfl dX10_firstWhen_47 ?_
            refine lv_aload_n hx hb dX10_firstWhen_50 rfl (lv_at hl 0 rfl) ?_
            refine gfC_X10_58 X I (kC_0 E) (k' := 56) rfl dX10_firstWhen_51 ?_
            obtain ⟨q8, hq8, h⟩ := bd h
            refine r_callVV (V := (vC E)) (k := 22) (As := [.ref (ca E 56)]) (rest := []) X I hl (c_X8_passQuarter (kC_56 E) hq8) yv_X8_passQuarter tw_436 ⟨rfl, rfl, Nat.le_of_ble_eq_true rfl, Nat.le_of_ble_eq_true rfl⟩ (kC_22 E).1 ((kC_22 E).2 (σ 22)) rfl rfl rfl (Nat.le_of_ble_eq_true rfl) dX10_firstWhen_54 (fun H locs I => ?_)
            refine lv_iinc (v := (x4 + 1)) (lv' := [(4, .int (x4 + 1)), (0, .ref (ca E 0)), (1, .int x1), (2, .int x2), (3, .int x3)]) hx hb dX10_firstWhen_57 hl (k := 4) rfl rfl (by decide) rfl (fun ls hl => ?_)
            refine lv_goto (tgt := 7) hx hb dX10_firstWhen_60 (by decide) ?_
            exact ih q8 (x4 + 1) h H locs ls I (lv_sub hl [1, 2, 3, 4, 0] rfl)
        · have h := ite_t h c6
          refine lv_iload hx hb dX10_firstWhen_36 (lv_at hl 4 rfl) ?_
          exact r_iret X I (Option.some.inj h).symm dX10_firstWhen_38
set_option maxHeartbeats 4000000 in
set_option maxRecDepth 100000 in
theorem w_X10_firstWhen_0 {p : Program} {l : Launch} {e : Env} {s : State} {m : MethodId} {args : Array Value} {below : List Frame} {meth : Method} {c : Code} {A : Nat → Prop} {E : CE} {q : Int32 × Mem} (X : CX p s m meth c args cX10_firstWhen 5 RX10 (some .int)) : ∀ (σ : Mem) (x1 : Int32) (x2 : Int32) (x3 : Int32) , m_X10_firstWhen σ x1 x2 x3 = some q → ∀ (H : Heap) (locs : List Loc) (ls : Array Slot), WI (vC E) A s H locs σ → lv_has ls 5 [(0, .ref (ca E 0)), (1, .int x1), (2, .int x2), (3, .int x3)] → W p l e rm_X10_firstWhen s m args below meth c H locs 0 0 (MQ below (QI (vC E) A q) args s 0 0 A) (F0 m 0 ls []) := by
  have hx := X.1
  have hb := X.2.1
  intro σ x1 x2 x3 h H locs ls I hl
  unfold m_X10_firstWhen at h
  refine lv_aload_n hx hb dX10_firstWhen_0 rfl (lv_at hl 0 rfl) ?_
  obtain ⟨q1, hq1, h⟩ := bd h
  refine r_callVV (V := (vC E)) (k := 0) (As := []) (rest := []) X I hl (c_X10_copyToTrial  hq1) yv_X10_copyToTrial tw_425 ⟨rfl, rfl, Nat.le_of_ble_eq_true rfl, Nat.le_of_ble_eq_true rfl⟩ (kC_0 E).1 ((kC_0 E).2 (σ 0)) rfl rfl rfl (Nat.le_of_ble_eq_true rfl) dX10_firstWhen_1 (fun H locs I => ?_)
  refine lv_iconst (v := 0) hx hb dX10_firstWhen_4 (by decide) ?_
  refine lv_istore (lv' := [(4, .int (0 : Int32)), (0, .ref (ca E 0)), (1, .int x1), (2, .int x2), (3, .int x3)]) hx hb dX10_firstWhen_5 hl (by decide) rfl (fun ls hl => ?_)
  exact w_X10_firstWhen_7 X   KF q1 (0 : Int32) h H locs ls I (lv_sub hl [1, 2, 3, 4, 0] rfl)
theorem c_X10_firstWhen {l : Launch} {E : CE} {σ : Mem} {x1 : Int32} {x2 : Int32} {x3 : Int32} {q : Int32 × Mem} (h : m_X10_firstWhen σ x1 x2 x3 = some q) : CI l (vC E) yX10_firstWhen (.code yX10_firstWhen cX10_firstWhen 5 (some .int) :: GG) rm_X10_firstWhen [.ref (ca E 0), .int x1, .int x2, .int x3] σ q :=
  mk_CI (by decide +kernel) (Nat.le_of_ble_eq_true rfl) (fun p e s m args below meth c A ls X I hl => w_X10_firstWhen_0 X  σ x1 x2 x3 h s.heap [] ls I (lv_sub hl [0, 1, 2, 3] rfl))

def rm_X10_isAsSeen : Room := { frames := 6, cells := 0, slots := 0, locals := 183 }
def f_X10_isAsSeen_33 (x3 : Int32) : Nat → Mem → Int32 → Option (Int32 × Mem)
  | 0, _, _ => none
  | n + 1, σ, x4 => (if x3 < x4 then (some ((1 : Int32), σ)) else ((m_X8_passQuarter 56 σ).bind fun q2 => ((m_X6_agrees 46 56 q2 x4).bind fun q3 => (if q3 = (0 : Int32) then (some ((0 : Int32), q2)) else f_X10_isAsSeen_33 x3 n q2 (x4 + 1)))))
def m_X10_isAsSeen (σ : Mem) (x1 : Int32) (x2 : Int32) : Option (Int32 × Mem) := ((m_X10_copyToTrial σ).bind fun q1 => (if x1 = (-1 : Int32) then ((m_X6_lastQuarter 46 q1).bind fun q3 => (f_X10_isAsSeen_33 q3 KF q1 (1 : Int32))) else (gd ((40 : Int32) + x1) 64 (lt (ms q1 56 (Int32.toNatClampNeg ((40 : Int32) + x1)) (x2)) fun σ4 => ((m_X6_lastQuarter 46 σ4).bind fun q5 => (f_X10_isAsSeen_33 q5 KF σ4 (1 : Int32)))))))
set_option maxHeartbeats 4000000 in
set_option maxRecDepth 100000 in
theorem w_X10_isAsSeen_33 {p : Program} {l : Launch} {e : Env} {s : State} {m : MethodId} {args : Array Value} {below : List Frame} {meth : Method} {c : Code} {A : Nat → Prop} {E : CE} {q : Int32 × Mem} (X : CX p s m meth c args cX10_isAsSeen 5 RX10 (some .boolean)) {x3 : Int32} : ∀ (n : Nat), ∀ (σ : Mem) (x4 : Int32) , f_X10_isAsSeen_33 x3 n σ x4 = some q → ∀ (H : Heap) (locs : List Loc) (ls : Array Slot), WI (vC E) A s H locs σ → lv_has ls 5 [(0, .ref (ca E 0)), (3, .int x3), (4, .int x4)] → W p l e rm_X10_isAsSeen s m args below meth c H locs 0 0 (MQ below (QI (vC E) A q) args s 0 0 A) (F0 m 33 ls []) := by
  have hx := X.1
  have hb := X.2.1
  intro n
  induction n with
  | zero =>
    intro σ x4 h
    cases h
  | succ n ih =>
    intro σ x4 h H locs ls I hl
    rw [f_X10_isAsSeen_33] at h
    refine lv_iload hx hb dX10_isAsSeen_33 (lv_at hl 2 rfl) ?_
    refine lv_iload_n hx hb dX10_isAsSeen_35 rfl (lv_at hl 1 rfl) ?_
    refine lv_icmp_gt (tgt := 77) hx hb dX10_isAsSeen_36 (by decide) (fun c1 => ?_) (fun c1 => ?_)
    · have h := ite_t h c1
      refine lv_iconst (v := 1) hx hb dX10_isAsSeen_77 (by decide) ?_
      exact r_zret X I (Option.some.inj h).symm rfl dX10_isAsSeen_78
    · have h := ite_f h c1
      refine lv_aload_n hx hb dX10_isAsSeen_39 rfl (lv_at hl 0 rfl) ?_
      refine gfC_X10_24 X I (kC_0 E) (k' := 22) rfl dX10_isAsSeen_40 ?_
      refine lv_aload_n hx hb dX10_isAsSeen_43 rfl (lv_at hl 0 rfl) ?_
      refine gfC_X10_58 X I (kC_0 E) (k' := 56) rfl dX10_isAsSeen_44 ?_
      obtain ⟨q2, hq2, h⟩ := bd h
      refine r_callVV (V := (vC E)) (k := 22) (As := [.ref (ca E 56)]) (rest := []) X I hl (c_X8_passQuarter (kC_56 E) hq2) yv_X8_passQuarter tw_436 ⟨rfl, rfl, Nat.le_of_ble_eq_true rfl, Nat.le_of_ble_eq_true rfl⟩ (kC_22 E).1 ((kC_22 E).2 (σ 22)) rfl rfl rfl (Nat.le_of_ble_eq_true rfl) dX10_isAsSeen_47 (fun H locs I => ?_)
      refine lv_aload_n hx hb dX10_isAsSeen_50 rfl (lv_at hl 0 rfl) ?_
      refine gfC_X10_43 X I (kC_0 E) (k' := 42) rfl dX10_isAsSeen_51 ?_
      refine gfC_X10_142 X I (kC_42 E) (k' := 46) rfl dX10_isAsSeen_54 ?_
      refine lv_aload_n hx hb dX10_isAsSeen_57 rfl (lv_at hl 0 rfl) ?_
      refine gfC_X10_58 X I (kC_0 E) (k' := 56) rfl dX10_isAsSeen_58 ?_
      refine lv_iload hx hb dX10_isAsSeen_61 (lv_at hl 2 rfl) ?_
      obtain ⟨q3, hq3, h⟩ := bd h
      refine r_callVI (V := (vC E)) (k := 46) (As := [.ref (ca E 56), .int x4]) (rest := []) X I hl (c_X6_agrees (kC_46 E) (kC_47 E) (kC_56 E) hq3) yv_X6_agrees tw_443 ⟨rfl, rfl, Nat.le_of_ble_eq_true rfl, Nat.le_of_ble_eq_true rfl⟩ (kC_46 E).1 ((kC_46 E).2 (q2 46)) rfl rfl rfl (Nat.le_of_ble_eq_true rfl) dX10_isAsSeen_63 (fun H locs I => ?_)
      refine lv_if_ne (tgt := 71) hx hb dX10_isAsSeen_66 (by decide) (fun c4 => ?_) (fun c4 => ?_)
      · have h := ite_f h c4
        refine lv_iinc (v := (x4 + 1)) (lv' := [(4, .int (x4 + 1)), (0, .ref (ca E 0)), (3, .int x3)]) hx hb dX10_isAsSeen_71 hl (k := 2) rfl rfl (by decide) rfl (fun ls hl => ?_)
        refine lv_goto (tgt := 33) hx hb dX10_isAsSeen_74 (by decide) ?_
        exact ih q2 (x4 + 1) h H locs ls I (lv_sub hl [1, 2, 0] rfl)
      · have h := ite_t h c4
        refine lv_iconst (v := 0) hx hb dX10_isAsSeen_69 (by decide) ?_
        exact r_zret X I (Option.some.inj h).symm rfl dX10_isAsSeen_70
set_option maxHeartbeats 4000000 in
set_option maxRecDepth 100000 in
theorem w_X10_isAsSeen_0 {p : Program} {l : Launch} {e : Env} {s : State} {m : MethodId} {args : Array Value} {below : List Frame} {meth : Method} {c : Code} {A : Nat → Prop} {E : CE} {q : Int32 × Mem} (X : CX p s m meth c args cX10_isAsSeen 5 RX10 (some .boolean)) : ∀ (σ : Mem) (x1 : Int32) (x2 : Int32) , m_X10_isAsSeen σ x1 x2 = some q → ∀ (H : Heap) (locs : List Loc) (ls : Array Slot), WI (vC E) A s H locs σ → lv_has ls 5 [(0, .ref (ca E 0)), (1, .int x1), (2, .int x2)] → W p l e rm_X10_isAsSeen s m args below meth c H locs 0 0 (MQ below (QI (vC E) A q) args s 0 0 A) (F0 m 0 ls []) := by
  have hx := X.1
  have hb := X.2.1
  intro σ x1 x2 h H locs ls I hl
  unfold m_X10_isAsSeen at h
  refine lv_aload_n hx hb dX10_isAsSeen_0 rfl (lv_at hl 0 rfl) ?_
  obtain ⟨q1, hq1, h⟩ := bd h
  refine r_callVV (V := (vC E)) (k := 0) (As := []) (rest := []) X I hl (c_X10_copyToTrial  hq1) yv_X10_copyToTrial tw_425 ⟨rfl, rfl, Nat.le_of_ble_eq_true rfl, Nat.le_of_ble_eq_true rfl⟩ (kC_0 E).1 ((kC_0 E).2 (σ 0)) rfl rfl rfl (Nat.le_of_ble_eq_true rfl) dX10_isAsSeen_1 (fun H locs I => ?_)
  refine lv_iload_n hx hb dX10_isAsSeen_4 rfl (lv_at hl 1 rfl) ?_
  refine lv_iconst (v := -1) hx hb dX10_isAsSeen_5 (by decide) ?_
  refine lv_icmp_eq (tgt := 19) hx hb dX10_isAsSeen_6 (by decide) (fun c2 => ?_) (fun c2 => ?_)
  · have h := ite_t h c2
    refine lv_aload_n hx hb dX10_isAsSeen_19 rfl (lv_at hl 0 rfl) ?_
    refine gfC_X10_43 X I (kC_0 E) (k' := 42) rfl dX10_isAsSeen_20 ?_
    refine gfC_X10_142 X I (kC_42 E) (k' := 46) rfl dX10_isAsSeen_23 ?_
    obtain ⟨q3, hq3, h⟩ := bd h
    refine r_callVI (V := (vC E)) (k := 46) (As := []) (rest := []) X I hl (c_X6_lastQuarter (kC_46 E) (kC_47 E) hq3) yv_X6_lastQuarter tw_438 ⟨rfl, rfl, Nat.le_of_ble_eq_true rfl, Nat.le_of_ble_eq_true rfl⟩ (kC_46 E).1 ((kC_46 E).2 (q1 46)) rfl rfl rfl (Nat.le_of_ble_eq_true rfl) dX10_isAsSeen_26 (fun H locs I => ?_)
    refine lv_istore_n (lv' := [(3, .int q3), (0, .ref (ca E 0)), (1, .int x1), (2, .int x2)]) hx hb dX10_isAsSeen_29 rfl hl (by decide) rfl (fun ls hl => ?_)
    refine lv_iconst (v := 1) hx hb dX10_isAsSeen_30 (by decide) ?_
    refine lv_istore (lv' := [(4, .int (1 : Int32)), (3, .int q3), (0, .ref (ca E 0)), (1, .int x1), (2, .int x2)]) hx hb dX10_isAsSeen_31 hl (by decide) rfl (fun ls hl => ?_)
    exact w_X10_isAsSeen_33 X   KF q1 (1 : Int32) h H locs ls I (lv_sub hl [2, 1, 0] rfl)
  · have h := ite_f h c2
    refine lv_aload_n hx hb dX10_isAsSeen_9 rfl (lv_at hl 0 rfl) ?_
    refine gfC_X10_58 X I (kC_0 E) (k' := 56) rfl dX10_isAsSeen_10 ?_
    refine lv_bipush (v := 40) hx hb dX10_isAsSeen_13 (by decide) ?_
    refine lv_iload_n hx hb dX10_isAsSeen_15 rfl (lv_at hl 1 rfl) ?_
    refine lv_iadd hx hb dX10_isAsSeen_16 ?_
    refine lv_iload_n hx hb dX10_isAsSeen_17 rfl (lv_at hl 2 rfl) ?_
    obtain ⟨hin, h⟩ := gd_some h
    refine iastC X I (kC_56 E) hin dX10_isAsSeen_18 (fun H locs I => ?_)
    obtain ⟨σ4, eσ4, h⟩ := lt_e h
    replace I := wi_nm eσ4 I
    refine lv_aload_n hx hb dX10_isAsSeen_19 rfl (lv_at hl 0 rfl) ?_
    refine gfC_X10_43 X I (kC_0 E) (k' := 42) rfl dX10_isAsSeen_20 ?_
    refine gfC_X10_142 X I (kC_42 E) (k' := 46) rfl dX10_isAsSeen_23 ?_
    obtain ⟨q5, hq5, h⟩ := bd h
    refine r_callVI (V := (vC E)) (k := 46) (As := []) (rest := []) X I hl (c_X6_lastQuarter (kC_46 E) (kC_47 E) hq5) yv_X6_lastQuarter tw_438 ⟨rfl, rfl, Nat.le_of_ble_eq_true rfl, Nat.le_of_ble_eq_true rfl⟩ (kC_46 E).1 ((kC_46 E).2 (σ4 46)) rfl rfl rfl (Nat.le_of_ble_eq_true rfl) dX10_isAsSeen_26 (fun H locs I => ?_)
    refine lv_istore_n (lv' := [(3, .int q5), (0, .ref (ca E 0)), (1, .int x1), (2, .int x2)]) hx hb dX10_isAsSeen_29 rfl hl (by decide) rfl (fun ls hl => ?_)
    refine lv_iconst (v := 1) hx hb dX10_isAsSeen_30 (by decide) ?_
    refine lv_istore (lv' := [(4, .int (1 : Int32)), (3, .int q5), (0, .ref (ca E 0)), (1, .int x1), (2, .int x2)]) hx hb dX10_isAsSeen_31 hl (by decide) rfl (fun ls hl => ?_)
    exact w_X10_isAsSeen_33 X   KF σ4 (1 : Int32) h H locs ls I (lv_sub hl [2, 1, 0] rfl)
theorem c_X10_isAsSeen {l : Launch} {E : CE} {σ : Mem} {x1 : Int32} {x2 : Int32} {q : Int32 × Mem} (h : m_X10_isAsSeen σ x1 x2 = some q) : CI l (vC E) yX10_isAsSeen (.code yX10_isAsSeen cX10_isAsSeen 5 (some .boolean) :: GG) rm_X10_isAsSeen [.ref (ca E 0), .int x1, .int x2] σ q :=
  mk_CI (by decide +kernel) (Nat.le_of_ble_eq_true rfl) (fun p e s m args below meth c A ls X I hl => w_X10_isAsSeen_0 X  σ x1 x2 h s.heap [] ls I (lv_sub hl [0, 1, 2] rfl))

def rm_X10_meetOwnersOfTrial : Room := { frames := 1, cells := 0, slots := 0, locals := 64 }
def f_X10_meetOwnersOfTrial_2 : Nat → Mem → Int32 → Option (Mem)
  | 0, _, _ => none
  | n + 1, σ, x1 => (if (σ 23 0) ≤ x1 then (some σ) else (gd x1 8 (gd ((24 : Int32) + x1) 64 (gd x1 8 (lt (ms σ 57 (Int32.toNatClampNeg x1) (((σ 57 (Int32.toNatClampNeg x1)) ||| ((1 : Int32) <<< (((σ 56 (Int32.toNatClampNeg ((24 : Int32) + x1))) + (1 : Int32)) &&& 31))))) fun σ2 => f_X10_meetOwnersOfTrial_2 n σ2 (x1 + 1))))))
def m_X10_meetOwnersOfTrial (σ : Mem) : Option (Mem) := (f_X10_meetOwnersOfTrial_2 KF σ (0 : Int32))
set_option maxHeartbeats 4000000 in
set_option maxRecDepth 100000 in
theorem w_X10_meetOwnersOfTrial_2 {p : Program} {l : Launch} {e : Env} {s : State} {m : MethodId} {args : Array Value} {below : List Frame} {meth : Method} {c : Code} {A : Nat → Prop} {E : CE} {q : Mem} (X : CX p s m meth c args cX10_meetOwnersOfTrial 2 RX10 none) : ∀ (n : Nat), ∀ (σ : Mem) (x1 : Int32) , f_X10_meetOwnersOfTrial_2 n σ x1 = some q → ∀ (H : Heap) (locs : List Loc) (ls : Array Slot), WI (vC E) A s H locs σ → lv_has ls 2 [(0, .ref (ca E 0)), (1, .int x1)] → W p l e rm_X10_meetOwnersOfTrial s m args below meth c H locs 0 0 (MQ below (QV (vC E) A q) args s 0 0 A) (F0 m 2 ls []) := by
  have hx := X.1
  have hb := X.2.1
  intro n
  induction n with
  | zero =>
    intro σ x1 h
    cases h
  | succ n ih =>
    intro σ x1 h H locs ls I hl
    rw [f_X10_meetOwnersOfTrial_2] at h
    refine lv_iload_n hx hb dX10_meetOwnersOfTrial_2 rfl (lv_at hl 1 rfl) ?_
    refine lv_aload_n hx hb dX10_meetOwnersOfTrial_3 rfl (lv_at hl 0 rfl) ?_
    refine gfC_X10_32 X I (kC_0 E) (k' := 23) rfl dX10_meetOwnersOfTrial_4 ?_
    refine gfC_X10_113 X I (kC_23 E) dX10_meetOwnersOfTrial_7 ?_
    refine lv_icmp_ge (tgt := 41) hx hb dX10_meetOwnersOfTrial_10 (by decide) (fun c1 => ?_) (fun c1 => ?_)
    · have h := ite_t h c1
      exact r_vret X I (Option.some.inj h).symm dX10_meetOwnersOfTrial_41
    · have h := ite_f h c1
      refine lv_aload_n hx hb dX10_meetOwnersOfTrial_13 rfl (lv_at hl 0 rfl) ?_
      refine gfC_X10_62 X I (kC_0 E) (k' := 57) rfl dX10_meetOwnersOfTrial_14 ?_
      refine lv_iload_n hx hb dX10_meetOwnersOfTrial_17 rfl (lv_at hl 1 rfl) ?_
      refine lv_dup2_11 hx hb dX10_meetOwnersOfTrial_18 rfl rfl ?_
      obtain ⟨hin, h⟩ := gd_some h
      refine ialdC X I (kC_57 E) hin dX10_meetOwnersOfTrial_19 ?_
      refine lv_iconst (v := 1) hx hb dX10_meetOwnersOfTrial_20 (by decide) ?_
      refine lv_aload_n hx hb dX10_meetOwnersOfTrial_21 rfl (lv_at hl 0 rfl) ?_
      refine gfC_X10_58 X I (kC_0 E) (k' := 56) rfl dX10_meetOwnersOfTrial_22 ?_
      refine lv_bipush (v := 24) hx hb dX10_meetOwnersOfTrial_25 (by decide) ?_
      refine lv_iload_n hx hb dX10_meetOwnersOfTrial_27 rfl (lv_at hl 1 rfl) ?_
      refine lv_iadd hx hb dX10_meetOwnersOfTrial_28 ?_
      obtain ⟨hin, h⟩ := gd_some h
      refine ialdC X I (kC_56 E) hin dX10_meetOwnersOfTrial_29 ?_
      refine lv_iconst (v := 1) hx hb dX10_meetOwnersOfTrial_30 (by decide) ?_
      refine lv_iadd hx hb dX10_meetOwnersOfTrial_31 ?_
      refine lv_ishl hx hb dX10_meetOwnersOfTrial_32 ?_
      refine lv_ior hx hb dX10_meetOwnersOfTrial_33 ?_
      obtain ⟨hin, h⟩ := gd_some h
      refine iastC X I (kC_57 E) hin dX10_meetOwnersOfTrial_34 (fun H locs I => ?_)
      obtain ⟨σ2, eσ2, h⟩ := lt_e h
      replace I := wi_nm eσ2 I
      refine lv_iinc (v := (x1 + 1)) (lv' := [(1, .int (x1 + 1)), (0, .ref (ca E 0))]) hx hb dX10_meetOwnersOfTrial_35 hl (k := 1) rfl rfl (by decide) rfl (fun ls hl => ?_)
      refine lv_goto (tgt := 2) hx hb dX10_meetOwnersOfTrial_38 (by decide) ?_
      exact ih σ2 (x1 + 1) h H locs ls I (lv_sub hl [1, 0] rfl)
set_option maxHeartbeats 4000000 in
set_option maxRecDepth 100000 in
theorem w_X10_meetOwnersOfTrial_0 {p : Program} {l : Launch} {e : Env} {s : State} {m : MethodId} {args : Array Value} {below : List Frame} {meth : Method} {c : Code} {A : Nat → Prop} {E : CE} {q : Mem} (X : CX p s m meth c args cX10_meetOwnersOfTrial 2 RX10 none) : ∀ (σ : Mem)  , m_X10_meetOwnersOfTrial σ = some q → ∀ (H : Heap) (locs : List Loc) (ls : Array Slot), WI (vC E) A s H locs σ → lv_has ls 2 [(0, .ref (ca E 0))] → W p l e rm_X10_meetOwnersOfTrial s m args below meth c H locs 0 0 (MQ below (QV (vC E) A q) args s 0 0 A) (F0 m 0 ls []) := by
  have hx := X.1
  have hb := X.2.1
  intro σ  h H locs ls I hl
  unfold m_X10_meetOwnersOfTrial at h
  refine lv_iconst (v := 0) hx hb dX10_meetOwnersOfTrial_0 (by decide) ?_
  refine lv_istore_n (lv' := [(1, .int (0 : Int32)), (0, .ref (ca E 0))]) hx hb dX10_meetOwnersOfTrial_1 rfl hl (by decide) rfl (fun ls hl => ?_)
  exact w_X10_meetOwnersOfTrial_2 X   KF σ (0 : Int32) h H locs ls I (lv_sub hl [1, 0] rfl)
theorem c_X10_meetOwnersOfTrial {l : Launch} {E : CE} {σ : Mem} {q : Mem} (h : m_X10_meetOwnersOfTrial σ = some q) : CV l (vC E) yX10_meetOwnersOfTrial (.code yX10_meetOwnersOfTrial cX10_meetOwnersOfTrial 2 none :: GG) rm_X10_meetOwnersOfTrial [.ref (ca E 0)] σ q :=
  mk_CV (by decide +kernel) (Nat.le_of_ble_eq_true rfl) (fun p e s m args below meth c A ls X I hl => w_X10_meetOwnersOfTrial_0 X  σ  h s.heap [] ls I (lv_sub hl [0] rfl))

def rm_X10_meetOwners : Room := { frames := 7, cells := 0, slots := 0, locals := 207 }
def f_X10_meetOwners_36 (k23 : Mem → Int32 → Option (Mem)) (x1 : Int32) : Nat → Mem → Int32 → Option (Mem)
  | 0, _, _ => none
  | n + 1, σ, x2 => (if (20 : Int32) < x2 then (k23 σ (x1 + 1)) else (gd ((40 : Int32) + x1) 64 (if x2 = (σ 43 (Int32.toNatClampNeg ((40 : Int32) + x1))) then f_X10_meetOwners_36 k23 x1 n σ (x2 + 1) else ((m_X10_isAsSeen σ x1 x2).bind fun q3 => (if q3.1 = (0 : Int32) then f_X10_meetOwners_36 k23 x1 n q3.2 (x2 + 1) else ((m_X10_tryQuarterWith q3.2 ((40 : Int32) + x1) x2).bind fun q5 => ((m_X10_meetOwnersOfTrial q5).bind fun q6 => f_X10_meetOwners_36 k23 x1 n q6 (x2 + 1))))))))
def f_X10_meetOwners_23 : Nat → Mem → Int32 → Option (Mem)
  | 0, _, _ => none
  | n + 1, σ, x1 => (if (σ 23 1) ≤ x1 then (some σ) else (f_X10_meetOwners_36 (f_X10_meetOwners_23 n) x1 KF σ (0 : Int32)))
def f_X10_meetOwners_2 : Nat → Mem → Int32 → Option (Mem)
  | 0, _, _ => none
  | n + 1, σ, x1 => (if (8 : Int32) ≤ x1 then (f_X10_meetOwners_23 KF σ (0 : Int32)) else (gd x1 8 (lt (ms σ 57 (Int32.toNatClampNeg x1) ((0 : Int32))) fun σ2 => f_X10_meetOwners_2 n σ2 (x1 + 1))))
def m_X10_meetOwners (σ : Mem) : Option (Mem) := (f_X10_meetOwners_2 KF σ (0 : Int32))
set_option maxHeartbeats 4000000 in
set_option maxRecDepth 100000 in
theorem w_X10_meetOwners_36 {p : Program} {l : Launch} {e : Env} {s : State} {m : MethodId} {args : Array Value} {below : List Frame} {meth : Method} {c : Code} {A : Nat → Prop} {E : CE} {q : Mem} (X : CX p s m meth c args cX10_meetOwners 3 RX10 none) {x1 : Int32} {k23 : Mem → Int32 → Option (Mem)} (hk23 : ∀ (σ : Mem) (x1 : Int32) , k23 σ x1 = some q → ∀ (H : Heap) (locs : List Loc) (ls : Array Slot), WI (vC E) A s H locs σ → lv_has ls 3 [(0, .ref (ca E 0)), (1, .int x1)] → W p l e rm_X10_meetOwners s m args below meth c H locs 0 0 (MQ below (QV (vC E) A q) args s 0 0 A) (F0 m 23 ls [])) : ∀ (n : Nat), ∀ (σ : Mem) (x2 : Int32) , f_X10_meetOwners_36 k23 x1 n σ x2 = some q → ∀ (H : Heap) (locs : List Loc) (ls : Array Slot), WI (vC E) A s H locs σ → lv_has ls 3 [(0, .ref (ca E 0)), (1, .int x1), (2, .int x2)] → W p l e rm_X10_meetOwners s m args below meth c H locs 0 0 (MQ below (QV (vC E) A q) args s 0 0 A) (F0 m 36 ls []) := by
  have hx := X.1
  have hb := X.2.1
  intro n
  induction n with
  | zero =>
    intro σ x2 h
    cases h
  | succ n ih =>
    intro σ x2 h H locs ls I hl
    rw [f_X10_meetOwners_36] at h
    refine lv_iload_n hx hb dX10_meetOwners_36 rfl (lv_at hl 2 rfl) ?_
    refine lv_bipush (v := 20) hx hb dX10_meetOwners_37 (by decide) ?_
    refine lv_icmp_gt (tgt := 86) hx hb dX10_meetOwners_39 (by decide) (fun c1 => ?_) (fun c1 => ?_)
    · have h := ite_t h c1
      refine lv_iinc (v := (x1 + 1)) (lv' := [(1, .int (x1 + 1)), (0, .ref (ca E 0)), (2, .int x2)]) hx hb dX10_meetOwners_86 hl (k := 1) rfl rfl (by decide) rfl (fun ls hl => ?_)
      refine lv_goto (tgt := 23) hx hb dX10_meetOwners_89 (by decide) ?_
      exact hk23 σ (x1 + 1) h H locs ls I (lv_sub hl [1, 0] rfl)
    · have h := ite_f h c1
      refine lv_iload_n hx hb dX10_meetOwners_42 rfl (lv_at hl 2 rfl) ?_
      refine lv_aload_n hx hb dX10_meetOwners_43 rfl (lv_at hl 0 rfl) ?_
      refine gfC_X10_43 X I (kC_0 E) (k' := 42) rfl dX10_meetOwners_44 ?_
      refine gfC_X10_122 X I (kC_42 E) (k' := 43) rfl dX10_meetOwners_47 ?_
      refine lv_bipush (v := 40) hx hb dX10_meetOwners_50 (by decide) ?_
      refine lv_iload_n hx hb dX10_meetOwners_52 rfl (lv_at hl 1 rfl) ?_
      refine lv_iadd hx hb dX10_meetOwners_53 ?_
      obtain ⟨hin, h⟩ := gd_some h
      refine ialdC X I (kC_43 E) hin dX10_meetOwners_54 ?_
      refine lv_icmp_eq (tgt := 80) hx hb dX10_meetOwners_55 (by decide) (fun c2 => ?_) (fun c2 => ?_)
      · have h := ite_t h c2
        refine lv_iinc (v := (x2 + 1)) (lv' := [(2, .int (x2 + 1)), (0, .ref (ca E 0)), (1, .int x1)]) hx hb dX10_meetOwners_80 hl (k := 2) rfl rfl (by decide) rfl (fun ls hl => ?_)
        refine lv_goto (tgt := 36) hx hb dX10_meetOwners_83 (by decide) ?_
        exact ih σ (x2 + 1) h H locs ls I (lv_sub hl [1, 2, 0] rfl)
      · have h := ite_f h c2
        refine lv_aload_n hx hb dX10_meetOwners_58 rfl (lv_at hl 0 rfl) ?_
        refine lv_iload_n hx hb dX10_meetOwners_59 rfl (lv_at hl 1 rfl) ?_
        refine lv_iload_n hx hb dX10_meetOwners_60 rfl (lv_at hl 2 rfl) ?_
        obtain ⟨q3, hq3, h⟩ := bd h
        refine r_callVI (V := (vC E)) (k := 0) (As := [.int x1, .int x2]) (rest := []) X I hl (c_X10_isAsSeen  hq3) yv_X10_isAsSeen tw_452 ⟨rfl, rfl, Nat.le_of_ble_eq_true rfl, Nat.le_of_ble_eq_true rfl⟩ (kC_0 E).1 ((kC_0 E).2 (σ 0)) rfl rfl rfl (Nat.le_of_ble_eq_true rfl) dX10_meetOwners_61 (fun H locs I => ?_)
        refine lv_if_eq (tgt := 80) hx hb dX10_meetOwners_64 (by decide) (fun c4 => ?_) (fun c4 => ?_)
        · have h := ite_t h c4
          refine lv_iinc (v := (x2 + 1)) (lv' := [(2, .int (x2 + 1)), (0, .ref (ca E 0)), (1, .int x1)]) hx hb dX10_meetOwners_80 hl (k := 2) rfl rfl (by decide) rfl (fun ls hl => ?_)
          refine lv_goto (tgt := 36) hx hb dX10_meetOwners_83 (by decide) ?_
          exact ih q3.2 (x2 + 1) h H locs ls I (lv_sub hl [1, 2, 0] rfl)
        · have h := ite_f h c4
          refine lv_aload_n hx hb dX10_meetOwners_67 rfl (lv_at hl 0 rfl) ?_
          refine lv_bipush (v := 40) hx hb dX10_meetOwners_68 (by decide) ?_
          refine lv_iload_n hx hb dX10_meetOwners_70 rfl (lv_at hl 1 rfl) ?_
          refine lv_iadd hx hb dX10_meetOwners_71 ?_
          refine lv_iload_n hx hb dX10_meetOwners_72 rfl (lv_at hl 2 rfl) ?_
          obtain ⟨q5, hq5, h⟩ := bd h
          refine r_callVV (V := (vC E)) (k := 0) (As := [.int ((40 : Int32) + x1), .int x2]) (rest := []) X I hl (c_X10_tryQuarterWith  hq5) yv_X10_tryQuarterWith tw_457 ⟨rfl, rfl, Nat.le_of_ble_eq_true rfl, Nat.le_of_ble_eq_true rfl⟩ (kC_0 E).1 ((kC_0 E).2 (q3.2 0)) rfl rfl rfl (Nat.le_of_ble_eq_true rfl) dX10_meetOwners_73 (fun H locs I => ?_)
          refine lv_aload_n hx hb dX10_meetOwners_76 rfl (lv_at hl 0 rfl) ?_
          obtain ⟨q6, hq6, h⟩ := bd h
          refine r_callVV (V := (vC E)) (k := 0) (As := []) (rest := []) X I hl (c_X10_meetOwnersOfTrial  hq6) yv_X10_meetOwnersOfTrial tw_462 ⟨rfl, rfl, Nat.le_of_ble_eq_true rfl, Nat.le_of_ble_eq_true rfl⟩ (kC_0 E).1 ((kC_0 E).2 (q5 0)) rfl rfl rfl (Nat.le_of_ble_eq_true rfl) dX10_meetOwners_77 (fun H locs I => ?_)
          refine lv_iinc (v := (x2 + 1)) (lv' := [(2, .int (x2 + 1)), (0, .ref (ca E 0)), (1, .int x1)]) hx hb dX10_meetOwners_80 hl (k := 2) rfl rfl (by decide) rfl (fun ls hl => ?_)
          refine lv_goto (tgt := 36) hx hb dX10_meetOwners_83 (by decide) ?_
          exact ih q6 (x2 + 1) h H locs ls I (lv_sub hl [1, 2, 0] rfl)
set_option maxHeartbeats 4000000 in
set_option maxRecDepth 100000 in
theorem w_X10_meetOwners_23 {p : Program} {l : Launch} {e : Env} {s : State} {m : MethodId} {args : Array Value} {below : List Frame} {meth : Method} {c : Code} {A : Nat → Prop} {E : CE} {q : Mem} (X : CX p s m meth c args cX10_meetOwners 3 RX10 none) : ∀ (n : Nat), ∀ (σ : Mem) (x1 : Int32) , f_X10_meetOwners_23 n σ x1 = some q → ∀ (H : Heap) (locs : List Loc) (ls : Array Slot), WI (vC E) A s H locs σ → lv_has ls 3 [(0, .ref (ca E 0)), (1, .int x1)] → W p l e rm_X10_meetOwners s m args below meth c H locs 0 0 (MQ below (QV (vC E) A q) args s 0 0 A) (F0 m 23 ls []) := by
  have hx := X.1
  have hb := X.2.1
  intro n
  induction n with
  | zero =>
    intro σ x1 h
    cases h
  | succ n ih =>
    intro σ x1 h H locs ls I hl
    rw [f_X10_meetOwners_23] at h
    refine lv_iload_n hx hb dX10_meetOwners_23 rfl (lv_at hl 1 rfl) ?_
    refine lv_aload_n hx hb dX10_meetOwners_24 rfl (lv_at hl 0 rfl) ?_
    refine gfC_X10_32 X I (kC_0 E) (k' := 23) rfl dX10_meetOwners_25 ?_
    refine gfC_X10_116 X I (kC_23 E) dX10_meetOwners_28 ?_
    refine lv_icmp_ge (tgt := 92) hx hb dX10_meetOwners_31 (by decide) (fun c1 => ?_) (fun c1 => ?_)
    · have h := ite_t h c1
      exact r_vret X I (Option.some.inj h).symm dX10_meetOwners_92
    · have h := ite_f h c1
      refine lv_iconst (v := 0) hx hb dX10_meetOwners_34 (by decide) ?_
      refine lv_istore_n (lv' := [(2, .int (0 : Int32)), (0, .ref (ca E 0)), (1, .int x1)]) hx hb dX10_meetOwners_35 rfl hl (by decide) rfl (fun ls hl => ?_)
      exact w_X10_meetOwners_36 X  (fun σ a1 h H locs ls I hl => ih σ a1 h H locs ls I hl) KF σ (0 : Int32) h H locs ls I (lv_sub hl [1, 2, 0] rfl)
set_option maxHeartbeats 4000000 in
set_option maxRecDepth 100000 in
theorem w_X10_meetOwners_2 {p : Program} {l : Launch} {e : Env} {s : State} {m : MethodId} {args : Array Value} {below : List Frame} {meth : Method} {c : Code} {A : Nat → Prop} {E : CE} {q : Mem} (X : CX p s m meth c args cX10_meetOwners 3 RX10 none) : ∀ (n : Nat), ∀ (σ : Mem) (x1 : Int32) , f_X10_meetOwners_2 n σ x1 = some q → ∀ (H : Heap) (locs : List Loc) (ls : Array Slot), WI (vC E) A s H locs σ → lv_has ls 3 [(0, .ref (ca E 0)), (1, .int x1)] → W p l e rm_X10_meetOwners s m args below meth c H locs 0 0 (MQ below (QV (vC E) A q) args s 0 0 A) (F0 m 2 ls []) := by
  have hx := X.1
  have hb := X.2.1
  intro n
  induction n with
  | zero =>
    intro σ x1 h
    cases h
  | succ n ih =>
    intro σ x1 h H locs ls I hl
    rw [f_X10_meetOwners_2] at h
    refine lv_iload_n hx hb dX10_meetOwners_2 rfl (lv_at hl 1 rfl) ?_
    refine lv_bipush (v := 8) hx hb dX10_meetOwners_3 (by decide) ?_
    refine lv_icmp_ge (tgt := 21) hx hb dX10_meetOwners_5 (by decide) (fun c1 => ?_) (fun c1 => ?_)
    · have h := ite_t h c1
      refine lv_iconst (v := 0) hx hb dX10_meetOwners_21 (by decide) ?_
      refine lv_istore_n (lv' := [(1, .int (0 : Int32)), (0, .ref (ca E 0))]) hx hb dX10_meetOwners_22 rfl hl (by decide) rfl (fun ls hl => ?_)
      exact w_X10_meetOwners_23 X   KF σ (0 : Int32) h H locs ls I (lv_sub hl [1, 0] rfl)
    · have h := ite_f h c1
      refine lv_aload_n hx hb dX10_meetOwners_8 rfl (lv_at hl 0 rfl) ?_
      refine gfC_X10_62 X I (kC_0 E) (k' := 57) rfl dX10_meetOwners_9 ?_
      refine lv_iload_n hx hb dX10_meetOwners_12 rfl (lv_at hl 1 rfl) ?_
      refine lv_iconst (v := 0) hx hb dX10_meetOwners_13 (by decide) ?_
      obtain ⟨hin, h⟩ := gd_some h
      refine iastC X I (kC_57 E) hin dX10_meetOwners_14 (fun H locs I => ?_)
      obtain ⟨σ2, eσ2, h⟩ := lt_e h
      replace I := wi_nm eσ2 I
      refine lv_iinc (v := (x1 + 1)) (lv' := [(1, .int (x1 + 1)), (0, .ref (ca E 0))]) hx hb dX10_meetOwners_15 hl (k := 1) rfl rfl (by decide) rfl (fun ls hl => ?_)
      refine lv_goto (tgt := 2) hx hb dX10_meetOwners_18 (by decide) ?_
      exact ih σ2 (x1 + 1) h H locs ls I (lv_sub hl [1, 0] rfl)
set_option maxHeartbeats 4000000 in
set_option maxRecDepth 100000 in
theorem w_X10_meetOwners_0 {p : Program} {l : Launch} {e : Env} {s : State} {m : MethodId} {args : Array Value} {below : List Frame} {meth : Method} {c : Code} {A : Nat → Prop} {E : CE} {q : Mem} (X : CX p s m meth c args cX10_meetOwners 3 RX10 none) : ∀ (σ : Mem)  , m_X10_meetOwners σ = some q → ∀ (H : Heap) (locs : List Loc) (ls : Array Slot), WI (vC E) A s H locs σ → lv_has ls 3 [(0, .ref (ca E 0))] → W p l e rm_X10_meetOwners s m args below meth c H locs 0 0 (MQ below (QV (vC E) A q) args s 0 0 A) (F0 m 0 ls []) := by
  have hx := X.1
  have hb := X.2.1
  intro σ  h H locs ls I hl
  unfold m_X10_meetOwners at h
  refine lv_iconst (v := 0) hx hb dX10_meetOwners_0 (by decide) ?_
  refine lv_istore_n (lv' := [(1, .int (0 : Int32)), (0, .ref (ca E 0))]) hx hb dX10_meetOwners_1 rfl hl (by decide) rfl (fun ls hl => ?_)
  exact w_X10_meetOwners_2 X   KF σ (0 : Int32) h H locs ls I (lv_sub hl [1, 0] rfl)
theorem c_X10_meetOwners {l : Launch} {E : CE} {σ : Mem} {q : Mem} (h : m_X10_meetOwners σ = some q) : CV l (vC E) yX10_meetOwners (.code yX10_meetOwners cX10_meetOwners 3 none :: GG) rm_X10_meetOwners [.ref (ca E 0)] σ q :=
  mk_CV (by decide +kernel) (Nat.le_of_ble_eq_true rfl) (fun p e s m args below meth c A ls X I hl => w_X10_meetOwners_0 X  σ  h s.heap [] ls I (lv_sub hl [0] rfl))

def rm_X10_choose : Room := { frames := 2, cells := 0, slots := 0, locals := 85 }
def m_X10_choose (σ : Mem) (x1 : Int32) (x2 : Int32) : Option (Mem) := (if x2 = (0 : Int32) then (gd ((40 : Int32) + x1) 64 (gd ((40 : Int32) + x1) 64 (lt (ms σ 56 (Int32.toNatClampNeg ((40 : Int32) + x1)) ((imin (20 : Int32) ((σ 56 (Int32.toNatClampNeg ((40 : Int32) + x1))) + (3 : Int32))))) fun σ3 => (some σ3)))) else (gd ((47 : Int32) + x1) 64 (gd ((47 : Int32) + x1) 64 (lt (ms σ 56 (Int32.toNatClampNeg ((47 : Int32) + x1)) ((imax (0 : Int32) ((σ 56 (Int32.toNatClampNeg ((47 : Int32) + x1))) - (1 : Int32))))) fun σ2 => (some σ2)))))
set_option maxHeartbeats 4000000 in
set_option maxRecDepth 100000 in
theorem w_X10_choose_0 {p : Program} {l : Launch} {e : Env} {s : State} {m : MethodId} {args : Array Value} {below : List Frame} {meth : Method} {c : Code} {A : Nat → Prop} {E : CE} {q : Mem} (X : CX p s m meth c args cX10_choose 3 RX10 none) : ∀ (σ : Mem) (x1 : Int32) (x2 : Int32) , m_X10_choose σ x1 x2 = some q → ∀ (H : Heap) (locs : List Loc) (ls : Array Slot), WI (vC E) A s H locs σ → lv_has ls 3 [(0, .ref (ca E 0)), (1, .int x1), (2, .int x2)] → W p l e rm_X10_choose s m args below meth c H locs 0 0 (MQ below (QV (vC E) A q) args s 0 0 A) (F0 m 0 ls []) := by
  have hx := X.1
  have hb := X.2.1
  intro σ x1 x2 h H locs ls I hl
  unfold m_X10_choose at h
  refine lv_iload_n hx hb dX10_choose_0 rfl (lv_at hl 2 rfl) ?_
  refine lv_if_ne (tgt := 32) hx hb dX10_choose_1 (by decide) (fun c1 => ?_) (fun c1 => ?_)
  · have h := ite_f h c1
    refine lv_aload_n hx hb dX10_choose_32 rfl (lv_at hl 0 rfl) ?_
    refine gfC_X10_58 X I (kC_0 E) (k' := 56) rfl dX10_choose_33 ?_
    refine lv_bipush (v := 47) hx hb dX10_choose_36 (by decide) ?_
    refine lv_iload_n hx hb dX10_choose_38 rfl (lv_at hl 1 rfl) ?_
    refine lv_iadd hx hb dX10_choose_39 ?_
    refine lv_iconst (v := 0) hx hb dX10_choose_40 (by decide) ?_
    refine lv_aload_n hx hb dX10_choose_41 rfl (lv_at hl 0 rfl) ?_
    refine gfC_X10_58 X I (kC_0 E) (k' := 56) rfl dX10_choose_42 ?_
    refine lv_bipush (v := 47) hx hb dX10_choose_45 (by decide) ?_
    refine lv_iload_n hx hb dX10_choose_47 rfl (lv_at hl 1 rfl) ?_
    refine lv_iadd hx hb dX10_choose_48 ?_
    obtain ⟨hin, h⟩ := gd_some h
    refine ialdC X I (kC_56 E) hin dX10_choose_49 ?_
    refine lv_iconst (v := 1) hx hb dX10_choose_50 (by decide) ?_
    refine lv_isub hx hb dX10_choose_51 ?_
    refine r_max X hl tw_467 ⟨Nat.le_of_ble_eq_true rfl, Nat.le_of_ble_eq_true rfl⟩ dX10_choose_52 ?_
    obtain ⟨hin, h⟩ := gd_some h
    refine iastC X I (kC_56 E) hin dX10_choose_55 (fun H locs I => ?_)
    obtain ⟨σ2, eσ2, h⟩ := lt_e h
    replace I := wi_nm eσ2 I
    exact r_vret X I (Option.some.inj h).symm dX10_choose_56
  · have h := ite_t h c1
    refine lv_aload_n hx hb dX10_choose_4 rfl (lv_at hl 0 rfl) ?_
    refine gfC_X10_58 X I (kC_0 E) (k' := 56) rfl dX10_choose_5 ?_
    refine lv_bipush (v := 40) hx hb dX10_choose_8 (by decide) ?_
    refine lv_iload_n hx hb dX10_choose_10 rfl (lv_at hl 1 rfl) ?_
    refine lv_iadd hx hb dX10_choose_11 ?_
    refine lv_bipush (v := 20) hx hb dX10_choose_12 (by decide) ?_
    refine lv_aload_n hx hb dX10_choose_14 rfl (lv_at hl 0 rfl) ?_
    refine gfC_X10_58 X I (kC_0 E) (k' := 56) rfl dX10_choose_15 ?_
    refine lv_bipush (v := 40) hx hb dX10_choose_18 (by decide) ?_
    refine lv_iload_n hx hb dX10_choose_20 rfl (lv_at hl 1 rfl) ?_
    refine lv_iadd hx hb dX10_choose_21 ?_
    obtain ⟨hin, h⟩ := gd_some h
    refine ialdC X I (kC_56 E) hin dX10_choose_22 ?_
    refine lv_iconst (v := 3) hx hb dX10_choose_23 (by decide) ?_
    refine lv_iadd hx hb dX10_choose_24 ?_
    refine r_min X hl tw_468 ⟨Nat.le_of_ble_eq_true rfl, Nat.le_of_ble_eq_true rfl⟩ dX10_choose_25 ?_
    obtain ⟨hin, h⟩ := gd_some h
    refine iastC X I (kC_56 E) hin dX10_choose_28 (fun H locs I => ?_)
    obtain ⟨σ3, eσ3, h⟩ := lt_e h
    replace I := wi_nm eσ3 I
    refine lv_goto (tgt := 56) hx hb dX10_choose_29 (by decide) ?_
    exact r_vret X I (Option.some.inj h).symm dX10_choose_56
theorem c_X10_choose {l : Launch} {E : CE} {σ : Mem} {x1 : Int32} {x2 : Int32} {q : Mem} (h : m_X10_choose σ x1 x2 = some q) : CV l (vC E) yX10_choose (.code yX10_choose cX10_choose 3 none :: GG) rm_X10_choose [.ref (ca E 0), .int x1, .int x2] σ q :=
  mk_CV (by decide +kernel) (Nat.le_of_ble_eq_true rfl) (fun p e s m args below meth c A ls X I hl => w_X10_choose_0 X  σ x1 x2 h s.heap [] ls I (lv_sub hl [0, 1, 2] rfl))

def rm_X10_gainOf : Room := { frames := 2, cells := 0, slots := 0, locals := 88 }
def m_X10_gainOf (σ : Mem) (x1 : Int32) (x2 : Int32) : Option (Int32) := ((m_X8_rentOf 56 σ x1).bind fun q1 => (if x2 = (0 : Int32) then (some (q1 - (6 : Int32))) else (some q1)))
set_option maxHeartbeats 4000000 in
set_option maxRecDepth 100000 in
theorem w_X10_gainOf_0 {p : Program} {l : Launch} {e : Env} {s : State} {m : MethodId} {args : Array Value} {below : List Frame} {meth : Method} {c : Code} {A : Nat → Prop} {E : CE} {q : Int32} (X : CX p s m meth c args cX10_gainOf 4 RX10 (some .int)) : ∀ (σ : Mem) (x1 : Int32) (x2 : Int32) , m_X10_gainOf σ x1 x2 = some q → ∀ (H : Heap) (locs : List Loc) (ls : Array Slot), WI (vC E) A s H locs σ → lv_has ls 4 [(0, .ref (ca E 0)), (1, .int x1), (2, .int x2)] → W p l e rm_X10_gainOf s m args below meth c H locs 0 0 (MQ below (QI (vC E) A (q, σ)) args s 0 0 A) (F0 m 0 ls []) := by
  have hx := X.1
  have hb := X.2.1
  intro σ x1 x2 h H locs ls I hl
  unfold m_X10_gainOf at h
  refine lv_aload_n hx hb dX10_gainOf_0 rfl (lv_at hl 0 rfl) ?_
  refine gfC_X10_24 X I (kC_0 E) (k' := 22) rfl dX10_gainOf_1 ?_
  refine lv_aload_n hx hb dX10_gainOf_4 rfl (lv_at hl 0 rfl) ?_
  refine gfC_X10_58 X I (kC_0 E) (k' := 56) rfl dX10_gainOf_5 ?_
  refine lv_iload_n hx hb dX10_gainOf_8 rfl (lv_at hl 1 rfl) ?_
  obtain ⟨q1, hq1, h⟩ := bd h
  refine r_callVI (V := (vC E)) (k := 22) (As := [.ref (ca E 56), .int x1]) (rest := []) X I hl (c_X8_rentOf (kC_56 E) hq1) yv_X8_rentOf tw_469 ⟨rfl, rfl, Nat.le_of_ble_eq_true rfl, Nat.le_of_ble_eq_true rfl⟩ (kC_22 E).1 ((kC_22 E).2 (σ 22)) rfl rfl rfl (Nat.le_of_ble_eq_true rfl) dX10_gainOf_9 (fun H locs I => ?_)
  refine lv_istore_n (lv' := [(3, .int q1), (0, .ref (ca E 0)), (1, .int x1), (2, .int x2)]) hx hb dX10_gainOf_12 rfl hl (by decide) rfl (fun ls hl => ?_)
  refine lv_iload_n hx hb dX10_gainOf_13 rfl (lv_at hl 3 rfl) ?_
  refine lv_if_ne (tgt := 24) hx hb dX10_gainOf_14 (by decide) (fun c2 => ?_) (fun c2 => ?_)
  · have h := ite_f h c2
    refine lv_iload_n hx hb dX10_gainOf_24 rfl (lv_at hl 0 rfl) ?_
    exact r_iret X I (congrArg (fun z => (z, σ)) (Option.some.inj h).symm) dX10_gainOf_25
  · have h := ite_t h c2
    refine lv_iload_n hx hb dX10_gainOf_17 rfl (lv_at hl 0 rfl) ?_
    refine lv_bipush (v := 6) hx hb dX10_gainOf_18 (by decide) ?_
    refine lv_isub hx hb dX10_gainOf_20 ?_
    refine lv_goto (tgt := 25) hx hb dX10_gainOf_21 (by decide) ?_
    exact r_iret X I (congrArg (fun z => (z, σ)) (Option.some.inj h).symm) dX10_gainOf_25
theorem c_X10_gainOf {l : Launch} {E : CE} {σ : Mem} {x1 : Int32} {x2 : Int32} {q : Int32} (h : m_X10_gainOf σ x1 x2 = some q) : CI l (vC E) yX10_gainOf (.code yX10_gainOf cX10_gainOf 4 (some .int) :: GG) rm_X10_gainOf [.ref (ca E 0), .int x1, .int x2] σ (q, σ) :=
  mk_CI (by decide +kernel) (Nat.le_of_ble_eq_true rfl) (fun p e s m args below meth c A ls X I hl => w_X10_gainOf_0 X  σ x1 x2 h s.heap [] ls I (lv_sub hl [0, 1, 2] rfl))

def rm_X10_playCouple : Room := { frames := 6, cells := 0, slots := 0, locals := 183 }
def m_X10_playCouple (σ : Mem) (x1 : Int32) (x2 : Int32) (x3 : Int32) : Option (Mem) := ((m_X10_copyToTrial σ).bind fun q1 => ((m_X10_choose q1 x1 (x3 >>> ((1 : Int32) &&& 31))).bind fun q2 => ((m_X10_choose q2 x2 (x3 &&& (1 : Int32))).bind fun q3 => ((m_X8_passQuarter 56 q3).bind fun q4 => ((m_X10_gainOf q4 x1 (x3 >>> ((1 : Int32) &&& 31))).bind fun q5 => (gd x3 8 (lt (ms q4 58 (Int32.toNatClampNeg x3) (q5)) fun σ6 => ((m_X10_gainOf σ6 x2 (x3 &&& (1 : Int32))).bind fun q7 => (gd ((4 : Int32) + x3) 8 (lt (ms σ6 58 (Int32.toNatClampNeg ((4 : Int32) + x3)) (q7)) fun σ8 => (some σ8)))))))))))
set_option maxHeartbeats 4000000 in
set_option maxRecDepth 100000 in
theorem w_X10_playCouple_0 {p : Program} {l : Launch} {e : Env} {s : State} {m : MethodId} {args : Array Value} {below : List Frame} {meth : Method} {c : Code} {A : Nat → Prop} {E : CE} {q : Mem} (X : CX p s m meth c args cX10_playCouple 4 RX10 none) : ∀ (σ : Mem) (x1 : Int32) (x2 : Int32) (x3 : Int32) , m_X10_playCouple σ x1 x2 x3 = some q → ∀ (H : Heap) (locs : List Loc) (ls : Array Slot), WI (vC E) A s H locs σ → lv_has ls 4 [(0, .ref (ca E 0)), (1, .int x1), (2, .int x2), (3, .int x3)] → W p l e rm_X10_playCouple s m args below meth c H locs 0 0 (MQ below (QV (vC E) A q) args s 0 0 A) (F0 m 0 ls []) := by
  have hx := X.1
  have hb := X.2.1
  intro σ x1 x2 x3 h H locs ls I hl
  unfold m_X10_playCouple at h
  refine lv_aload_n hx hb dX10_playCouple_0 rfl (lv_at hl 0 rfl) ?_
  obtain ⟨q1, hq1, h⟩ := bd h
  refine r_callVV (V := (vC E)) (k := 0) (As := []) (rest := []) X I hl (c_X10_copyToTrial  hq1) yv_X10_copyToTrial tw_425 ⟨rfl, rfl, Nat.le_of_ble_eq_true rfl, Nat.le_of_ble_eq_true rfl⟩ (kC_0 E).1 ((kC_0 E).2 (σ 0)) rfl rfl rfl (Nat.le_of_ble_eq_true rfl) dX10_playCouple_1 (fun H locs I => ?_)
  refine lv_aload_n hx hb dX10_playCouple_4 rfl (lv_at hl 0 rfl) ?_
  refine lv_iload_n hx hb dX10_playCouple_5 rfl (lv_at hl 1 rfl) ?_
  refine lv_iload_n hx hb dX10_playCouple_6 rfl (lv_at hl 3 rfl) ?_
  refine lv_iconst (v := 1) hx hb dX10_playCouple_7 (by decide) ?_
  refine lv_ishr hx hb dX10_playCouple_8 ?_
  obtain ⟨q2, hq2, h⟩ := bd h
  refine r_callVV (V := (vC E)) (k := 0) (As := [.int x1, .int (x3 >>> ((1 : Int32) &&& 31))]) (rest := []) X I hl (c_X10_choose  hq2) yv_X10_choose tw_470 ⟨rfl, rfl, Nat.le_of_ble_eq_true rfl, Nat.le_of_ble_eq_true rfl⟩ (kC_0 E).1 ((kC_0 E).2 (q1 0)) rfl rfl rfl (Nat.le_of_ble_eq_true rfl) dX10_playCouple_9 (fun H locs I => ?_)
  refine lv_aload_n hx hb dX10_playCouple_12 rfl (lv_at hl 0 rfl) ?_
  refine lv_iload_n hx hb dX10_playCouple_13 rfl (lv_at hl 2 rfl) ?_
  refine lv_iload_n hx hb dX10_playCouple_14 rfl (lv_at hl 3 rfl) ?_
  refine lv_iconst (v := 1) hx hb dX10_playCouple_15 (by decide) ?_
  refine lv_iand hx hb dX10_playCouple_16 ?_
  obtain ⟨q3, hq3, h⟩ := bd h
  refine r_callVV (V := (vC E)) (k := 0) (As := [.int x2, .int (x3 &&& (1 : Int32))]) (rest := []) X I hl (c_X10_choose  hq3) yv_X10_choose tw_470 ⟨rfl, rfl, Nat.le_of_ble_eq_true rfl, Nat.le_of_ble_eq_true rfl⟩ (kC_0 E).1 ((kC_0 E).2 (q2 0)) rfl rfl rfl (Nat.le_of_ble_eq_true rfl) dX10_playCouple_17 (fun H locs I => ?_)
  refine lv_aload_n hx hb dX10_playCouple_20 rfl (lv_at hl 0 rfl) ?_
  refine gfC_X10_24 X I (kC_0 E) (k' := 22) rfl dX10_playCouple_21 ?_
  refine lv_aload_n hx hb dX10_playCouple_24 rfl (lv_at hl 0 rfl) ?_
  refine gfC_X10_58 X I (kC_0 E) (k' := 56) rfl dX10_playCouple_25 ?_
  obtain ⟨q4, hq4, h⟩ := bd h
  refine r_callVV (V := (vC E)) (k := 22) (As := [.ref (ca E 56)]) (rest := []) X I hl (c_X8_passQuarter (kC_56 E) hq4) yv_X8_passQuarter tw_436 ⟨rfl, rfl, Nat.le_of_ble_eq_true rfl, Nat.le_of_ble_eq_true rfl⟩ (kC_22 E).1 ((kC_22 E).2 (q3 22)) rfl rfl rfl (Nat.le_of_ble_eq_true rfl) dX10_playCouple_28 (fun H locs I => ?_)
  refine lv_aload_n hx hb dX10_playCouple_31 rfl (lv_at hl 0 rfl) ?_
  refine gfC_X10_65 X I (kC_0 E) (k' := 58) rfl dX10_playCouple_32 ?_
  refine lv_iload_n hx hb dX10_playCouple_35 rfl (lv_at hl 3 rfl) ?_
  refine lv_aload_n hx hb dX10_playCouple_36 rfl (lv_at hl 0 rfl) ?_
  refine lv_iload_n hx hb dX10_playCouple_37 rfl (lv_at hl 1 rfl) ?_
  refine lv_iload_n hx hb dX10_playCouple_38 rfl (lv_at hl 3 rfl) ?_
  refine lv_iconst (v := 1) hx hb dX10_playCouple_39 (by decide) ?_
  refine lv_ishr hx hb dX10_playCouple_40 ?_
  obtain ⟨q5, hq5, h⟩ := bd h
  refine r_callVI (V := (vC E)) (k := 0) (As := [.int x1, .int (x3 >>> ((1 : Int32) &&& 31))]) (rest := [.int x3, .ref (ca E 58)]) X I hl (c_X10_gainOf  hq5) yv_X10_gainOf tw_476 ⟨rfl, rfl, Nat.le_of_ble_eq_true rfl, Nat.le_of_ble_eq_true rfl⟩ (kC_0 E).1 ((kC_0 E).2 (q4 0)) rfl rfl rfl (Nat.le_of_ble_eq_true rfl) dX10_playCouple_41 (fun H locs I => ?_)
  obtain ⟨hin, h⟩ := gd_some h
  refine iastC X I (kC_58 E) hin dX10_playCouple_44 (fun H locs I => ?_)
  obtain ⟨σ6, eσ6, h⟩ := lt_e h
  replace I := wi_nm eσ6 I
  refine lv_aload_n hx hb dX10_playCouple_45 rfl (lv_at hl 0 rfl) ?_
  refine gfC_X10_65 X I (kC_0 E) (k' := 58) rfl dX10_playCouple_46 ?_
  refine lv_iconst (v := 4) hx hb dX10_playCouple_49 (by decide) ?_
  refine lv_iload_n hx hb dX10_playCouple_50 rfl (lv_at hl 3 rfl) ?_
  refine lv_iadd hx hb dX10_playCouple_51 ?_
  refine lv_aload_n hx hb dX10_playCouple_52 rfl (lv_at hl 0 rfl) ?_
  refine lv_iload_n hx hb dX10_playCouple_53 rfl (lv_at hl 2 rfl) ?_
  refine lv_iload_n hx hb dX10_playCouple_54 rfl (lv_at hl 3 rfl) ?_
  refine lv_iconst (v := 1) hx hb dX10_playCouple_55 (by decide) ?_
  refine lv_iand hx hb dX10_playCouple_56 ?_
  obtain ⟨q7, hq7, h⟩ := bd h
  refine r_callVI (V := (vC E)) (k := 0) (As := [.int x2, .int (x3 &&& (1 : Int32))]) (rest := [.int ((4 : Int32) + x3), .ref (ca E 58)]) X I hl (c_X10_gainOf  hq7) yv_X10_gainOf tw_476 ⟨rfl, rfl, Nat.le_of_ble_eq_true rfl, Nat.le_of_ble_eq_true rfl⟩ (kC_0 E).1 ((kC_0 E).2 (σ6 0)) rfl rfl rfl (Nat.le_of_ble_eq_true rfl) dX10_playCouple_57 (fun H locs I => ?_)
  obtain ⟨hin, h⟩ := gd_some h
  refine iastC X I (kC_58 E) hin dX10_playCouple_60 (fun H locs I => ?_)
  obtain ⟨σ8, eσ8, h⟩ := lt_e h
  replace I := wi_nm eσ8 I
  exact r_vret X I (Option.some.inj h).symm dX10_playCouple_61
theorem c_X10_playCouple {l : Launch} {E : CE} {σ : Mem} {x1 : Int32} {x2 : Int32} {x3 : Int32} {q : Mem} (h : m_X10_playCouple σ x1 x2 x3 = some q) : CV l (vC E) yX10_playCouple (.code yX10_playCouple cX10_playCouple 4 none :: GG) rm_X10_playCouple [.ref (ca E 0), .int x1, .int x2, .int x3] σ q :=
  mk_CV (by decide +kernel) (Nat.le_of_ble_eq_true rfl) (fun p e s m args below meth c A ls X I hl => w_X10_playCouple_0 X  σ x1 x2 x3 h s.heap [] ls I (lv_sub hl [0, 1, 2, 3] rfl))

def rm_X10_feed : Room := { frames := 2, cells := 0, slots := 0, locals := 86 }
def m_X10_feed (σ : Mem) (x1 : Int32) (x2 : Int32) (x3 : Int32) (x4 : Int32) (x5 : Int32) : Option (Int32 × Mem) := (if (σ 3 1) ≤ (680 : Int32) then ((m_X9_add σ x1).bind fun q2 => ((m_X9_add q2 x2).bind fun q3 => ((m_X9_add q3 x3).bind fun q4 => ((m_X9_add q4 x4).bind fun q5 => ((m_X9_add q5 x5).bind fun q6 => (some ((q6 3 1), q6))))))) else (some ((-1 : Int32), σ)))
set_option maxHeartbeats 4000000 in
set_option maxRecDepth 100000 in
theorem w_X10_feed_0 {p : Program} {l : Launch} {e : Env} {s : State} {m : MethodId} {args : Array Value} {below : List Frame} {meth : Method} {c : Code} {A : Nat → Prop} {E : CE} {q : Int32 × Mem} (X : CX p s m meth c args cX10_feed 6 RX10 (some .int)) : ∀ (σ : Mem) (x1 : Int32) (x2 : Int32) (x3 : Int32) (x4 : Int32) (x5 : Int32) , m_X10_feed σ x1 x2 x3 x4 x5 = some q → ∀ (H : Heap) (locs : List Loc) (ls : Array Slot), WI (vC E) A s H locs σ → lv_has ls 6 [(0, .ref (ca E 0)), (1, .int x1), (2, .int x2), (3, .int x3), (4, .int x4), (5, .int x5)] → W p l e rm_X10_feed s m args below meth c H locs 0 0 (MQ below (QI (vC E) A q) args s 0 0 A) (F0 m 0 ls []) := by
  have hx := X.1
  have hb := X.2.1
  intro σ x1 x2 x3 x4 x5 h H locs ls I hl
  unfold m_X10_feed at h
  refine lv_aload_n hx hb dX10_feed_0 rfl (lv_at hl 0 rfl) ?_
  refine gfC_X10_20 X I (kC_0 E) (k' := 3) rfl dX10_feed_1 ?_
  refine gfC_X10_80 X I (kC_3 E) dX10_feed_4 ?_
  refine lv_sipush (v := 680) hx hb dX10_feed_7 (by decide) ?_
  refine lv_icmp_le (tgt := 15) hx hb dX10_feed_10 (by decide) (fun c1 => ?_) (fun c1 => ?_)
  · have h := ite_t h c1
    refine lv_aload_n hx hb dX10_feed_15 rfl (lv_at hl 0 rfl) ?_
    refine gfC_X10_20 X I (kC_0 E) (k' := 3) rfl dX10_feed_16 ?_
    refine lv_iload_n hx hb dX10_feed_19 rfl (lv_at hl 1 rfl) ?_
    obtain ⟨q2, hq2, h⟩ := bd h
    refine r_callVV (V := (vC E)) (k := 3) (As := [.int x1]) (rest := []) X I hl (c_X9_add  hq2) yv_X9_add tw_483 ⟨rfl, rfl, Nat.le_of_ble_eq_true rfl, Nat.le_of_ble_eq_true rfl⟩ (kC_3 E).1 ((kC_3 E).2 (σ 3)) rfl rfl rfl (Nat.le_of_ble_eq_true rfl) dX10_feed_20 (fun H locs I => ?_)
    refine lv_aload_n hx hb dX10_feed_23 rfl (lv_at hl 0 rfl) ?_
    refine gfC_X10_20 X I (kC_0 E) (k' := 3) rfl dX10_feed_24 ?_
    refine lv_iload_n hx hb dX10_feed_27 rfl (lv_at hl 2 rfl) ?_
    obtain ⟨q3, hq3, h⟩ := bd h
    refine r_callVV (V := (vC E)) (k := 3) (As := [.int x2]) (rest := []) X I hl (c_X9_add  hq3) yv_X9_add tw_483 ⟨rfl, rfl, Nat.le_of_ble_eq_true rfl, Nat.le_of_ble_eq_true rfl⟩ (kC_3 E).1 ((kC_3 E).2 (q2 3)) rfl rfl rfl (Nat.le_of_ble_eq_true rfl) dX10_feed_28 (fun H locs I => ?_)
    refine lv_aload_n hx hb dX10_feed_31 rfl (lv_at hl 0 rfl) ?_
    refine gfC_X10_20 X I (kC_0 E) (k' := 3) rfl dX10_feed_32 ?_
    refine lv_iload_n hx hb dX10_feed_35 rfl (lv_at hl 3 rfl) ?_
    obtain ⟨q4, hq4, h⟩ := bd h
    refine r_callVV (V := (vC E)) (k := 3) (As := [.int x3]) (rest := []) X I hl (c_X9_add  hq4) yv_X9_add tw_483 ⟨rfl, rfl, Nat.le_of_ble_eq_true rfl, Nat.le_of_ble_eq_true rfl⟩ (kC_3 E).1 ((kC_3 E).2 (q3 3)) rfl rfl rfl (Nat.le_of_ble_eq_true rfl) dX10_feed_36 (fun H locs I => ?_)
    refine lv_aload_n hx hb dX10_feed_39 rfl (lv_at hl 0 rfl) ?_
    refine gfC_X10_20 X I (kC_0 E) (k' := 3) rfl dX10_feed_40 ?_
    refine lv_iload hx hb dX10_feed_43 (lv_at hl 4 rfl) ?_
    obtain ⟨q5, hq5, h⟩ := bd h
    refine r_callVV (V := (vC E)) (k := 3) (As := [.int x4]) (rest := []) X I hl (c_X9_add  hq5) yv_X9_add tw_483 ⟨rfl, rfl, Nat.le_of_ble_eq_true rfl, Nat.le_of_ble_eq_true rfl⟩ (kC_3 E).1 ((kC_3 E).2 (q4 3)) rfl rfl rfl (Nat.le_of_ble_eq_true rfl) dX10_feed_45 (fun H locs I => ?_)
    refine lv_aload_n hx hb dX10_feed_48 rfl (lv_at hl 0 rfl) ?_
    refine gfC_X10_20 X I (kC_0 E) (k' := 3) rfl dX10_feed_49 ?_
    refine lv_iload hx hb dX10_feed_52 (lv_at hl 5 rfl) ?_
    obtain ⟨q6, hq6, h⟩ := bd h
    refine r_callVV (V := (vC E)) (k := 3) (As := [.int x5]) (rest := []) X I hl (c_X9_add  hq6) yv_X9_add tw_483 ⟨rfl, rfl, Nat.le_of_ble_eq_true rfl, Nat.le_of_ble_eq_true rfl⟩ (kC_3 E).1 ((kC_3 E).2 (q5 3)) rfl rfl rfl (Nat.le_of_ble_eq_true rfl) dX10_feed_54 (fun H locs I => ?_)
    refine lv_aload_n hx hb dX10_feed_57 rfl (lv_at hl 0 rfl) ?_
    refine gfC_X10_20 X I (kC_0 E) (k' := 3) rfl dX10_feed_58 ?_
    refine gfC_X10_80 X I (kC_3 E) dX10_feed_61 ?_
    exact r_iret X I (Option.some.inj h).symm dX10_feed_64
  · have h := ite_f h c1
    refine lv_iconst (v := -1) hx hb dX10_feed_13 (by decide) ?_
    exact r_iret X I (Option.some.inj h).symm dX10_feed_14
theorem c_X10_feed {l : Launch} {E : CE} {σ : Mem} {x1 : Int32} {x2 : Int32} {x3 : Int32} {x4 : Int32} {x5 : Int32} {q : Int32 × Mem} (h : m_X10_feed σ x1 x2 x3 x4 x5 = some q) : CI l (vC E) yX10_feed (.code yX10_feed cX10_feed 6 (some .int) :: GG) rm_X10_feed [.ref (ca E 0), .int x1, .int x2, .int x3, .int x4, .int x5] σ q :=
  mk_CI (by decide +kernel) (Nat.le_of_ble_eq_true rfl) (fun p e s m args below meth c A ls X I hl => w_X10_feed_0 X  σ x1 x2 x3 x4 x5 h s.heap [] ls I (lv_sub hl [0, 1, 2, 3, 4, 5] rfl))

def rm_X10_quarters : Room := { frames := 7, cells := 0, slots := 0, locals := 206 }
def m_X10_quarters (σ : Mem) (x1 : Int32) : Option (Int32 × Mem) := (if x1 < (1 : Int32) then ((m_X1_refuse 42 σ (1 : Int32)).bind fun q2 => (some (q2.1, q2.2))) else (if (20 : Int32) < x1 then ((m_X1_refuse 42 σ (1 : Int32)).bind fun q4 => (some (q4.1, q4.2))) else (gd (63 : Int32) 64 (if ((σ 43 (Int32.toNatClampNeg (63 : Int32))) + x1) ≤ (999 : Int32) then ((m_X1_beginAct 42 σ).bind fun q6 => ((m_X8_passQuarters 43 q6 x1).bind fun q7 => (gd (63 : Int32) 64 (some ((q7 43 (Int32.toNatClampNeg (63 : Int32))), q7))))) else ((m_X1_refuse 42 σ (1 : Int32)).bind fun q8 => (some (q8.1, q8.2)))))))
set_option maxHeartbeats 4000000 in
set_option maxRecDepth 100000 in
theorem w_X10_quarters_0 {p : Program} {l : Launch} {e : Env} {s : State} {m : MethodId} {args : Array Value} {below : List Frame} {meth : Method} {c : Code} {A : Nat → Prop} {E : CE} {q : Int32 × Mem} (X : CX p s m meth c args cX10_quarters 2 RX10 (some .int)) : ∀ (σ : Mem) (x1 : Int32) , m_X10_quarters σ x1 = some q → ∀ (H : Heap) (locs : List Loc) (ls : Array Slot), WI (vC E) A s H locs σ → lv_has ls 2 [(0, .ref (ca E 0)), (1, .int x1)] → W p l e rm_X10_quarters s m args below meth c H locs 0 0 (MQ below (QI (vC E) A q) args s 0 0 A) (F0 m 0 ls []) := by
  have hx := X.1
  have hb := X.2.1
  intro σ x1 h H locs ls I hl
  unfold m_X10_quarters at h
  refine lv_iload_n hx hb dX10_quarters_0 rfl (lv_at hl 1 rfl) ?_
  refine lv_iconst (v := 1) hx hb dX10_quarters_1 (by decide) ?_
  refine lv_icmp_lt (tgt := 29) hx hb dX10_quarters_2 (by decide) (fun c1 => ?_) (fun c1 => ?_)
  · have h := ite_t h c1
    refine lv_aload_n hx hb dX10_quarters_29 rfl (lv_at hl 0 rfl) ?_
    refine gfC_X10_43 X I (kC_0 E) (k' := 42) rfl dX10_quarters_30 ?_
    refine lv_iconst (v := 1) hx hb dX10_quarters_33 (by decide) ?_
    obtain ⟨q2, hq2, h⟩ := bd h
    refine r_callVI (V := (vC E)) (k := 42) (As := [.int (1 : Int32)]) (rest := []) X I hl (c_X1_refuse (kC_42 E) (kC_43 E) (kC_44 E) (kC_45 E) (kC_46 E) (kC_47 E) (kC_48 E) hq2) yv_X1_refuse tw_488 ⟨rfl, rfl, Nat.le_of_ble_eq_true rfl, Nat.le_of_ble_eq_true rfl⟩ (kC_42 E).1 ((kC_42 E).2 (σ 42)) rfl rfl rfl (Nat.le_of_ble_eq_true rfl) dX10_quarters_34 (fun H locs I => ?_)
    exact r_iret X I (Option.some.inj h).symm dX10_quarters_37
  · have h := ite_f h c1
    refine lv_iload_n hx hb dX10_quarters_5 rfl (lv_at hl 1 rfl) ?_
    refine lv_bipush (v := 20) hx hb dX10_quarters_6 (by decide) ?_
    refine lv_icmp_gt (tgt := 29) hx hb dX10_quarters_8 (by decide) (fun c3 => ?_) (fun c3 => ?_)
    · have h := ite_t h c3
      refine lv_aload_n hx hb dX10_quarters_29 rfl (lv_at hl 0 rfl) ?_
      refine gfC_X10_43 X I (kC_0 E) (k' := 42) rfl dX10_quarters_30 ?_
      refine lv_iconst (v := 1) hx hb dX10_quarters_33 (by decide) ?_
      obtain ⟨q4, hq4, h⟩ := bd h
      refine r_callVI (V := (vC E)) (k := 42) (As := [.int (1 : Int32)]) (rest := []) X I hl (c_X1_refuse (kC_42 E) (kC_43 E) (kC_44 E) (kC_45 E) (kC_46 E) (kC_47 E) (kC_48 E) hq4) yv_X1_refuse tw_488 ⟨rfl, rfl, Nat.le_of_ble_eq_true rfl, Nat.le_of_ble_eq_true rfl⟩ (kC_42 E).1 ((kC_42 E).2 (σ 42)) rfl rfl rfl (Nat.le_of_ble_eq_true rfl) dX10_quarters_34 (fun H locs I => ?_)
      exact r_iret X I (Option.some.inj h).symm dX10_quarters_37
    · have h := ite_f h c3
      refine lv_aload_n hx hb dX10_quarters_11 rfl (lv_at hl 0 rfl) ?_
      refine gfC_X10_43 X I (kC_0 E) (k' := 42) rfl dX10_quarters_12 ?_
      refine gfC_X10_122 X I (kC_42 E) (k' := 43) rfl dX10_quarters_15 ?_
      refine lv_bipush (v := 63) hx hb dX10_quarters_18 (by decide) ?_
      obtain ⟨hin, h⟩ := gd_some h
      refine ialdC X I (kC_43 E) hin dX10_quarters_20 ?_
      refine lv_iload_n hx hb dX10_quarters_21 rfl (lv_at hl 1 rfl) ?_
      refine lv_iadd hx hb dX10_quarters_22 ?_
      refine lv_sipush (v := 999) hx hb dX10_quarters_23 (by decide) ?_
      refine lv_icmp_le (tgt := 38) hx hb dX10_quarters_26 (by decide) (fun c5 => ?_) (fun c5 => ?_)
      · have h := ite_t h c5
        refine lv_aload_n hx hb dX10_quarters_38 rfl (lv_at hl 0 rfl) ?_
        refine gfC_X10_43 X I (kC_0 E) (k' := 42) rfl dX10_quarters_39 ?_
        obtain ⟨q6, hq6, h⟩ := bd h
        refine r_callVV (V := (vC E)) (k := 42) (As := []) (rest := []) X I hl (c_X1_beginAct (kC_42 E) (kC_43 E) (kC_44 E) (kC_45 E) (kC_46 E) (kC_47 E) (kC_48 E) hq6) yv_X1_beginAct tw_493 ⟨rfl, rfl, Nat.le_of_ble_eq_true rfl, Nat.le_of_ble_eq_true rfl⟩ (kC_42 E).1 ((kC_42 E).2 (σ 42)) rfl rfl rfl (Nat.le_of_ble_eq_true rfl) dX10_quarters_42 (fun H locs I => ?_)
        refine lv_aload_n hx hb dX10_quarters_45 rfl (lv_at hl 0 rfl) ?_
        refine gfC_X10_24 X I (kC_0 E) (k' := 22) rfl dX10_quarters_46 ?_
        refine lv_aload_n hx hb dX10_quarters_49 rfl (lv_at hl 0 rfl) ?_
        refine gfC_X10_43 X I (kC_0 E) (k' := 42) rfl dX10_quarters_50 ?_
        refine gfC_X10_122 X I (kC_42 E) (k' := 43) rfl dX10_quarters_53 ?_
        refine lv_iload_n hx hb dX10_quarters_56 rfl (lv_at hl 1 rfl) ?_
        obtain ⟨q7, hq7, h⟩ := bd h
        refine r_callVV (V := (vC E)) (k := 22) (As := [.ref (ca E 43), .int x1]) (rest := []) X I hl (c_X8_passQuarters (kC_43 E) hq7) yv_X8_passQuarters tw_431 ⟨rfl, rfl, Nat.le_of_ble_eq_true rfl, Nat.le_of_ble_eq_true rfl⟩ (kC_22 E).1 ((kC_22 E).2 (q6 22)) rfl rfl rfl (Nat.le_of_ble_eq_true rfl) dX10_quarters_57 (fun H locs I => ?_)
        refine lv_aload_n hx hb dX10_quarters_60 rfl (lv_at hl 0 rfl) ?_
        refine gfC_X10_43 X I (kC_0 E) (k' := 42) rfl dX10_quarters_61 ?_
        refine gfC_X10_122 X I (kC_42 E) (k' := 43) rfl dX10_quarters_64 ?_
        refine lv_bipush (v := 63) hx hb dX10_quarters_67 (by decide) ?_
        obtain ⟨hin, h⟩ := gd_some h
        refine ialdC X I (kC_43 E) hin dX10_quarters_69 ?_
        exact r_iret X I (Option.some.inj h).symm dX10_quarters_70
      · have h := ite_f h c5
        refine lv_aload_n hx hb dX10_quarters_29 rfl (lv_at hl 0 rfl) ?_
        refine gfC_X10_43 X I (kC_0 E) (k' := 42) rfl dX10_quarters_30 ?_
        refine lv_iconst (v := 1) hx hb dX10_quarters_33 (by decide) ?_
        obtain ⟨q8, hq8, h⟩ := bd h
        refine r_callVI (V := (vC E)) (k := 42) (As := [.int (1 : Int32)]) (rest := []) X I hl (c_X1_refuse (kC_42 E) (kC_43 E) (kC_44 E) (kC_45 E) (kC_46 E) (kC_47 E) (kC_48 E) hq8) yv_X1_refuse tw_488 ⟨rfl, rfl, Nat.le_of_ble_eq_true rfl, Nat.le_of_ble_eq_true rfl⟩ (kC_42 E).1 ((kC_42 E).2 (σ 42)) rfl rfl rfl (Nat.le_of_ble_eq_true rfl) dX10_quarters_34 (fun H locs I => ?_)
        exact r_iret X I (Option.some.inj h).symm dX10_quarters_37
theorem c_X10_quarters {l : Launch} {E : CE} {σ : Mem} {x1 : Int32} {q : Int32 × Mem} (h : m_X10_quarters σ x1 = some q) : CI l (vC E) yX10_quarters (.code yX10_quarters cX10_quarters 2 (some .int) :: GG) rm_X10_quarters [.ref (ca E 0), .int x1] σ q :=
  mk_CI (by decide +kernel) (Nat.le_of_ble_eq_true rfl) (fun p e s m args below meth c A ls X I hl => w_X10_quarters_0 X  σ x1 h s.heap [] ls I (lv_sub hl [0, 1] rfl))

def rm_X10_undo : Room := { frames := 2, cells := 0, slots := 0, locals := 85 }
def m_X10_undo (σ : Mem) : Option (Int32 × Mem) := ((m_X0_takeBack 44 43 σ).bind fun q1 => (some (q1.1, q1.2)))
set_option maxHeartbeats 4000000 in
set_option maxRecDepth 100000 in
theorem w_X10_undo_0 {p : Program} {l : Launch} {e : Env} {s : State} {m : MethodId} {args : Array Value} {below : List Frame} {meth : Method} {c : Code} {A : Nat → Prop} {E : CE} {q : Int32 × Mem} (X : CX p s m meth c args cX10_undo 1 RX10 (some .int)) : ∀ (σ : Mem)  , m_X10_undo σ = some q → ∀ (H : Heap) (locs : List Loc) (ls : Array Slot), WI (vC E) A s H locs σ → lv_has ls 1 [(0, .ref (ca E 0))] → W p l e rm_X10_undo s m args below meth c H locs 0 0 (MQ below (QI (vC E) A q) args s 0 0 A) (F0 m 0 ls []) := by
  have hx := X.1
  have hb := X.2.1
  intro σ  h H locs ls I hl
  unfold m_X10_undo at h
  refine lv_aload_n hx hb dX10_undo_0 rfl (lv_at hl 0 rfl) ?_
  refine gfC_X10_43 X I (kC_0 E) (k' := 42) rfl dX10_undo_1 ?_
  refine gfC_X10_133 X I (kC_42 E) (k' := 44) rfl dX10_undo_4 ?_
  refine lv_aload_n hx hb dX10_undo_7 rfl (lv_at hl 0 rfl) ?_
  refine gfC_X10_43 X I (kC_0 E) (k' := 42) rfl dX10_undo_8 ?_
  refine gfC_X10_122 X I (kC_42 E) (k' := 43) rfl dX10_undo_11 ?_
  obtain ⟨q1, hq1, h⟩ := bd h
  refine r_callVI (V := (vC E)) (k := 44) (As := [.ref (ca E 43)]) (rest := []) X I hl (c_X0_takeBack (kC_44 E) (kC_45 E) (kC_43 E) hq1) yv_X0_takeBack tw_495 ⟨rfl, rfl, Nat.le_of_ble_eq_true rfl, Nat.le_of_ble_eq_true rfl⟩ (kC_44 E).1 ((kC_44 E).2 (σ 44)) rfl rfl rfl (Nat.le_of_ble_eq_true rfl) dX10_undo_14 (fun H locs I => ?_)
  exact r_iret X I (Option.some.inj h).symm dX10_undo_17
theorem c_X10_undo {l : Launch} {E : CE} {σ : Mem} {q : Int32 × Mem} (h : m_X10_undo σ = some q) : CI l (vC E) yX10_undo (.code yX10_undo cX10_undo 1 (some .int) :: GG) rm_X10_undo [.ref (ca E 0)] σ q :=
  mk_CI (by decide +kernel) (Nat.le_of_ble_eq_true rfl) (fun p e s m args below meth c A ls X I hl => w_X10_undo_0 X  σ  h s.heap [] ls I (lv_sub hl [0] rfl))

def rm_X10_forget : Room := { frames := 1, cells := 0, slots := 0, locals := 64 }
def m_X10_forget (σ : Mem) : Option (Mem) := (lt (ms σ 46 1 (0 : Int32)) fun σ1 => (some σ1))
set_option maxHeartbeats 4000000 in
set_option maxRecDepth 100000 in
theorem w_X10_forget_0 {p : Program} {l : Launch} {e : Env} {s : State} {m : MethodId} {args : Array Value} {below : List Frame} {meth : Method} {c : Code} {A : Nat → Prop} {E : CE} {q : Mem} (X : CX p s m meth c args cX10_forget 1 RX10 none) : ∀ (σ : Mem)  , m_X10_forget σ = some q → ∀ (H : Heap) (locs : List Loc) (ls : Array Slot), WI (vC E) A s H locs σ → lv_has ls 1 [(0, .ref (ca E 0))] → W p l e rm_X10_forget s m args below meth c H locs 0 0 (MQ below (QV (vC E) A q) args s 0 0 A) (F0 m 0 ls []) := by
  have hx := X.1
  have hb := X.2.1
  intro σ  h H locs ls I hl
  unfold m_X10_forget at h
  refine lv_aload_n hx hb dX10_forget_0 rfl (lv_at hl 0 rfl) ?_
  refine gfC_X10_43 X I (kC_0 E) (k' := 42) rfl dX10_forget_1 ?_
  refine gfC_X10_142 X I (kC_42 E) (k' := 46) rfl dX10_forget_4 ?_
  refine lv_iconst (v := 0) hx hb dX10_forget_7 (by decide) ?_
  refine pfC_X10_146 X I (kC_46 E) dX10_forget_8 (fun H locs I => ?_)
  obtain ⟨σ1, eσ1, h⟩ := lt_e h
  replace I := wi_nm eσ1 I
  exact r_vret X I (Option.some.inj h).symm dX10_forget_11
theorem c_X10_forget {l : Launch} {E : CE} {σ : Mem} {q : Mem} (h : m_X10_forget σ = some q) : CV l (vC E) yX10_forget (.code yX10_forget cX10_forget 1 none :: GG) rm_X10_forget [.ref (ca E 0)] σ q :=
  mk_CV (by decide +kernel) (Nat.le_of_ble_eq_true rfl) (fun p e s m args below meth c A ls X I hl => w_X10_forget_0 X  σ  h s.heap [] ls I (lv_sub hl [0] rfl))

def rm_X10_image : Room := { frames := 3, cells := 0, slots := 0, locals := 106 }
def m_X10_image (σ : Mem) : Option (Mem) := ((m_X1_copyFrom 49 42 σ).bind fun q1 => (gz (1 : Int32) (lt (ms q1 0 7 (1 : Int32)) fun σ2 => (some σ2))))
set_option maxHeartbeats 4000000 in
set_option maxRecDepth 100000 in
theorem w_X10_image_0 {p : Program} {l : Launch} {e : Env} {s : State} {m : MethodId} {args : Array Value} {below : List Frame} {meth : Method} {c : Code} {A : Nat → Prop} {E : CE} {q : Mem} (X : CX p s m meth c args cX10_image 1 RX10 none) : ∀ (σ : Mem)  , m_X10_image σ = some q → ∀ (H : Heap) (locs : List Loc) (ls : Array Slot), WI (vC E) A s H locs σ → lv_has ls 1 [(0, .ref (ca E 0))] → W p l e rm_X10_image s m args below meth c H locs 0 0 (MQ below (QV (vC E) A q) args s 0 0 A) (F0 m 0 ls []) := by
  have hx := X.1
  have hb := X.2.1
  intro σ  h H locs ls I hl
  unfold m_X10_image at h
  refine lv_aload_n hx hb dX10_image_0 rfl (lv_at hl 0 rfl) ?_
  refine gfC_X10_47 X I (kC_0 E) (k' := 49) rfl dX10_image_1 ?_
  refine lv_aload_n hx hb dX10_image_4 rfl (lv_at hl 0 rfl) ?_
  refine gfC_X10_43 X I (kC_0 E) (k' := 42) rfl dX10_image_5 ?_
  obtain ⟨q1, hq1, h⟩ := bd h
  refine r_callVV (V := (vC E)) (k := 49) (As := [.ref (ca E 42)]) (rest := []) X I hl (c_X1_copyFrom (kC_49 E) (kC_50 E) (kC_51 E) (kC_52 E) (kC_53 E) (kC_54 E) (kC_55 E) (kC_42 E) (kC_43 E) (kC_44 E) (kC_45 E) (kC_46 E) (kC_47 E) (kC_48 E) hq1) yv_X1_copyFrom tw_502 ⟨rfl, rfl, Nat.le_of_ble_eq_true rfl, Nat.le_of_ble_eq_true rfl⟩ (kC_49 E).1 ((kC_49 E).2 (σ 49)) rfl rfl rfl (Nat.le_of_ble_eq_true rfl) dX10_image_8 (fun H locs I => ?_)
  refine lv_aload_n hx hb dX10_image_11 rfl (lv_at hl 0 rfl) ?_
  refine lv_iconst (v := 1) hx hb dX10_image_12 (by decide) ?_
  obtain ⟨hz, h⟩ := gz_some h
  refine pfC_X10_50 X I (kC_0 E) hz dX10_image_13 (fun H locs I => ?_)
  obtain ⟨σ2, eσ2, h⟩ := lt_e h
  replace I := wi_nm eσ2 I
  exact r_vret X I (Option.some.inj h).symm dX10_image_16
theorem c_X10_image {l : Launch} {E : CE} {σ : Mem} {q : Mem} (h : m_X10_image σ = some q) : CV l (vC E) yX10_image (.code yX10_image cX10_image 1 none :: GG) rm_X10_image [.ref (ca E 0)] σ q :=
  mk_CV (by decide +kernel) (Nat.le_of_ble_eq_true rfl) (fun p e s m args below meth c A ls X I hl => w_X10_image_0 X  σ  h s.heap [] ls I (lv_sub hl [0] rfl))

def rm_X10_restore : Room := { frames := 3, cells := 0, slots := 0, locals := 106 }
def m_X10_restore (σ : Mem) : Option (Int32 × Mem) := (if (σ 0 7) = (0 : Int32) then (gz (σ 0 7) (some ((σ 0 7), σ))) else ((m_X1_copyFrom 42 49 σ).bind fun q2 => (gz (q2 0 7) (some ((q2 0 7), q2)))))
set_option maxHeartbeats 4000000 in
set_option maxRecDepth 100000 in
theorem w_X10_restore_0 {p : Program} {l : Launch} {e : Env} {s : State} {m : MethodId} {args : Array Value} {below : List Frame} {meth : Method} {c : Code} {A : Nat → Prop} {E : CE} {q : Int32 × Mem} (X : CX p s m meth c args cX10_restore 1 RX10 (some .boolean)) : ∀ (σ : Mem)  , m_X10_restore σ = some q → ∀ (H : Heap) (locs : List Loc) (ls : Array Slot), WI (vC E) A s H locs σ → lv_has ls 1 [(0, .ref (ca E 0))] → W p l e rm_X10_restore s m args below meth c H locs 0 0 (MQ below (QI (vC E) A q) args s 0 0 A) (F0 m 0 ls []) := by
  have hx := X.1
  have hb := X.2.1
  intro σ  h H locs ls I hl
  unfold m_X10_restore at h
  refine lv_aload_n hx hb dX10_restore_0 rfl (lv_at hl 0 rfl) ?_
  refine gfC_X10_50 X I (kC_0 E) dX10_restore_1 ?_
  refine lv_if_eq (tgt := 18) hx hb dX10_restore_4 (by decide) (fun c1 => ?_) (fun c1 => ?_)
  · have h := ite_t h c1
    refine lv_aload_n hx hb dX10_restore_18 rfl (lv_at hl 0 rfl) ?_
    refine gfC_X10_50 X I (kC_0 E) dX10_restore_19 ?_
    obtain ⟨hz, h⟩ := gz_some h
    exact r_zret X I (Option.some.inj h).symm hz.1 dX10_restore_22
  · have h := ite_f h c1
    refine lv_aload_n hx hb dX10_restore_7 rfl (lv_at hl 0 rfl) ?_
    refine gfC_X10_43 X I (kC_0 E) (k' := 42) rfl dX10_restore_8 ?_
    refine lv_aload_n hx hb dX10_restore_11 rfl (lv_at hl 0 rfl) ?_
    refine gfC_X10_47 X I (kC_0 E) (k' := 49) rfl dX10_restore_12 ?_
    obtain ⟨q2, hq2, h⟩ := bd h
    refine r_callVV (V := (vC E)) (k := 42) (As := [.ref (ca E 49)]) (rest := []) X I hl (c_X1_copyFrom (kC_42 E) (kC_43 E) (kC_44 E) (kC_45 E) (kC_46 E) (kC_47 E) (kC_48 E) (kC_49 E) (kC_50 E) (kC_51 E) (kC_52 E) (kC_53 E) (kC_54 E) (kC_55 E) hq2) yv_X1_copyFrom tw_502 ⟨rfl, rfl, Nat.le_of_ble_eq_true rfl, Nat.le_of_ble_eq_true rfl⟩ (kC_42 E).1 ((kC_42 E).2 (σ 42)) rfl rfl rfl (Nat.le_of_ble_eq_true rfl) dX10_restore_15 (fun H locs I => ?_)
    refine lv_aload_n hx hb dX10_restore_18 rfl (lv_at hl 0 rfl) ?_
    refine gfC_X10_50 X I (kC_0 E) dX10_restore_19 ?_
    obtain ⟨hz, h⟩ := gz_some h
    exact r_zret X I (Option.some.inj h).symm hz.1 dX10_restore_22
theorem c_X10_restore {l : Launch} {E : CE} {σ : Mem} {q : Int32 × Mem} (h : m_X10_restore σ = some q) : CI l (vC E) yX10_restore (.code yX10_restore cX10_restore 1 (some .boolean) :: GG) rm_X10_restore [.ref (ca E 0)] σ q :=
  mk_CI (by decide +kernel) (Nat.le_of_ble_eq_true rfl) (fun p e s m args below meth c A ls X I hl => w_X10_restore_0 X  σ  h s.heap [] ls I (lv_sub hl [0] rfl))

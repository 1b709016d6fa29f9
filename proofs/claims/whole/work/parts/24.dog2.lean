def rm_X10_needHouse : Room := { frames := 7, cells := 1, slots := 6, locals := 200 }
def m_X10_needHouse (σ : Mem) (x1 : Int32) : Option ((Nat × Mem) ⊕ Mem) := (if x1 < (0 : Int32) then (some (.inl (0, σ))) else (if x1 < (σ 23 0) then (some (.inr σ)) else (some (.inl (0, σ)))))
set_option maxHeartbeats 4000000 in
set_option maxRecDepth 100000 in
theorem w_X10_needHouse_0 {p : Program} {l : Launch} {e : Env} {s : State} {m : MethodId} {args : Array Value} {below : List Frame} {meth : Method} {c : Code} {A : Nat → Prop} {E : CE} {q : (Nat × Mem) ⊕ Mem} (X : CX p s m meth c args cX10_needHouse 2 RX10 none) (hlt : l.stackTraces = false) (hex : ∀ x ∈ c.exceptionTable.toList, False) : ∀ (σ : Mem) (x1 : Int32) , m_X10_needHouse σ x1 = some q → ∀ (H : Heap) (locs : List Loc) (ls : Array Slot), WI (vC E) A s H locs σ → lv_has ls 2 [(0, .ref (ca E 0)), (1, .int x1)] → W p l e rm_X10_needHouse s m args below meth c H locs 0 0 (vx_MQ below (QXV (vC E) A q) (XX (vC E) A q) args s 1 6 A) (F0 m 0 ls []) := by
  have hx := X.1
  have hb := X.2.1
  intro σ x1 h H locs ls I hl
  unfold m_X10_needHouse at h
  refine lv_iload_n hx hb dX10_needHouse_0 rfl (lv_at hl 1 rfl) ?_
  refine lv_if_lt (tgt := 15) hx hb dX10_needHouse_1 (by decide) (fun c1 => ?_) (fun c1 => ?_)
  · have h := ite_t h c1
    exact r_throwNW hlt X hex I (x := E.2.2.2.2.2.1) rfl hl (Option.some.inj h).symm tw_nse (w := 6) (by decide) rfl rfl ⟨Nat.le_of_ble_eq_true rfl, Nat.le_of_ble_eq_true rfl, Nat.le_of_ble_eq_true rfl, Nat.le_of_ble_eq_true rfl⟩ ⟨Nat.le_of_ble_eq_true rfl, Nat.le_of_ble_eq_true rfl⟩ dX10_needHouse_15 dX10_needHouse_18 dX10_needHouse_19 dX10_needHouse_22 dX10_needHouse_25
  · have h := ite_f h c1
    refine lv_iload_n hx hb dX10_needHouse_4 rfl (lv_at hl 1 rfl) ?_
    refine lv_aload_n hx hb dX10_needHouse_5 rfl (lv_at hl 0 rfl) ?_
    refine gfC_X10_32 X I (kC_0 E) (k' := 23) rfl dX10_needHouse_6 ?_
    refine gfC_X10_113 X I (kC_23 E) dX10_needHouse_9 ?_
    refine lv_icmp_lt (tgt := 26) hx hb dX10_needHouse_12 (by decide) (fun c2 => ?_) (fun c2 => ?_)
    · have h := ite_t h c2
      exact r_xvret X I (Option.some.inj h).symm ⟨Nat.le_of_ble_eq_true rfl, Nat.le_of_ble_eq_true rfl⟩ dX10_needHouse_26
    · have h := ite_f h c2
      exact r_throwNW hlt X hex I (x := E.2.2.2.2.2.1) rfl hl (Option.some.inj h).symm tw_nse (w := 6) (by decide) rfl rfl ⟨Nat.le_of_ble_eq_true rfl, Nat.le_of_ble_eq_true rfl, Nat.le_of_ble_eq_true rfl, Nat.le_of_ble_eq_true rfl⟩ ⟨Nat.le_of_ble_eq_true rfl, Nat.le_of_ble_eq_true rfl⟩ dX10_needHouse_15 dX10_needHouse_18 dX10_needHouse_19 dX10_needHouse_22 dX10_needHouse_25
theorem c_X10_needHouse {l : Launch} {E : CE} {σ : Mem} {x1 : Int32} (hlt : l.stackTraces = false) {q : (Nat × Mem) ⊕ Mem} (h : m_X10_needHouse σ x1 = some q) : CXV l (vC E) yX10_needHouse (.code yX10_needHouse cX10_needHouse 2 none :: GG) rm_X10_needHouse 1 6 [.ref (ca E 0), .int x1] σ q :=
  mk_CXV (by decide +kernel) (Nat.le_of_ble_eq_true rfl) (fun p e s m args below meth c A ls X hex I hl => w_X10_needHouse_0 X hlt hex σ x1 h s.heap [] ls I (lv_sub hl [0, 1] rfl))

def rm_X10_needTenant : Room := { frames := 7, cells := 1, slots := 6, locals := 200 }
def m_X10_needTenant (σ : Mem) (x1 : Int32) : Option ((Nat × Mem) ⊕ Mem) := (if x1 < (0 : Int32) then (some (.inl (0, σ))) else (if x1 < (σ 23 1) then (some (.inr σ)) else (some (.inl (0, σ)))))
set_option maxHeartbeats 4000000 in
set_option maxRecDepth 100000 in
theorem w_X10_needTenant_0 {p : Program} {l : Launch} {e : Env} {s : State} {m : MethodId} {args : Array Value} {below : List Frame} {meth : Method} {c : Code} {A : Nat → Prop} {E : CE} {q : (Nat × Mem) ⊕ Mem} (X : CX p s m meth c args cX10_needTenant 2 RX10 none) (hlt : l.stackTraces = false) (hex : ∀ x ∈ c.exceptionTable.toList, False) : ∀ (σ : Mem) (x1 : Int32) , m_X10_needTenant σ x1 = some q → ∀ (H : Heap) (locs : List Loc) (ls : Array Slot), WI (vC E) A s H locs σ → lv_has ls 2 [(0, .ref (ca E 0)), (1, .int x1)] → W p l e rm_X10_needTenant s m args below meth c H locs 0 0 (vx_MQ below (QXV (vC E) A q) (XX (vC E) A q) args s 1 6 A) (F0 m 0 ls []) := by
  have hx := X.1
  have hb := X.2.1
  intro σ x1 h H locs ls I hl
  unfold m_X10_needTenant at h
  refine lv_iload_n hx hb dX10_needTenant_0 rfl (lv_at hl 1 rfl) ?_
  refine lv_if_lt (tgt := 15) hx hb dX10_needTenant_1 (by decide) (fun c1 => ?_) (fun c1 => ?_)
  · have h := ite_t h c1
    exact r_throwNW hlt X hex I (x := E.2.2.2.2.2.1) rfl hl (Option.some.inj h).symm tw_nse (w := 7) (by decide) rfl rfl ⟨Nat.le_of_ble_eq_true rfl, Nat.le_of_ble_eq_true rfl, Nat.le_of_ble_eq_true rfl, Nat.le_of_ble_eq_true rfl⟩ ⟨Nat.le_of_ble_eq_true rfl, Nat.le_of_ble_eq_true rfl⟩ dX10_needTenant_15 dX10_needTenant_18 dX10_needTenant_19 dX10_needTenant_22 dX10_needTenant_25
  · have h := ite_f h c1
    refine lv_iload_n hx hb dX10_needTenant_4 rfl (lv_at hl 1 rfl) ?_
    refine lv_aload_n hx hb dX10_needTenant_5 rfl (lv_at hl 0 rfl) ?_
    refine gfC_X10_32 X I (kC_0 E) (k' := 23) rfl dX10_needTenant_6 ?_
    refine gfC_X10_116 X I (kC_23 E) dX10_needTenant_9 ?_
    refine lv_icmp_lt (tgt := 26) hx hb dX10_needTenant_12 (by decide) (fun c2 => ?_) (fun c2 => ?_)
    · have h := ite_t h c2
      exact r_xvret X I (Option.some.inj h).symm ⟨Nat.le_of_ble_eq_true rfl, Nat.le_of_ble_eq_true rfl⟩ dX10_needTenant_26
    · have h := ite_f h c2
      exact r_throwNW hlt X hex I (x := E.2.2.2.2.2.1) rfl hl (Option.some.inj h).symm tw_nse (w := 7) (by decide) rfl rfl ⟨Nat.le_of_ble_eq_true rfl, Nat.le_of_ble_eq_true rfl, Nat.le_of_ble_eq_true rfl, Nat.le_of_ble_eq_true rfl⟩ ⟨Nat.le_of_ble_eq_true rfl, Nat.le_of_ble_eq_true rfl⟩ dX10_needTenant_15 dX10_needTenant_18 dX10_needTenant_19 dX10_needTenant_22 dX10_needTenant_25
theorem c_X10_needTenant {l : Launch} {E : CE} {σ : Mem} {x1 : Int32} (hlt : l.stackTraces = false) {q : (Nat × Mem) ⊕ Mem} (h : m_X10_needTenant σ x1 = some q) : CXV l (vC E) yX10_needTenant (.code yX10_needTenant cX10_needTenant 2 none :: GG) rm_X10_needTenant 1 6 [.ref (ca E 0), .int x1] σ q :=
  mk_CXV (by decide +kernel) (Nat.le_of_ble_eq_true rfl) (fun p e s m args below meth c A ls X hex I hl => w_X10_needTenant_0 X hlt hex σ x1 h s.heap [] ls I (lv_sub hl [0, 1] rfl))

def rm_X10_needWhat : Room := { frames := 7, cells := 1, slots := 6, locals := 200 }
def m_X10_needWhat (σ : Mem) (x1 : Int32) (x2 : Int32) : Option ((Nat × Mem) ⊕ Mem) := (if x1 < (0 : Int32) then (some (.inl (0, σ))) else (if x1 ≤ x2 then (some (.inr σ)) else (some (.inl (0, σ)))))
set_option maxHeartbeats 4000000 in
set_option maxRecDepth 100000 in
theorem w_X10_needWhat_0 {p : Program} {l : Launch} {e : Env} {s : State} {m : MethodId} {args : Array Value} {below : List Frame} {meth : Method} {c : Code} {A : Nat → Prop} {E : CE} {q : (Nat × Mem) ⊕ Mem} (X : CX p s m meth c args cX10_needWhat 3 RX10 none) (hlt : l.stackTraces = false) (hex : ∀ x ∈ c.exceptionTable.toList, False) : ∀ (σ : Mem) (x1 : Int32) (x2 : Int32) , m_X10_needWhat σ x1 x2 = some q → ∀ (H : Heap) (locs : List Loc) (ls : Array Slot), WI (vC E) A s H locs σ → lv_has ls 3 [(1, .int x1), (2, .int x2)] → W p l e rm_X10_needWhat s m args below meth c H locs 0 0 (vx_MQ below (QXV (vC E) A q) (XX (vC E) A q) args s 1 6 A) (F0 m 0 ls []) := by
  have hx := X.1
  have hb := X.2.1
  intro σ x1 x2 h H locs ls I hl
  unfold m_X10_needWhat at h
  refine lv_iload_n hx hb dX10_needWhat_0 rfl (lv_at hl 0 rfl) ?_
  refine lv_if_lt (tgt := 9) hx hb dX10_needWhat_1 (by decide) (fun c1 => ?_) (fun c1 => ?_)
  · have h := ite_t h c1
    exact r_throwNW hlt X hex I (x := E.2.2.2.2.2.1) rfl hl (Option.some.inj h).symm tw_nse (w := 8) (by decide) rfl rfl ⟨Nat.le_of_ble_eq_true rfl, Nat.le_of_ble_eq_true rfl, Nat.le_of_ble_eq_true rfl, Nat.le_of_ble_eq_true rfl⟩ ⟨Nat.le_of_ble_eq_true rfl, Nat.le_of_ble_eq_true rfl⟩ dX10_needWhat_9 dX10_needWhat_12 dX10_needWhat_13 dX10_needWhat_16 dX10_needWhat_19
  · have h := ite_f h c1
    refine lv_iload_n hx hb dX10_needWhat_4 rfl (lv_at hl 0 rfl) ?_
    refine lv_iload_n hx hb dX10_needWhat_5 rfl (lv_at hl 1 rfl) ?_
    refine lv_icmp_le (tgt := 20) hx hb dX10_needWhat_6 (by decide) (fun c2 => ?_) (fun c2 => ?_)
    · have h := ite_t h c2
      exact r_xvret X I (Option.some.inj h).symm ⟨Nat.le_of_ble_eq_true rfl, Nat.le_of_ble_eq_true rfl⟩ dX10_needWhat_20
    · have h := ite_f h c2
      exact r_throwNW hlt X hex I (x := E.2.2.2.2.2.1) rfl hl (Option.some.inj h).symm tw_nse (w := 8) (by decide) rfl rfl ⟨Nat.le_of_ble_eq_true rfl, Nat.le_of_ble_eq_true rfl, Nat.le_of_ble_eq_true rfl, Nat.le_of_ble_eq_true rfl⟩ ⟨Nat.le_of_ble_eq_true rfl, Nat.le_of_ble_eq_true rfl⟩ dX10_needWhat_9 dX10_needWhat_12 dX10_needWhat_13 dX10_needWhat_16 dX10_needWhat_19
theorem c_X10_needWhat {l : Launch} {E : CE} {σ : Mem} {x1 : Int32} {x2 : Int32} (hlt : l.stackTraces = false) {q : (Nat × Mem) ⊕ Mem} (h : m_X10_needWhat σ x1 x2 = some q) : CXV l (vC E) yX10_needWhat (.code yX10_needWhat cX10_needWhat 3 none :: GG) rm_X10_needWhat 1 6 [.ref (ca E 0), .int x1, .int x2] σ q :=
  mk_CXV (by decide +kernel) (Nat.le_of_ble_eq_true rfl) (fun p e s m args below meth c A ls X hex I hl => w_X10_needWhat_0 X hlt hex σ x1 x2 h s.heap [] ls I (lv_sub hl [1, 2] rfl))

def rm_X10_needAhead : Room := { frames := 7, cells := 1, slots := 6, locals := 200 }
def m_X10_needAhead (σ : Mem) (x1 : Int32) : Option ((Nat × Mem) ⊕ Mem) := (if x1 < (0 : Int32) then (some (.inl (1, σ))) else (if x1 ≤ (40 : Int32) then (some (.inr σ)) else (some (.inl (1, σ)))))
set_option maxHeartbeats 4000000 in
set_option maxRecDepth 100000 in
theorem w_X10_needAhead_0 {p : Program} {l : Launch} {e : Env} {s : State} {m : MethodId} {args : Array Value} {below : List Frame} {meth : Method} {c : Code} {A : Nat → Prop} {E : CE} {q : (Nat × Mem) ⊕ Mem} (X : CX p s m meth c args cX10_needAhead 2 RX10 none) (hlt : l.stackTraces = false) (hex : ∀ x ∈ c.exceptionTable.toList, False) : ∀ (σ : Mem) (x1 : Int32) , m_X10_needAhead σ x1 = some q → ∀ (H : Heap) (locs : List Loc) (ls : Array Slot), WI (vC E) A s H locs σ → lv_has ls 2 [(1, .int x1)] → W p l e rm_X10_needAhead s m args below meth c H locs 0 0 (vx_MQ below (QXV (vC E) A q) (XX (vC E) A q) args s 1 6 A) (F0 m 0 ls []) := by
  have hx := X.1
  have hb := X.2.1
  intro σ x1 h H locs ls I hl
  unfold m_X10_needAhead at h
  refine lv_iload_n hx hb dX10_needAhead_0 rfl (lv_at hl 0 rfl) ?_
  refine lv_if_lt (tgt := 10) hx hb dX10_needAhead_1 (by decide) (fun c1 => ?_) (fun c1 => ?_)
  · have h := ite_t h c1
    exact r_throwSW (k := 1) hlt X hex I (x := E.2.2.2.2.2.1) rfl hl (Option.some.inj h).symm tw_iae (by decide +kernel) (w := 9) (by decide) rfl rfl ⟨Nat.le_of_ble_eq_true rfl, Nat.le_of_ble_eq_true rfl, Nat.le_of_ble_eq_true rfl, Nat.le_of_ble_eq_true rfl⟩ ⟨Nat.le_of_ble_eq_true rfl, Nat.le_of_ble_eq_true rfl⟩ dX10_needAhead_10 dX10_needAhead_13 dX10_needAhead_14 dX10_needAhead_17 dX10_needAhead_20
  · have h := ite_f h c1
    refine lv_iload_n hx hb dX10_needAhead_4 rfl (lv_at hl 0 rfl) ?_
    refine lv_bipush (v := 40) hx hb dX10_needAhead_5 (by decide) ?_
    refine lv_icmp_le (tgt := 21) hx hb dX10_needAhead_7 (by decide) (fun c2 => ?_) (fun c2 => ?_)
    · have h := ite_t h c2
      exact r_xvret X I (Option.some.inj h).symm ⟨Nat.le_of_ble_eq_true rfl, Nat.le_of_ble_eq_true rfl⟩ dX10_needAhead_21
    · have h := ite_f h c2
      exact r_throwSW (k := 1) hlt X hex I (x := E.2.2.2.2.2.1) rfl hl (Option.some.inj h).symm tw_iae (by decide +kernel) (w := 9) (by decide) rfl rfl ⟨Nat.le_of_ble_eq_true rfl, Nat.le_of_ble_eq_true rfl, Nat.le_of_ble_eq_true rfl, Nat.le_of_ble_eq_true rfl⟩ ⟨Nat.le_of_ble_eq_true rfl, Nat.le_of_ble_eq_true rfl⟩ dX10_needAhead_10 dX10_needAhead_13 dX10_needAhead_14 dX10_needAhead_17 dX10_needAhead_20
theorem c_X10_needAhead {l : Launch} {E : CE} {σ : Mem} {x1 : Int32} (hlt : l.stackTraces = false) {q : (Nat × Mem) ⊕ Mem} (h : m_X10_needAhead σ x1 = some q) : CXV l (vC E) yX10_needAhead (.code yX10_needAhead cX10_needAhead 2 none :: GG) rm_X10_needAhead 1 6 [.ref (ca E 0), .int x1] σ q :=
  mk_CXV (by decide +kernel) (Nat.le_of_ble_eq_true rfl) (fun p e s m args below meth c A ls X hex I hl => w_X10_needAhead_0 X hlt hex σ x1 h s.heap [] ls I (lv_sub hl [1] rfl))

def rm_X10_terrace : Room := { frames := 12, cells := 1, slots := 6, locals := 300 }
def m_X10_terrace (σ : Mem) (x1 : Int32) : Option ((Nat × Mem) ⊕ (Int32 × Mem)) := (if x1 < (0 : Int32) then (some (.inl (1, σ))) else (if x1 ≤ (σ 3 1) then ((m_X9_begin σ x1).bind fun q3 => ((m_X3_read q3).bind fun q4 => (lt (ms q4.2 3 1 (0 : Int32)) fun σ5 => (if q4.1 = (0 : Int32) then (lt (ms σ5 0 8 (-1 : Int32)) fun σ7 => ((m_X2_copyFrom 23 9 σ7).bind fun q8 => ((m_X1_begin 42 34 q8).bind fun q9 => (gz (0 : Int32) (lt (ms q9 0 7 (0 : Int32)) fun σ10 => (some (.inr ((0 : Int32), σ10)))))))) else (lt (ms σ5 0 8 (σ5 3 3)) fun σ11 => ((m_X1_refuse 42 σ11 (0 : Int32)).bind fun q12 => (some (.inr (q4.1, q12.2))))))))) else (some (.inl (1, σ)))))
set_option maxHeartbeats 4000000 in
set_option maxRecDepth 100000 in
theorem w_X10_terrace_0 {p : Program} {l : Launch} {e : Env} {s : State} {m : MethodId} {args : Array Value} {below : List Frame} {meth : Method} {c : Code} {A : Nat → Prop} {E : CE} {q : (Nat × Mem) ⊕ (Int32 × Mem)} (X : CX p s m meth c args cX10_terrace 3 RX10 (some .int)) (hlt : l.stackTraces = false) (hex : ∀ x ∈ c.exceptionTable.toList, False) : ∀ (σ : Mem) (x1 : Int32) , m_X10_terrace σ x1 = some q → ∀ (H : Heap) (locs : List Loc) (ls : Array Slot), WI (vC E) A s H locs σ → lv_has ls 3 [(0, .ref (ca E 0)), (1, .int x1)] → W p l e rm_X10_terrace s m args below meth c H locs 0 0 (vx_MQ below (QXI (vC E) A q) (XX (vC E) A q) args s 1 6 A) (F0 m 0 ls []) := by
  have hx := X.1
  have hb := X.2.1
  intro σ x1 h H locs ls I hl
  unfold m_X10_terrace at h
  refine lv_iload_n hx hb dX10_terrace_0 rfl (lv_at hl 1 rfl) ?_
  refine lv_if_lt (tgt := 15) hx hb dX10_terrace_1 (by decide) (fun c1 => ?_) (fun c1 => ?_)
  · have h := ite_t h c1
    exact r_throwS (k := 1) hlt X hex I (x := E.2.2.2.2.2.1) rfl hl (Option.some.inj h).symm tw_iae (by decide +kernel) (w := 0) (by decide) rfl rfl ⟨Nat.le_of_ble_eq_true rfl, Nat.le_of_ble_eq_true rfl, Nat.le_of_ble_eq_true rfl, Nat.le_of_ble_eq_true rfl⟩ ⟨Nat.le_of_ble_eq_true rfl, Nat.le_of_ble_eq_true rfl⟩ dX10_terrace_15 dX10_terrace_18 dX10_terrace_19 dX10_terrace_21 dX10_terrace_24
  · have h := ite_f h c1
    refine lv_iload_n hx hb dX10_terrace_4 rfl (lv_at hl 1 rfl) ?_
    refine lv_aload_n hx hb dX10_terrace_5 rfl (lv_at hl 0 rfl) ?_
    refine gfC_X10_20 X I (kC_0 E) (k' := 3) rfl dX10_terrace_6 ?_
    refine gfC_X10_80 X I (kC_3 E) dX10_terrace_9 ?_
    refine lv_icmp_le (tgt := 25) hx hb dX10_terrace_12 (by decide) (fun c2 => ?_) (fun c2 => ?_)
    · have h := ite_t h c2
      refine lv_aload_n hx hb dX10_terrace_25 rfl (lv_at hl 0 rfl) ?_
      refine gfC_X10_20 X I (kC_0 E) (k' := 3) rfl dX10_terrace_26 ?_
      refine lv_iload_n hx hb dX10_terrace_29 rfl (lv_at hl 1 rfl) ?_
      obtain ⟨q3, hq3, h⟩ := bd h
      refine r_callVVk (V := (vC E)) (k := 3) (As := [.int x1]) (rest := []) X I hl (c_X9_begin  hq3) yv_X9_begin tw_508 ⟨rfl, rfl, Nat.le_of_ble_eq_true rfl, Nat.le_of_ble_eq_true rfl⟩ (kC_3 E).1 ((kC_3 E).2 (σ 3)) rfl rfl rfl (Nat.le_of_ble_eq_true rfl) ⟨Nat.le_of_ble_eq_true rfl, Nat.le_of_ble_eq_true rfl⟩ dX10_terrace_30 (fun H locs I => ?_)
      refine lv_aload_n hx hb dX10_terrace_33 rfl (lv_at hl 0 rfl) ?_
      refine gfC_X10_10 X I (kC_0 E) (k' := 1) rfl dX10_terrace_34 ?_
      obtain ⟨q4, hq4, h⟩ := bd h
      refine r_callVIk (V := (vC E)) (k := 1) (As := []) (rest := []) X I hl (c_X3_read  hq4) yv_X3_read tw_514 ⟨rfl, rfl, Nat.le_of_ble_eq_true rfl, Nat.le_of_ble_eq_true rfl⟩ (kC_1 E).1 ((kC_1 E).2 (q3 1)) rfl rfl rfl (Nat.le_of_ble_eq_true rfl) ⟨Nat.le_of_ble_eq_true rfl, Nat.le_of_ble_eq_true rfl⟩ dX10_terrace_37 (fun H locs I => ?_)
      refine lv_istore_n (lv' := [(2, .int q4.1), (0, .ref (ca E 0)), (1, .int x1)]) hx hb dX10_terrace_40 rfl hl (by decide) rfl (fun ls hl => ?_)
      refine lv_aload_n hx hb dX10_terrace_41 rfl (lv_at hl 1 rfl) ?_
      refine gfC_X10_20 X I (kC_0 E) (k' := 3) rfl dX10_terrace_42 ?_
      refine lv_iconst (v := 0) hx hb dX10_terrace_45 (by decide) ?_
      refine pfC_X10_80 X I (kC_3 E) dX10_terrace_46 (fun H locs I => ?_)
      obtain ⟨σ5, eσ5, h⟩ := lt_e h
      replace I := wi_nm eσ5 I
      refine lv_iload_n hx hb dX10_terrace_49 rfl (lv_at hl 0 rfl) ?_
      refine lv_if_eq (tgt := 75) hx hb dX10_terrace_50 (by decide) (fun c6 => ?_) (fun c6 => ?_)
      · have h := ite_t h c6
        refine lv_aload_n hx hb dX10_terrace_75 rfl (lv_at hl 1 rfl) ?_
        refine lv_iconst (v := -1) hx hb dX10_terrace_76 (by decide) ?_
        refine pfC_X10_54 X I (kC_0 E) dX10_terrace_77 (fun H locs I => ?_)
        obtain ⟨σ7, eσ7, h⟩ := lt_e h
        replace I := wi_nm eσ7 I
        refine lv_aload_n hx hb dX10_terrace_80 rfl (lv_at hl 1 rfl) ?_
        refine gfC_X10_32 X I (kC_0 E) (k' := 23) rfl dX10_terrace_81 ?_
        refine lv_aload_n hx hb dX10_terrace_84 rfl (lv_at hl 1 rfl) ?_
        refine gfC_X10_10 X I (kC_0 E) (k' := 1) rfl dX10_terrace_85 ?_
        refine gfC_X10_108 X I (kC_1 E) (k' := 9) rfl dX10_terrace_88 ?_
        obtain ⟨q8, hq8, h⟩ := bd h
        refine r_callVVk (V := (vC E)) (k := 23) (As := [.ref (ca E 9)]) (rest := []) X I hl (c_X2_copyFrom (kC_23 E) (kC_24 E) (kC_25 E) (kC_26 E) (kC_27 E) (kC_28 E) (kC_29 E) (kC_30 E) (kC_31 E) (kC_32 E) (kC_33 E) (kC_34 E) (kC_9 E) (kC_10 E) (kC_11 E) (kC_12 E) (kC_13 E) (kC_14 E) (kC_15 E) (kC_16 E) (kC_17 E) (kC_18 E) (kC_19 E) (kC_20 E) hq8) yv_X2_copyFrom tw_520 ⟨rfl, rfl, Nat.le_of_ble_eq_true rfl, Nat.le_of_ble_eq_true rfl⟩ (kC_23 E).1 ((kC_23 E).2 (σ7 23)) rfl rfl rfl (Nat.le_of_ble_eq_true rfl) ⟨Nat.le_of_ble_eq_true rfl, Nat.le_of_ble_eq_true rfl⟩ dX10_terrace_91 (fun H locs I => ?_)
        refine lv_aload_n hx hb dX10_terrace_94 rfl (lv_at hl 1 rfl) ?_
        refine gfC_X10_43 X I (kC_0 E) (k' := 42) rfl dX10_terrace_95 ?_
        refine lv_aload_n hx hb dX10_terrace_98 rfl (lv_at hl 1 rfl) ?_
        refine gfC_X10_32 X I (kC_0 E) (k' := 23) rfl dX10_terrace_99 ?_
        refine gfC_X10_73 X I (kC_23 E) (k' := 34) rfl dX10_terrace_102 ?_
        obtain ⟨q9, hq9, h⟩ := bd h
        refine r_callVVk (V := (vC E)) (k := 42) (As := [.ref (ca E 34)]) (rest := []) X I hl (c_X1_begin (kC_42 E) (kC_43 E) (kC_44 E) (kC_45 E) (kC_46 E) (kC_47 E) (kC_48 E) (kC_34 E) hq9) yv_X1_begin tw_526 ⟨rfl, rfl, Nat.le_of_ble_eq_true rfl, Nat.le_of_ble_eq_true rfl⟩ (kC_42 E).1 ((kC_42 E).2 (q8 42)) rfl rfl rfl (Nat.le_of_ble_eq_true rfl) ⟨Nat.le_of_ble_eq_true rfl, Nat.le_of_ble_eq_true rfl⟩ dX10_terrace_105 (fun H locs I => ?_)
        refine lv_aload_n hx hb dX10_terrace_108 rfl (lv_at hl 1 rfl) ?_
        refine lv_iconst (v := 0) hx hb dX10_terrace_109 (by decide) ?_
        obtain ⟨hz, h⟩ := gz_some h
        refine pfC_X10_50 X I (kC_0 E) hz dX10_terrace_110 (fun H locs I => ?_)
        obtain ⟨σ10, eσ10, h⟩ := lt_e h
        replace I := wi_nm eσ10 I
        refine lv_iconst (v := 0) hx hb dX10_terrace_113 (by decide) ?_
        exact r_xiret X I (Option.some.inj h).symm ⟨Nat.le_of_ble_eq_true rfl, Nat.le_of_ble_eq_true rfl⟩ dX10_terrace_114
      · have h := ite_f h c6
        refine lv_aload_n hx hb dX10_terrace_53 rfl (lv_at hl 1 rfl) ?_
        refine lv_aload_n hx hb dX10_terrace_54 rfl (lv_at hl 1 rfl) ?_
        refine gfC_X10_20 X I (kC_0 E) (k' := 3) rfl dX10_terrace_55 ?_
        refine gfC_X10_102 X I (kC_3 E) dX10_terrace_58 ?_
        refine pfC_X10_54 X I (kC_0 E) dX10_terrace_61 (fun H locs I => ?_)
        obtain ⟨σ11, eσ11, h⟩ := lt_e h
        replace I := wi_nm eσ11 I
        refine lv_aload_n hx hb dX10_terrace_64 rfl (lv_at hl 1 rfl) ?_
        refine gfC_X10_43 X I (kC_0 E) (k' := 42) rfl dX10_terrace_65 ?_
        refine lv_iconst (v := 0) hx hb dX10_terrace_68 (by decide) ?_
        obtain ⟨q12, hq12, h⟩ := bd h
        refine r_callVIk (V := (vC E)) (k := 42) (As := [.int (0 : Int32)]) (rest := []) X I hl (c_X1_refuse (kC_42 E) (kC_43 E) (kC_44 E) (kC_45 E) (kC_46 E) (kC_47 E) (kC_48 E) hq12) yv_X1_refuse tw_488 ⟨rfl, rfl, Nat.le_of_ble_eq_true rfl, Nat.le_of_ble_eq_true rfl⟩ (kC_42 E).1 ((kC_42 E).2 (σ11 42)) rfl rfl rfl (Nat.le_of_ble_eq_true rfl) ⟨Nat.le_of_ble_eq_true rfl, Nat.le_of_ble_eq_true rfl⟩ dX10_terrace_69 (fun H locs I => ?_)
        refine lv_pop hx hb dX10_terrace_72 rfl ?_
        refine lv_iload_n hx hb dX10_terrace_73 rfl (lv_at hl 0 rfl) ?_
        exact r_xiret X I (Option.some.inj h).symm ⟨Nat.le_of_ble_eq_true rfl, Nat.le_of_ble_eq_true rfl⟩ dX10_terrace_74
    · have h := ite_f h c2
      exact r_throwS (k := 1) hlt X hex I (x := E.2.2.2.2.2.1) rfl hl (Option.some.inj h).symm tw_iae (by decide +kernel) (w := 0) (by decide) rfl rfl ⟨Nat.le_of_ble_eq_true rfl, Nat.le_of_ble_eq_true rfl, Nat.le_of_ble_eq_true rfl, Nat.le_of_ble_eq_true rfl⟩ ⟨Nat.le_of_ble_eq_true rfl, Nat.le_of_ble_eq_true rfl⟩ dX10_terrace_15 dX10_terrace_18 dX10_terrace_19 dX10_terrace_21 dX10_terrace_24
theorem c_X10_terrace {l : Launch} {E : CE} {σ : Mem} {x1 : Int32} (hlt : l.stackTraces = false) {q : (Nat × Mem) ⊕ (Int32 × Mem)} (h : m_X10_terrace σ x1 = some q) : CXI l (vC E) yX10_terrace (.code yX10_terrace cX10_terrace 3 (some .int) :: GG) rm_X10_terrace 1 6 [.ref (ca E 0), .int x1] σ q :=
  mk_CXI (by decide +kernel) (Nat.le_of_ble_eq_true rfl) (fun p e s m args below meth c A ls X hex I hl => w_X10_terrace_0 X hlt hex σ x1 h s.heap [] ls I (lv_sub hl [0, 1] rfl))

def rm_X10_count : Room := { frames := 7, cells := 1, slots := 6, locals := 200 }
def m_X10_count (σ : Mem) (x1 : Int32) : Option ((Nat × Mem) ⊕ (Int32 × Mem)) := (if x1 = (0 : Int32) then (some (.inr ((σ 23 0), σ))) else (if x1 = (1 : Int32) then (some (.inr ((σ 23 1), σ))) else (if x1 = (2 : Int32) then (some (.inr ((σ 23 2), σ))) else (if x1 = (3 : Int32) then (gd (63 : Int32) 64 (some (.inr ((σ 43 (Int32.toNatClampNeg (63 : Int32))), σ)))) else (if x1 = (4 : Int32) then (gd (62 : Int32) 64 (some (.inr ((σ 43 (Int32.toNatClampNeg (62 : Int32))), σ)))) else (if x1 = (5 : Int32) then ((m_X8_housesOf 43 σ (-1 : Int32)).bind fun q7 => (some (.inr (q7, σ)))) else (if x1 = (6 : Int32) then (gd (61 : Int32) 64 (some (.inr ((σ 43 (Int32.toNatClampNeg (61 : Int32))), σ)))) else (if x1 = (7 : Int32) then ((m_X8_coinsOfAll 43 σ).bind fun q10 => (some (.inr (q10, σ)))) else (if x1 = (8 : Int32) then (some (.inr ((σ 44 2), σ))) else (if x1 = (9 : Int32) then (some (.inr ((σ 46 1), σ))) else (if x1 = (10 : Int32) then (some (.inr ((σ 3 1), σ))) else (if x1 = (11 : Int32) then (gd (0 : Int32) 3 (some (.inr ((σ 48 (Int32.toNatClampNeg (0 : Int32))), σ)))) else (if x1 = (12 : Int32) then (gd (1 : Int32) 3 (some (.inr ((σ 48 (Int32.toNatClampNeg (1 : Int32))), σ)))) else (if x1 = (13 : Int32) then (gd (2 : Int32) 3 (some (.inr ((σ 48 (Int32.toNatClampNeg (2 : Int32))), σ)))) else (some (.inl (0, σ)))))))))))))))))
set_option maxHeartbeats 4000000 in
set_option maxRecDepth 100000 in
theorem w_X10_count_0 {p : Program} {l : Launch} {e : Env} {s : State} {m : MethodId} {args : Array Value} {below : List Frame} {meth : Method} {c : Code} {A : Nat → Prop} {E : CE} {q : (Nat × Mem) ⊕ (Int32 × Mem)} (X : CX p s m meth c args cX10_count 2 RX10 (some .int)) (hlt : l.stackTraces = false) (hex : ∀ x ∈ c.exceptionTable.toList, False) : ∀ (σ : Mem) (x1 : Int32) , m_X10_count σ x1 = some q → ∀ (H : Heap) (locs : List Loc) (ls : Array Slot), WI (vC E) A s H locs σ → lv_has ls 2 [(0, .ref (ca E 0)), (1, .int x1)] → W p l e rm_X10_count s m args below meth c H locs 0 0 (vx_MQ below (QXI (vC E) A q) (XX (vC E) A q) args s 1 6 A) (F0 m 0 ls []) := by
  have hx := X.1
  have hb := X.2.1
  intro σ x1 h H locs ls I hl
  unfold m_X10_count at h
  refine lv_iload_n hx hb dX10_count_0 rfl (lv_at hl 1 rfl) ?_
  by_cases c1 : x1 = (0 : Int32)
  · have h := ite_t h c1
    have ht : Int32.toInt x1 = 0 := by rw [c1]; rfl
    refine lv_tableIn (off := 71) (tgt := 72) hx hb dX10_count_1 (by rw [ht]; decide) (by rw [ht]; decide) (by rw [ht]; rfl) (by decide) ?_
    refine lv_aload_n hx hb dX10_count_72 rfl (lv_at hl 0 rfl) ?_
    refine gfC_X10_32 X I (kC_0 E) (k' := 23) rfl dX10_count_73 ?_
    refine gfC_X10_113 X I (kC_23 E) dX10_count_76 ?_
    exact r_xiret X I (Option.some.inj h).symm ⟨Nat.le_of_ble_eq_true rfl, Nat.le_of_ble_eq_true rfl⟩ dX10_count_79
  replace h := ite_f h c1
  by_cases c2 : x1 = (1 : Int32)
  · have h := ite_t h c2
    have ht : Int32.toInt x1 = 1 := by rw [c2]; rfl
    refine lv_tableIn (off := 79) (tgt := 80) hx hb dX10_count_1 (by rw [ht]; decide) (by rw [ht]; decide) (by rw [ht]; rfl) (by decide) ?_
    refine lv_aload_n hx hb dX10_count_80 rfl (lv_at hl 0 rfl) ?_
    refine gfC_X10_32 X I (kC_0 E) (k' := 23) rfl dX10_count_81 ?_
    refine gfC_X10_116 X I (kC_23 E) dX10_count_84 ?_
    exact r_xiret X I (Option.some.inj h).symm ⟨Nat.le_of_ble_eq_true rfl, Nat.le_of_ble_eq_true rfl⟩ dX10_count_87
  replace h := ite_f h c2
  by_cases c3 : x1 = (2 : Int32)
  · have h := ite_t h c3
    have ht : Int32.toInt x1 = 2 := by rw [c3]; rfl
    refine lv_tableIn (off := 87) (tgt := 88) hx hb dX10_count_1 (by rw [ht]; decide) (by rw [ht]; decide) (by rw [ht]; rfl) (by decide) ?_
    refine lv_aload_n hx hb dX10_count_88 rfl (lv_at hl 0 rfl) ?_
    refine gfC_X10_32 X I (kC_0 E) (k' := 23) rfl dX10_count_89 ?_
    refine gfC_X10_119 X I (kC_23 E) dX10_count_92 ?_
    exact r_xiret X I (Option.some.inj h).symm ⟨Nat.le_of_ble_eq_true rfl, Nat.le_of_ble_eq_true rfl⟩ dX10_count_95
  replace h := ite_f h c3
  by_cases c4 : x1 = (3 : Int32)
  · have h := ite_t h c4
    have ht : Int32.toInt x1 = 3 := by rw [c4]; rfl
    refine lv_tableIn (off := 95) (tgt := 96) hx hb dX10_count_1 (by rw [ht]; decide) (by rw [ht]; decide) (by rw [ht]; rfl) (by decide) ?_
    refine lv_aload_n hx hb dX10_count_96 rfl (lv_at hl 0 rfl) ?_
    refine gfC_X10_43 X I (kC_0 E) (k' := 42) rfl dX10_count_97 ?_
    refine gfC_X10_122 X I (kC_42 E) (k' := 43) rfl dX10_count_100 ?_
    refine lv_bipush (v := 63) hx hb dX10_count_103 (by decide) ?_
    obtain ⟨hin, h⟩ := gd_some h
    refine ialdC X I (kC_43 E) hin dX10_count_105 ?_
    exact r_xiret X I (Option.some.inj h).symm ⟨Nat.le_of_ble_eq_true rfl, Nat.le_of_ble_eq_true rfl⟩ dX10_count_106
  replace h := ite_f h c4
  by_cases c5 : x1 = (4 : Int32)
  · have h := ite_t h c5
    have ht : Int32.toInt x1 = 4 := by rw [c5]; rfl
    refine lv_tableIn (off := 106) (tgt := 107) hx hb dX10_count_1 (by rw [ht]; decide) (by rw [ht]; decide) (by rw [ht]; rfl) (by decide) ?_
    refine lv_aload_n hx hb dX10_count_107 rfl (lv_at hl 0 rfl) ?_
    refine gfC_X10_43 X I (kC_0 E) (k' := 42) rfl dX10_count_108 ?_
    refine gfC_X10_122 X I (kC_42 E) (k' := 43) rfl dX10_count_111 ?_
    refine lv_bipush (v := 62) hx hb dX10_count_114 (by decide) ?_
    obtain ⟨hin, h⟩ := gd_some h
    refine ialdC X I (kC_43 E) hin dX10_count_116 ?_
    exact r_xiret X I (Option.some.inj h).symm ⟨Nat.le_of_ble_eq_true rfl, Nat.le_of_ble_eq_true rfl⟩ dX10_count_117
  replace h := ite_f h c5
  by_cases c6 : x1 = (5 : Int32)
  · have h := ite_t h c6
    have ht : Int32.toInt x1 = 5 := by rw [c6]; rfl
    refine lv_tableIn (off := 117) (tgt := 118) hx hb dX10_count_1 (by rw [ht]; decide) (by rw [ht]; decide) (by rw [ht]; rfl) (by decide) ?_
    refine lv_aload_n hx hb dX10_count_118 rfl (lv_at hl 0 rfl) ?_
    refine gfC_X10_24 X I (kC_0 E) (k' := 22) rfl dX10_count_119 ?_
    refine lv_aload_n hx hb dX10_count_122 rfl (lv_at hl 0 rfl) ?_
    refine gfC_X10_43 X I (kC_0 E) (k' := 42) rfl dX10_count_123 ?_
    refine gfC_X10_122 X I (kC_42 E) (k' := 43) rfl dX10_count_126 ?_
    refine lv_iconst (v := -1) hx hb dX10_count_129 (by decide) ?_
    obtain ⟨q7, hq7, h⟩ := bd h
    refine r_callVIk (V := (vC E)) (k := 22) (As := [.ref (ca E 43), .int (-1 : Int32)]) (rest := []) X I hl (c_X8_housesOf (kC_43 E) hq7) yv_X8_housesOf tw_533 ⟨rfl, rfl, Nat.le_of_ble_eq_true rfl, Nat.le_of_ble_eq_true rfl⟩ (kC_22 E).1 ((kC_22 E).2 (σ 22)) rfl rfl rfl (Nat.le_of_ble_eq_true rfl) ⟨Nat.le_of_ble_eq_true rfl, Nat.le_of_ble_eq_true rfl⟩ dX10_count_130 (fun H locs I => ?_)
    exact r_xiret X I (Option.some.inj h).symm ⟨Nat.le_of_ble_eq_true rfl, Nat.le_of_ble_eq_true rfl⟩ dX10_count_133
  replace h := ite_f h c6
  by_cases c8 : x1 = (6 : Int32)
  · have h := ite_t h c8
    have ht : Int32.toInt x1 = 6 := by rw [c8]; rfl
    refine lv_tableIn (off := 133) (tgt := 134) hx hb dX10_count_1 (by rw [ht]; decide) (by rw [ht]; decide) (by rw [ht]; rfl) (by decide) ?_
    refine lv_aload_n hx hb dX10_count_134 rfl (lv_at hl 0 rfl) ?_
    refine gfC_X10_43 X I (kC_0 E) (k' := 42) rfl dX10_count_135 ?_
    refine gfC_X10_122 X I (kC_42 E) (k' := 43) rfl dX10_count_138 ?_
    refine lv_bipush (v := 61) hx hb dX10_count_141 (by decide) ?_
    obtain ⟨hin, h⟩ := gd_some h
    refine ialdC X I (kC_43 E) hin dX10_count_143 ?_
    exact r_xiret X I (Option.some.inj h).symm ⟨Nat.le_of_ble_eq_true rfl, Nat.le_of_ble_eq_true rfl⟩ dX10_count_144
  replace h := ite_f h c8
  by_cases c9 : x1 = (7 : Int32)
  · have h := ite_t h c9
    have ht : Int32.toInt x1 = 7 := by rw [c9]; rfl
    refine lv_tableIn (off := 144) (tgt := 145) hx hb dX10_count_1 (by rw [ht]; decide) (by rw [ht]; decide) (by rw [ht]; rfl) (by decide) ?_
    refine lv_aload_n hx hb dX10_count_145 rfl (lv_at hl 0 rfl) ?_
    refine gfC_X10_24 X I (kC_0 E) (k' := 22) rfl dX10_count_146 ?_
    refine lv_aload_n hx hb dX10_count_149 rfl (lv_at hl 0 rfl) ?_
    refine gfC_X10_43 X I (kC_0 E) (k' := 42) rfl dX10_count_150 ?_
    refine gfC_X10_122 X I (kC_42 E) (k' := 43) rfl dX10_count_153 ?_
    obtain ⟨q10, hq10, h⟩ := bd h
    refine r_callVIk (V := (vC E)) (k := 22) (As := [.ref (ca E 43)]) (rest := []) X I hl (c_X8_coinsOfAll (kC_43 E) hq10) yv_X8_coinsOfAll tw_538 ⟨rfl, rfl, Nat.le_of_ble_eq_true rfl, Nat.le_of_ble_eq_true rfl⟩ (kC_22 E).1 ((kC_22 E).2 (σ 22)) rfl rfl rfl (Nat.le_of_ble_eq_true rfl) ⟨Nat.le_of_ble_eq_true rfl, Nat.le_of_ble_eq_true rfl⟩ dX10_count_156 (fun H locs I => ?_)
    exact r_xiret X I (Option.some.inj h).symm ⟨Nat.le_of_ble_eq_true rfl, Nat.le_of_ble_eq_true rfl⟩ dX10_count_159
  replace h := ite_f h c9
  by_cases c11 : x1 = (8 : Int32)
  · have h := ite_t h c11
    have ht : Int32.toInt x1 = 8 := by rw [c11]; rfl
    refine lv_tableIn (off := 159) (tgt := 160) hx hb dX10_count_1 (by rw [ht]; decide) (by rw [ht]; decide) (by rw [ht]; rfl) (by decide) ?_
    refine lv_aload_n hx hb dX10_count_160 rfl (lv_at hl 0 rfl) ?_
    refine gfC_X10_43 X I (kC_0 E) (k' := 42) rfl dX10_count_161 ?_
    refine gfC_X10_133 X I (kC_42 E) (k' := 44) rfl dX10_count_164 ?_
    refine gfC_X10_137 X I (kC_44 E) dX10_count_167 ?_
    exact r_xiret X I (Option.some.inj h).symm ⟨Nat.le_of_ble_eq_true rfl, Nat.le_of_ble_eq_true rfl⟩ dX10_count_170
  replace h := ite_f h c11
  by_cases c12 : x1 = (9 : Int32)
  · have h := ite_t h c12
    have ht : Int32.toInt x1 = 9 := by rw [c12]; rfl
    refine lv_tableIn (off := 170) (tgt := 171) hx hb dX10_count_1 (by rw [ht]; decide) (by rw [ht]; decide) (by rw [ht]; rfl) (by decide) ?_
    refine lv_aload_n hx hb dX10_count_171 rfl (lv_at hl 0 rfl) ?_
    refine gfC_X10_43 X I (kC_0 E) (k' := 42) rfl dX10_count_172 ?_
    refine gfC_X10_142 X I (kC_42 E) (k' := 46) rfl dX10_count_175 ?_
    refine gfC_X10_146 X I (kC_46 E) dX10_count_178 ?_
    exact r_xiret X I (Option.some.inj h).symm ⟨Nat.le_of_ble_eq_true rfl, Nat.le_of_ble_eq_true rfl⟩ dX10_count_181
  replace h := ite_f h c12
  by_cases c13 : x1 = (10 : Int32)
  · have h := ite_t h c13
    have ht : Int32.toInt x1 = 10 := by rw [c13]; rfl
    refine lv_tableIn (off := 181) (tgt := 182) hx hb dX10_count_1 (by rw [ht]; decide) (by rw [ht]; decide) (by rw [ht]; rfl) (by decide) ?_
    refine lv_aload_n hx hb dX10_count_182 rfl (lv_at hl 0 rfl) ?_
    refine gfC_X10_20 X I (kC_0 E) (k' := 3) rfl dX10_count_183 ?_
    refine gfC_X10_80 X I (kC_3 E) dX10_count_186 ?_
    exact r_xiret X I (Option.some.inj h).symm ⟨Nat.le_of_ble_eq_true rfl, Nat.le_of_ble_eq_true rfl⟩ dX10_count_189
  replace h := ite_f h c13
  by_cases c14 : x1 = (11 : Int32)
  · have h := ite_t h c14
    have ht : Int32.toInt x1 = 11 := by rw [c14]; rfl
    refine lv_tableIn (off := 189) (tgt := 190) hx hb dX10_count_1 (by rw [ht]; decide) (by rw [ht]; decide) (by rw [ht]; rfl) (by decide) ?_
    refine lv_aload_n hx hb dX10_count_190 rfl (lv_at hl 0 rfl) ?_
    refine gfC_X10_43 X I (kC_0 E) (k' := 42) rfl dX10_count_191 ?_
    refine gfC_X10_149 X I (kC_42 E) (k' := 48) rfl dX10_count_194 ?_
    refine lv_iconst (v := 0) hx hb dX10_count_197 (by decide) ?_
    obtain ⟨hin, h⟩ := gd_some h
    refine ialdC X I (kC_48 E) hin dX10_count_198 ?_
    exact r_xiret X I (Option.some.inj h).symm ⟨Nat.le_of_ble_eq_true rfl, Nat.le_of_ble_eq_true rfl⟩ dX10_count_199
  replace h := ite_f h c14
  by_cases c15 : x1 = (12 : Int32)
  · have h := ite_t h c15
    have ht : Int32.toInt x1 = 12 := by rw [c15]; rfl
    refine lv_tableIn (off := 199) (tgt := 200) hx hb dX10_count_1 (by rw [ht]; decide) (by rw [ht]; decide) (by rw [ht]; rfl) (by decide) ?_
    refine lv_aload_n hx hb dX10_count_200 rfl (lv_at hl 0 rfl) ?_
    refine gfC_X10_43 X I (kC_0 E) (k' := 42) rfl dX10_count_201 ?_
    refine gfC_X10_149 X I (kC_42 E) (k' := 48) rfl dX10_count_204 ?_
    refine lv_iconst (v := 1) hx hb dX10_count_207 (by decide) ?_
    obtain ⟨hin, h⟩ := gd_some h
    refine ialdC X I (kC_48 E) hin dX10_count_208 ?_
    exact r_xiret X I (Option.some.inj h).symm ⟨Nat.le_of_ble_eq_true rfl, Nat.le_of_ble_eq_true rfl⟩ dX10_count_209
  replace h := ite_f h c15
  by_cases c16 : x1 = (13 : Int32)
  · have h := ite_t h c16
    have ht : Int32.toInt x1 = 13 := by rw [c16]; rfl
    refine lv_tableIn (off := 209) (tgt := 210) hx hb dX10_count_1 (by rw [ht]; decide) (by rw [ht]; decide) (by rw [ht]; rfl) (by decide) ?_
    refine lv_aload_n hx hb dX10_count_210 rfl (lv_at hl 0 rfl) ?_
    refine gfC_X10_43 X I (kC_0 E) (k' := 42) rfl dX10_count_211 ?_
    refine gfC_X10_149 X I (kC_42 E) (k' := 48) rfl dX10_count_214 ?_
    refine lv_iconst (v := 2) hx hb dX10_count_217 (by decide) ?_
    obtain ⟨hin, h⟩ := gd_some h
    refine ialdC X I (kC_48 E) hin dX10_count_218 ?_
    exact r_xiret X I (Option.some.inj h).symm ⟨Nat.le_of_ble_eq_true rfl, Nat.le_of_ble_eq_true rfl⟩ dX10_count_219
  replace h := ite_f h c16
  have kd : W p l e rm_X10_count s m args below meth c H locs 0 0 (vx_MQ below (QXI (vC E) A q) (XX (vC E) A q) args s 1 6 A) (F0 m 220 ls []) := by
    exact r_throwN hlt X hex I (x := E.2.2.2.2.2.1) rfl hl (Option.some.inj h).symm tw_nse (w := 1) (by decide) rfl rfl ⟨Nat.le_of_ble_eq_true rfl, Nat.le_of_ble_eq_true rfl, Nat.le_of_ble_eq_true rfl, Nat.le_of_ble_eq_true rfl⟩ ⟨Nat.le_of_ble_eq_true rfl, Nat.le_of_ble_eq_true rfl⟩ dX10_count_220 dX10_count_223 dX10_count_224 dX10_count_226 dX10_count_229
  have tc1 := lv_neT (a := 0) c1 (by decide)
  have tc2 := lv_neT (a := 1) c2 (by decide)
  have tc3 := lv_neT (a := 2) c3 (by decide)
  have tc4 := lv_neT (a := 3) c4 (by decide)
  have tc5 := lv_neT (a := 4) c5 (by decide)
  have tc6 := lv_neT (a := 5) c6 (by decide)
  have tc8 := lv_neT (a := 6) c8 (by decide)
  have tc9 := lv_neT (a := 7) c9 (by decide)
  have tc11 := lv_neT (a := 8) c11 (by decide)
  have tc12 := lv_neT (a := 9) c12 (by decide)
  have tc13 := lv_neT (a := 10) c13 (by decide)
  have tc14 := lv_neT (a := 11) c14 (by decide)
  have tc15 := lv_neT (a := 12) c15 (by decide)
  have tc16 := lv_neT (a := 13) c16 (by decide)
  exact lv_tableOut (tgt := 220) hx hb dX10_count_1 (by omega) (by decide) kd
theorem c_X10_count {l : Launch} {E : CE} {σ : Mem} {x1 : Int32} (hlt : l.stackTraces = false) {q : (Nat × Mem) ⊕ (Int32 × Mem)} (h : m_X10_count σ x1 = some q) : CXI l (vC E) yX10_count (.code yX10_count cX10_count 2 (some .int) :: GG) rm_X10_count 1 6 [.ref (ca E 0), .int x1] σ q :=
  mk_CXI (by decide +kernel) (Nat.le_of_ble_eq_true rfl) (fun p e s m args below meth c A ls X hex I hl => w_X10_count_0 X hlt hex σ x1 h s.heap [] ls I (lv_sub hl [0, 1] rfl))

def rm_X10_house : Room := { frames := 8, cells := 2, slots := 12, locals := 221 }
def m_X10_house (σ : Mem) (x1 : Int32) (x2 : Int32) : Option ((Nat × Mem) ⊕ (Int32 × Mem)) := (xb (m_X10_needHouse σ x1) fun σ2 => (if x2 = (0 : Int32) then (gd x1 8 (some (.inr ((σ2 24 (Int32.toNatClampNeg x1)), σ2)))) else (if x2 = (1 : Int32) then (gd ((0 : Int32) + x1) 64 (some (.inr ((σ2 43 (Int32.toNatClampNeg ((0 : Int32) + x1))), σ2)))) else (if x2 = (2 : Int32) then (gd ((8 : Int32) + x1) 64 (some (.inr ((σ2 43 (Int32.toNatClampNeg ((8 : Int32) + x1))), σ2)))) else (if x2 = (3 : Int32) then (gd ((16 : Int32) + x1) 64 (some (.inr ((σ2 43 (Int32.toNatClampNeg ((16 : Int32) + x1))), σ2)))) else (if x2 = (4 : Int32) then (gd ((24 : Int32) + x1) 64 (some (.inr ((σ2 43 (Int32.toNatClampNeg ((24 : Int32) + x1))), σ2)))) else (if x2 = (5 : Int32) then (gd ((32 : Int32) + x1) 64 (some (.inr ((σ2 43 (Int32.toNatClampNeg ((32 : Int32) + x1))), σ2)))) else (if x2 = (6 : Int32) then (gd x1 8 (some (.inr ((σ2 25 (Int32.toNatClampNeg x1)), σ2)))) else (if x2 = (7 : Int32) then ((m_X10_isSealedNow σ2 x1).bind fun q11 => (if q11 = (0 : Int32) then ((m_X8_isAsleep 43 σ2 x1).bind fun q13 => (if q13.1 = (0 : Int32) then (some (.inr ((0 : Int32), q13.2))) else (some (.inr ((1 : Int32), q13.2))))) else (some (.inr ((0 : Int32), σ2))))) else (some (.inl (0, σ2))))))))))))
set_option maxHeartbeats 4000000 in
set_option maxRecDepth 100000 in
theorem w_X10_house_0 {p : Program} {l : Launch} {e : Env} {s : State} {m : MethodId} {args : Array Value} {below : List Frame} {meth : Method} {c : Code} {A : Nat → Prop} {E : CE} {q : (Nat × Mem) ⊕ (Int32 × Mem)} (X : CX p s m meth c args cX10_house 3 RX10 (some .int)) (hlt : l.stackTraces = false) (hex : ∀ x ∈ c.exceptionTable.toList, False) : ∀ (σ : Mem) (x1 : Int32) (x2 : Int32) , m_X10_house σ x1 x2 = some q → ∀ (H : Heap) (locs : List Loc) (ls : Array Slot), WI (vC E) A s H locs σ → lv_has ls 3 [(0, .ref (ca E 0)), (1, .int x1), (2, .int x2)] → W p l e rm_X10_house s m args below meth c H locs 0 0 (vx_MQ below (QXI (vC E) A q) (XX (vC E) A q) args s 2 12 A) (F0 m 0 ls []) := by
  have hx := X.1
  have hb := X.2.1
  intro σ x1 x2 h H locs ls I hl
  unfold m_X10_house at h
  refine lv_aload_n hx hb dX10_house_0 rfl (lv_at hl 0 rfl) ?_
  refine lv_iload_n hx hb dX10_house_1 rfl (lv_at hl 1 rfl) ?_
  obtain ⟨q1, hq1, h⟩ := xb_e h
  refine r_callXV (V := (vC E)) (k := 0) (As := [.int x1]) (rest := []) X hex I hl (c_X10_needHouse hlt hq1) yv_X10_needHouse tw_545 ⟨rfl, rfl, Nat.le_of_ble_eq_true rfl, Nat.le_of_ble_eq_true rfl⟩ (kC_0 E).1 rfl rfl rfl rfl (Nat.le_of_ble_eq_true rfl) ⟨Nat.le_of_ble_eq_true rfl, Nat.le_of_ble_eq_true rfl⟩ ⟨Nat.le_of_ble_eq_true rfl, Nat.le_of_ble_eq_true rfl⟩ dX10_house_2 h (fun σ2 h H locs I => ?_)
  refine lv_iload_n hx hb dX10_house_5 rfl (lv_at hl 2 rfl) ?_
  by_cases c3 : x2 = (0 : Int32)
  · have h := ite_t h c3
    have ht : Int32.toInt x2 = 0 := by rw [c3]; rfl
    refine lv_tableIn (off := 46) (tgt := 52) hx hb dX10_house_6 (by rw [ht]; decide) (by rw [ht]; decide) (by rw [ht]; rfl) (by decide) ?_
    refine lv_aload_n hx hb dX10_house_52 rfl (lv_at hl 0 rfl) ?_
    refine gfC_X10_32 X I (kC_0 E) (k' := 23) rfl dX10_house_53 ?_
    refine gfC_X10_160 X I (kC_23 E) (k' := 24) rfl dX10_house_56 ?_
    refine lv_iload_n hx hb dX10_house_59 rfl (lv_at hl 1 rfl) ?_
    obtain ⟨hin, h⟩ := gd_some h
    refine ialdC X I (kC_24 E) hin dX10_house_60 ?_
    exact r_xiret X I (Option.some.inj h).symm ⟨Nat.le_of_ble_eq_true rfl, Nat.le_of_ble_eq_true rfl⟩ dX10_house_61
  replace h := ite_f h c3
  by_cases c4 : x2 = (1 : Int32)
  · have h := ite_t h c4
    have ht : Int32.toInt x2 = 1 := by rw [c4]; rfl
    refine lv_tableIn (off := 56) (tgt := 62) hx hb dX10_house_6 (by rw [ht]; decide) (by rw [ht]; decide) (by rw [ht]; rfl) (by decide) ?_
    refine lv_aload_n hx hb dX10_house_62 rfl (lv_at hl 0 rfl) ?_
    refine gfC_X10_43 X I (kC_0 E) (k' := 42) rfl dX10_house_63 ?_
    refine gfC_X10_122 X I (kC_42 E) (k' := 43) rfl dX10_house_66 ?_
    refine lv_iconst (v := 0) hx hb dX10_house_69 (by decide) ?_
    refine lv_iload_n hx hb dX10_house_70 rfl (lv_at hl 1 rfl) ?_
    refine lv_iadd hx hb dX10_house_71 ?_
    obtain ⟨hin, h⟩ := gd_some h
    refine ialdC X I (kC_43 E) hin dX10_house_72 ?_
    exact r_xiret X I (Option.some.inj h).symm ⟨Nat.le_of_ble_eq_true rfl, Nat.le_of_ble_eq_true rfl⟩ dX10_house_73
  replace h := ite_f h c4
  by_cases c5 : x2 = (2 : Int32)
  · have h := ite_t h c5
    have ht : Int32.toInt x2 = 2 := by rw [c5]; rfl
    refine lv_tableIn (off := 68) (tgt := 74) hx hb dX10_house_6 (by rw [ht]; decide) (by rw [ht]; decide) (by rw [ht]; rfl) (by decide) ?_
    refine lv_aload_n hx hb dX10_house_74 rfl (lv_at hl 0 rfl) ?_
    refine gfC_X10_43 X I (kC_0 E) (k' := 42) rfl dX10_house_75 ?_
    refine gfC_X10_122 X I (kC_42 E) (k' := 43) rfl dX10_house_78 ?_
    refine lv_bipush (v := 8) hx hb dX10_house_81 (by decide) ?_
    refine lv_iload_n hx hb dX10_house_83 rfl (lv_at hl 1 rfl) ?_
    refine lv_iadd hx hb dX10_house_84 ?_
    obtain ⟨hin, h⟩ := gd_some h
    refine ialdC X I (kC_43 E) hin dX10_house_85 ?_
    exact r_xiret X I (Option.some.inj h).symm ⟨Nat.le_of_ble_eq_true rfl, Nat.le_of_ble_eq_true rfl⟩ dX10_house_86
  replace h := ite_f h c5
  by_cases c6 : x2 = (3 : Int32)
  · have h := ite_t h c6
    have ht : Int32.toInt x2 = 3 := by rw [c6]; rfl
    refine lv_tableIn (off := 81) (tgt := 87) hx hb dX10_house_6 (by rw [ht]; decide) (by rw [ht]; decide) (by rw [ht]; rfl) (by decide) ?_
    refine lv_aload_n hx hb dX10_house_87 rfl (lv_at hl 0 rfl) ?_
    refine gfC_X10_43 X I (kC_0 E) (k' := 42) rfl dX10_house_88 ?_
    refine gfC_X10_122 X I (kC_42 E) (k' := 43) rfl dX10_house_91 ?_
    refine lv_bipush (v := 16) hx hb dX10_house_94 (by decide) ?_
    refine lv_iload_n hx hb dX10_house_96 rfl (lv_at hl 1 rfl) ?_
    refine lv_iadd hx hb dX10_house_97 ?_
    obtain ⟨hin, h⟩ := gd_some h
    refine ialdC X I (kC_43 E) hin dX10_house_98 ?_
    exact r_xiret X I (Option.some.inj h).symm ⟨Nat.le_of_ble_eq_true rfl, Nat.le_of_ble_eq_true rfl⟩ dX10_house_99
  replace h := ite_f h c6
  by_cases c7 : x2 = (4 : Int32)
  · have h := ite_t h c7
    have ht : Int32.toInt x2 = 4 := by rw [c7]; rfl
    refine lv_tableIn (off := 94) (tgt := 100) hx hb dX10_house_6 (by rw [ht]; decide) (by rw [ht]; decide) (by rw [ht]; rfl) (by decide) ?_
    refine lv_aload_n hx hb dX10_house_100 rfl (lv_at hl 0 rfl) ?_
    refine gfC_X10_43 X I (kC_0 E) (k' := 42) rfl dX10_house_101 ?_
    refine gfC_X10_122 X I (kC_42 E) (k' := 43) rfl dX10_house_104 ?_
    refine lv_bipush (v := 24) hx hb dX10_house_107 (by decide) ?_
    refine lv_iload_n hx hb dX10_house_109 rfl (lv_at hl 1 rfl) ?_
    refine lv_iadd hx hb dX10_house_110 ?_
    obtain ⟨hin, h⟩ := gd_some h
    refine ialdC X I (kC_43 E) hin dX10_house_111 ?_
    exact r_xiret X I (Option.some.inj h).symm ⟨Nat.le_of_ble_eq_true rfl, Nat.le_of_ble_eq_true rfl⟩ dX10_house_112
  replace h := ite_f h c7
  by_cases c8 : x2 = (5 : Int32)
  · have h := ite_t h c8
    have ht : Int32.toInt x2 = 5 := by rw [c8]; rfl
    refine lv_tableIn (off := 107) (tgt := 113) hx hb dX10_house_6 (by rw [ht]; decide) (by rw [ht]; decide) (by rw [ht]; rfl) (by decide) ?_
    refine lv_aload_n hx hb dX10_house_113 rfl (lv_at hl 0 rfl) ?_
    refine gfC_X10_43 X I (kC_0 E) (k' := 42) rfl dX10_house_114 ?_
    refine gfC_X10_122 X I (kC_42 E) (k' := 43) rfl dX10_house_117 ?_
    refine lv_bipush (v := 32) hx hb dX10_house_120 (by decide) ?_
    refine lv_iload_n hx hb dX10_house_122 rfl (lv_at hl 1 rfl) ?_
    refine lv_iadd hx hb dX10_house_123 ?_
    obtain ⟨hin, h⟩ := gd_some h
    refine ialdC X I (kC_43 E) hin dX10_house_124 ?_
    exact r_xiret X I (Option.some.inj h).symm ⟨Nat.le_of_ble_eq_true rfl, Nat.le_of_ble_eq_true rfl⟩ dX10_house_125
  replace h := ite_f h c8
  by_cases c9 : x2 = (6 : Int32)
  · have h := ite_t h c9
    have ht : Int32.toInt x2 = 6 := by rw [c9]; rfl
    refine lv_tableIn (off := 120) (tgt := 126) hx hb dX10_house_6 (by rw [ht]; decide) (by rw [ht]; decide) (by rw [ht]; rfl) (by decide) ?_
    refine lv_aload_n hx hb dX10_house_126 rfl (lv_at hl 0 rfl) ?_
    refine gfC_X10_32 X I (kC_0 E) (k' := 23) rfl dX10_house_127 ?_
    refine gfC_X10_163 X I (kC_23 E) (k' := 25) rfl dX10_house_130 ?_
    refine lv_iload_n hx hb dX10_house_133 rfl (lv_at hl 1 rfl) ?_
    obtain ⟨hin, h⟩ := gd_some h
    refine ialdC X I (kC_25 E) hin dX10_house_134 ?_
    exact r_xiret X I (Option.some.inj h).symm ⟨Nat.le_of_ble_eq_true rfl, Nat.le_of_ble_eq_true rfl⟩ dX10_house_135
  replace h := ite_f h c9
  by_cases c10 : x2 = (7 : Int32)
  · have h := ite_t h c10
    have ht : Int32.toInt x2 = 7 := by rw [c10]; rfl
    refine lv_tableIn (off := 130) (tgt := 136) hx hb dX10_house_6 (by rw [ht]; decide) (by rw [ht]; decide) (by rw [ht]; rfl) (by decide) ?_
    refine lv_aload_n hx hb dX10_house_136 rfl (lv_at hl 0 rfl) ?_
    refine lv_iload_n hx hb dX10_house_137 rfl (lv_at hl 1 rfl) ?_
    obtain ⟨q11, hq11, h⟩ := bd h
    refine r_callVIk (V := (vC E)) (k := 0) (As := [.int x1]) (rest := []) X I hl (c_X10_isSealedNow  hq11) yv_X10_isSealedNow tw_552 ⟨rfl, rfl, Nat.le_of_ble_eq_true rfl, Nat.le_of_ble_eq_true rfl⟩ (kC_0 E).1 ((kC_0 E).2 (σ2 0)) rfl rfl rfl (Nat.le_of_ble_eq_true rfl) ⟨Nat.le_of_ble_eq_true rfl, Nat.le_of_ble_eq_true rfl⟩ dX10_house_138 (fun H locs I => ?_)
    refine lv_if_ne (tgt := 162) hx hb dX10_house_141 (by decide) (fun c12 => ?_) (fun c12 => ?_)
    · have h := ite_f h c12
      refine lv_iconst (v := 0) hx hb dX10_house_162 (by decide) ?_
      refine lv_goto (tgt := 167) hx hb dX10_house_163 (by decide) ?_
      exact r_xiret X I (Option.some.inj h).symm ⟨Nat.le_of_ble_eq_true rfl, Nat.le_of_ble_eq_true rfl⟩ dX10_house_167
    · have h := ite_t h c12
      refine lv_aload_n hx hb dX10_house_144 rfl (lv_at hl 0 rfl) ?_
      refine gfC_X10_24 X I (kC_0 E) (k' := 22) rfl dX10_house_145 ?_
      refine lv_aload_n hx hb dX10_house_148 rfl (lv_at hl 0 rfl) ?_
      refine gfC_X10_43 X I (kC_0 E) (k' := 42) rfl dX10_house_149 ?_
      refine gfC_X10_122 X I (kC_42 E) (k' := 43) rfl dX10_house_152 ?_
      refine lv_iload_n hx hb dX10_house_155 rfl (lv_at hl 1 rfl) ?_
      obtain ⟨q13, hq13, h⟩ := bd h
      refine r_callVIk (V := (vC E)) (k := 22) (As := [.ref (ca E 43), .int x1]) (rest := []) X I hl (c_X8_isAsleep (kC_43 E) hq13) yv_X8_isAsleep tw_557 ⟨rfl, rfl, Nat.le_of_ble_eq_true rfl, Nat.le_of_ble_eq_true rfl⟩ (kC_22 E).1 ((kC_22 E).2 (σ2 22)) rfl rfl rfl (Nat.le_of_ble_eq_true rfl) ⟨Nat.le_of_ble_eq_true rfl, Nat.le_of_ble_eq_true rfl⟩ dX10_house_156 (fun H locs I => ?_)
      refine lv_if_ne (tgt := 166) hx hb dX10_house_159 (by decide) (fun c14 => ?_) (fun c14 => ?_)
      · have h := ite_f h c14
        refine lv_iconst (v := 1) hx hb dX10_house_166 (by decide) ?_
        exact r_xiret X I (Option.some.inj h).symm ⟨Nat.le_of_ble_eq_true rfl, Nat.le_of_ble_eq_true rfl⟩ dX10_house_167
      · have h := ite_t h c14
        refine lv_iconst (v := 0) hx hb dX10_house_162 (by decide) ?_
        refine lv_goto (tgt := 167) hx hb dX10_house_163 (by decide) ?_
        exact r_xiret X I (Option.some.inj h).symm ⟨Nat.le_of_ble_eq_true rfl, Nat.le_of_ble_eq_true rfl⟩ dX10_house_167
  replace h := ite_f h c10
  have kd : W p l e rm_X10_house s m args below meth c H locs 1 6 (vx_MQ below (QXI (vC E) A q) (XX (vC E) A q) args s 2 12 A) (F0 m 168 ls []) := by
    exact r_throwN hlt X hex I (x := E.2.2.2.2.2.1) rfl hl (Option.some.inj h).symm tw_nse (w := 2) (by decide) rfl rfl ⟨Nat.le_of_ble_eq_true rfl, Nat.le_of_ble_eq_true rfl, Nat.le_of_ble_eq_true rfl, Nat.le_of_ble_eq_true rfl⟩ ⟨Nat.le_of_ble_eq_true rfl, Nat.le_of_ble_eq_true rfl⟩ dX10_house_168 dX10_house_171 dX10_house_172 dX10_house_174 dX10_house_177
  have tc3 := lv_neT (a := 0) c3 (by decide)
  have tc4 := lv_neT (a := 1) c4 (by decide)
  have tc5 := lv_neT (a := 2) c5 (by decide)
  have tc6 := lv_neT (a := 3) c6 (by decide)
  have tc7 := lv_neT (a := 4) c7 (by decide)
  have tc8 := lv_neT (a := 5) c8 (by decide)
  have tc9 := lv_neT (a := 6) c9 (by decide)
  have tc10 := lv_neT (a := 7) c10 (by decide)
  exact lv_tableOut (tgt := 168) hx hb dX10_house_6 (by omega) (by decide) kd
theorem c_X10_house {l : Launch} {E : CE} {σ : Mem} {x1 : Int32} {x2 : Int32} (hlt : l.stackTraces = false) {q : (Nat × Mem) ⊕ (Int32 × Mem)} (h : m_X10_house σ x1 x2 = some q) : CXI l (vC E) yX10_house (.code yX10_house cX10_house 3 (some .int) :: GG) rm_X10_house 2 12 [.ref (ca E 0), .int x1, .int x2] σ q :=
  mk_CXI (by decide +kernel) (Nat.le_of_ble_eq_true rfl) (fun p e s m args below meth c A ls X hex I hl => w_X10_house_0 X hlt hex σ x1 x2 h s.heap [] ls I (lv_sub hl [0, 1, 2] rfl))

def rm_X10_tenant : Room := { frames := 8, cells := 2, slots := 12, locals := 221 }
def m_X10_tenant (σ : Mem) (x1 : Int32) (x2 : Int32) : Option ((Nat × Mem) ⊕ (Int32 × Mem)) := (xb (m_X10_needTenant σ x1) fun σ2 => (if x2 = (0 : Int32) then (gd ((40 : Int32) + x1) 64 (some (.inr ((σ2 43 (Int32.toNatClampNeg ((40 : Int32) + x1))), σ2)))) else (if x2 = (1 : Int32) then (gd x1 7 (some (.inr ((σ2 26 (Int32.toNatClampNeg x1)), σ2)))) else (if x2 = (2 : Int32) then (gd ((47 : Int32) + x1) 64 (some (.inr ((σ2 43 (Int32.toNatClampNeg ((47 : Int32) + x1))), σ2)))) else (if x2 = (3 : Int32) then (gd ((54 : Int32) + x1) 64 (some (.inr ((σ2 43 (Int32.toNatClampNeg ((54 : Int32) + x1))), σ2)))) else (if x2 = (4 : Int32) then ((m_X8_housesOf 43 σ2 x1).bind fun q8 => (some (.inr (q8, σ2)))) else (if x2 = (5 : Int32) then (gd x1 7 (some (.inr ((σ2 27 (Int32.toNatClampNeg x1)), σ2)))) else (some (.inl (0, σ2))))))))))
set_option maxHeartbeats 4000000 in
set_option maxRecDepth 100000 in
theorem w_X10_tenant_0 {p : Program} {l : Launch} {e : Env} {s : State} {m : MethodId} {args : Array Value} {below : List Frame} {meth : Method} {c : Code} {A : Nat → Prop} {E : CE} {q : (Nat × Mem) ⊕ (Int32 × Mem)} (X : CX p s m meth c args cX10_tenant 3 RX10 (some .int)) (hlt : l.stackTraces = false) (hex : ∀ x ∈ c.exceptionTable.toList, False) : ∀ (σ : Mem) (x1 : Int32) (x2 : Int32) , m_X10_tenant σ x1 x2 = some q → ∀ (H : Heap) (locs : List Loc) (ls : Array Slot), WI (vC E) A s H locs σ → lv_has ls 3 [(0, .ref (ca E 0)), (1, .int x1), (2, .int x2)] → W p l e rm_X10_tenant s m args below meth c H locs 0 0 (vx_MQ below (QXI (vC E) A q) (XX (vC E) A q) args s 2 12 A) (F0 m 0 ls []) := by
  have hx := X.1
  have hb := X.2.1
  intro σ x1 x2 h H locs ls I hl
  unfold m_X10_tenant at h
  refine lv_aload_n hx hb dX10_tenant_0 rfl (lv_at hl 0 rfl) ?_
  refine lv_iload_n hx hb dX10_tenant_1 rfl (lv_at hl 1 rfl) ?_
  obtain ⟨q1, hq1, h⟩ := xb_e h
  refine r_callXV (V := (vC E)) (k := 0) (As := [.int x1]) (rest := []) X hex I hl (c_X10_needTenant hlt hq1) yv_X10_needTenant tw_558 ⟨rfl, rfl, Nat.le_of_ble_eq_true rfl, Nat.le_of_ble_eq_true rfl⟩ (kC_0 E).1 rfl rfl rfl rfl (Nat.le_of_ble_eq_true rfl) ⟨Nat.le_of_ble_eq_true rfl, Nat.le_of_ble_eq_true rfl⟩ ⟨Nat.le_of_ble_eq_true rfl, Nat.le_of_ble_eq_true rfl⟩ dX10_tenant_2 h (fun σ2 h H locs I => ?_)
  refine lv_iload_n hx hb dX10_tenant_5 rfl (lv_at hl 2 rfl) ?_
  by_cases c3 : x2 = (0 : Int32)
  · have h := ite_t h c3
    have ht : Int32.toInt x2 = 0 := by rw [c3]; rfl
    refine lv_tableIn (off := 38) (tgt := 44) hx hb dX10_tenant_6 (by rw [ht]; decide) (by rw [ht]; decide) (by rw [ht]; rfl) (by decide) ?_
    refine lv_aload_n hx hb dX10_tenant_44 rfl (lv_at hl 0 rfl) ?_
    refine gfC_X10_43 X I (kC_0 E) (k' := 42) rfl dX10_tenant_45 ?_
    refine gfC_X10_122 X I (kC_42 E) (k' := 43) rfl dX10_tenant_48 ?_
    refine lv_bipush (v := 40) hx hb dX10_tenant_51 (by decide) ?_
    refine lv_iload_n hx hb dX10_tenant_53 rfl (lv_at hl 1 rfl) ?_
    refine lv_iadd hx hb dX10_tenant_54 ?_
    obtain ⟨hin, h⟩ := gd_some h
    refine ialdC X I (kC_43 E) hin dX10_tenant_55 ?_
    exact r_xiret X I (Option.some.inj h).symm ⟨Nat.le_of_ble_eq_true rfl, Nat.le_of_ble_eq_true rfl⟩ dX10_tenant_56
  replace h := ite_f h c3
  by_cases c4 : x2 = (1 : Int32)
  · have h := ite_t h c4
    have ht : Int32.toInt x2 = 1 := by rw [c4]; rfl
    refine lv_tableIn (off := 51) (tgt := 57) hx hb dX10_tenant_6 (by rw [ht]; decide) (by rw [ht]; decide) (by rw [ht]; rfl) (by decide) ?_
    refine lv_aload_n hx hb dX10_tenant_57 rfl (lv_at hl 0 rfl) ?_
    refine gfC_X10_32 X I (kC_0 E) (k' := 23) rfl dX10_tenant_58 ?_
    refine gfC_X10_179 X I (kC_23 E) (k' := 26) rfl dX10_tenant_61 ?_
    refine lv_iload_n hx hb dX10_tenant_64 rfl (lv_at hl 1 rfl) ?_
    obtain ⟨hin, h⟩ := gd_some h
    refine ialdC X I (kC_26 E) hin dX10_tenant_65 ?_
    exact r_xiret X I (Option.some.inj h).symm ⟨Nat.le_of_ble_eq_true rfl, Nat.le_of_ble_eq_true rfl⟩ dX10_tenant_66
  replace h := ite_f h c4
  by_cases c5 : x2 = (2 : Int32)
  · have h := ite_t h c5
    have ht : Int32.toInt x2 = 2 := by rw [c5]; rfl
    refine lv_tableIn (off := 61) (tgt := 67) hx hb dX10_tenant_6 (by rw [ht]; decide) (by rw [ht]; decide) (by rw [ht]; rfl) (by decide) ?_
    refine lv_aload_n hx hb dX10_tenant_67 rfl (lv_at hl 0 rfl) ?_
    refine gfC_X10_43 X I (kC_0 E) (k' := 42) rfl dX10_tenant_68 ?_
    refine gfC_X10_122 X I (kC_42 E) (k' := 43) rfl dX10_tenant_71 ?_
    refine lv_bipush (v := 47) hx hb dX10_tenant_74 (by decide) ?_
    refine lv_iload_n hx hb dX10_tenant_76 rfl (lv_at hl 1 rfl) ?_
    refine lv_iadd hx hb dX10_tenant_77 ?_
    obtain ⟨hin, h⟩ := gd_some h
    refine ialdC X I (kC_43 E) hin dX10_tenant_78 ?_
    exact r_xiret X I (Option.some.inj h).symm ⟨Nat.le_of_ble_eq_true rfl, Nat.le_of_ble_eq_true rfl⟩ dX10_tenant_79
  replace h := ite_f h c5
  by_cases c6 : x2 = (3 : Int32)
  · have h := ite_t h c6
    have ht : Int32.toInt x2 = 3 := by rw [c6]; rfl
    refine lv_tableIn (off := 74) (tgt := 80) hx hb dX10_tenant_6 (by rw [ht]; decide) (by rw [ht]; decide) (by rw [ht]; rfl) (by decide) ?_
    refine lv_aload_n hx hb dX10_tenant_80 rfl (lv_at hl 0 rfl) ?_
    refine gfC_X10_43 X I (kC_0 E) (k' := 42) rfl dX10_tenant_81 ?_
    refine gfC_X10_122 X I (kC_42 E) (k' := 43) rfl dX10_tenant_84 ?_
    refine lv_bipush (v := 54) hx hb dX10_tenant_87 (by decide) ?_
    refine lv_iload_n hx hb dX10_tenant_89 rfl (lv_at hl 1 rfl) ?_
    refine lv_iadd hx hb dX10_tenant_90 ?_
    obtain ⟨hin, h⟩ := gd_some h
    refine ialdC X I (kC_43 E) hin dX10_tenant_91 ?_
    exact r_xiret X I (Option.some.inj h).symm ⟨Nat.le_of_ble_eq_true rfl, Nat.le_of_ble_eq_true rfl⟩ dX10_tenant_92
  replace h := ite_f h c6
  by_cases c7 : x2 = (4 : Int32)
  · have h := ite_t h c7
    have ht : Int32.toInt x2 = 4 := by rw [c7]; rfl
    refine lv_tableIn (off := 87) (tgt := 93) hx hb dX10_tenant_6 (by rw [ht]; decide) (by rw [ht]; decide) (by rw [ht]; rfl) (by decide) ?_
    refine lv_aload_n hx hb dX10_tenant_93 rfl (lv_at hl 0 rfl) ?_
    refine gfC_X10_24 X I (kC_0 E) (k' := 22) rfl dX10_tenant_94 ?_
    refine lv_aload_n hx hb dX10_tenant_97 rfl (lv_at hl 0 rfl) ?_
    refine gfC_X10_43 X I (kC_0 E) (k' := 42) rfl dX10_tenant_98 ?_
    refine gfC_X10_122 X I (kC_42 E) (k' := 43) rfl dX10_tenant_101 ?_
    refine lv_iload_n hx hb dX10_tenant_104 rfl (lv_at hl 1 rfl) ?_
    obtain ⟨q8, hq8, h⟩ := bd h
    refine r_callVIk (V := (vC E)) (k := 22) (As := [.ref (ca E 43), .int x1]) (rest := []) X I hl (c_X8_housesOf (kC_43 E) hq8) yv_X8_housesOf tw_533 ⟨rfl, rfl, Nat.le_of_ble_eq_true rfl, Nat.le_of_ble_eq_true rfl⟩ (kC_22 E).1 ((kC_22 E).2 (σ2 22)) rfl rfl rfl (Nat.le_of_ble_eq_true rfl) ⟨Nat.le_of_ble_eq_true rfl, Nat.le_of_ble_eq_true rfl⟩ dX10_tenant_105 (fun H locs I => ?_)
    exact r_xiret X I (Option.some.inj h).symm ⟨Nat.le_of_ble_eq_true rfl, Nat.le_of_ble_eq_true rfl⟩ dX10_tenant_108
  replace h := ite_f h c7
  by_cases c9 : x2 = (5 : Int32)
  · have h := ite_t h c9
    have ht : Int32.toInt x2 = 5 := by rw [c9]; rfl
    refine lv_tableIn (off := 103) (tgt := 109) hx hb dX10_tenant_6 (by rw [ht]; decide) (by rw [ht]; decide) (by rw [ht]; rfl) (by decide) ?_
    refine lv_aload_n hx hb dX10_tenant_109 rfl (lv_at hl 0 rfl) ?_
    refine gfC_X10_32 X I (kC_0 E) (k' := 23) rfl dX10_tenant_110 ?_
    refine gfC_X10_182 X I (kC_23 E) (k' := 27) rfl dX10_tenant_113 ?_
    refine lv_iload_n hx hb dX10_tenant_116 rfl (lv_at hl 1 rfl) ?_
    obtain ⟨hin, h⟩ := gd_some h
    refine ialdC X I (kC_27 E) hin dX10_tenant_117 ?_
    exact r_xiret X I (Option.some.inj h).symm ⟨Nat.le_of_ble_eq_true rfl, Nat.le_of_ble_eq_true rfl⟩ dX10_tenant_118
  replace h := ite_f h c9
  have kd : W p l e rm_X10_tenant s m args below meth c H locs 1 6 (vx_MQ below (QXI (vC E) A q) (XX (vC E) A q) args s 2 12 A) (F0 m 119 ls []) := by
    exact r_throwN hlt X hex I (x := E.2.2.2.2.2.1) rfl hl (Option.some.inj h).symm tw_nse (w := 3) (by decide) rfl rfl ⟨Nat.le_of_ble_eq_true rfl, Nat.le_of_ble_eq_true rfl, Nat.le_of_ble_eq_true rfl, Nat.le_of_ble_eq_true rfl⟩ ⟨Nat.le_of_ble_eq_true rfl, Nat.le_of_ble_eq_true rfl⟩ dX10_tenant_119 dX10_tenant_122 dX10_tenant_123 dX10_tenant_125 dX10_tenant_128
  have tc3 := lv_neT (a := 0) c3 (by decide)
  have tc4 := lv_neT (a := 1) c4 (by decide)
  have tc5 := lv_neT (a := 2) c5 (by decide)
  have tc6 := lv_neT (a := 3) c6 (by decide)
  have tc7 := lv_neT (a := 4) c7 (by decide)
  have tc9 := lv_neT (a := 5) c9 (by decide)
  exact lv_tableOut (tgt := 119) hx hb dX10_tenant_6 (by omega) (by decide) kd
theorem c_X10_tenant {l : Launch} {E : CE} {σ : Mem} {x1 : Int32} {x2 : Int32} (hlt : l.stackTraces = false) {q : (Nat × Mem) ⊕ (Int32 × Mem)} (h : m_X10_tenant σ x1 x2 = some q) : CXI l (vC E) yX10_tenant (.code yX10_tenant cX10_tenant 3 (some .int) :: GG) rm_X10_tenant 2 12 [.ref (ca E 0), .int x1, .int x2] σ q :=
  mk_CXI (by decide +kernel) (Nat.le_of_ble_eq_true rfl) (fun p e s m args below meth c A ls X hex I hl => w_X10_tenant_0 X hlt hex σ x1 x2 h s.heap [] ls I (lv_sub hl [0, 1, 2] rfl))

def rm_X10_buy : Room := { frames := 8, cells := 1, slots := 6, locals := 221 }
def m_X10_buy (σ : Mem) (x1 : Int32) (x2 : Int32) : Option ((Nat × Mem) ⊕ (Int32 × Mem)) := (xb (m_X10_needTenant σ x1) fun σ2 => (if x2 < (1 : Int32) then ((m_X1_refuse 42 σ2 (1 : Int32)).bind fun q4 => (some (.inr (q4.1, q4.2)))) else (if (9 : Int32) < x2 then ((m_X1_refuse 42 σ2 (1 : Int32)).bind fun q6 => (some (.inr (q6.1, q6.2)))) else (gd ((54 : Int32) + x1) 64 (if ((3 : Int32) * x2) ≤ (σ2 43 (Int32.toNatClampNeg ((54 : Int32) + x1))) then ((m_X1_beginAct 42 σ2).bind fun q8 => (lt ((54 : Int32) + x1) fun y9 => (gd y9 64 (gd y9 64 (lt (ms q8 43 (Int32.toNatClampNeg y9) (((q8 43 (Int32.toNatClampNeg y9)) - ((3 : Int32) * x2)))) fun σ10 => (gd ((40 : Int32) + x1) 64 (gd ((40 : Int32) + x1) 64 (lt (ms σ10 43 (Int32.toNatClampNeg ((40 : Int32) + x1)) ((imin (20 : Int32) ((σ10 43 (Int32.toNatClampNeg ((40 : Int32) + x1))) + x2)))) fun σ11 => (gd ((40 : Int32) + x1) 64 (some (.inr ((σ11 43 (Int32.toNatClampNeg ((40 : Int32) + x1))), σ11)))))))))))) else ((m_X1_refuse 42 σ2 (1 : Int32)).bind fun q12 => (some (.inr (q12.1, q12.2)))))))))
set_option maxHeartbeats 4000000 in
set_option maxRecDepth 100000 in
theorem w_X10_buy_0 {p : Program} {l : Launch} {e : Env} {s : State} {m : MethodId} {args : Array Value} {below : List Frame} {meth : Method} {c : Code} {A : Nat → Prop} {E : CE} {q : (Nat × Mem) ⊕ (Int32 × Mem)} (X : CX p s m meth c args cX10_buy 3 RX10 (some .int)) (hlt : l.stackTraces = false) (hex : ∀ x ∈ c.exceptionTable.toList, False) : ∀ (σ : Mem) (x1 : Int32) (x2 : Int32) , m_X10_buy σ x1 x2 = some q → ∀ (H : Heap) (locs : List Loc) (ls : Array Slot), WI (vC E) A s H locs σ → lv_has ls 3 [(0, .ref (ca E 0)), (1, .int x1), (2, .int x2)] → W p l e rm_X10_buy s m args below meth c H locs 0 0 (vx_MQ below (QXI (vC E) A q) (XX (vC E) A q) args s 1 6 A) (F0 m 0 ls []) := by
  have hx := X.1
  have hb := X.2.1
  intro σ x1 x2 h H locs ls I hl
  unfold m_X10_buy at h
  refine lv_aload_n hx hb dX10_buy_0 rfl (lv_at hl 0 rfl) ?_
  refine lv_iload_n hx hb dX10_buy_1 rfl (lv_at hl 1 rfl) ?_
  obtain ⟨q1, hq1, h⟩ := xb_e h
  refine r_callXV (V := (vC E)) (k := 0) (As := [.int x1]) (rest := []) X hex I hl (c_X10_needTenant hlt hq1) yv_X10_needTenant tw_558 ⟨rfl, rfl, Nat.le_of_ble_eq_true rfl, Nat.le_of_ble_eq_true rfl⟩ (kC_0 E).1 rfl rfl rfl rfl (Nat.le_of_ble_eq_true rfl) ⟨Nat.le_of_ble_eq_true rfl, Nat.le_of_ble_eq_true rfl⟩ ⟨Nat.le_of_ble_eq_true rfl, Nat.le_of_ble_eq_true rfl⟩ dX10_buy_2 h (fun σ2 h H locs I => ?_)
  refine lv_iload_n hx hb dX10_buy_5 rfl (lv_at hl 2 rfl) ?_
  refine lv_iconst (v := 1) hx hb dX10_buy_6 (by decide) ?_
  refine lv_icmp_lt (tgt := 34) hx hb dX10_buy_7 (by decide) (fun c3 => ?_) (fun c3 => ?_)
  · have h := ite_t h c3
    refine lv_aload_n hx hb dX10_buy_34 rfl (lv_at hl 0 rfl) ?_
    refine gfC_X10_43 X I (kC_0 E) (k' := 42) rfl dX10_buy_35 ?_
    refine lv_iconst (v := 1) hx hb dX10_buy_38 (by decide) ?_
    obtain ⟨q4, hq4, h⟩ := bd h
    refine r_callVIk (V := (vC E)) (k := 42) (As := [.int (1 : Int32)]) (rest := []) X I hl (c_X1_refuse (kC_42 E) (kC_43 E) (kC_44 E) (kC_45 E) (kC_46 E) (kC_47 E) (kC_48 E) hq4) yv_X1_refuse tw_488 ⟨rfl, rfl, Nat.le_of_ble_eq_true rfl, Nat.le_of_ble_eq_true rfl⟩ (kC_42 E).1 ((kC_42 E).2 (σ2 42)) rfl rfl rfl (Nat.le_of_ble_eq_true rfl) ⟨Nat.le_of_ble_eq_true rfl, Nat.le_of_ble_eq_true rfl⟩ dX10_buy_39 (fun H locs I => ?_)
    exact r_xiret X I (Option.some.inj h).symm ⟨Nat.le_of_ble_eq_true rfl, Nat.le_of_ble_eq_true rfl⟩ dX10_buy_42
  · have h := ite_f h c3
    refine lv_iload_n hx hb dX10_buy_10 rfl (lv_at hl 2 rfl) ?_
    refine lv_bipush (v := 9) hx hb dX10_buy_11 (by decide) ?_
    refine lv_icmp_gt (tgt := 34) hx hb dX10_buy_13 (by decide) (fun c5 => ?_) (fun c5 => ?_)
    · have h := ite_t h c5
      refine lv_aload_n hx hb dX10_buy_34 rfl (lv_at hl 0 rfl) ?_
      refine gfC_X10_43 X I (kC_0 E) (k' := 42) rfl dX10_buy_35 ?_
      refine lv_iconst (v := 1) hx hb dX10_buy_38 (by decide) ?_
      obtain ⟨q6, hq6, h⟩ := bd h
      refine r_callVIk (V := (vC E)) (k := 42) (As := [.int (1 : Int32)]) (rest := []) X I hl (c_X1_refuse (kC_42 E) (kC_43 E) (kC_44 E) (kC_45 E) (kC_46 E) (kC_47 E) (kC_48 E) hq6) yv_X1_refuse tw_488 ⟨rfl, rfl, Nat.le_of_ble_eq_true rfl, Nat.le_of_ble_eq_true rfl⟩ (kC_42 E).1 ((kC_42 E).2 (σ2 42)) rfl rfl rfl (Nat.le_of_ble_eq_true rfl) ⟨Nat.le_of_ble_eq_true rfl, Nat.le_of_ble_eq_true rfl⟩ dX10_buy_39 (fun H locs I => ?_)
      exact r_xiret X I (Option.some.inj h).symm ⟨Nat.le_of_ble_eq_true rfl, Nat.le_of_ble_eq_true rfl⟩ dX10_buy_42
    · have h := ite_f h c5
      refine lv_aload_n hx hb dX10_buy_16 rfl (lv_at hl 0 rfl) ?_
      refine gfC_X10_43 X I (kC_0 E) (k' := 42) rfl dX10_buy_17 ?_
      refine gfC_X10_122 X I (kC_42 E) (k' := 43) rfl dX10_buy_20 ?_
      refine lv_bipush (v := 54) hx hb dX10_buy_23 (by decide) ?_
      refine lv_iload_n hx hb dX10_buy_25 rfl (lv_at hl 1 rfl) ?_
      refine lv_iadd hx hb dX10_buy_26 ?_
      obtain ⟨hin, h⟩ := gd_some h
      refine ialdC X I (kC_43 E) hin dX10_buy_27 ?_
      refine lv_iconst (v := 3) hx hb dX10_buy_28 (by decide) ?_
      refine lv_iload_n hx hb dX10_buy_29 rfl (lv_at hl 2 rfl) ?_
      refine lv_imul hx hb dX10_buy_30 ?_
      refine lv_icmp_ge (tgt := 43) hx hb dX10_buy_31 (by decide) (fun c7 => ?_) (fun c7 => ?_)
      · have h := ite_t h c7
        refine lv_aload_n hx hb dX10_buy_43 rfl (lv_at hl 0 rfl) ?_
        refine gfC_X10_43 X I (kC_0 E) (k' := 42) rfl dX10_buy_44 ?_
        obtain ⟨q8, hq8, h⟩ := bd h
        refine r_callVVk (V := (vC E)) (k := 42) (As := []) (rest := []) X I hl (c_X1_beginAct (kC_42 E) (kC_43 E) (kC_44 E) (kC_45 E) (kC_46 E) (kC_47 E) (kC_48 E) hq8) yv_X1_beginAct tw_493 ⟨rfl, rfl, Nat.le_of_ble_eq_true rfl, Nat.le_of_ble_eq_true rfl⟩ (kC_42 E).1 ((kC_42 E).2 (σ2 42)) rfl rfl rfl (Nat.le_of_ble_eq_true rfl) ⟨Nat.le_of_ble_eq_true rfl, Nat.le_of_ble_eq_true rfl⟩ dX10_buy_47 (fun H locs I => ?_)
        refine lv_aload_n hx hb dX10_buy_50 rfl (lv_at hl 0 rfl) ?_
        refine gfC_X10_43 X I (kC_0 E) (k' := 42) rfl dX10_buy_51 ?_
        refine gfC_X10_122 X I (kC_42 E) (k' := 43) rfl dX10_buy_54 ?_
        refine lv_bipush (v := 54) hx hb dX10_buy_57 (by decide) ?_
        refine lv_iload_n hx hb dX10_buy_59 rfl (lv_at hl 1 rfl) ?_
        refine lv_iadd hx hb dX10_buy_60 ?_
        obtain ⟨y9, ey9, h⟩ := lt_e h
        refine nm_i ey9 ?_
        refine lv_dup2_11 hx hb dX10_buy_61 rfl rfl ?_
        obtain ⟨hin, h⟩ := gd_some h
        refine ialdC X I (kC_43 E) hin dX10_buy_62 ?_
        refine lv_iconst (v := 3) hx hb dX10_buy_63 (by decide) ?_
        refine lv_iload_n hx hb dX10_buy_64 rfl (lv_at hl 2 rfl) ?_
        refine lv_imul hx hb dX10_buy_65 ?_
        refine lv_isub hx hb dX10_buy_66 ?_
        obtain ⟨hin, h⟩ := gd_some h
        refine iastC X I (kC_43 E) hin dX10_buy_67 (fun H locs I => ?_)
        obtain ⟨σ10, eσ10, h⟩ := lt_e h
        replace I := wi_nm eσ10 I
        refine lv_aload_n hx hb dX10_buy_68 rfl (lv_at hl 0 rfl) ?_
        refine gfC_X10_43 X I (kC_0 E) (k' := 42) rfl dX10_buy_69 ?_
        refine gfC_X10_122 X I (kC_42 E) (k' := 43) rfl dX10_buy_72 ?_
        refine lv_bipush (v := 40) hx hb dX10_buy_75 (by decide) ?_
        refine lv_iload_n hx hb dX10_buy_77 rfl (lv_at hl 1 rfl) ?_
        refine lv_iadd hx hb dX10_buy_78 ?_
        refine lv_bipush (v := 20) hx hb dX10_buy_79 (by decide) ?_
        refine lv_aload_n hx hb dX10_buy_81 rfl (lv_at hl 0 rfl) ?_
        refine gfC_X10_43 X I (kC_0 E) (k' := 42) rfl dX10_buy_82 ?_
        refine gfC_X10_122 X I (kC_42 E) (k' := 43) rfl dX10_buy_85 ?_
        refine lv_bipush (v := 40) hx hb dX10_buy_88 (by decide) ?_
        refine lv_iload_n hx hb dX10_buy_90 rfl (lv_at hl 1 rfl) ?_
        refine lv_iadd hx hb dX10_buy_91 ?_
        obtain ⟨hin, h⟩ := gd_some h
        refine ialdC X I (kC_43 E) hin dX10_buy_92 ?_
        refine lv_iload_n hx hb dX10_buy_93 rfl (lv_at hl 2 rfl) ?_
        refine lv_iadd hx hb dX10_buy_94 ?_
        refine r_mink X hl tw_468 ⟨Nat.le_of_ble_eq_true rfl, Nat.le_of_ble_eq_true rfl⟩ ⟨Nat.le_of_ble_eq_true rfl, Nat.le_of_ble_eq_true rfl⟩ dX10_buy_95 ?_
        obtain ⟨hin, h⟩ := gd_some h
        refine iastC X I (kC_43 E) hin dX10_buy_98 (fun H locs I => ?_)
        obtain ⟨σ11, eσ11, h⟩ := lt_e h
        replace I := wi_nm eσ11 I
        refine lv_aload_n hx hb dX10_buy_99 rfl (lv_at hl 0 rfl) ?_
        refine gfC_X10_43 X I (kC_0 E) (k' := 42) rfl dX10_buy_100 ?_
        refine gfC_X10_122 X I (kC_42 E) (k' := 43) rfl dX10_buy_103 ?_
        refine lv_bipush (v := 40) hx hb dX10_buy_106 (by decide) ?_
        refine lv_iload_n hx hb dX10_buy_108 rfl (lv_at hl 1 rfl) ?_
        refine lv_iadd hx hb dX10_buy_109 ?_
        obtain ⟨hin, h⟩ := gd_some h
        refine ialdC X I (kC_43 E) hin dX10_buy_110 ?_
        exact r_xiret X I (Option.some.inj h).symm ⟨Nat.le_of_ble_eq_true rfl, Nat.le_of_ble_eq_true rfl⟩ dX10_buy_111
      · have h := ite_f h c7
        refine lv_aload_n hx hb dX10_buy_34 rfl (lv_at hl 0 rfl) ?_
        refine gfC_X10_43 X I (kC_0 E) (k' := 42) rfl dX10_buy_35 ?_
        refine lv_iconst (v := 1) hx hb dX10_buy_38 (by decide) ?_
        obtain ⟨q12, hq12, h⟩ := bd h
        refine r_callVIk (V := (vC E)) (k := 42) (As := [.int (1 : Int32)]) (rest := []) X I hl (c_X1_refuse (kC_42 E) (kC_43 E) (kC_44 E) (kC_45 E) (kC_46 E) (kC_47 E) (kC_48 E) hq12) yv_X1_refuse tw_488 ⟨rfl, rfl, Nat.le_of_ble_eq_true rfl, Nat.le_of_ble_eq_true rfl⟩ (kC_42 E).1 ((kC_42 E).2 (σ2 42)) rfl rfl rfl (Nat.le_of_ble_eq_true rfl) ⟨Nat.le_of_ble_eq_true rfl, Nat.le_of_ble_eq_true rfl⟩ dX10_buy_39 (fun H locs I => ?_)
        exact r_xiret X I (Option.some.inj h).symm ⟨Nat.le_of_ble_eq_true rfl, Nat.le_of_ble_eq_true rfl⟩ dX10_buy_42
theorem c_X10_buy {l : Launch} {E : CE} {σ : Mem} {x1 : Int32} {x2 : Int32} (hlt : l.stackTraces = false) {q : (Nat × Mem) ⊕ (Int32 × Mem)} (h : m_X10_buy σ x1 x2 = some q) : CXI l (vC E) yX10_buy (.code yX10_buy cX10_buy 3 (some .int) :: GG) rm_X10_buy 1 6 [.ref (ca E 0), .int x1, .int x2] σ q :=
  mk_CXI (by decide +kernel) (Nat.le_of_ble_eq_true rfl) (fun p e s m args below meth c A ls X hex I hl => w_X10_buy_0 X hlt hex σ x1 x2 h s.heap [] ls I (lv_sub hl [0, 1, 2] rfl))

def rm_X10_cats : Room := { frames := 8, cells := 1, slots := 6, locals := 221 }
def m_X10_cats (σ : Mem) (x1 : Int32) (x2 : Int32) : Option ((Nat × Mem) ⊕ (Int32 × Mem)) := (xb (m_X10_needTenant σ x1) fun σ2 => (if x2 < (0 : Int32) then ((m_X1_refuse 42 σ2 (1 : Int32)).bind fun q4 => (some (.inr (q4.1, q4.2)))) else (if x2 ≤ (3 : Int32) then ((m_X1_actTo 42 σ2 ((47 : Int32) + x1) x2).bind fun q6 => (some (.inr (q6.1, q6.2)))) else ((m_X1_refuse 42 σ2 (1 : Int32)).bind fun q7 => (some (.inr (q7.1, q7.2)))))))
set_option maxHeartbeats 4000000 in
set_option maxRecDepth 100000 in
theorem w_X10_cats_0 {p : Program} {l : Launch} {e : Env} {s : State} {m : MethodId} {args : Array Value} {below : List Frame} {meth : Method} {c : Code} {A : Nat → Prop} {E : CE} {q : (Nat × Mem) ⊕ (Int32 × Mem)} (X : CX p s m meth c args cX10_cats 3 RX10 (some .int)) (hlt : l.stackTraces = false) (hex : ∀ x ∈ c.exceptionTable.toList, False) : ∀ (σ : Mem) (x1 : Int32) (x2 : Int32) , m_X10_cats σ x1 x2 = some q → ∀ (H : Heap) (locs : List Loc) (ls : Array Slot), WI (vC E) A s H locs σ → lv_has ls 3 [(0, .ref (ca E 0)), (1, .int x1), (2, .int x2)] → W p l e rm_X10_cats s m args below meth c H locs 0 0 (vx_MQ below (QXI (vC E) A q) (XX (vC E) A q) args s 1 6 A) (F0 m 0 ls []) := by
  have hx := X.1
  have hb := X.2.1
  intro σ x1 x2 h H locs ls I hl
  unfold m_X10_cats at h
  refine lv_aload_n hx hb dX10_cats_0 rfl (lv_at hl 0 rfl) ?_
  refine lv_iload_n hx hb dX10_cats_1 rfl (lv_at hl 1 rfl) ?_
  obtain ⟨q1, hq1, h⟩ := xb_e h
  refine r_callXV (V := (vC E)) (k := 0) (As := [.int x1]) (rest := []) X hex I hl (c_X10_needTenant hlt hq1) yv_X10_needTenant tw_558 ⟨rfl, rfl, Nat.le_of_ble_eq_true rfl, Nat.le_of_ble_eq_true rfl⟩ (kC_0 E).1 rfl rfl rfl rfl (Nat.le_of_ble_eq_true rfl) ⟨Nat.le_of_ble_eq_true rfl, Nat.le_of_ble_eq_true rfl⟩ ⟨Nat.le_of_ble_eq_true rfl, Nat.le_of_ble_eq_true rfl⟩ dX10_cats_2 h (fun σ2 h H locs I => ?_)
  refine lv_iload_n hx hb dX10_cats_5 rfl (lv_at hl 2 rfl) ?_
  refine lv_if_lt (tgt := 14) hx hb dX10_cats_6 (by decide) (fun c3 => ?_) (fun c3 => ?_)
  · have h := ite_t h c3
    refine lv_aload_n hx hb dX10_cats_14 rfl (lv_at hl 0 rfl) ?_
    refine gfC_X10_43 X I (kC_0 E) (k' := 42) rfl dX10_cats_15 ?_
    refine lv_iconst (v := 1) hx hb dX10_cats_18 (by decide) ?_
    obtain ⟨q4, hq4, h⟩ := bd h
    refine r_callVIk (V := (vC E)) (k := 42) (As := [.int (1 : Int32)]) (rest := []) X I hl (c_X1_refuse (kC_42 E) (kC_43 E) (kC_44 E) (kC_45 E) (kC_46 E) (kC_47 E) (kC_48 E) hq4) yv_X1_refuse tw_488 ⟨rfl, rfl, Nat.le_of_ble_eq_true rfl, Nat.le_of_ble_eq_true rfl⟩ (kC_42 E).1 ((kC_42 E).2 (σ2 42)) rfl rfl rfl (Nat.le_of_ble_eq_true rfl) ⟨Nat.le_of_ble_eq_true rfl, Nat.le_of_ble_eq_true rfl⟩ dX10_cats_19 (fun H locs I => ?_)
    exact r_xiret X I (Option.some.inj h).symm ⟨Nat.le_of_ble_eq_true rfl, Nat.le_of_ble_eq_true rfl⟩ dX10_cats_22
  · have h := ite_f h c3
    refine lv_iload_n hx hb dX10_cats_9 rfl (lv_at hl 2 rfl) ?_
    refine lv_iconst (v := 3) hx hb dX10_cats_10 (by decide) ?_
    refine lv_icmp_le (tgt := 23) hx hb dX10_cats_11 (by decide) (fun c5 => ?_) (fun c5 => ?_)
    · have h := ite_t h c5
      refine lv_aload_n hx hb dX10_cats_23 rfl (lv_at hl 0 rfl) ?_
      refine gfC_X10_43 X I (kC_0 E) (k' := 42) rfl dX10_cats_24 ?_
      refine lv_bipush (v := 47) hx hb dX10_cats_27 (by decide) ?_
      refine lv_iload_n hx hb dX10_cats_29 rfl (lv_at hl 1 rfl) ?_
      refine lv_iadd hx hb dX10_cats_30 ?_
      refine lv_iload_n hx hb dX10_cats_31 rfl (lv_at hl 2 rfl) ?_
      obtain ⟨q6, hq6, h⟩ := bd h
      refine r_callVIk (V := (vC E)) (k := 42) (As := [.int ((47 : Int32) + x1), .int x2]) (rest := []) X I hl (c_X1_actTo (kC_42 E) (kC_43 E) (kC_44 E) (kC_45 E) (kC_46 E) (kC_47 E) (kC_48 E) hq6) yv_X1_actTo tw_565 ⟨rfl, rfl, Nat.le_of_ble_eq_true rfl, Nat.le_of_ble_eq_true rfl⟩ (kC_42 E).1 ((kC_42 E).2 (σ2 42)) rfl rfl rfl (Nat.le_of_ble_eq_true rfl) ⟨Nat.le_of_ble_eq_true rfl, Nat.le_of_ble_eq_true rfl⟩ dX10_cats_32 (fun H locs I => ?_)
      exact r_xiret X I (Option.some.inj h).symm ⟨Nat.le_of_ble_eq_true rfl, Nat.le_of_ble_eq_true rfl⟩ dX10_cats_35
    · have h := ite_f h c5
      refine lv_aload_n hx hb dX10_cats_14 rfl (lv_at hl 0 rfl) ?_
      refine gfC_X10_43 X I (kC_0 E) (k' := 42) rfl dX10_cats_15 ?_
      refine lv_iconst (v := 1) hx hb dX10_cats_18 (by decide) ?_
      obtain ⟨q7, hq7, h⟩ := bd h
      refine r_callVIk (V := (vC E)) (k := 42) (As := [.int (1 : Int32)]) (rest := []) X I hl (c_X1_refuse (kC_42 E) (kC_43 E) (kC_44 E) (kC_45 E) (kC_46 E) (kC_47 E) (kC_48 E) hq7) yv_X1_refuse tw_488 ⟨rfl, rfl, Nat.le_of_ble_eq_true rfl, Nat.le_of_ble_eq_true rfl⟩ (kC_42 E).1 ((kC_42 E).2 (σ2 42)) rfl rfl rfl (Nat.le_of_ble_eq_true rfl) ⟨Nat.le_of_ble_eq_true rfl, Nat.le_of_ble_eq_true rfl⟩ dX10_cats_19 (fun H locs I => ?_)
      exact r_xiret X I (Option.some.inj h).symm ⟨Nat.le_of_ble_eq_true rfl, Nat.le_of_ble_eq_true rfl⟩ dX10_cats_22
theorem c_X10_cats {l : Launch} {E : CE} {σ : Mem} {x1 : Int32} {x2 : Int32} (hlt : l.stackTraces = false) {q : (Nat × Mem) ⊕ (Int32 × Mem)} (h : m_X10_cats σ x1 x2 = some q) : CXI l (vC E) yX10_cats (.code yX10_cats cX10_cats 3 (some .int) :: GG) rm_X10_cats 1 6 [.ref (ca E 0), .int x1, .int x2] σ q :=
  mk_CXI (by decide +kernel) (Nat.le_of_ble_eq_true rfl) (fun p e s m args below meth c A ls X hex I hl => w_X10_cats_0 X hlt hex σ x1 x2 h s.heap [] ls I (lv_sub hl [0, 1, 2] rfl))

def rm_X10_lead : Room := { frames := 8, cells := 1, slots := 6, locals := 221 }
def f_X10_lead_29 (σ : Mem) (x1 : Int32) (x2 : Int32) (x3 : Int32) (z0 : Int32) : Option ((Nat × Mem) ⊕ (Int32 × Mem)) := (if z0 = x2 then ((m_X1_refuse 42 σ (1 : Int32)).bind fun q2 => (some (.inr ((0 : Int32), q2.2)))) else ((m_X10_isSealedNow σ x1).bind fun q3 => (if q3 = (0 : Int32) then (gd (61 : Int32) 64 ((m_X1_actTo 42 σ (61 : Int32) ((σ 43 (Int32.toNatClampNeg (61 : Int32))) ^^^ x3)).bind fun q5 => (some (.inr ((1 : Int32), q5.2))))) else ((m_X1_refuse 42 σ (1 : Int32)).bind fun q6 => (some (.inr ((0 : Int32), q6.2)))))))
def m_X10_lead (σ : Mem) (x1 : Int32) (x2 : Int32) : Option ((Nat × Mem) ⊕ (Int32 × Mem)) := (xb (m_X10_needHouse σ x1) fun σ2 => (lt ((1 : Int32) <<< (x1 &&& 31)) fun y3 => (gd (61 : Int32) 64 (if ((σ2 43 (Int32.toNatClampNeg (61 : Int32))) &&& y3) = (0 : Int32) then (f_X10_lead_29 σ2 x1 x2 y3 (0 : Int32)) else (f_X10_lead_29 σ2 x1 x2 y3 (1 : Int32))))))
set_option maxHeartbeats 4000000 in
set_option maxRecDepth 100000 in
theorem w_X10_lead_29 {p : Program} {l : Launch} {e : Env} {s : State} {m : MethodId} {args : Array Value} {below : List Frame} {meth : Method} {c : Code} {A : Nat → Prop} {E : CE} {q : (Nat × Mem) ⊕ (Int32 × Mem)} (X : CX p s m meth c args cX10_lead 5 RX10 (some .boolean)) (hlt : l.stackTraces = false) (hex : ∀ x ∈ c.exceptionTable.toList, False) : ∀ (σ : Mem) (x1 : Int32) (x2 : Int32) (x3 : Int32) (z0 : Int32), f_X10_lead_29 σ x1 x2 x3 z0 = some q → ∀ (H : Heap) (locs : List Loc) (ls : Array Slot), WI (vC E) A s H locs σ → lv_has ls 5 [(0, .ref (ca E 0)), (1, .int x1), (2, .int x2), (3, .int x3)] → W p l e rm_X10_lead s m args below meth c H locs 1 6 (vx_MQ below (QXI (vC E) A q) (XX (vC E) A q) args s 1 6 A) (F0 m 29 ls [.int z0]) := by
  have hx := X.1
  have hb := X.2.1
  intro σ x1 x2 x3 z0 h H locs ls I hl
  unfold f_X10_lead_29 at h
  refine lv_istore (lv' := [(4, .int z0), (0, .ref (ca E 0)), (1, .int x1), (2, .int x2), (3, .int x3)]) hx hb dX10_lead_29 hl (by decide) rfl (fun ls hl => ?_)
  refine lv_iload hx hb dX10_lead_31 (lv_at hl 0 rfl) ?_
  refine lv_iload_n hx hb dX10_lead_33 rfl (lv_at hl 3 rfl) ?_
  refine lv_icmp_eq (tgt := 45) hx hb dX10_lead_34 (by decide) (fun c1 => ?_) (fun c1 => ?_)
  · have h := ite_t h c1
    refine lv_aload_n hx hb dX10_lead_45 rfl (lv_at hl 1 rfl) ?_
    refine gfC_X10_43 X I (kC_0 E) (k' := 42) rfl dX10_lead_46 ?_
    refine lv_iconst (v := 1) hx hb dX10_lead_49 (by decide) ?_
    obtain ⟨q2, hq2, h⟩ := bd h
    refine r_callVIk (V := (vC E)) (k := 42) (As := [.int (1 : Int32)]) (rest := []) X I hl (c_X1_refuse (kC_42 E) (kC_43 E) (kC_44 E) (kC_45 E) (kC_46 E) (kC_47 E) (kC_48 E) hq2) yv_X1_refuse tw_488 ⟨rfl, rfl, Nat.le_of_ble_eq_true rfl, Nat.le_of_ble_eq_true rfl⟩ (kC_42 E).1 ((kC_42 E).2 (σ 42)) rfl rfl rfl (Nat.le_of_ble_eq_true rfl) ⟨Nat.le_of_ble_eq_true rfl, Nat.le_of_ble_eq_true rfl⟩ dX10_lead_50 (fun H locs I => ?_)
    refine lv_pop hx hb dX10_lead_53 rfl ?_
    refine lv_iconst (v := 0) hx hb dX10_lead_54 (by decide) ?_
    exact r_xzret X I (Option.some.inj h).symm ⟨Nat.le_of_ble_eq_true rfl, Nat.le_of_ble_eq_true rfl⟩ rfl dX10_lead_55
  · have h := ite_f h c1
    refine lv_aload_n hx hb dX10_lead_37 rfl (lv_at hl 1 rfl) ?_
    refine lv_iload_n hx hb dX10_lead_38 rfl (lv_at hl 2 rfl) ?_
    obtain ⟨q3, hq3, h⟩ := bd h
    refine r_callVIk (V := (vC E)) (k := 0) (As := [.int x1]) (rest := []) X I hl (c_X10_isSealedNow  hq3) yv_X10_isSealedNow tw_552 ⟨rfl, rfl, Nat.le_of_ble_eq_true rfl, Nat.le_of_ble_eq_true rfl⟩ (kC_0 E).1 ((kC_0 E).2 (σ 0)) rfl rfl rfl (Nat.le_of_ble_eq_true rfl) ⟨Nat.le_of_ble_eq_true rfl, Nat.le_of_ble_eq_true rfl⟩ dX10_lead_39 (fun H locs I => ?_)
    refine lv_if_eq (tgt := 56) hx hb dX10_lead_42 (by decide) (fun c4 => ?_) (fun c4 => ?_)
    · have h := ite_t h c4
      refine lv_aload_n hx hb dX10_lead_56 rfl (lv_at hl 1 rfl) ?_
      refine gfC_X10_43 X I (kC_0 E) (k' := 42) rfl dX10_lead_57 ?_
      refine lv_bipush (v := 61) hx hb dX10_lead_60 (by decide) ?_
      refine lv_aload_n hx hb dX10_lead_62 rfl (lv_at hl 1 rfl) ?_
      refine gfC_X10_43 X I (kC_0 E) (k' := 42) rfl dX10_lead_63 ?_
      refine gfC_X10_122 X I (kC_42 E) (k' := 43) rfl dX10_lead_66 ?_
      refine lv_bipush (v := 61) hx hb dX10_lead_69 (by decide) ?_
      obtain ⟨hin, h⟩ := gd_some h
      refine ialdC X I (kC_43 E) hin dX10_lead_71 ?_
      refine lv_iload_n hx hb dX10_lead_72 rfl (lv_at hl 4 rfl) ?_
      refine lv_ixor hx hb dX10_lead_73 ?_
      obtain ⟨q5, hq5, h⟩ := bd h
      refine r_callVIk (V := (vC E)) (k := 42) (As := [.int (61 : Int32), .int ((σ 43 (Int32.toNatClampNeg (61 : Int32))) ^^^ x3)]) (rest := []) X I hl (c_X1_actTo (kC_42 E) (kC_43 E) (kC_44 E) (kC_45 E) (kC_46 E) (kC_47 E) (kC_48 E) hq5) yv_X1_actTo tw_565 ⟨rfl, rfl, Nat.le_of_ble_eq_true rfl, Nat.le_of_ble_eq_true rfl⟩ (kC_42 E).1 ((kC_42 E).2 (σ 42)) rfl rfl rfl (Nat.le_of_ble_eq_true rfl) ⟨Nat.le_of_ble_eq_true rfl, Nat.le_of_ble_eq_true rfl⟩ dX10_lead_74 (fun H locs I => ?_)
      refine lv_pop hx hb dX10_lead_77 rfl ?_
      refine lv_iconst (v := 1) hx hb dX10_lead_78 (by decide) ?_
      exact r_xzret X I (Option.some.inj h).symm ⟨Nat.le_of_ble_eq_true rfl, Nat.le_of_ble_eq_true rfl⟩ rfl dX10_lead_79
    · have h := ite_f h c4
      refine lv_aload_n hx hb dX10_lead_45 rfl (lv_at hl 1 rfl) ?_
      refine gfC_X10_43 X I (kC_0 E) (k' := 42) rfl dX10_lead_46 ?_
      refine lv_iconst (v := 1) hx hb dX10_lead_49 (by decide) ?_
      obtain ⟨q6, hq6, h⟩ := bd h
      refine r_callVIk (V := (vC E)) (k := 42) (As := [.int (1 : Int32)]) (rest := []) X I hl (c_X1_refuse (kC_42 E) (kC_43 E) (kC_44 E) (kC_45 E) (kC_46 E) (kC_47 E) (kC_48 E) hq6) yv_X1_refuse tw_488 ⟨rfl, rfl, Nat.le_of_ble_eq_true rfl, Nat.le_of_ble_eq_true rfl⟩ (kC_42 E).1 ((kC_42 E).2 (σ 42)) rfl rfl rfl (Nat.le_of_ble_eq_true rfl) ⟨Nat.le_of_ble_eq_true rfl, Nat.le_of_ble_eq_true rfl⟩ dX10_lead_50 (fun H locs I => ?_)
      refine lv_pop hx hb dX10_lead_53 rfl ?_
      refine lv_iconst (v := 0) hx hb dX10_lead_54 (by decide) ?_
      exact r_xzret X I (Option.some.inj h).symm ⟨Nat.le_of_ble_eq_true rfl, Nat.le_of_ble_eq_true rfl⟩ rfl dX10_lead_55
set_option maxHeartbeats 4000000 in
set_option maxRecDepth 100000 in
theorem w_X10_lead_0 {p : Program} {l : Launch} {e : Env} {s : State} {m : MethodId} {args : Array Value} {below : List Frame} {meth : Method} {c : Code} {A : Nat → Prop} {E : CE} {q : (Nat × Mem) ⊕ (Int32 × Mem)} (X : CX p s m meth c args cX10_lead 5 RX10 (some .boolean)) (hlt : l.stackTraces = false) (hex : ∀ x ∈ c.exceptionTable.toList, False) : ∀ (σ : Mem) (x1 : Int32) (x2 : Int32) , m_X10_lead σ x1 x2 = some q → ∀ (H : Heap) (locs : List Loc) (ls : Array Slot), WI (vC E) A s H locs σ → lv_has ls 5 [(0, .ref (ca E 0)), (1, .int x1), (2, .int x2)] → W p l e rm_X10_lead s m args below meth c H locs 0 0 (vx_MQ below (QXI (vC E) A q) (XX (vC E) A q) args s 1 6 A) (F0 m 0 ls []) := by
  have hx := X.1
  have hb := X.2.1
  intro σ x1 x2 h H locs ls I hl
  unfold m_X10_lead at h
  refine lv_aload_n hx hb dX10_lead_0 rfl (lv_at hl 0 rfl) ?_
  refine lv_iload_n hx hb dX10_lead_1 rfl (lv_at hl 1 rfl) ?_
  obtain ⟨q1, hq1, h⟩ := xb_e h
  refine r_callXV (V := (vC E)) (k := 0) (As := [.int x1]) (rest := []) X hex I hl (c_X10_needHouse hlt hq1) yv_X10_needHouse tw_545 ⟨rfl, rfl, Nat.le_of_ble_eq_true rfl, Nat.le_of_ble_eq_true rfl⟩ (kC_0 E).1 rfl rfl rfl rfl (Nat.le_of_ble_eq_true rfl) ⟨Nat.le_of_ble_eq_true rfl, Nat.le_of_ble_eq_true rfl⟩ ⟨Nat.le_of_ble_eq_true rfl, Nat.le_of_ble_eq_true rfl⟩ dX10_lead_2 h (fun σ2 h H locs I => ?_)
  refine lv_iconst (v := 1) hx hb dX10_lead_5 (by decide) ?_
  refine lv_iload_n hx hb dX10_lead_6 rfl (lv_at hl 1 rfl) ?_
  refine lv_ishl hx hb dX10_lead_7 ?_
  obtain ⟨y3, ey3, h⟩ := lt_e h
  refine nm_i ey3 ?_
  refine lv_istore_n (lv' := [(3, .int y3), (0, .ref (ca E 0)), (1, .int x1), (2, .int x2)]) hx hb dX10_lead_8 rfl hl (by decide) rfl (fun ls hl => ?_)
  refine lv_aload_n hx hb dX10_lead_9 rfl (lv_at hl 1 rfl) ?_
  refine gfC_X10_43 X I (kC_0 E) (k' := 42) rfl dX10_lead_10 ?_
  refine gfC_X10_122 X I (kC_42 E) (k' := 43) rfl dX10_lead_13 ?_
  refine lv_bipush (v := 61) hx hb dX10_lead_16 (by decide) ?_
  obtain ⟨hin, h⟩ := gd_some h
  refine ialdC X I (kC_43 E) hin dX10_lead_18 ?_
  refine lv_iload_n hx hb dX10_lead_19 rfl (lv_at hl 0 rfl) ?_
  refine lv_iand hx hb dX10_lead_20 ?_
  refine lv_if_eq (tgt := 28) hx hb dX10_lead_21 (by decide) (fun c4 => ?_) (fun c4 => ?_)
  · have h := ite_t h c4
    refine lv_iconst (v := 0) hx hb dX10_lead_28 (by decide) ?_
    exact w_X10_lead_29 X hlt hex   σ2 x1 x2 y3 (0 : Int32) h H locs ls I (lv_sub hl [1, 2, 3, 0] rfl)
  · have h := ite_f h c4
    refine lv_iconst (v := 1) hx hb dX10_lead_24 (by decide) ?_
    refine lv_goto (tgt := 29) hx hb dX10_lead_25 (by decide) ?_
    exact w_X10_lead_29 X hlt hex   σ2 x1 x2 y3 (1 : Int32) h H locs ls I (lv_sub hl [1, 2, 3, 0] rfl)
theorem c_X10_lead {l : Launch} {E : CE} {σ : Mem} {x1 : Int32} {x2 : Int32} (hlt : l.stackTraces = false) {q : (Nat × Mem) ⊕ (Int32 × Mem)} (h : m_X10_lead σ x1 x2 = some q) : CXI l (vC E) yX10_lead (.code yX10_lead cX10_lead 5 (some .boolean) :: GG) rm_X10_lead 1 6 [.ref (ca E 0), .int x1, .int x2] σ q :=
  mk_CXI (by decide +kernel) (Nat.le_of_ble_eq_true rfl) (fun p e s m args below meth c A ls X hex I hl => w_X10_lead_0 X hlt hex σ x1 x2 h s.heap [] ls I (lv_sub hl [0, 1, 2] rfl))

def rm_X10_temper : Room := { frames := 8, cells := 1, slots := 6, locals := 221 }
def m_X10_temper (σ : Mem) (x1 : Int32) (x2 : Int32) : Option ((Nat × Mem) ⊕ (Int32 × Mem)) := (xb (m_X10_needHouse σ x1) fun σ2 => (if x2 < (0 : Int32) then ((m_X1_refuse 42 σ2 (1 : Int32)).bind fun q4 => (some (.inr (q4.1, q4.2)))) else (if (9 : Int32) < x2 then ((m_X1_refuse 42 σ2 (1 : Int32)).bind fun q6 => (some (.inr (q6.1, q6.2)))) else ((m_X10_isSealedNow σ2 x1).bind fun q7 => (if q7 = (0 : Int32) then ((m_X1_actTo 42 σ2 ((8 : Int32) + x1) x2).bind fun q9 => (some (.inr (q9.1, q9.2)))) else ((m_X1_refuse 42 σ2 (1 : Int32)).bind fun q10 => (some (.inr (q10.1, q10.2)))))))))
set_option maxHeartbeats 4000000 in
set_option maxRecDepth 100000 in
theorem w_X10_temper_0 {p : Program} {l : Launch} {e : Env} {s : State} {m : MethodId} {args : Array Value} {below : List Frame} {meth : Method} {c : Code} {A : Nat → Prop} {E : CE} {q : (Nat × Mem) ⊕ (Int32 × Mem)} (X : CX p s m meth c args cX10_temper 3 RX10 (some .int)) (hlt : l.stackTraces = false) (hex : ∀ x ∈ c.exceptionTable.toList, False) : ∀ (σ : Mem) (x1 : Int32) (x2 : Int32) , m_X10_temper σ x1 x2 = some q → ∀ (H : Heap) (locs : List Loc) (ls : Array Slot), WI (vC E) A s H locs σ → lv_has ls 3 [(0, .ref (ca E 0)), (1, .int x1), (2, .int x2)] → W p l e rm_X10_temper s m args below meth c H locs 0 0 (vx_MQ below (QXI (vC E) A q) (XX (vC E) A q) args s 1 6 A) (F0 m 0 ls []) := by
  have hx := X.1
  have hb := X.2.1
  intro σ x1 x2 h H locs ls I hl
  unfold m_X10_temper at h
  refine lv_aload_n hx hb dX10_temper_0 rfl (lv_at hl 0 rfl) ?_
  refine lv_iload_n hx hb dX10_temper_1 rfl (lv_at hl 1 rfl) ?_
  obtain ⟨q1, hq1, h⟩ := xb_e h
  refine r_callXV (V := (vC E)) (k := 0) (As := [.int x1]) (rest := []) X hex I hl (c_X10_needHouse hlt hq1) yv_X10_needHouse tw_545 ⟨rfl, rfl, Nat.le_of_ble_eq_true rfl, Nat.le_of_ble_eq_true rfl⟩ (kC_0 E).1 rfl rfl rfl rfl (Nat.le_of_ble_eq_true rfl) ⟨Nat.le_of_ble_eq_true rfl, Nat.le_of_ble_eq_true rfl⟩ ⟨Nat.le_of_ble_eq_true rfl, Nat.le_of_ble_eq_true rfl⟩ dX10_temper_2 h (fun σ2 h H locs I => ?_)
  refine lv_iload_n hx hb dX10_temper_5 rfl (lv_at hl 2 rfl) ?_
  refine lv_if_lt (tgt := 23) hx hb dX10_temper_6 (by decide) (fun c3 => ?_) (fun c3 => ?_)
  · have h := ite_t h c3
    refine lv_aload_n hx hb dX10_temper_23 rfl (lv_at hl 0 rfl) ?_
    refine gfC_X10_43 X I (kC_0 E) (k' := 42) rfl dX10_temper_24 ?_
    refine lv_iconst (v := 1) hx hb dX10_temper_27 (by decide) ?_
    obtain ⟨q4, hq4, h⟩ := bd h
    refine r_callVIk (V := (vC E)) (k := 42) (As := [.int (1 : Int32)]) (rest := []) X I hl (c_X1_refuse (kC_42 E) (kC_43 E) (kC_44 E) (kC_45 E) (kC_46 E) (kC_47 E) (kC_48 E) hq4) yv_X1_refuse tw_488 ⟨rfl, rfl, Nat.le_of_ble_eq_true rfl, Nat.le_of_ble_eq_true rfl⟩ (kC_42 E).1 ((kC_42 E).2 (σ2 42)) rfl rfl rfl (Nat.le_of_ble_eq_true rfl) ⟨Nat.le_of_ble_eq_true rfl, Nat.le_of_ble_eq_true rfl⟩ dX10_temper_28 (fun H locs I => ?_)
    exact r_xiret X I (Option.some.inj h).symm ⟨Nat.le_of_ble_eq_true rfl, Nat.le_of_ble_eq_true rfl⟩ dX10_temper_31
  · have h := ite_f h c3
    refine lv_iload_n hx hb dX10_temper_9 rfl (lv_at hl 2 rfl) ?_
    refine lv_bipush (v := 9) hx hb dX10_temper_10 (by decide) ?_
    refine lv_icmp_gt (tgt := 23) hx hb dX10_temper_12 (by decide) (fun c5 => ?_) (fun c5 => ?_)
    · have h := ite_t h c5
      refine lv_aload_n hx hb dX10_temper_23 rfl (lv_at hl 0 rfl) ?_
      refine gfC_X10_43 X I (kC_0 E) (k' := 42) rfl dX10_temper_24 ?_
      refine lv_iconst (v := 1) hx hb dX10_temper_27 (by decide) ?_
      obtain ⟨q6, hq6, h⟩ := bd h
      refine r_callVIk (V := (vC E)) (k := 42) (As := [.int (1 : Int32)]) (rest := []) X I hl (c_X1_refuse (kC_42 E) (kC_43 E) (kC_44 E) (kC_45 E) (kC_46 E) (kC_47 E) (kC_48 E) hq6) yv_X1_refuse tw_488 ⟨rfl, rfl, Nat.le_of_ble_eq_true rfl, Nat.le_of_ble_eq_true rfl⟩ (kC_42 E).1 ((kC_42 E).2 (σ2 42)) rfl rfl rfl (Nat.le_of_ble_eq_true rfl) ⟨Nat.le_of_ble_eq_true rfl, Nat.le_of_ble_eq_true rfl⟩ dX10_temper_28 (fun H locs I => ?_)
      exact r_xiret X I (Option.some.inj h).symm ⟨Nat.le_of_ble_eq_true rfl, Nat.le_of_ble_eq_true rfl⟩ dX10_temper_31
    · have h := ite_f h c5
      refine lv_aload_n hx hb dX10_temper_15 rfl (lv_at hl 0 rfl) ?_
      refine lv_iload_n hx hb dX10_temper_16 rfl (lv_at hl 1 rfl) ?_
      obtain ⟨q7, hq7, h⟩ := bd h
      refine r_callVIk (V := (vC E)) (k := 0) (As := [.int x1]) (rest := []) X I hl (c_X10_isSealedNow  hq7) yv_X10_isSealedNow tw_552 ⟨rfl, rfl, Nat.le_of_ble_eq_true rfl, Nat.le_of_ble_eq_true rfl⟩ (kC_0 E).1 ((kC_0 E).2 (σ2 0)) rfl rfl rfl (Nat.le_of_ble_eq_true rfl) ⟨Nat.le_of_ble_eq_true rfl, Nat.le_of_ble_eq_true rfl⟩ dX10_temper_17 (fun H locs I => ?_)
      refine lv_if_eq (tgt := 32) hx hb dX10_temper_20 (by decide) (fun c8 => ?_) (fun c8 => ?_)
      · have h := ite_t h c8
        refine lv_aload_n hx hb dX10_temper_32 rfl (lv_at hl 0 rfl) ?_
        refine gfC_X10_43 X I (kC_0 E) (k' := 42) rfl dX10_temper_33 ?_
        refine lv_bipush (v := 8) hx hb dX10_temper_36 (by decide) ?_
        refine lv_iload_n hx hb dX10_temper_38 rfl (lv_at hl 1 rfl) ?_
        refine lv_iadd hx hb dX10_temper_39 ?_
        refine lv_iload_n hx hb dX10_temper_40 rfl (lv_at hl 2 rfl) ?_
        obtain ⟨q9, hq9, h⟩ := bd h
        refine r_callVIk (V := (vC E)) (k := 42) (As := [.int ((8 : Int32) + x1), .int x2]) (rest := []) X I hl (c_X1_actTo (kC_42 E) (kC_43 E) (kC_44 E) (kC_45 E) (kC_46 E) (kC_47 E) (kC_48 E) hq9) yv_X1_actTo tw_565 ⟨rfl, rfl, Nat.le_of_ble_eq_true rfl, Nat.le_of_ble_eq_true rfl⟩ (kC_42 E).1 ((kC_42 E).2 (σ2 42)) rfl rfl rfl (Nat.le_of_ble_eq_true rfl) ⟨Nat.le_of_ble_eq_true rfl, Nat.le_of_ble_eq_true rfl⟩ dX10_temper_41 (fun H locs I => ?_)
        exact r_xiret X I (Option.some.inj h).symm ⟨Nat.le_of_ble_eq_true rfl, Nat.le_of_ble_eq_true rfl⟩ dX10_temper_44
      · have h := ite_f h c8
        refine lv_aload_n hx hb dX10_temper_23 rfl (lv_at hl 0 rfl) ?_
        refine gfC_X10_43 X I (kC_0 E) (k' := 42) rfl dX10_temper_24 ?_
        refine lv_iconst (v := 1) hx hb dX10_temper_27 (by decide) ?_
        obtain ⟨q10, hq10, h⟩ := bd h
        refine r_callVIk (V := (vC E)) (k := 42) (As := [.int (1 : Int32)]) (rest := []) X I hl (c_X1_refuse (kC_42 E) (kC_43 E) (kC_44 E) (kC_45 E) (kC_46 E) (kC_47 E) (kC_48 E) hq10) yv_X1_refuse tw_488 ⟨rfl, rfl, Nat.le_of_ble_eq_true rfl, Nat.le_of_ble_eq_true rfl⟩ (kC_42 E).1 ((kC_42 E).2 (σ2 42)) rfl rfl rfl (Nat.le_of_ble_eq_true rfl) ⟨Nat.le_of_ble_eq_true rfl, Nat.le_of_ble_eq_true rfl⟩ dX10_temper_28 (fun H locs I => ?_)
        exact r_xiret X I (Option.some.inj h).symm ⟨Nat.le_of_ble_eq_true rfl, Nat.le_of_ble_eq_true rfl⟩ dX10_temper_31
theorem c_X10_temper {l : Launch} {E : CE} {σ : Mem} {x1 : Int32} {x2 : Int32} (hlt : l.stackTraces = false) {q : (Nat × Mem) ⊕ (Int32 × Mem)} (h : m_X10_temper σ x1 x2 = some q) : CXI l (vC E) yX10_temper (.code yX10_temper cX10_temper 3 (some .int) :: GG) rm_X10_temper 1 6 [.ref (ca E 0), .int x1, .int x2] σ q :=
  mk_CXI (by decide +kernel) (Nat.le_of_ble_eq_true rfl) (fun p e s m args below meth c A ls X hex I hl => w_X10_temper_0 X hlt hex σ x1 x2 h s.heap [] ls I (lv_sub hl [0, 1, 2] rfl))

def rm_X10_then : Room := { frames := 8, cells := 2, slots := 12, locals := 227 }
def m_X10_then (σ : Mem) (x1 : Int32) (x2 : Int32) : Option ((Nat × Mem) ⊕ (Int32 × Mem)) := (xb (m_X10_needHouse σ x1) fun σ2 => (xb (m_X10_needAhead σ2 x2) fun σ4 => ((m_X10_tryAhead σ4 x2).bind fun q5 => (gd ((24 : Int32) + x1) 64 (some (.inr ((q5 56 (Int32.toNatClampNeg ((24 : Int32) + x1))), q5)))))))
set_option maxHeartbeats 4000000 in
set_option maxRecDepth 100000 in
theorem w_X10_then_0 {p : Program} {l : Launch} {e : Env} {s : State} {m : MethodId} {args : Array Value} {below : List Frame} {meth : Method} {c : Code} {A : Nat → Prop} {E : CE} {q : (Nat × Mem) ⊕ (Int32 × Mem)} (X : CX p s m meth c args cX10_then 3 RX10 (some .int)) (hlt : l.stackTraces = false) (hex : ∀ x ∈ c.exceptionTable.toList, False) : ∀ (σ : Mem) (x1 : Int32) (x2 : Int32) , m_X10_then σ x1 x2 = some q → ∀ (H : Heap) (locs : List Loc) (ls : Array Slot), WI (vC E) A s H locs σ → lv_has ls 3 [(0, .ref (ca E 0)), (1, .int x1), (2, .int x2)] → W p l e rm_X10_then s m args below meth c H locs 0 0 (vx_MQ below (QXI (vC E) A q) (XX (vC E) A q) args s 2 12 A) (F0 m 0 ls []) := by
  have hx := X.1
  have hb := X.2.1
  intro σ x1 x2 h H locs ls I hl
  unfold m_X10_then at h
  refine lv_aload_n hx hb dX10_then_0 rfl (lv_at hl 0 rfl) ?_
  refine lv_iload_n hx hb dX10_then_1 rfl (lv_at hl 1 rfl) ?_
  obtain ⟨q1, hq1, h⟩ := xb_e h
  refine r_callXV (V := (vC E)) (k := 0) (As := [.int x1]) (rest := []) X hex I hl (c_X10_needHouse hlt hq1) yv_X10_needHouse tw_545 ⟨rfl, rfl, Nat.le_of_ble_eq_true rfl, Nat.le_of_ble_eq_true rfl⟩ (kC_0 E).1 rfl rfl rfl rfl (Nat.le_of_ble_eq_true rfl) ⟨Nat.le_of_ble_eq_true rfl, Nat.le_of_ble_eq_true rfl⟩ ⟨Nat.le_of_ble_eq_true rfl, Nat.le_of_ble_eq_true rfl⟩ dX10_then_2 h (fun σ2 h H locs I => ?_)
  refine lv_aload_n hx hb dX10_then_5 rfl (lv_at hl 0 rfl) ?_
  refine lv_iload_n hx hb dX10_then_6 rfl (lv_at hl 2 rfl) ?_
  obtain ⟨q3, hq3, h⟩ := xb_e h
  refine r_callXV (V := (vC E)) (k := 0) (As := [.int x2]) (rest := []) X hex I hl (c_X10_needAhead hlt hq3) yv_X10_needAhead tw_570 ⟨rfl, rfl, Nat.le_of_ble_eq_true rfl, Nat.le_of_ble_eq_true rfl⟩ (kC_0 E).1 rfl rfl rfl rfl (Nat.le_of_ble_eq_true rfl) ⟨Nat.le_of_ble_eq_true rfl, Nat.le_of_ble_eq_true rfl⟩ ⟨Nat.le_of_ble_eq_true rfl, Nat.le_of_ble_eq_true rfl⟩ dX10_then_7 h (fun σ4 h H locs I => ?_)
  refine lv_aload_n hx hb dX10_then_10 rfl (lv_at hl 0 rfl) ?_
  refine lv_iload_n hx hb dX10_then_11 rfl (lv_at hl 2 rfl) ?_
  obtain ⟨q5, hq5, h⟩ := bd h
  refine r_callVVk (V := (vC E)) (k := 0) (As := [.int x2]) (rest := []) X I hl (c_X10_tryAhead  hq5) yv_X10_tryAhead tw_575 ⟨rfl, rfl, Nat.le_of_ble_eq_true rfl, Nat.le_of_ble_eq_true rfl⟩ (kC_0 E).1 ((kC_0 E).2 (σ4 0)) rfl rfl rfl (Nat.le_of_ble_eq_true rfl) ⟨Nat.le_of_ble_eq_true rfl, Nat.le_of_ble_eq_true rfl⟩ dX10_then_12 (fun H locs I => ?_)
  refine lv_aload_n hx hb dX10_then_15 rfl (lv_at hl 0 rfl) ?_
  refine gfC_X10_58 X I (kC_0 E) (k' := 56) rfl dX10_then_16 ?_
  refine lv_bipush (v := 24) hx hb dX10_then_19 (by decide) ?_
  refine lv_iload_n hx hb dX10_then_21 rfl (lv_at hl 1 rfl) ?_
  refine lv_iadd hx hb dX10_then_22 ?_
  obtain ⟨hin, h⟩ := gd_some h
  refine ialdC X I (kC_56 E) hin dX10_then_23 ?_
  exact r_xiret X I (Option.some.inj h).symm ⟨Nat.le_of_ble_eq_true rfl, Nat.le_of_ble_eq_true rfl⟩ dX10_then_24
theorem c_X10_then {l : Launch} {E : CE} {σ : Mem} {x1 : Int32} {x2 : Int32} (hlt : l.stackTraces = false) {q : (Nat × Mem) ⊕ (Int32 × Mem)} (h : m_X10_then σ x1 x2 = some q) : CXI l (vC E) yX10_then (.code yX10_then cX10_then 3 (some .int) :: GG) rm_X10_then 2 12 [.ref (ca E 0), .int x1, .int x2] σ q :=
  mk_CXI (by decide +kernel) (Nat.le_of_ble_eq_true rfl) (fun p e s m args below meth c A ls X hex I hl => w_X10_then_0 X hlt hex σ x1 x2 h s.heap [] ls I (lv_sub hl [0, 1, 2] rfl))

def rm_X10_purse : Room := { frames := 8, cells := 3, slots := 18, locals := 227 }
def m_X10_purse (σ : Mem) (x1 : Int32) (x2 : Int32) (x3 : Int32) : Option ((Nat × Mem) ⊕ (Int32 × Mem)) := (xb (m_X10_needTenant σ x1) fun σ2 => (xb (m_X10_needWhat σ2 x3 (1 : Int32)) fun σ4 => (xb (m_X10_needAhead σ4 x2) fun σ6 => ((m_X10_tryAhead σ6 x2).bind fun q7 => (if x3 = (0 : Int32) then (gd ((54 : Int32) + x1) 64 (some (.inr ((q7 56 (Int32.toNatClampNeg ((54 : Int32) + x1))), q7)))) else (gd ((40 : Int32) + x1) 64 (some (.inr ((q7 56 (Int32.toNatClampNeg ((40 : Int32) + x1))), q7)))))))))
set_option maxHeartbeats 4000000 in
set_option maxRecDepth 100000 in
theorem w_X10_purse_0 {p : Program} {l : Launch} {e : Env} {s : State} {m : MethodId} {args : Array Value} {below : List Frame} {meth : Method} {c : Code} {A : Nat → Prop} {E : CE} {q : (Nat × Mem) ⊕ (Int32 × Mem)} (X : CX p s m meth c args cX10_purse 4 RX10 (some .int)) (hlt : l.stackTraces = false) (hex : ∀ x ∈ c.exceptionTable.toList, False) : ∀ (σ : Mem) (x1 : Int32) (x2 : Int32) (x3 : Int32) , m_X10_purse σ x1 x2 x3 = some q → ∀ (H : Heap) (locs : List Loc) (ls : Array Slot), WI (vC E) A s H locs σ → lv_has ls 4 [(0, .ref (ca E 0)), (1, .int x1), (2, .int x2), (3, .int x3)] → W p l e rm_X10_purse s m args below meth c H locs 0 0 (vx_MQ below (QXI (vC E) A q) (XX (vC E) A q) args s 3 18 A) (F0 m 0 ls []) := by
  have hx := X.1
  have hb := X.2.1
  intro σ x1 x2 x3 h H locs ls I hl
  unfold m_X10_purse at h
  refine lv_aload_n hx hb dX10_purse_0 rfl (lv_at hl 0 rfl) ?_
  refine lv_iload_n hx hb dX10_purse_1 rfl (lv_at hl 1 rfl) ?_
  obtain ⟨q1, hq1, h⟩ := xb_e h
  refine r_callXV (V := (vC E)) (k := 0) (As := [.int x1]) (rest := []) X hex I hl (c_X10_needTenant hlt hq1) yv_X10_needTenant tw_558 ⟨rfl, rfl, Nat.le_of_ble_eq_true rfl, Nat.le_of_ble_eq_true rfl⟩ (kC_0 E).1 rfl rfl rfl rfl (Nat.le_of_ble_eq_true rfl) ⟨Nat.le_of_ble_eq_true rfl, Nat.le_of_ble_eq_true rfl⟩ ⟨Nat.le_of_ble_eq_true rfl, Nat.le_of_ble_eq_true rfl⟩ dX10_purse_2 h (fun σ2 h H locs I => ?_)
  refine lv_aload_n hx hb dX10_purse_5 rfl (lv_at hl 0 rfl) ?_
  refine lv_iload_n hx hb dX10_purse_6 rfl (lv_at hl 3 rfl) ?_
  refine lv_iconst (v := 1) hx hb dX10_purse_7 (by decide) ?_
  obtain ⟨q3, hq3, h⟩ := xb_e h
  refine r_callXV (V := (vC E)) (k := 0) (As := [.int x3, .int (1 : Int32)]) (rest := []) X hex I hl (c_X10_needWhat hlt hq3) yv_X10_needWhat tw_580 ⟨rfl, rfl, Nat.le_of_ble_eq_true rfl, Nat.le_of_ble_eq_true rfl⟩ (kC_0 E).1 rfl rfl rfl rfl (Nat.le_of_ble_eq_true rfl) ⟨Nat.le_of_ble_eq_true rfl, Nat.le_of_ble_eq_true rfl⟩ ⟨Nat.le_of_ble_eq_true rfl, Nat.le_of_ble_eq_true rfl⟩ dX10_purse_8 h (fun σ4 h H locs I => ?_)
  refine lv_aload_n hx hb dX10_purse_11 rfl (lv_at hl 0 rfl) ?_
  refine lv_iload_n hx hb dX10_purse_12 rfl (lv_at hl 2 rfl) ?_
  obtain ⟨q5, hq5, h⟩ := xb_e h
  refine r_callXV (V := (vC E)) (k := 0) (As := [.int x2]) (rest := []) X hex I hl (c_X10_needAhead hlt hq5) yv_X10_needAhead tw_570 ⟨rfl, rfl, Nat.le_of_ble_eq_true rfl, Nat.le_of_ble_eq_true rfl⟩ (kC_0 E).1 rfl rfl rfl rfl (Nat.le_of_ble_eq_true rfl) ⟨Nat.le_of_ble_eq_true rfl, Nat.le_of_ble_eq_true rfl⟩ ⟨Nat.le_of_ble_eq_true rfl, Nat.le_of_ble_eq_true rfl⟩ dX10_purse_13 h (fun σ6 h H locs I => ?_)
  refine lv_aload_n hx hb dX10_purse_16 rfl (lv_at hl 0 rfl) ?_
  refine lv_iload_n hx hb dX10_purse_17 rfl (lv_at hl 2 rfl) ?_
  obtain ⟨q7, hq7, h⟩ := bd h
  refine r_callVVk (V := (vC E)) (k := 0) (As := [.int x2]) (rest := []) X I hl (c_X10_tryAhead  hq7) yv_X10_tryAhead tw_575 ⟨rfl, rfl, Nat.le_of_ble_eq_true rfl, Nat.le_of_ble_eq_true rfl⟩ (kC_0 E).1 ((kC_0 E).2 (σ6 0)) rfl rfl rfl (Nat.le_of_ble_eq_true rfl) ⟨Nat.le_of_ble_eq_true rfl, Nat.le_of_ble_eq_true rfl⟩ dX10_purse_18 (fun H locs I => ?_)
  refine lv_iload_n hx hb dX10_purse_21 rfl (lv_at hl 3 rfl) ?_
  refine lv_if_ne (tgt := 37) hx hb dX10_purse_22 (by decide) (fun c8 => ?_) (fun c8 => ?_)
  · have h := ite_f h c8
    refine lv_aload_n hx hb dX10_purse_37 rfl (lv_at hl 0 rfl) ?_
    refine gfC_X10_58 X I (kC_0 E) (k' := 56) rfl dX10_purse_38 ?_
    refine lv_bipush (v := 40) hx hb dX10_purse_41 (by decide) ?_
    refine lv_iload_n hx hb dX10_purse_43 rfl (lv_at hl 1 rfl) ?_
    refine lv_iadd hx hb dX10_purse_44 ?_
    obtain ⟨hin, h⟩ := gd_some h
    refine ialdC X I (kC_56 E) hin dX10_purse_45 ?_
    exact r_xiret X I (Option.some.inj h).symm ⟨Nat.le_of_ble_eq_true rfl, Nat.le_of_ble_eq_true rfl⟩ dX10_purse_46
  · have h := ite_t h c8
    refine lv_aload_n hx hb dX10_purse_25 rfl (lv_at hl 0 rfl) ?_
    refine gfC_X10_58 X I (kC_0 E) (k' := 56) rfl dX10_purse_26 ?_
    refine lv_bipush (v := 54) hx hb dX10_purse_29 (by decide) ?_
    refine lv_iload_n hx hb dX10_purse_31 rfl (lv_at hl 1 rfl) ?_
    refine lv_iadd hx hb dX10_purse_32 ?_
    obtain ⟨hin, h⟩ := gd_some h
    refine ialdC X I (kC_56 E) hin dX10_purse_33 ?_
    refine lv_goto (tgt := 46) hx hb dX10_purse_34 (by decide) ?_
    exact r_xiret X I (Option.some.inj h).symm ⟨Nat.le_of_ble_eq_true rfl, Nat.le_of_ble_eq_true rfl⟩ dX10_purse_46
theorem c_X10_purse {l : Launch} {E : CE} {σ : Mem} {x1 : Int32} {x2 : Int32} {x3 : Int32} (hlt : l.stackTraces = false) {q : (Nat × Mem) ⊕ (Int32 × Mem)} (h : m_X10_purse σ x1 x2 x3 = some q) : CXI l (vC E) yX10_purse (.code yX10_purse cX10_purse 4 (some .int) :: GG) rm_X10_purse 3 18 [.ref (ca E 0), .int x1, .int x2, .int x3] σ q :=
  mk_CXI (by decide +kernel) (Nat.le_of_ble_eq_true rfl) (fun p e s m args below meth c A ls X hex I hl => w_X10_purse_0 X hlt hex σ x1 x2 x3 h s.heap [] ls I (lv_sub hl [0, 1, 2, 3] rfl))

def rm_X10_sealed : Room := { frames := 8, cells := 1, slots := 6, locals := 221 }
def m_X10_sealed (σ : Mem) (x1 : Int32) : Option ((Nat × Mem) ⊕ (Int32 × Mem)) := (xb (m_X10_needHouse σ x1) fun σ2 => ((m_X10_isSealedNow σ2 x1).bind fun q3 => (if q3 = (0 : Int32) then ((m_X8_buriedIn 43 σ2 x1).bind fun q5 => (gd ((16 : Int32) + x1) 64 ((m_X8_lifeOf σ2 x1).bind fun q6 => (lt (q5 + ((σ2 43 (Int32.toNatClampNeg ((16 : Int32) + x1))) * q6)) fun y7 => (if (99 : Int32) < y7 then (some (.inr ((-1 : Int32), σ2))) else (some (.inr (y7, σ2)))))))) else (some (.inr ((0 : Int32), σ2))))))
set_option maxHeartbeats 4000000 in
set_option maxRecDepth 100000 in
theorem w_X10_sealed_0 {p : Program} {l : Launch} {e : Env} {s : State} {m : MethodId} {args : Array Value} {below : List Frame} {meth : Method} {c : Code} {A : Nat → Prop} {E : CE} {q : (Nat × Mem) ⊕ (Int32 × Mem)} (X : CX p s m meth c args cX10_sealed 3 RX10 (some .int)) (hlt : l.stackTraces = false) (hex : ∀ x ∈ c.exceptionTable.toList, False) : ∀ (σ : Mem) (x1 : Int32) , m_X10_sealed σ x1 = some q → ∀ (H : Heap) (locs : List Loc) (ls : Array Slot), WI (vC E) A s H locs σ → lv_has ls 3 [(0, .ref (ca E 0)), (1, .int x1)] → W p l e rm_X10_sealed s m args below meth c H locs 0 0 (vx_MQ below (QXI (vC E) A q) (XX (vC E) A q) args s 1 6 A) (F0 m 0 ls []) := by
  have hx := X.1
  have hb := X.2.1
  intro σ x1 h H locs ls I hl
  unfold m_X10_sealed at h
  refine lv_aload_n hx hb dX10_sealed_0 rfl (lv_at hl 0 rfl) ?_
  refine lv_iload_n hx hb dX10_sealed_1 rfl (lv_at hl 1 rfl) ?_
  obtain ⟨q1, hq1, h⟩ := xb_e h
  refine r_callXV (V := (vC E)) (k := 0) (As := [.int x1]) (rest := []) X hex I hl (c_X10_needHouse hlt hq1) yv_X10_needHouse tw_545 ⟨rfl, rfl, Nat.le_of_ble_eq_true rfl, Nat.le_of_ble_eq_true rfl⟩ (kC_0 E).1 rfl rfl rfl rfl (Nat.le_of_ble_eq_true rfl) ⟨Nat.le_of_ble_eq_true rfl, Nat.le_of_ble_eq_true rfl⟩ ⟨Nat.le_of_ble_eq_true rfl, Nat.le_of_ble_eq_true rfl⟩ dX10_sealed_2 h (fun σ2 h H locs I => ?_)
  refine lv_aload_n hx hb dX10_sealed_5 rfl (lv_at hl 0 rfl) ?_
  refine lv_iload_n hx hb dX10_sealed_6 rfl (lv_at hl 1 rfl) ?_
  obtain ⟨q3, hq3, h⟩ := bd h
  refine r_callVIk (V := (vC E)) (k := 0) (As := [.int x1]) (rest := []) X I hl (c_X10_isSealedNow  hq3) yv_X10_isSealedNow tw_552 ⟨rfl, rfl, Nat.le_of_ble_eq_true rfl, Nat.le_of_ble_eq_true rfl⟩ (kC_0 E).1 ((kC_0 E).2 (σ2 0)) rfl rfl rfl (Nat.le_of_ble_eq_true rfl) ⟨Nat.le_of_ble_eq_true rfl, Nat.le_of_ble_eq_true rfl⟩ dX10_sealed_7 (fun H locs I => ?_)
  refine lv_if_eq (tgt := 15) hx hb dX10_sealed_10 (by decide) (fun c4 => ?_) (fun c4 => ?_)
  · have h := ite_t h c4
    refine lv_aload_n hx hb dX10_sealed_15 rfl (lv_at hl 0 rfl) ?_
    refine gfC_X10_24 X I (kC_0 E) (k' := 22) rfl dX10_sealed_16 ?_
    refine lv_aload_n hx hb dX10_sealed_19 rfl (lv_at hl 0 rfl) ?_
    refine gfC_X10_43 X I (kC_0 E) (k' := 42) rfl dX10_sealed_20 ?_
    refine gfC_X10_122 X I (kC_42 E) (k' := 43) rfl dX10_sealed_23 ?_
    refine lv_iload_n hx hb dX10_sealed_26 rfl (lv_at hl 1 rfl) ?_
    obtain ⟨q5, hq5, h⟩ := bd h
    refine r_callVIk (V := (vC E)) (k := 22) (As := [.ref (ca E 43), .int x1]) (rest := []) X I hl (c_X8_buriedIn (kC_43 E) hq5) yv_X8_buriedIn tw_585 ⟨rfl, rfl, Nat.le_of_ble_eq_true rfl, Nat.le_of_ble_eq_true rfl⟩ (kC_22 E).1 ((kC_22 E).2 (σ2 22)) rfl rfl rfl (Nat.le_of_ble_eq_true rfl) ⟨Nat.le_of_ble_eq_true rfl, Nat.le_of_ble_eq_true rfl⟩ dX10_sealed_27 (fun H locs I => ?_)
    refine lv_aload_n hx hb dX10_sealed_30 rfl (lv_at hl 0 rfl) ?_
    refine gfC_X10_43 X I (kC_0 E) (k' := 42) rfl dX10_sealed_31 ?_
    refine gfC_X10_122 X I (kC_42 E) (k' := 43) rfl dX10_sealed_34 ?_
    refine lv_bipush (v := 16) hx hb dX10_sealed_37 (by decide) ?_
    refine lv_iload_n hx hb dX10_sealed_39 rfl (lv_at hl 1 rfl) ?_
    refine lv_iadd hx hb dX10_sealed_40 ?_
    obtain ⟨hin, h⟩ := gd_some h
    refine ialdC X I (kC_43 E) hin dX10_sealed_41 ?_
    refine lv_aload_n hx hb dX10_sealed_42 rfl (lv_at hl 0 rfl) ?_
    refine gfC_X10_24 X I (kC_0 E) (k' := 22) rfl dX10_sealed_43 ?_
    refine lv_iload_n hx hb dX10_sealed_46 rfl (lv_at hl 1 rfl) ?_
    obtain ⟨q6, hq6, h⟩ := bd h
    refine r_callVIk (V := (vC E)) (k := 22) (As := [.int x1]) (rest := [.int (σ2 43 (Int32.toNatClampNeg ((16 : Int32) + x1))), .int q5]) X I hl (c_X8_lifeOf  hq6) yv_X8_lifeOf tw_590 ⟨rfl, rfl, Nat.le_of_ble_eq_true rfl, Nat.le_of_ble_eq_true rfl⟩ (kC_22 E).1 ((kC_22 E).2 (σ2 22)) rfl rfl rfl (Nat.le_of_ble_eq_true rfl) ⟨Nat.le_of_ble_eq_true rfl, Nat.le_of_ble_eq_true rfl⟩ dX10_sealed_47 (fun H locs I => ?_)
    refine lv_imul hx hb dX10_sealed_50 ?_
    refine lv_iadd hx hb dX10_sealed_51 ?_
    obtain ⟨y7, ey7, h⟩ := lt_e h
    refine nm_i ey7 ?_
    refine lv_istore_n (lv' := [(2, .int y7), (0, .ref (ca E 0)), (1, .int x1)]) hx hb dX10_sealed_52 rfl hl (by decide) rfl (fun ls hl => ?_)
    refine lv_iload_n hx hb dX10_sealed_53 rfl (lv_at hl 0 rfl) ?_
    refine lv_bipush (v := 99) hx hb dX10_sealed_54 (by decide) ?_
    refine lv_icmp_gt (tgt := 63) hx hb dX10_sealed_56 (by decide) (fun c8 => ?_) (fun c8 => ?_)
    · have h := ite_t h c8
      refine lv_iconst (v := -1) hx hb dX10_sealed_63 (by decide) ?_
      exact r_xiret X I (Option.some.inj h).symm ⟨Nat.le_of_ble_eq_true rfl, Nat.le_of_ble_eq_true rfl⟩ dX10_sealed_64
    · have h := ite_f h c8
      refine lv_iload_n hx hb dX10_sealed_59 rfl (lv_at hl 0 rfl) ?_
      refine lv_goto (tgt := 64) hx hb dX10_sealed_60 (by decide) ?_
      exact r_xiret X I (Option.some.inj h).symm ⟨Nat.le_of_ble_eq_true rfl, Nat.le_of_ble_eq_true rfl⟩ dX10_sealed_64
  · have h := ite_f h c4
    refine lv_iconst (v := 0) hx hb dX10_sealed_13 (by decide) ?_
    exact r_xiret X I (Option.some.inj h).symm ⟨Nat.le_of_ble_eq_true rfl, Nat.le_of_ble_eq_true rfl⟩ dX10_sealed_14
theorem c_X10_sealed {l : Launch} {E : CE} {σ : Mem} {x1 : Int32} (hlt : l.stackTraces = false) {q : (Nat × Mem) ⊕ (Int32 × Mem)} (h : m_X10_sealed σ x1 = some q) : CXI l (vC E) yX10_sealed (.code yX10_sealed cX10_sealed 3 (some .int) :: GG) rm_X10_sealed 1 6 [.ref (ca E 0), .int x1] σ q :=
  mk_CXI (by decide +kernel) (Nat.le_of_ble_eq_true rfl) (fun p e s m args below meth c A ls X hex I hl => w_X10_sealed_0 X hlt hex σ x1 h s.heap [] ls I (lv_sub hl [0, 1] rfl))

def rm_L_terrace : Room := { frames := 13, cells := 1, slots := 6, locals := 322 }
def m_L_terrace (σ : Mem) (x1 : Int32) : Option (Int32 × Mem) := (hb (m_X10_terrace σ x1) (fun k u => (if k = 1 then (some ((1 : Int32), u)) else none)) (fun v u => (gd (0 : Int32) 1 (lt (ms u 59 (Int32.toNatClampNeg (0 : Int32)) v) fun σ2 => (some ((0 : Int32), σ2))))))
set_option maxHeartbeats 4000000 in
set_option maxRecDepth 100000 in
theorem w_L_terrace_0 {p : Program} {l : Launch} {e : Env} {s : State} {m : MethodId} {args : Array Value} {below : List Frame} {meth : Method} {c : Code} {A : Nat → Prop} {E : CE} {q : Int32 × Mem} (X : CX p s m meth c args cL_terrace 4 RL (some .int)) (hlt : l.stackTraces = false) (hn : 0 < E.2.2.2.2.2.2) (htab : c.exceptionTable.toList = tableOf [(0, 9, 12, 13)]) : ∀ (σ : Mem) (x1 : Int32) , m_L_terrace σ x1 = some q → ∀ (H : Heap) (locs : List Loc) (ls : Array Slot), WI (vC E) A s H locs σ → lv_has ls 4 [(0, .ref (ca E 0)), (1, .int x1), (2, .ref (ca E 59))] → W p l e rm_L_terrace s m args below meth c H locs 0 0 (MQ below (QI (vC E) A q) args s 1 6 A) (F0 m 0 ls []) := by
  have hx := X.1
  have hb := X.2.1
  intro σ x1 h H locs ls I hl
  unfold m_L_terrace at h
  refine lv_aload_n hx hb dL_terrace_0 rfl (lv_at hl 2 rfl) ?_
  refine lv_iconst (v := 0) hx hb dL_terrace_1 (by decide) ?_
  refine lv_aload_n hx hb dL_terrace_2 rfl (lv_at hl 0 rfl) ?_
  refine lv_iload_n hx hb dL_terrace_3 rfl (lv_at hl 1 rfl) ?_
  obtain ⟨z1, hz1, h⟩ := hb_e h
  refine r_callH (V := (vC E)) (k := 0) (As := [.int x1]) (rest := [.int (0 : Int32), .ref (ca E 59)]) X I hl (c_X10_terrace hlt hz1) yv_X10_terrace tw_648 ⟨rfl, rfl, Nat.le_of_ble_eq_true rfl, Nat.le_of_ble_eq_true rfl⟩ (kC_0 E).1 rfl rfl rfl rfl (Nat.le_of_ble_eq_true rfl) ⟨Nat.le_of_ble_eq_true rfl, Nat.le_of_ble_eq_true rfl⟩ dL_terrace_4 h (fun k u h H locs q9 ce I hce hcv hcl => ?_) (fun v u h H locs I => ?_)
  · by_cases ck : k = 1
    · have h := ite_t h ck
      subst ck
      refine r_catch1 (k := 1) X htab I (x := E.2.2.2.2.2.1) rfl tw_653 (by decide +kernel) (by decide) (by decide) hce hcv hcl ?_
      refine lv_astore_n (lv' := [(3, .ref q9), (0, .ref (ca E 0)), (1, .int x1), (2, .ref (ca E 59))]) hx hb dL_terrace_12 rfl hl (by decide) rfl (fun ls hl => ?_)
      refine lv_iconst (v := 1) hx hb dL_terrace_13 (by decide) ?_
      exact r_iretm X I (Option.some.inj h).symm ⟨Nat.le_of_ble_eq_true rfl, Nat.le_of_ble_eq_true rfl⟩ dL_terrace_14
    · have h := ite_f h ck
      cases h
  · skip
    refine lv_i2l hx hb dL_terrace_7 rfl ?_
    obtain ⟨hin, h⟩ := gd_some h
    refine jastC X I (kC_59 E hn) (x := v) (by rfl) hin dL_terrace_8 (fun H locs I => ?_)
    obtain ⟨σ2, eσ2, h⟩ := lt_e h
    replace I := wi_nm eσ2 I
    refine lv_goto (tgt := 15) hx hb dL_terrace_9 (by decide) ?_
    refine lv_iconst (v := 0) hx hb dL_terrace_15 (by decide) ?_
    exact r_iretm X I (Option.some.inj h).symm ⟨Nat.le_of_ble_eq_true rfl, Nat.le_of_ble_eq_true rfl⟩ dL_terrace_16
theorem c_L_terrace {l : Launch} {E : CE} {σ : Mem} {x1 : Int32} (hlt : l.stackTraces = false) (hn : 0 < E.2.2.2.2.2.2) {q : Int32 × Mem} (h : m_L_terrace σ x1 = some q) : CIm l (vC E) yL_terrace (.codeWith yL_terrace cL_terrace 4 (some .int) [(0, 9, 12, 13)] :: GG) rm_L_terrace 1 6 [.ref (ca E 0), .int x1, .ref (ca E 59)] σ q :=
  mk_CIm (by decide +kernel) (Nat.le_of_ble_eq_true rfl) (fun p e s m args below meth c A ls X htab I hl => w_L_terrace_0 X hlt hn htab σ x1 h s.heap [] ls I hl)

def rm_L_count : Room := { frames := 8, cells := 1, slots := 6, locals := 221 }
def m_L_count (σ : Mem) (x1 : Int32) : Option (Int32 × Mem) := (hb (m_X10_count σ x1) (fun k u => (if k = 0 then (some ((1 : Int32), u)) else none)) (fun v u => (gd (0 : Int32) 1 (lt (ms u 59 (Int32.toNatClampNeg (0 : Int32)) v) fun σ2 => (some ((0 : Int32), σ2))))))
set_option maxHeartbeats 4000000 in
set_option maxRecDepth 100000 in
theorem w_L_count_0 {p : Program} {l : Launch} {e : Env} {s : State} {m : MethodId} {args : Array Value} {below : List Frame} {meth : Method} {c : Code} {A : Nat → Prop} {E : CE} {q : Int32 × Mem} (X : CX p s m meth c args cL_count 4 RL (some .int)) (hlt : l.stackTraces = false) (hn : 0 < E.2.2.2.2.2.2) (htab : c.exceptionTable.toList = tableOf [(0, 9, 12, 18)]) : ∀ (σ : Mem) (x1 : Int32) , m_L_count σ x1 = some q → ∀ (H : Heap) (locs : List Loc) (ls : Array Slot), WI (vC E) A s H locs σ → lv_has ls 4 [(0, .ref (ca E 0)), (1, .int x1), (2, .ref (ca E 59))] → W p l e rm_L_count s m args below meth c H locs 0 0 (MQ below (QI (vC E) A q) args s 1 6 A) (F0 m 0 ls []) := by
  have hx := X.1
  have hb := X.2.1
  intro σ x1 h H locs ls I hl
  unfold m_L_count at h
  refine lv_aload_n hx hb dL_count_0 rfl (lv_at hl 2 rfl) ?_
  refine lv_iconst (v := 0) hx hb dL_count_1 (by decide) ?_
  refine lv_aload_n hx hb dL_count_2 rfl (lv_at hl 0 rfl) ?_
  refine lv_iload_n hx hb dL_count_3 rfl (lv_at hl 1 rfl) ?_
  obtain ⟨z1, hz1, h⟩ := hb_e h
  refine r_callH (V := (vC E)) (k := 0) (As := [.int x1]) (rest := [.int (0 : Int32), .ref (ca E 59)]) X I hl (c_X10_count hlt hz1) yv_X10_count tw_654 ⟨rfl, rfl, Nat.le_of_ble_eq_true rfl, Nat.le_of_ble_eq_true rfl⟩ (kC_0 E).1 rfl rfl rfl rfl (Nat.le_of_ble_eq_true rfl) ⟨Nat.le_of_ble_eq_true rfl, Nat.le_of_ble_eq_true rfl⟩ dL_count_4 h (fun k u h H locs q9 ce I hce hcv hcl => ?_) (fun v u h H locs I => ?_)
  · by_cases ck : k = 0
    · have h := ite_t h ck
      subst ck
      refine r_catch1 (k := 0) X htab I (x := E.2.2.2.2.2.1) rfl tw_659 (by decide +kernel) (by decide) (by decide) hce hcv hcl ?_
      refine lv_astore_n (lv' := [(3, .ref q9), (0, .ref (ca E 0)), (1, .int x1), (2, .ref (ca E 59))]) hx hb dL_count_12 rfl hl (by decide) rfl (fun ls hl => ?_)
      refine lv_iconst (v := 1) hx hb dL_count_13 (by decide) ?_
      exact r_iretm X I (Option.some.inj h).symm ⟨Nat.le_of_ble_eq_true rfl, Nat.le_of_ble_eq_true rfl⟩ dL_count_14
    · have h := ite_f h ck
      cases h
  · skip
    refine lv_i2l hx hb dL_count_7 rfl ?_
    obtain ⟨hin, h⟩ := gd_some h
    refine jastC X I (kC_59 E hn) (x := v) (by rfl) hin dL_count_8 (fun H locs I => ?_)
    obtain ⟨σ2, eσ2, h⟩ := lt_e h
    replace I := wi_nm eσ2 I
    refine lv_goto (tgt := 15) hx hb dL_count_9 (by decide) ?_
    refine lv_iconst (v := 0) hx hb dL_count_15 (by decide) ?_
    exact r_iretm X I (Option.some.inj h).symm ⟨Nat.le_of_ble_eq_true rfl, Nat.le_of_ble_eq_true rfl⟩ dL_count_16
theorem c_L_count {l : Launch} {E : CE} {σ : Mem} {x1 : Int32} (hlt : l.stackTraces = false) (hn : 0 < E.2.2.2.2.2.2) {q : Int32 × Mem} (h : m_L_count σ x1 = some q) : CIm l (vC E) yL_count (.codeWith yL_count cL_count 4 (some .int) [(0, 9, 12, 18)] :: GG) rm_L_count 1 6 [.ref (ca E 0), .int x1, .ref (ca E 59)] σ q :=
  mk_CIm (by decide +kernel) (Nat.le_of_ble_eq_true rfl) (fun p e s m args below meth c A ls X htab I hl => w_L_count_0 X hlt hn htab σ x1 h s.heap [] ls I hl)

def rm_L_house : Room := { frames := 9, cells := 2, slots := 12, locals := 243 }
def m_L_house (σ : Mem) (x1 : Int32) (x2 : Int32) : Option (Int32 × Mem) := (hb (m_X10_house σ x1 x2) (fun k u => (if k = 0 then (some ((1 : Int32), u)) else none)) (fun v u => (gd (0 : Int32) 1 (lt (ms u 59 (Int32.toNatClampNeg (0 : Int32)) v) fun σ2 => (some ((0 : Int32), σ2))))))
set_option maxHeartbeats 4000000 in
set_option maxRecDepth 100000 in
theorem w_L_house_0 {p : Program} {l : Launch} {e : Env} {s : State} {m : MethodId} {args : Array Value} {below : List Frame} {meth : Method} {c : Code} {A : Nat → Prop} {E : CE} {q : Int32 × Mem} (X : CX p s m meth c args cL_house 5 RL (some .int)) (hlt : l.stackTraces = false) (hn : 0 < E.2.2.2.2.2.2) (htab : c.exceptionTable.toList = tableOf [(0, 10, 13, 18)]) : ∀ (σ : Mem) (x1 : Int32) (x2 : Int32) , m_L_house σ x1 x2 = some q → ∀ (H : Heap) (locs : List Loc) (ls : Array Slot), WI (vC E) A s H locs σ → lv_has ls 5 [(0, .ref (ca E 0)), (1, .int x1), (2, .int x2), (3, .ref (ca E 59))] → W p l e rm_L_house s m args below meth c H locs 0 0 (MQ below (QI (vC E) A q) args s 2 12 A) (F0 m 0 ls []) := by
  have hx := X.1
  have hb := X.2.1
  intro σ x1 x2 h H locs ls I hl
  unfold m_L_house at h
  refine lv_aload_n hx hb dL_house_0 rfl (lv_at hl 3 rfl) ?_
  refine lv_iconst (v := 0) hx hb dL_house_1 (by decide) ?_
  refine lv_aload_n hx hb dL_house_2 rfl (lv_at hl 0 rfl) ?_
  refine lv_iload_n hx hb dL_house_3 rfl (lv_at hl 1 rfl) ?_
  refine lv_iload_n hx hb dL_house_4 rfl (lv_at hl 2 rfl) ?_
  obtain ⟨z1, hz1, h⟩ := hb_e h
  refine r_callH (V := (vC E)) (k := 0) (As := [.int x1, .int x2]) (rest := [.int (0 : Int32), .ref (ca E 59)]) X I hl (c_X10_house hlt hz1) yv_X10_house tw_660 ⟨rfl, rfl, Nat.le_of_ble_eq_true rfl, Nat.le_of_ble_eq_true rfl⟩ (kC_0 E).1 rfl rfl rfl rfl (Nat.le_of_ble_eq_true rfl) ⟨Nat.le_of_ble_eq_true rfl, Nat.le_of_ble_eq_true rfl⟩ dL_house_5 h (fun k u h H locs q9 ce I hce hcv hcl => ?_) (fun v u h H locs I => ?_)
  · by_cases ck : k = 0
    · have h := ite_t h ck
      subst ck
      refine r_catch1 (k := 0) X htab I (x := E.2.2.2.2.2.1) rfl tw_659 (by decide +kernel) (by decide) (by decide) hce hcv hcl ?_
      refine lv_astore (lv' := [(4, .ref q9), (0, .ref (ca E 0)), (1, .int x1), (2, .int x2), (3, .ref (ca E 59))]) hx hb dL_house_13 hl (by decide) rfl (fun ls hl => ?_)
      refine lv_iconst (v := 1) hx hb dL_house_15 (by decide) ?_
      exact r_iretm X I (Option.some.inj h).symm ⟨Nat.le_of_ble_eq_true rfl, Nat.le_of_ble_eq_true rfl⟩ dL_house_16
    · have h := ite_f h ck
      cases h
  · skip
    refine lv_i2l hx hb dL_house_8 rfl ?_
    obtain ⟨hin, h⟩ := gd_some h
    refine jastC X I (kC_59 E hn) (x := v) (by rfl) hin dL_house_9 (fun H locs I => ?_)
    obtain ⟨σ2, eσ2, h⟩ := lt_e h
    replace I := wi_nm eσ2 I
    refine lv_goto (tgt := 17) hx hb dL_house_10 (by decide) ?_
    refine lv_iconst (v := 0) hx hb dL_house_17 (by decide) ?_
    exact r_iretm X I (Option.some.inj h).symm ⟨Nat.le_of_ble_eq_true rfl, Nat.le_of_ble_eq_true rfl⟩ dL_house_18
theorem c_L_house {l : Launch} {E : CE} {σ : Mem} {x1 : Int32} {x2 : Int32} (hlt : l.stackTraces = false) (hn : 0 < E.2.2.2.2.2.2) {q : Int32 × Mem} (h : m_L_house σ x1 x2 = some q) : CIm l (vC E) yL_house (.codeWith yL_house cL_house 5 (some .int) [(0, 10, 13, 18)] :: GG) rm_L_house 2 12 [.ref (ca E 0), .int x1, .int x2, .ref (ca E 59)] σ q :=
  mk_CIm (by decide +kernel) (Nat.le_of_ble_eq_true rfl) (fun p e s m args below meth c A ls X htab I hl => w_L_house_0 X hlt hn htab σ x1 x2 h s.heap [] ls I hl)

def rm_L_tenant : Room := { frames := 9, cells := 2, slots := 12, locals := 243 }
def m_L_tenant (σ : Mem) (x1 : Int32) (x2 : Int32) : Option (Int32 × Mem) := (hb (m_X10_tenant σ x1 x2) (fun k u => (if k = 0 then (some ((1 : Int32), u)) else none)) (fun v u => (gd (0 : Int32) 1 (lt (ms u 59 (Int32.toNatClampNeg (0 : Int32)) v) fun σ2 => (some ((0 : Int32), σ2))))))
set_option maxHeartbeats 4000000 in
set_option maxRecDepth 100000 in
theorem w_L_tenant_0 {p : Program} {l : Launch} {e : Env} {s : State} {m : MethodId} {args : Array Value} {below : List Frame} {meth : Method} {c : Code} {A : Nat → Prop} {E : CE} {q : Int32 × Mem} (X : CX p s m meth c args cL_tenant 5 RL (some .int)) (hlt : l.stackTraces = false) (hn : 0 < E.2.2.2.2.2.2) (htab : c.exceptionTable.toList = tableOf [(0, 10, 13, 18)]) : ∀ (σ : Mem) (x1 : Int32) (x2 : Int32) , m_L_tenant σ x1 x2 = some q → ∀ (H : Heap) (locs : List Loc) (ls : Array Slot), WI (vC E) A s H locs σ → lv_has ls 5 [(0, .ref (ca E 0)), (1, .int x1), (2, .int x2), (3, .ref (ca E 59))] → W p l e rm_L_tenant s m args below meth c H locs 0 0 (MQ below (QI (vC E) A q) args s 2 12 A) (F0 m 0 ls []) := by
  have hx := X.1
  have hb := X.2.1
  intro σ x1 x2 h H locs ls I hl
  unfold m_L_tenant at h
  refine lv_aload_n hx hb dL_tenant_0 rfl (lv_at hl 3 rfl) ?_
  refine lv_iconst (v := 0) hx hb dL_tenant_1 (by decide) ?_
  refine lv_aload_n hx hb dL_tenant_2 rfl (lv_at hl 0 rfl) ?_
  refine lv_iload_n hx hb dL_tenant_3 rfl (lv_at hl 1 rfl) ?_
  refine lv_iload_n hx hb dL_tenant_4 rfl (lv_at hl 2 rfl) ?_
  obtain ⟨z1, hz1, h⟩ := hb_e h
  refine r_callH (V := (vC E)) (k := 0) (As := [.int x1, .int x2]) (rest := [.int (0 : Int32), .ref (ca E 59)]) X I hl (c_X10_tenant hlt hz1) yv_X10_tenant tw_665 ⟨rfl, rfl, Nat.le_of_ble_eq_true rfl, Nat.le_of_ble_eq_true rfl⟩ (kC_0 E).1 rfl rfl rfl rfl (Nat.le_of_ble_eq_true rfl) ⟨Nat.le_of_ble_eq_true rfl, Nat.le_of_ble_eq_true rfl⟩ dL_tenant_5 h (fun k u h H locs q9 ce I hce hcv hcl => ?_) (fun v u h H locs I => ?_)
  · by_cases ck : k = 0
    · have h := ite_t h ck
      subst ck
      refine r_catch1 (k := 0) X htab I (x := E.2.2.2.2.2.1) rfl tw_659 (by decide +kernel) (by decide) (by decide) hce hcv hcl ?_
      refine lv_astore (lv' := [(4, .ref q9), (0, .ref (ca E 0)), (1, .int x1), (2, .int x2), (3, .ref (ca E 59))]) hx hb dL_tenant_13 hl (by decide) rfl (fun ls hl => ?_)
      refine lv_iconst (v := 1) hx hb dL_tenant_15 (by decide) ?_
      exact r_iretm X I (Option.some.inj h).symm ⟨Nat.le_of_ble_eq_true rfl, Nat.le_of_ble_eq_true rfl⟩ dL_tenant_16
    · have h := ite_f h ck
      cases h
  · skip
    refine lv_i2l hx hb dL_tenant_8 rfl ?_
    obtain ⟨hin, h⟩ := gd_some h
    refine jastC X I (kC_59 E hn) (x := v) (by rfl) hin dL_tenant_9 (fun H locs I => ?_)
    obtain ⟨σ2, eσ2, h⟩ := lt_e h
    replace I := wi_nm eσ2 I
    refine lv_goto (tgt := 17) hx hb dL_tenant_10 (by decide) ?_
    refine lv_iconst (v := 0) hx hb dL_tenant_17 (by decide) ?_
    exact r_iretm X I (Option.some.inj h).symm ⟨Nat.le_of_ble_eq_true rfl, Nat.le_of_ble_eq_true rfl⟩ dL_tenant_18
theorem c_L_tenant {l : Launch} {E : CE} {σ : Mem} {x1 : Int32} {x2 : Int32} (hlt : l.stackTraces = false) (hn : 0 < E.2.2.2.2.2.2) {q : Int32 × Mem} (h : m_L_tenant σ x1 x2 = some q) : CIm l (vC E) yL_tenant (.codeWith yL_tenant cL_tenant 5 (some .int) [(0, 10, 13, 18)] :: GG) rm_L_tenant 2 12 [.ref (ca E 0), .int x1, .int x2, .ref (ca E 59)] σ q :=
  mk_CIm (by decide +kernel) (Nat.le_of_ble_eq_true rfl) (fun p e s m args below meth c A ls X htab I hl => w_L_tenant_0 X hlt hn htab σ x1 x2 h s.heap [] ls I hl)

def rm_L_buy : Room := { frames := 9, cells := 1, slots := 6, locals := 243 }
def m_L_buy (σ : Mem) (x1 : Int32) (x2 : Int32) : Option (Int32 × Mem) := (hb (m_X10_buy σ x1 x2) (fun k u => (if k = 0 then (some ((1 : Int32), u)) else none)) (fun v u => (gd (0 : Int32) 1 (lt (ms u 59 (Int32.toNatClampNeg (0 : Int32)) v) fun σ2 => (some ((0 : Int32), σ2))))))
set_option maxHeartbeats 4000000 in
set_option maxRecDepth 100000 in
theorem w_L_buy_0 {p : Program} {l : Launch} {e : Env} {s : State} {m : MethodId} {args : Array Value} {below : List Frame} {meth : Method} {c : Code} {A : Nat → Prop} {E : CE} {q : Int32 × Mem} (X : CX p s m meth c args cL_buy 5 RL (some .int)) (hlt : l.stackTraces = false) (hn : 0 < E.2.2.2.2.2.2) (htab : c.exceptionTable.toList = tableOf [(0, 10, 13, 18)]) : ∀ (σ : Mem) (x1 : Int32) (x2 : Int32) , m_L_buy σ x1 x2 = some q → ∀ (H : Heap) (locs : List Loc) (ls : Array Slot), WI (vC E) A s H locs σ → lv_has ls 5 [(0, .ref (ca E 0)), (1, .int x1), (2, .int x2), (3, .ref (ca E 59))] → W p l e rm_L_buy s m args below meth c H locs 0 0 (MQ below (QI (vC E) A q) args s 1 6 A) (F0 m 0 ls []) := by
  have hx := X.1
  have hb := X.2.1
  intro σ x1 x2 h H locs ls I hl
  unfold m_L_buy at h
  refine lv_aload_n hx hb dL_buy_0 rfl (lv_at hl 3 rfl) ?_
  refine lv_iconst (v := 0) hx hb dL_buy_1 (by decide) ?_
  refine lv_aload_n hx hb dL_buy_2 rfl (lv_at hl 0 rfl) ?_
  refine lv_iload_n hx hb dL_buy_3 rfl (lv_at hl 1 rfl) ?_
  refine lv_iload_n hx hb dL_buy_4 rfl (lv_at hl 2 rfl) ?_
  obtain ⟨z1, hz1, h⟩ := hb_e h
  refine r_callH (V := (vC E)) (k := 0) (As := [.int x1, .int x2]) (rest := [.int (0 : Int32), .ref (ca E 59)]) X I hl (c_X10_buy hlt hz1) yv_X10_buy tw_670 ⟨rfl, rfl, Nat.le_of_ble_eq_true rfl, Nat.le_of_ble_eq_true rfl⟩ (kC_0 E).1 rfl rfl rfl rfl (Nat.le_of_ble_eq_true rfl) ⟨Nat.le_of_ble_eq_true rfl, Nat.le_of_ble_eq_true rfl⟩ dL_buy_5 h (fun k u h H locs q9 ce I hce hcv hcl => ?_) (fun v u h H locs I => ?_)
  · by_cases ck : k = 0
    · have h := ite_t h ck
      subst ck
      refine r_catch1 (k := 0) X htab I (x := E.2.2.2.2.2.1) rfl tw_659 (by decide +kernel) (by decide) (by decide) hce hcv hcl ?_
      refine lv_astore (lv' := [(4, .ref q9), (0, .ref (ca E 0)), (1, .int x1), (2, .int x2), (3, .ref (ca E 59))]) hx hb dL_buy_13 hl (by decide) rfl (fun ls hl => ?_)
      refine lv_iconst (v := 1) hx hb dL_buy_15 (by decide) ?_
      exact r_iretm X I (Option.some.inj h).symm ⟨Nat.le_of_ble_eq_true rfl, Nat.le_of_ble_eq_true rfl⟩ dL_buy_16
    · have h := ite_f h ck
      cases h
  · skip
    refine lv_i2l hx hb dL_buy_8 rfl ?_
    obtain ⟨hin, h⟩ := gd_some h
    refine jastC X I (kC_59 E hn) (x := v) (by rfl) hin dL_buy_9 (fun H locs I => ?_)
    obtain ⟨σ2, eσ2, h⟩ := lt_e h
    replace I := wi_nm eσ2 I
    refine lv_goto (tgt := 17) hx hb dL_buy_10 (by decide) ?_
    refine lv_iconst (v := 0) hx hb dL_buy_17 (by decide) ?_
    exact r_iretm X I (Option.some.inj h).symm ⟨Nat.le_of_ble_eq_true rfl, Nat.le_of_ble_eq_true rfl⟩ dL_buy_18
theorem c_L_buy {l : Launch} {E : CE} {σ : Mem} {x1 : Int32} {x2 : Int32} (hlt : l.stackTraces = false) (hn : 0 < E.2.2.2.2.2.2) {q : Int32 × Mem} (h : m_L_buy σ x1 x2 = some q) : CIm l (vC E) yL_buy (.codeWith yL_buy cL_buy 5 (some .int) [(0, 10, 13, 18)] :: GG) rm_L_buy 1 6 [.ref (ca E 0), .int x1, .int x2, .ref (ca E 59)] σ q :=
  mk_CIm (by decide +kernel) (Nat.le_of_ble_eq_true rfl) (fun p e s m args below meth c A ls X htab I hl => w_L_buy_0 X hlt hn htab σ x1 x2 h s.heap [] ls I hl)

def rm_L_cats : Room := { frames := 9, cells := 1, slots := 6, locals := 243 }
def m_L_cats (σ : Mem) (x1 : Int32) (x2 : Int32) : Option (Int32 × Mem) := (hb (m_X10_cats σ x1 x2) (fun k u => (if k = 0 then (some ((1 : Int32), u)) else none)) (fun v u => (gd (0 : Int32) 1 (lt (ms u 59 (Int32.toNatClampNeg (0 : Int32)) v) fun σ2 => (some ((0 : Int32), σ2))))))
set_option maxHeartbeats 4000000 in
set_option maxRecDepth 100000 in
theorem w_L_cats_0 {p : Program} {l : Launch} {e : Env} {s : State} {m : MethodId} {args : Array Value} {below : List Frame} {meth : Method} {c : Code} {A : Nat → Prop} {E : CE} {q : Int32 × Mem} (X : CX p s m meth c args cL_cats 5 RL (some .int)) (hlt : l.stackTraces = false) (hn : 0 < E.2.2.2.2.2.2) (htab : c.exceptionTable.toList = tableOf [(0, 10, 13, 18)]) : ∀ (σ : Mem) (x1 : Int32) (x2 : Int32) , m_L_cats σ x1 x2 = some q → ∀ (H : Heap) (locs : List Loc) (ls : Array Slot), WI (vC E) A s H locs σ → lv_has ls 5 [(0, .ref (ca E 0)), (1, .int x1), (2, .int x2), (3, .ref (ca E 59))] → W p l e rm_L_cats s m args below meth c H locs 0 0 (MQ below (QI (vC E) A q) args s 1 6 A) (F0 m 0 ls []) := by
  have hx := X.1
  have hb := X.2.1
  intro σ x1 x2 h H locs ls I hl
  unfold m_L_cats at h
  refine lv_aload_n hx hb dL_cats_0 rfl (lv_at hl 3 rfl) ?_
  refine lv_iconst (v := 0) hx hb dL_cats_1 (by decide) ?_
  refine lv_aload_n hx hb dL_cats_2 rfl (lv_at hl 0 rfl) ?_
  refine lv_iload_n hx hb dL_cats_3 rfl (lv_at hl 1 rfl) ?_
  refine lv_iload_n hx hb dL_cats_4 rfl (lv_at hl 2 rfl) ?_
  obtain ⟨z1, hz1, h⟩ := hb_e h
  refine r_callH (V := (vC E)) (k := 0) (As := [.int x1, .int x2]) (rest := [.int (0 : Int32), .ref (ca E 59)]) X I hl (c_X10_cats hlt hz1) yv_X10_cats tw_675 ⟨rfl, rfl, Nat.le_of_ble_eq_true rfl, Nat.le_of_ble_eq_true rfl⟩ (kC_0 E).1 rfl rfl rfl rfl (Nat.le_of_ble_eq_true rfl) ⟨Nat.le_of_ble_eq_true rfl, Nat.le_of_ble_eq_true rfl⟩ dL_cats_5 h (fun k u h H locs q9 ce I hce hcv hcl => ?_) (fun v u h H locs I => ?_)
  · by_cases ck : k = 0
    · have h := ite_t h ck
      subst ck
      refine r_catch1 (k := 0) X htab I (x := E.2.2.2.2.2.1) rfl tw_659 (by decide +kernel) (by decide) (by decide) hce hcv hcl ?_
      refine lv_astore (lv' := [(4, .ref q9), (0, .ref (ca E 0)), (1, .int x1), (2, .int x2), (3, .ref (ca E 59))]) hx hb dL_cats_13 hl (by decide) rfl (fun ls hl => ?_)
      refine lv_iconst (v := 1) hx hb dL_cats_15 (by decide) ?_
      exact r_iretm X I (Option.some.inj h).symm ⟨Nat.le_of_ble_eq_true rfl, Nat.le_of_ble_eq_true rfl⟩ dL_cats_16
    · have h := ite_f h ck
      cases h
  · skip
    refine lv_i2l hx hb dL_cats_8 rfl ?_
    obtain ⟨hin, h⟩ := gd_some h
    refine jastC X I (kC_59 E hn) (x := v) (by rfl) hin dL_cats_9 (fun H locs I => ?_)
    obtain ⟨σ2, eσ2, h⟩ := lt_e h
    replace I := wi_nm eσ2 I
    refine lv_goto (tgt := 17) hx hb dL_cats_10 (by decide) ?_
    refine lv_iconst (v := 0) hx hb dL_cats_17 (by decide) ?_
    exact r_iretm X I (Option.some.inj h).symm ⟨Nat.le_of_ble_eq_true rfl, Nat.le_of_ble_eq_true rfl⟩ dL_cats_18
theorem c_L_cats {l : Launch} {E : CE} {σ : Mem} {x1 : Int32} {x2 : Int32} (hlt : l.stackTraces = false) (hn : 0 < E.2.2.2.2.2.2) {q : Int32 × Mem} (h : m_L_cats σ x1 x2 = some q) : CIm l (vC E) yL_cats (.codeWith yL_cats cL_cats 5 (some .int) [(0, 10, 13, 18)] :: GG) rm_L_cats 1 6 [.ref (ca E 0), .int x1, .int x2, .ref (ca E 59)] σ q :=
  mk_CIm (by decide +kernel) (Nat.le_of_ble_eq_true rfl) (fun p e s m args below meth c A ls X htab I hl => w_L_cats_0 X hlt hn htab σ x1 x2 h s.heap [] ls I hl)

def rm_L_lead : Room := { frames := 9, cells := 1, slots := 6, locals := 245 }
def m_L_lead (σ : Mem) (x1 : Int32) (x2 : Int32) : Option (Int32 × Mem) := (hb (m_X10_lead σ x1 x2) (fun k u => (if k = 0 then (some ((1 : Int32), u)) else none)) (fun v u => (if v = (0 : Int32) then (gd (0 : Int32) 1 (lt (ms u 59 (Int32.toNatClampNeg (0 : Int32)) (0 : Int32)) fun σ3 => (some ((0 : Int32), σ3)))) else (gd (0 : Int32) 1 (lt (ms u 59 (Int32.toNatClampNeg (0 : Int32)) (1 : Int32)) fun σ4 => (some ((0 : Int32), σ4)))))))
set_option maxHeartbeats 4000000 in
set_option maxRecDepth 100000 in
theorem w_L_lead_0 {p : Program} {l : Launch} {e : Env} {s : State} {m : MethodId} {args : Array Value} {below : List Frame} {meth : Method} {c : Code} {A : Nat → Prop} {E : CE} {q : Int32 × Mem} (X : CX p s m meth c args cL_lead 5 RL (some .int)) (hlt : l.stackTraces = false) (hn : 0 < E.2.2.2.2.2.2) (htab : c.exceptionTable.toList = tableOf [(0, 17, 20, 18)]) : ∀ (σ : Mem) (x1 : Int32) (x2 : Int32) , m_L_lead σ x1 x2 = some q → ∀ (H : Heap) (locs : List Loc) (ls : Array Slot), WI (vC E) A s H locs σ → lv_has ls 5 [(0, .ref (ca E 0)), (1, .int x1), (2, .int x2), (3, .ref (ca E 59))] → W p l e rm_L_lead s m args below meth c H locs 0 0 (MQ below (QI (vC E) A q) args s 1 6 A) (F0 m 0 ls []) := by
  have hx := X.1
  have hb := X.2.1
  intro σ x1 x2 h H locs ls I hl
  unfold m_L_lead at h
  refine lv_aload_n hx hb dL_lead_0 rfl (lv_at hl 3 rfl) ?_
  refine lv_iconst (v := 0) hx hb dL_lead_1 (by decide) ?_
  refine lv_aload_n hx hb dL_lead_2 rfl (lv_at hl 0 rfl) ?_
  refine lv_iload_n hx hb dL_lead_3 rfl (lv_at hl 1 rfl) ?_
  refine lv_iload_n hx hb dL_lead_4 rfl (lv_at hl 2 rfl) ?_
  obtain ⟨z1, hz1, h⟩ := hb_e h
  refine r_callH (V := (vC E)) (k := 0) (As := [.int x1, .int x2]) (rest := [.int (0 : Int32), .ref (ca E 59)]) X I hl (c_X10_lead hlt hz1) yv_X10_lead tw_680 ⟨rfl, rfl, Nat.le_of_ble_eq_true rfl, Nat.le_of_ble_eq_true rfl⟩ (kC_0 E).1 rfl rfl rfl rfl (Nat.le_of_ble_eq_true rfl) ⟨Nat.le_of_ble_eq_true rfl, Nat.le_of_ble_eq_true rfl⟩ dL_lead_5 h (fun k u h H locs q9 ce I hce hcv hcl => ?_) (fun v u h H locs I => ?_)
  · by_cases ck : k = 0
    · have h := ite_t h ck
      subst ck
      refine r_catch1 (k := 0) X htab I (x := E.2.2.2.2.2.1) rfl tw_659 (by decide +kernel) (by decide) (by decide) hce hcv hcl ?_
      refine lv_astore (lv' := [(4, .ref q9), (0, .ref (ca E 0)), (1, .int x1), (2, .int x2), (3, .ref (ca E 59))]) hx hb dL_lead_20 hl (by decide) rfl (fun ls hl => ?_)
      refine lv_iconst (v := 1) hx hb dL_lead_22 (by decide) ?_
      exact r_iretm X I (Option.some.inj h).symm ⟨Nat.le_of_ble_eq_true rfl, Nat.le_of_ble_eq_true rfl⟩ dL_lead_23
    · have h := ite_f h ck
      cases h
  · skip
    refine lv_if_eq (tgt := 15) hx hb dL_lead_8 (by decide) (fun c2 => ?_) (fun c2 => ?_)
    · have h := ite_t h c2
      refine lv_lconst (v := 0) hx hb dL_lead_15 (by decide) ?_
      obtain ⟨hin, h⟩ := gd_some h
      refine jastC X I (kC_59 E hn) (x := (0 : Int32)) (by decide) hin dL_lead_16 (fun H locs I => ?_)
      obtain ⟨σ3, eσ3, h⟩ := lt_e h
      replace I := wi_nm eσ3 I
      refine lv_goto (tgt := 24) hx hb dL_lead_17 (by decide) ?_
      refine lv_iconst (v := 0) hx hb dL_lead_24 (by decide) ?_
      exact r_iretm X I (Option.some.inj h).symm ⟨Nat.le_of_ble_eq_true rfl, Nat.le_of_ble_eq_true rfl⟩ dL_lead_25
    · have h := ite_f h c2
      refine lv_lconst (v := 1) hx hb dL_lead_11 (by decide) ?_
      refine lv_goto (tgt := 16) hx hb dL_lead_12 (by decide) ?_
      obtain ⟨hin, h⟩ := gd_some h
      refine jastC X I (kC_59 E hn) (x := (1 : Int32)) (by decide) hin dL_lead_16 (fun H locs I => ?_)
      obtain ⟨σ4, eσ4, h⟩ := lt_e h
      replace I := wi_nm eσ4 I
      refine lv_goto (tgt := 24) hx hb dL_lead_17 (by decide) ?_
      refine lv_iconst (v := 0) hx hb dL_lead_24 (by decide) ?_
      exact r_iretm X I (Option.some.inj h).symm ⟨Nat.le_of_ble_eq_true rfl, Nat.le_of_ble_eq_true rfl⟩ dL_lead_25
theorem c_L_lead {l : Launch} {E : CE} {σ : Mem} {x1 : Int32} {x2 : Int32} (hlt : l.stackTraces = false) (hn : 0 < E.2.2.2.2.2.2) {q : Int32 × Mem} (h : m_L_lead σ x1 x2 = some q) : CIm l (vC E) yL_lead (.codeWith yL_lead cL_lead 5 (some .int) [(0, 17, 20, 18)] :: GG) rm_L_lead 1 6 [.ref (ca E 0), .int x1, .int x2, .ref (ca E 59)] σ q :=
  mk_CIm (by decide +kernel) (Nat.le_of_ble_eq_true rfl) (fun p e s m args below meth c A ls X htab I hl => w_L_lead_0 X hlt hn htab σ x1 x2 h s.heap [] ls I hl)

def rm_L_temper : Room := { frames := 9, cells := 1, slots := 6, locals := 243 }
def m_L_temper (σ : Mem) (x1 : Int32) (x2 : Int32) : Option (Int32 × Mem) := (hb (m_X10_temper σ x1 x2) (fun k u => (if k = 0 then (some ((1 : Int32), u)) else none)) (fun v u => (gd (0 : Int32) 1 (lt (ms u 59 (Int32.toNatClampNeg (0 : Int32)) v) fun σ2 => (some ((0 : Int32), σ2))))))
set_option maxHeartbeats 4000000 in
set_option maxRecDepth 100000 in
theorem w_L_temper_0 {p : Program} {l : Launch} {e : Env} {s : State} {m : MethodId} {args : Array Value} {below : List Frame} {meth : Method} {c : Code} {A : Nat → Prop} {E : CE} {q : Int32 × Mem} (X : CX p s m meth c args cL_temper 5 RL (some .int)) (hlt : l.stackTraces = false) (hn : 0 < E.2.2.2.2.2.2) (htab : c.exceptionTable.toList = tableOf [(0, 10, 13, 18)]) : ∀ (σ : Mem) (x1 : Int32) (x2 : Int32) , m_L_temper σ x1 x2 = some q → ∀ (H : Heap) (locs : List Loc) (ls : Array Slot), WI (vC E) A s H locs σ → lv_has ls 5 [(0, .ref (ca E 0)), (1, .int x1), (2, .int x2), (3, .ref (ca E 59))] → W p l e rm_L_temper s m args below meth c H locs 0 0 (MQ below (QI (vC E) A q) args s 1 6 A) (F0 m 0 ls []) := by
  have hx := X.1
  have hb := X.2.1
  intro σ x1 x2 h H locs ls I hl
  unfold m_L_temper at h
  refine lv_aload_n hx hb dL_temper_0 rfl (lv_at hl 3 rfl) ?_
  refine lv_iconst (v := 0) hx hb dL_temper_1 (by decide) ?_
  refine lv_aload_n hx hb dL_temper_2 rfl (lv_at hl 0 rfl) ?_
  refine lv_iload_n hx hb dL_temper_3 rfl (lv_at hl 1 rfl) ?_
  refine lv_iload_n hx hb dL_temper_4 rfl (lv_at hl 2 rfl) ?_
  obtain ⟨z1, hz1, h⟩ := hb_e h
  refine r_callH (V := (vC E)) (k := 0) (As := [.int x1, .int x2]) (rest := [.int (0 : Int32), .ref (ca E 59)]) X I hl (c_X10_temper hlt hz1) yv_X10_temper tw_685 ⟨rfl, rfl, Nat.le_of_ble_eq_true rfl, Nat.le_of_ble_eq_true rfl⟩ (kC_0 E).1 rfl rfl rfl rfl (Nat.le_of_ble_eq_true rfl) ⟨Nat.le_of_ble_eq_true rfl, Nat.le_of_ble_eq_true rfl⟩ dL_temper_5 h (fun k u h H locs q9 ce I hce hcv hcl => ?_) (fun v u h H locs I => ?_)
  · by_cases ck : k = 0
    · have h := ite_t h ck
      subst ck
      refine r_catch1 (k := 0) X htab I (x := E.2.2.2.2.2.1) rfl tw_659 (by decide +kernel) (by decide) (by decide) hce hcv hcl ?_
      refine lv_astore (lv' := [(4, .ref q9), (0, .ref (ca E 0)), (1, .int x1), (2, .int x2), (3, .ref (ca E 59))]) hx hb dL_temper_13 hl (by decide) rfl (fun ls hl => ?_)
      refine lv_iconst (v := 1) hx hb dL_temper_15 (by decide) ?_
      exact r_iretm X I (Option.some.inj h).symm ⟨Nat.le_of_ble_eq_true rfl, Nat.le_of_ble_eq_true rfl⟩ dL_temper_16
    · have h := ite_f h ck
      cases h
  · skip
    refine lv_i2l hx hb dL_temper_8 rfl ?_
    obtain ⟨hin, h⟩ := gd_some h
    refine jastC X I (kC_59 E hn) (x := v) (by rfl) hin dL_temper_9 (fun H locs I => ?_)
    obtain ⟨σ2, eσ2, h⟩ := lt_e h
    replace I := wi_nm eσ2 I
    refine lv_goto (tgt := 17) hx hb dL_temper_10 (by decide) ?_
    refine lv_iconst (v := 0) hx hb dL_temper_17 (by decide) ?_
    exact r_iretm X I (Option.some.inj h).symm ⟨Nat.le_of_ble_eq_true rfl, Nat.le_of_ble_eq_true rfl⟩ dL_temper_18
theorem c_L_temper {l : Launch} {E : CE} {σ : Mem} {x1 : Int32} {x2 : Int32} (hlt : l.stackTraces = false) (hn : 0 < E.2.2.2.2.2.2) {q : Int32 × Mem} (h : m_L_temper σ x1 x2 = some q) : CIm l (vC E) yL_temper (.codeWith yL_temper cL_temper 5 (some .int) [(0, 10, 13, 18)] :: GG) rm_L_temper 1 6 [.ref (ca E 0), .int x1, .int x2, .ref (ca E 59)] σ q :=
  mk_CIm (by decide +kernel) (Nat.le_of_ble_eq_true rfl) (fun p e s m args below meth c A ls X htab I hl => w_L_temper_0 X hlt hn htab σ x1 x2 h s.heap [] ls I hl)

def rm_L_then : Room := { frames := 9, cells := 2, slots := 12, locals := 249 }
def m_L_then (σ : Mem) (x1 : Int32) (x2 : Int32) : Option (Int32 × Mem) := (hb (m_X10_then σ x1 x2) (fun k u => (if k = 0 then (some ((1 : Int32), u)) else (some ((2 : Int32), u)))) (fun v u => (gd (0 : Int32) 1 (lt (ms u 59 (Int32.toNatClampNeg (0 : Int32)) v) fun σ2 => (some ((0 : Int32), σ2))))))
set_option maxHeartbeats 4000000 in
set_option maxRecDepth 100000 in
theorem w_L_then_0 {p : Program} {l : Launch} {e : Env} {s : State} {m : MethodId} {args : Array Value} {below : List Frame} {meth : Method} {c : Code} {A : Nat → Prop} {E : CE} {q : Int32 × Mem} (X : CX p s m meth c args cL_then 5 RL (some .int)) (hlt : l.stackTraces = false) (hn : 0 < E.2.2.2.2.2.2) (htab : c.exceptionTable.toList = tableOf [(0, 10, 13, 18), (0, 10, 17, 13)]) : ∀ (σ : Mem) (x1 : Int32) (x2 : Int32) , m_L_then σ x1 x2 = some q → ∀ (H : Heap) (locs : List Loc) (ls : Array Slot), WI (vC E) A s H locs σ → lv_has ls 5 [(0, .ref (ca E 0)), (1, .int x1), (2, .int x2), (3, .ref (ca E 59))] → W p l e rm_L_then s m args below meth c H locs 0 0 (MQ below (QI (vC E) A q) args s 2 12 A) (F0 m 0 ls []) := by
  have hx := X.1
  have hb := X.2.1
  intro σ x1 x2 h H locs ls I hl
  unfold m_L_then at h
  refine lv_aload_n hx hb dL_then_0 rfl (lv_at hl 3 rfl) ?_
  refine lv_iconst (v := 0) hx hb dL_then_1 (by decide) ?_
  refine lv_aload_n hx hb dL_then_2 rfl (lv_at hl 0 rfl) ?_
  refine lv_iload_n hx hb dL_then_3 rfl (lv_at hl 1 rfl) ?_
  refine lv_iload_n hx hb dL_then_4 rfl (lv_at hl 2 rfl) ?_
  obtain ⟨z1, hz1, h⟩ := hb_e h
  refine r_callH (V := (vC E)) (k := 0) (As := [.int x1, .int x2]) (rest := [.int (0 : Int32), .ref (ca E 59)]) X I hl (c_X10_then hlt hz1) yv_X10_then tw_690 ⟨rfl, rfl, Nat.le_of_ble_eq_true rfl, Nat.le_of_ble_eq_true rfl⟩ (kC_0 E).1 rfl rfl rfl rfl (Nat.le_of_ble_eq_true rfl) ⟨Nat.le_of_ble_eq_true rfl, Nat.le_of_ble_eq_true rfl⟩ dL_then_5 h (fun k u h H locs q9 ce I hce hcv hcl => ?_) (fun v u h H locs I => ?_)
  · by_cases ck : k = 0
    · have h := ite_t h ck
      subst ck
      refine r_catch1 (k := 0) X htab I (x := E.2.2.2.2.2.1) rfl tw_659 (by decide +kernel) (by decide) (by decide) hce hcv hcl ?_
      refine lv_astore (lv' := [(4, .ref q9), (0, .ref (ca E 0)), (1, .int x1), (2, .int x2), (3, .ref (ca E 59))]) hx hb dL_then_13 hl (by decide) rfl (fun ls hl => ?_)
      refine lv_iconst (v := 1) hx hb dL_then_15 (by decide) ?_
      exact r_iretm X I (Option.some.inj h).symm ⟨Nat.le_of_ble_eq_true rfl, Nat.le_of_ble_eq_true rfl⟩ dL_then_16
    · have h := ite_f h ck
      have ek : exNm k = exNm 1 := by unfold exNm; rw [if_neg ck]; rfl
      rw [ek] at hcl
      refine r_catch2 X htab I (x := E.2.2.2.2.2.1) rfl tw_659 (by decide) tw_653 (by decide) (by decide) hce hcv hcl ?_
      refine lv_astore (lv' := [(4, .ref q9), (0, .ref (ca E 0)), (1, .int x1), (2, .int x2), (3, .ref (ca E 59))]) hx hb dL_then_17 hl (by decide) rfl (fun ls hl => ?_)
      refine lv_iconst (v := 2) hx hb dL_then_19 (by decide) ?_
      exact r_iretm X I (Option.some.inj h).symm ⟨Nat.le_of_ble_eq_true rfl, Nat.le_of_ble_eq_true rfl⟩ dL_then_20
  · skip
    refine lv_i2l hx hb dL_then_8 rfl ?_
    obtain ⟨hin, h⟩ := gd_some h
    refine jastC X I (kC_59 E hn) (x := v) (by rfl) hin dL_then_9 (fun H locs I => ?_)
    obtain ⟨σ2, eσ2, h⟩ := lt_e h
    replace I := wi_nm eσ2 I
    refine lv_goto (tgt := 21) hx hb dL_then_10 (by decide) ?_
    refine lv_iconst (v := 0) hx hb dL_then_21 (by decide) ?_
    exact r_iretm X I (Option.some.inj h).symm ⟨Nat.le_of_ble_eq_true rfl, Nat.le_of_ble_eq_true rfl⟩ dL_then_22
theorem c_L_then {l : Launch} {E : CE} {σ : Mem} {x1 : Int32} {x2 : Int32} (hlt : l.stackTraces = false) (hn : 0 < E.2.2.2.2.2.2) {q : Int32 × Mem} (h : m_L_then σ x1 x2 = some q) : CIm l (vC E) yL_then (.codeWith yL_then cL_then 5 (some .int) [(0, 10, 13, 18), (0, 10, 17, 13)] :: GG) rm_L_then 2 12 [.ref (ca E 0), .int x1, .int x2, .ref (ca E 59)] σ q :=
  mk_CIm (by decide +kernel) (Nat.le_of_ble_eq_true rfl) (fun p e s m args below meth c A ls X htab I hl => w_L_then_0 X hlt hn htab σ x1 x2 h s.heap [] ls I hl)

def rm_L_purse : Room := { frames := 9, cells := 3, slots := 18, locals := 250 }
def m_L_purse (σ : Mem) (x1 : Int32) (x2 : Int32) (x3 : Int32) : Option (Int32 × Mem) := (hb (m_X10_purse σ x1 x2 x3) (fun k u => (if k = 0 then (some ((1 : Int32), u)) else (some ((2 : Int32), u)))) (fun v u => (gd (0 : Int32) 1 (lt (ms u 59 (Int32.toNatClampNeg (0 : Int32)) v) fun σ2 => (some ((0 : Int32), σ2))))))
set_option maxHeartbeats 4000000 in
set_option maxRecDepth 100000 in
theorem w_L_purse_0 {p : Program} {l : Launch} {e : Env} {s : State} {m : MethodId} {args : Array Value} {below : List Frame} {meth : Method} {c : Code} {A : Nat → Prop} {E : CE} {q : Int32 × Mem} (X : CX p s m meth c args cL_purse 6 RL (some .int)) (hlt : l.stackTraces = false) (hn : 0 < E.2.2.2.2.2.2) (htab : c.exceptionTable.toList = tableOf [(0, 12, 15, 18), (0, 12, 19, 13)]) : ∀ (σ : Mem) (x1 : Int32) (x2 : Int32) (x3 : Int32) , m_L_purse σ x1 x2 x3 = some q → ∀ (H : Heap) (locs : List Loc) (ls : Array Slot), WI (vC E) A s H locs σ → lv_has ls 6 [(0, .ref (ca E 0)), (1, .int x1), (2, .int x2), (3, .int x3), (4, .ref (ca E 59))] → W p l e rm_L_purse s m args below meth c H locs 0 0 (MQ below (QI (vC E) A q) args s 3 18 A) (F0 m 0 ls []) := by
  have hx := X.1
  have hb := X.2.1
  intro σ x1 x2 x3 h H locs ls I hl
  unfold m_L_purse at h
  refine lv_aload hx hb dL_purse_0 (lv_at hl 4 rfl) ?_
  refine lv_iconst (v := 0) hx hb dL_purse_2 (by decide) ?_
  refine lv_aload_n hx hb dL_purse_3 rfl (lv_at hl 0 rfl) ?_
  refine lv_iload_n hx hb dL_purse_4 rfl (lv_at hl 1 rfl) ?_
  refine lv_iload_n hx hb dL_purse_5 rfl (lv_at hl 2 rfl) ?_
  refine lv_iload_n hx hb dL_purse_6 rfl (lv_at hl 3 rfl) ?_
  obtain ⟨z1, hz1, h⟩ := hb_e h
  refine r_callH (V := (vC E)) (k := 0) (As := [.int x1, .int x2, .int x3]) (rest := [.int (0 : Int32), .ref (ca E 59)]) X I hl (c_X10_purse hlt hz1) yv_X10_purse tw_695 ⟨rfl, rfl, Nat.le_of_ble_eq_true rfl, Nat.le_of_ble_eq_true rfl⟩ (kC_0 E).1 rfl rfl rfl rfl (Nat.le_of_ble_eq_true rfl) ⟨Nat.le_of_ble_eq_true rfl, Nat.le_of_ble_eq_true rfl⟩ dL_purse_7 h (fun k u h H locs q9 ce I hce hcv hcl => ?_) (fun v u h H locs I => ?_)
  · by_cases ck : k = 0
    · have h := ite_t h ck
      subst ck
      refine r_catch1 (k := 0) X htab I (x := E.2.2.2.2.2.1) rfl tw_659 (by decide +kernel) (by decide) (by decide) hce hcv hcl ?_
      refine lv_astore (lv' := [(5, .ref q9), (0, .ref (ca E 0)), (1, .int x1), (2, .int x2), (3, .int x3), (4, .ref (ca E 59))]) hx hb dL_purse_15 hl (by decide) rfl (fun ls hl => ?_)
      refine lv_iconst (v := 1) hx hb dL_purse_17 (by decide) ?_
      exact r_iretm X I (Option.some.inj h).symm ⟨Nat.le_of_ble_eq_true rfl, Nat.le_of_ble_eq_true rfl⟩ dL_purse_18
    · have h := ite_f h ck
      have ek : exNm k = exNm 1 := by unfold exNm; rw [if_neg ck]; rfl
      rw [ek] at hcl
      refine r_catch2 X htab I (x := E.2.2.2.2.2.1) rfl tw_659 (by decide) tw_653 (by decide) (by decide) hce hcv hcl ?_
      refine lv_astore (lv' := [(5, .ref q9), (0, .ref (ca E 0)), (1, .int x1), (2, .int x2), (3, .int x3), (4, .ref (ca E 59))]) hx hb dL_purse_19 hl (by decide) rfl (fun ls hl => ?_)
      refine lv_iconst (v := 2) hx hb dL_purse_21 (by decide) ?_
      exact r_iretm X I (Option.some.inj h).symm ⟨Nat.le_of_ble_eq_true rfl, Nat.le_of_ble_eq_true rfl⟩ dL_purse_22
  · skip
    refine lv_i2l hx hb dL_purse_10 rfl ?_
    obtain ⟨hin, h⟩ := gd_some h
    refine jastC X I (kC_59 E hn) (x := v) (by rfl) hin dL_purse_11 (fun H locs I => ?_)
    obtain ⟨σ2, eσ2, h⟩ := lt_e h
    replace I := wi_nm eσ2 I
    refine lv_goto (tgt := 23) hx hb dL_purse_12 (by decide) ?_
    refine lv_iconst (v := 0) hx hb dL_purse_23 (by decide) ?_
    exact r_iretm X I (Option.some.inj h).symm ⟨Nat.le_of_ble_eq_true rfl, Nat.le_of_ble_eq_true rfl⟩ dL_purse_24
theorem c_L_purse {l : Launch} {E : CE} {σ : Mem} {x1 : Int32} {x2 : Int32} {x3 : Int32} (hlt : l.stackTraces = false) (hn : 0 < E.2.2.2.2.2.2) {q : Int32 × Mem} (h : m_L_purse σ x1 x2 x3 = some q) : CIm l (vC E) yL_purse (.codeWith yL_purse cL_purse 6 (some .int) [(0, 12, 15, 18), (0, 12, 19, 13)] :: GG) rm_L_purse 3 18 [.ref (ca E 0), .int x1, .int x2, .int x3, .ref (ca E 59)] σ q :=
  mk_CIm (by decide +kernel) (Nat.le_of_ble_eq_true rfl) (fun p e s m args below meth c A ls X htab I hl => w_L_purse_0 X hlt hn htab σ x1 x2 x3 h s.heap [] ls I hl)

def rm_L_sealed : Room := { frames := 9, cells := 1, slots := 6, locals := 243 }
def m_L_sealed (σ : Mem) (x1 : Int32) : Option (Int32 × Mem) := (hb (m_X10_sealed σ x1) (fun k u => (if k = 0 then (some ((1 : Int32), u)) else none)) (fun v u => (gd (0 : Int32) 1 (lt (ms u 59 (Int32.toNatClampNeg (0 : Int32)) v) fun σ2 => (some ((0 : Int32), σ2))))))
set_option maxHeartbeats 4000000 in
set_option maxRecDepth 100000 in
theorem w_L_sealed_0 {p : Program} {l : Launch} {e : Env} {s : State} {m : MethodId} {args : Array Value} {below : List Frame} {meth : Method} {c : Code} {A : Nat → Prop} {E : CE} {q : Int32 × Mem} (X : CX p s m meth c args cL_sealed 4 RL (some .int)) (hlt : l.stackTraces = false) (hn : 0 < E.2.2.2.2.2.2) (htab : c.exceptionTable.toList = tableOf [(0, 9, 12, 18)]) : ∀ (σ : Mem) (x1 : Int32) , m_L_sealed σ x1 = some q → ∀ (H : Heap) (locs : List Loc) (ls : Array Slot), WI (vC E) A s H locs σ → lv_has ls 4 [(0, .ref (ca E 0)), (1, .int x1), (2, .ref (ca E 59))] → W p l e rm_L_sealed s m args below meth c H locs 0 0 (MQ below (QI (vC E) A q) args s 1 6 A) (F0 m 0 ls []) := by
  have hx := X.1
  have hb := X.2.1
  intro σ x1 h H locs ls I hl
  unfold m_L_sealed at h
  refine lv_aload_n hx hb dL_sealed_0 rfl (lv_at hl 2 rfl) ?_
  refine lv_iconst (v := 0) hx hb dL_sealed_1 (by decide) ?_
  refine lv_aload_n hx hb dL_sealed_2 rfl (lv_at hl 0 rfl) ?_
  refine lv_iload_n hx hb dL_sealed_3 rfl (lv_at hl 1 rfl) ?_
  obtain ⟨z1, hz1, h⟩ := hb_e h
  refine r_callH (V := (vC E)) (k := 0) (As := [.int x1]) (rest := [.int (0 : Int32), .ref (ca E 59)]) X I hl (c_X10_sealed hlt hz1) yv_X10_sealed tw_700 ⟨rfl, rfl, Nat.le_of_ble_eq_true rfl, Nat.le_of_ble_eq_true rfl⟩ (kC_0 E).1 rfl rfl rfl rfl (Nat.le_of_ble_eq_true rfl) ⟨Nat.le_of_ble_eq_true rfl, Nat.le_of_ble_eq_true rfl⟩ dL_sealed_4 h (fun k u h H locs q9 ce I hce hcv hcl => ?_) (fun v u h H locs I => ?_)
  · by_cases ck : k = 0
    · have h := ite_t h ck
      subst ck
      refine r_catch1 (k := 0) X htab I (x := E.2.2.2.2.2.1) rfl tw_659 (by decide +kernel) (by decide) (by decide) hce hcv hcl ?_
      refine lv_astore_n (lv' := [(3, .ref q9), (0, .ref (ca E 0)), (1, .int x1), (2, .ref (ca E 59))]) hx hb dL_sealed_12 rfl hl (by decide) rfl (fun ls hl => ?_)
      refine lv_iconst (v := 1) hx hb dL_sealed_13 (by decide) ?_
      exact r_iretm X I (Option.some.inj h).symm ⟨Nat.le_of_ble_eq_true rfl, Nat.le_of_ble_eq_true rfl⟩ dL_sealed_14
    · have h := ite_f h ck
      cases h
  · skip
    refine lv_i2l hx hb dL_sealed_7 rfl ?_
    obtain ⟨hin, h⟩ := gd_some h
    refine jastC X I (kC_59 E hn) (x := v) (by rfl) hin dL_sealed_8 (fun H locs I => ?_)
    obtain ⟨σ2, eσ2, h⟩ := lt_e h
    replace I := wi_nm eσ2 I
    refine lv_goto (tgt := 15) hx hb dL_sealed_9 (by decide) ?_
    refine lv_iconst (v := 0) hx hb dL_sealed_15 (by decide) ?_
    exact r_iretm X I (Option.some.inj h).symm ⟨Nat.le_of_ble_eq_true rfl, Nat.le_of_ble_eq_true rfl⟩ dL_sealed_16
theorem c_L_sealed {l : Launch} {E : CE} {σ : Mem} {x1 : Int32} (hlt : l.stackTraces = false) (hn : 0 < E.2.2.2.2.2.2) {q : Int32 × Mem} (h : m_L_sealed σ x1 = some q) : CIm l (vC E) yL_sealed (.codeWith yL_sealed cL_sealed 4 (some .int) [(0, 9, 12, 18)] :: GG) rm_L_sealed 1 6 [.ref (ca E 0), .int x1, .ref (ca E 59)] σ q :=
  mk_CIm (by decide +kernel) (Nat.le_of_ble_eq_true rfl) (fun p e s m args below meth c A ls X htab I hl => w_L_sealed_0 X hlt hn htab σ x1 h s.heap [] ls I hl)

def rm_L_gets : Room := { frames := 9, cells := 2, slots := 12, locals := 243 }
def m_L_gets (σ : Mem) (x1 : Int32) (x2 : Int32) : Option (Int32 × Mem) := (hb (m_X10_gets σ x1 x2) (fun k u => (if k = 0 then (some ((1 : Int32), u)) else none)) (fun v u => (gd (0 : Int32) 1 (lt (ms u 59 (Int32.toNatClampNeg (0 : Int32)) v) fun σ2 => (some ((0 : Int32), σ2))))))
set_option maxHeartbeats 4000000 in
set_option maxRecDepth 100000 in
theorem w_L_gets_0 {p : Program} {l : Launch} {e : Env} {s : State} {m : MethodId} {args : Array Value} {below : List Frame} {meth : Method} {c : Code} {A : Nat → Prop} {E : CE} {q : Int32 × Mem} (X : CX p s m meth c args cL_gets 5 RL (some .int)) (hlt : l.stackTraces = false) (hn : 0 < E.2.2.2.2.2.2) (htab : c.exceptionTable.toList = tableOf [(0, 10, 13, 18)]) : ∀ (σ : Mem) (x1 : Int32) (x2 : Int32) , m_L_gets σ x1 x2 = some q → ∀ (H : Heap) (locs : List Loc) (ls : Array Slot), WI (vC E) A s H locs σ → lv_has ls 5 [(0, .ref (ca E 0)), (1, .int x1), (2, .int x2), (3, .ref (ca E 59))] → W p l e rm_L_gets s m args below meth c H locs 0 0 (MQ below (QI (vC E) A q) args s 2 12 A) (F0 m 0 ls []) := by
  have hx := X.1
  have hb := X.2.1
  intro σ x1 x2 h H locs ls I hl
  unfold m_L_gets at h
  refine lv_aload_n hx hb dL_gets_0 rfl (lv_at hl 3 rfl) ?_
  refine lv_iconst (v := 0) hx hb dL_gets_1 (by decide) ?_
  refine lv_aload_n hx hb dL_gets_2 rfl (lv_at hl 0 rfl) ?_
  refine lv_iload_n hx hb dL_gets_3 rfl (lv_at hl 1 rfl) ?_
  refine lv_iload_n hx hb dL_gets_4 rfl (lv_at hl 2 rfl) ?_
  obtain ⟨z1, hz1, h⟩ := hb_e h
  refine r_callH (V := (vC E)) (k := 0) (As := [.int x1, .int x2]) (rest := [.int (0 : Int32), .ref (ca E 59)]) X I hl (c_X10_gets hlt hz1) yv_X10_gets tw_705 ⟨rfl, rfl, Nat.le_of_ble_eq_true rfl, Nat.le_of_ble_eq_true rfl⟩ (kC_0 E).1 rfl rfl rfl rfl (Nat.le_of_ble_eq_true rfl) ⟨Nat.le_of_ble_eq_true rfl, Nat.le_of_ble_eq_true rfl⟩ dL_gets_5 h (fun k u h H locs q9 ce I hce hcv hcl => ?_) (fun v u h H locs I => ?_)
  · by_cases ck : k = 0
    · have h := ite_t h ck
      subst ck
      refine r_catch1 (k := 0) X htab I (x := E.2.2.2.2.2.1) rfl tw_659 (by decide +kernel) (by decide) (by decide) hce hcv hcl ?_
      refine lv_astore (lv' := [(4, .ref q9), (0, .ref (ca E 0)), (1, .int x1), (2, .int x2), (3, .ref (ca E 59))]) hx hb dL_gets_13 hl (by decide) rfl (fun ls hl => ?_)
      refine lv_iconst (v := 1) hx hb dL_gets_15 (by decide) ?_
      exact r_iretm X I (Option.some.inj h).symm ⟨Nat.le_of_ble_eq_true rfl, Nat.le_of_ble_eq_true rfl⟩ dL_gets_16
    · have h := ite_f h ck
      cases h
  · skip
    refine lv_i2l hx hb dL_gets_8 rfl ?_
    obtain ⟨hin, h⟩ := gd_some h
    refine jastC X I (kC_59 E hn) (x := v) (by rfl) hin dL_gets_9 (fun H locs I => ?_)
    obtain ⟨σ2, eσ2, h⟩ := lt_e h
    replace I := wi_nm eσ2 I
    refine lv_goto (tgt := 17) hx hb dL_gets_10 (by decide) ?_
    refine lv_iconst (v := 0) hx hb dL_gets_17 (by decide) ?_
    exact r_iretm X I (Option.some.inj h).symm ⟨Nat.le_of_ble_eq_true rfl, Nat.le_of_ble_eq_true rfl⟩ dL_gets_18
theorem c_L_gets {l : Launch} {E : CE} {σ : Mem} {x1 : Int32} {x2 : Int32} (hlt : l.stackTraces = false) (hn : 0 < E.2.2.2.2.2.2) {q : Int32 × Mem} (h : m_L_gets σ x1 x2 = some q) : CIm l (vC E) yL_gets (.codeWith yL_gets cL_gets 5 (some .int) [(0, 10, 13, 18)] :: GG) rm_L_gets 2 12 [.ref (ca E 0), .int x1, .int x2, .ref (ca E 59)] σ q :=
  mk_CIm (by decide +kernel) (Nat.le_of_ble_eq_true rfl) (fun p e s m args below meth c A ls X htab I hl => w_L_gets_0 X hlt hn htab σ x1 x2 h s.heap [] ls I hl)

def rm_L_loses : Room := { frames := 9, cells := 1, slots := 6, locals := 243 }
def m_L_loses (σ : Mem) (x1 : Int32) : Option (Int32 × Mem) := (hb (m_X10_loses σ x1) (fun k u => (if k = 0 then (some ((1 : Int32), u)) else none)) (fun v u => (gd (0 : Int32) 1 (lt (ms u 59 (Int32.toNatClampNeg (0 : Int32)) v) fun σ2 => (some ((0 : Int32), σ2))))))
set_option maxHeartbeats 4000000 in
set_option maxRecDepth 100000 in
theorem w_L_loses_0 {p : Program} {l : Launch} {e : Env} {s : State} {m : MethodId} {args : Array Value} {below : List Frame} {meth : Method} {c : Code} {A : Nat → Prop} {E : CE} {q : Int32 × Mem} (X : CX p s m meth c args cL_loses 4 RL (some .int)) (hlt : l.stackTraces = false) (hn : 0 < E.2.2.2.2.2.2) (htab : c.exceptionTable.toList = tableOf [(0, 9, 12, 18)]) : ∀ (σ : Mem) (x1 : Int32) , m_L_loses σ x1 = some q → ∀ (H : Heap) (locs : List Loc) (ls : Array Slot), WI (vC E) A s H locs σ → lv_has ls 4 [(0, .ref (ca E 0)), (1, .int x1), (2, .ref (ca E 59))] → W p l e rm_L_loses s m args below meth c H locs 0 0 (MQ below (QI (vC E) A q) args s 1 6 A) (F0 m 0 ls []) := by
  have hx := X.1
  have hb := X.2.1
  intro σ x1 h H locs ls I hl
  unfold m_L_loses at h
  refine lv_aload_n hx hb dL_loses_0 rfl (lv_at hl 2 rfl) ?_
  refine lv_iconst (v := 0) hx hb dL_loses_1 (by decide) ?_
  refine lv_aload_n hx hb dL_loses_2 rfl (lv_at hl 0 rfl) ?_
  refine lv_iload_n hx hb dL_loses_3 rfl (lv_at hl 1 rfl) ?_
  obtain ⟨z1, hz1, h⟩ := hb_e h
  refine r_callH (V := (vC E)) (k := 0) (As := [.int x1]) (rest := [.int (0 : Int32), .ref (ca E 59)]) X I hl (c_X10_loses hlt hz1) yv_X10_loses tw_710 ⟨rfl, rfl, Nat.le_of_ble_eq_true rfl, Nat.le_of_ble_eq_true rfl⟩ (kC_0 E).1 rfl rfl rfl rfl (Nat.le_of_ble_eq_true rfl) ⟨Nat.le_of_ble_eq_true rfl, Nat.le_of_ble_eq_true rfl⟩ dL_loses_4 h (fun k u h H locs q9 ce I hce hcv hcl => ?_) (fun v u h H locs I => ?_)
  · by_cases ck : k = 0
    · have h := ite_t h ck
      subst ck
      refine r_catch1 (k := 0) X htab I (x := E.2.2.2.2.2.1) rfl tw_659 (by decide +kernel) (by decide) (by decide) hce hcv hcl ?_
      refine lv_astore_n (lv' := [(3, .ref q9), (0, .ref (ca E 0)), (1, .int x1), (2, .ref (ca E 59))]) hx hb dL_loses_12 rfl hl (by decide) rfl (fun ls hl => ?_)
      refine lv_iconst (v := 1) hx hb dL_loses_13 (by decide) ?_
      exact r_iretm X I (Option.some.inj h).symm ⟨Nat.le_of_ble_eq_true rfl, Nat.le_of_ble_eq_true rfl⟩ dL_loses_14
    · have h := ite_f h ck
      cases h
  · skip
    refine lv_i2l hx hb dL_loses_7 rfl ?_
    obtain ⟨hin, h⟩ := gd_some h
    refine jastC X I (kC_59 E hn) (x := v) (by rfl) hin dL_loses_8 (fun H locs I => ?_)
    obtain ⟨σ2, eσ2, h⟩ := lt_e h
    replace I := wi_nm eσ2 I
    refine lv_goto (tgt := 15) hx hb dL_loses_9 (by decide) ?_
    refine lv_iconst (v := 0) hx hb dL_loses_15 (by decide) ?_
    exact r_iretm X I (Option.some.inj h).symm ⟨Nat.le_of_ble_eq_true rfl, Nat.le_of_ble_eq_true rfl⟩ dL_loses_16
theorem c_L_loses {l : Launch} {E : CE} {σ : Mem} {x1 : Int32} (hlt : l.stackTraces = false) (hn : 0 < E.2.2.2.2.2.2) {q : Int32 × Mem} (h : m_L_loses σ x1 = some q) : CIm l (vC E) yL_loses (.codeWith yL_loses cL_loses 4 (some .int) [(0, 9, 12, 18)] :: GG) rm_L_loses 1 6 [.ref (ca E 0), .int x1, .ref (ca E 59)] σ q :=
  mk_CIm (by decide +kernel) (Nat.le_of_ble_eq_true rfl) (fun p e s m args below meth c A ls X htab I hl => w_L_loses_0 X hlt hn htab σ x1 h s.heap [] ls I hl)

def rm_L_most : Room := { frames := 9, cells := 1, slots := 6, locals := 252 }
def m_L_most (σ : Mem) (x1 : Int32) : Option (Int32 × Mem) := (hb (m_X10_most σ x1) (fun k u => (if k = 1 then (some ((1 : Int32), u)) else none)) (fun v u => (gd (0 : Int32) 1 (lt (ms u 59 (Int32.toNatClampNeg (0 : Int32)) v) fun σ2 => (some ((0 : Int32), σ2))))))
set_option maxHeartbeats 4000000 in
set_option maxRecDepth 100000 in
theorem w_L_most_0 {p : Program} {l : Launch} {e : Env} {s : State} {m : MethodId} {args : Array Value} {below : List Frame} {meth : Method} {c : Code} {A : Nat → Prop} {E : CE} {q : Int32 × Mem} (X : CX p s m meth c args cL_most 4 RL (some .int)) (hlt : l.stackTraces = false) (hn : 0 < E.2.2.2.2.2.2) (htab : c.exceptionTable.toList = tableOf [(0, 9, 12, 13)]) : ∀ (σ : Mem) (x1 : Int32) , m_L_most σ x1 = some q → ∀ (H : Heap) (locs : List Loc) (ls : Array Slot), WI (vC E) A s H locs σ → lv_has ls 4 [(0, .ref (ca E 0)), (1, .int x1), (2, .ref (ca E 59))] → W p l e rm_L_most s m args below meth c H locs 0 0 (MQ below (QI (vC E) A q) args s 1 6 A) (F0 m 0 ls []) := by
  have hx := X.1
  have hb := X.2.1
  intro σ x1 h H locs ls I hl
  unfold m_L_most at h
  refine lv_aload_n hx hb dL_most_0 rfl (lv_at hl 2 rfl) ?_
  refine lv_iconst (v := 0) hx hb dL_most_1 (by decide) ?_
  refine lv_aload_n hx hb dL_most_2 rfl (lv_at hl 0 rfl) ?_
  refine lv_iload_n hx hb dL_most_3 rfl (lv_at hl 1 rfl) ?_
  obtain ⟨z1, hz1, h⟩ := hb_e h
  refine r_callH (V := (vC E)) (k := 0) (As := [.int x1]) (rest := [.int (0 : Int32), .ref (ca E 59)]) X I hl (c_X10_most hlt hz1) yv_X10_most tw_715 ⟨rfl, rfl, Nat.le_of_ble_eq_true rfl, Nat.le_of_ble_eq_true rfl⟩ (kC_0 E).1 rfl rfl rfl rfl (Nat.le_of_ble_eq_true rfl) ⟨Nat.le_of_ble_eq_true rfl, Nat.le_of_ble_eq_true rfl⟩ dL_most_4 h (fun k u h H locs q9 ce I hce hcv hcl => ?_) (fun v u h H locs I => ?_)
  · by_cases ck : k = 1
    · have h := ite_t h ck
      subst ck
      refine r_catch1 (k := 1) X htab I (x := E.2.2.2.2.2.1) rfl tw_653 (by decide +kernel) (by decide) (by decide) hce hcv hcl ?_
      refine lv_astore_n (lv' := [(3, .ref q9), (0, .ref (ca E 0)), (1, .int x1), (2, .ref (ca E 59))]) hx hb dL_most_12 rfl hl (by decide) rfl (fun ls hl => ?_)
      refine lv_iconst (v := 1) hx hb dL_most_13 (by decide) ?_
      exact r_iretm X I (Option.some.inj h).symm ⟨Nat.le_of_ble_eq_true rfl, Nat.le_of_ble_eq_true rfl⟩ dL_most_14
    · have h := ite_f h ck
      cases h
  · skip
    refine lv_i2l hx hb dL_most_7 rfl ?_
    obtain ⟨hin, h⟩ := gd_some h
    refine jastC X I (kC_59 E hn) (x := v) (by rfl) hin dL_most_8 (fun H locs I => ?_)
    obtain ⟨σ2, eσ2, h⟩ := lt_e h
    replace I := wi_nm eσ2 I
    refine lv_goto (tgt := 15) hx hb dL_most_9 (by decide) ?_
    refine lv_iconst (v := 0) hx hb dL_most_15 (by decide) ?_
    exact r_iretm X I (Option.some.inj h).symm ⟨Nat.le_of_ble_eq_true rfl, Nat.le_of_ble_eq_true rfl⟩ dL_most_16
theorem c_L_most {l : Launch} {E : CE} {σ : Mem} {x1 : Int32} (hlt : l.stackTraces = false) (hn : 0 < E.2.2.2.2.2.2) {q : Int32 × Mem} (h : m_L_most σ x1 = some q) : CIm l (vC E) yL_most (.codeWith yL_most cL_most 4 (some .int) [(0, 9, 12, 13)] :: GG) rm_L_most 1 6 [.ref (ca E 0), .int x1, .ref (ca E 59)] σ q :=
  mk_CIm (by decide +kernel) (Nat.le_of_ble_eq_true rfl) (fun p e s m args below meth c A ls X htab I hl => w_L_most_0 X hlt hn htab σ x1 h s.heap [] ls I hl)

def rm_L_row : Room := { frames := 9, cells := 2, slots := 12, locals := 248 }
def m_L_row (σ : Mem) (x1 : Int32) (x2 : Int32) : Option (Int32 × Mem) := (hb (m_X10_row σ x1 x2) (fun k u => (if k = 0 then (some ((1 : Int32), u)) else none)) (fun v u => (gd (0 : Int32) 1 (lt (ms u 59 (Int32.toNatClampNeg (0 : Int32)) v) fun σ2 => (some ((0 : Int32), σ2))))))
set_option maxHeartbeats 4000000 in
set_option maxRecDepth 100000 in
theorem w_L_row_0 {p : Program} {l : Launch} {e : Env} {s : State} {m : MethodId} {args : Array Value} {below : List Frame} {meth : Method} {c : Code} {A : Nat → Prop} {E : CE} {q : Int32 × Mem} (X : CX p s m meth c args cL_row 5 RL (some .int)) (hlt : l.stackTraces = false) (hn : 0 < E.2.2.2.2.2.2) (htab : c.exceptionTable.toList = tableOf [(0, 10, 13, 18)]) : ∀ (σ : Mem) (x1 : Int32) (x2 : Int32) , m_L_row σ x1 x2 = some q → ∀ (H : Heap) (locs : List Loc) (ls : Array Slot), WI (vC E) A s H locs σ → lv_has ls 5 [(0, .ref (ca E 0)), (1, .int x1), (2, .int x2), (3, .ref (ca E 59))] → W p l e rm_L_row s m args below meth c H locs 0 0 (MQ below (QI (vC E) A q) args s 2 12 A) (F0 m 0 ls []) := by
  have hx := X.1
  have hb := X.2.1
  intro σ x1 x2 h H locs ls I hl
  unfold m_L_row at h
  refine lv_aload_n hx hb dL_row_0 rfl (lv_at hl 3 rfl) ?_
  refine lv_iconst (v := 0) hx hb dL_row_1 (by decide) ?_
  refine lv_aload_n hx hb dL_row_2 rfl (lv_at hl 0 rfl) ?_
  refine lv_iload_n hx hb dL_row_3 rfl (lv_at hl 1 rfl) ?_
  refine lv_iload_n hx hb dL_row_4 rfl (lv_at hl 2 rfl) ?_
  obtain ⟨z1, hz1, h⟩ := hb_e h
  refine r_callH (V := (vC E)) (k := 0) (As := [.int x1, .int x2]) (rest := [.int (0 : Int32), .ref (ca E 59)]) X I hl (c_X10_row hlt hz1) yv_X10_row tw_720 ⟨rfl, rfl, Nat.le_of_ble_eq_true rfl, Nat.le_of_ble_eq_true rfl⟩ (kC_0 E).1 rfl rfl rfl rfl (Nat.le_of_ble_eq_true rfl) ⟨Nat.le_of_ble_eq_true rfl, Nat.le_of_ble_eq_true rfl⟩ dL_row_5 h (fun k u h H locs q9 ce I hce hcv hcl => ?_) (fun v u h H locs I => ?_)
  · by_cases ck : k = 0
    · have h := ite_t h ck
      subst ck
      refine r_catch1 (k := 0) X htab I (x := E.2.2.2.2.2.1) rfl tw_659 (by decide +kernel) (by decide) (by decide) hce hcv hcl ?_
      refine lv_astore (lv' := [(4, .ref q9), (0, .ref (ca E 0)), (1, .int x1), (2, .int x2), (3, .ref (ca E 59))]) hx hb dL_row_13 hl (by decide) rfl (fun ls hl => ?_)
      refine lv_iconst (v := 1) hx hb dL_row_15 (by decide) ?_
      exact r_iretm X I (Option.some.inj h).symm ⟨Nat.le_of_ble_eq_true rfl, Nat.le_of_ble_eq_true rfl⟩ dL_row_16
    · have h := ite_f h ck
      cases h
  · skip
    refine lv_i2l hx hb dL_row_8 rfl ?_
    obtain ⟨hin, h⟩ := gd_some h
    refine jastC X I (kC_59 E hn) (x := v) (by rfl) hin dL_row_9 (fun H locs I => ?_)
    obtain ⟨σ2, eσ2, h⟩ := lt_e h
    replace I := wi_nm eσ2 I
    refine lv_goto (tgt := 17) hx hb dL_row_10 (by decide) ?_
    refine lv_iconst (v := 0) hx hb dL_row_17 (by decide) ?_
    exact r_iretm X I (Option.some.inj h).symm ⟨Nat.le_of_ble_eq_true rfl, Nat.le_of_ble_eq_true rfl⟩ dL_row_18
theorem c_L_row {l : Launch} {E : CE} {σ : Mem} {x1 : Int32} {x2 : Int32} (hlt : l.stackTraces = false) (hn : 0 < E.2.2.2.2.2.2) {q : Int32 × Mem} (h : m_L_row σ x1 x2 = some q) : CIm l (vC E) yL_row (.codeWith yL_row cL_row 5 (some .int) [(0, 10, 13, 18)] :: GG) rm_L_row 2 12 [.ref (ca E 0), .int x1, .int x2, .ref (ca E 59)] σ q :=
  mk_CIm (by decide +kernel) (Nat.le_of_ble_eq_true rfl) (fun p e s m args below meth c A ls X htab I hl => w_L_row_0 X hlt hn htab σ x1 x2 h s.heap [] ls I hl)

def rm_L_empty : Room := { frames := 9, cells := 1, slots := 6, locals := 248 }
def m_L_empty (σ : Mem) (x1 : Int32) : Option (Int32 × Mem) := (hb (m_X10_empty σ x1) (fun k u => (if k = 1 then (some ((1 : Int32), u)) else none)) (fun v u => (gd (0 : Int32) 1 (lt (ms u 59 (Int32.toNatClampNeg (0 : Int32)) v) fun σ2 => (some ((0 : Int32), σ2))))))
set_option maxHeartbeats 4000000 in
set_option maxRecDepth 100000 in
theorem w_L_empty_0 {p : Program} {l : Launch} {e : Env} {s : State} {m : MethodId} {args : Array Value} {below : List Frame} {meth : Method} {c : Code} {A : Nat → Prop} {E : CE} {q : Int32 × Mem} (X : CX p s m meth c args cL_empty 4 RL (some .int)) (hlt : l.stackTraces = false) (hn : 0 < E.2.2.2.2.2.2) (htab : c.exceptionTable.toList = tableOf [(0, 9, 12, 13)]) : ∀ (σ : Mem) (x1 : Int32) , m_L_empty σ x1 = some q → ∀ (H : Heap) (locs : List Loc) (ls : Array Slot), WI (vC E) A s H locs σ → lv_has ls 4 [(0, .ref (ca E 0)), (1, .int x1), (2, .ref (ca E 59))] → W p l e rm_L_empty s m args below meth c H locs 0 0 (MQ below (QI (vC E) A q) args s 1 6 A) (F0 m 0 ls []) := by
  have hx := X.1
  have hb := X.2.1
  intro σ x1 h H locs ls I hl
  unfold m_L_empty at h
  refine lv_aload_n hx hb dL_empty_0 rfl (lv_at hl 2 rfl) ?_
  refine lv_iconst (v := 0) hx hb dL_empty_1 (by decide) ?_
  refine lv_aload_n hx hb dL_empty_2 rfl (lv_at hl 0 rfl) ?_
  refine lv_iload_n hx hb dL_empty_3 rfl (lv_at hl 1 rfl) ?_
  obtain ⟨z1, hz1, h⟩ := hb_e h
  refine r_callH (V := (vC E)) (k := 0) (As := [.int x1]) (rest := [.int (0 : Int32), .ref (ca E 59)]) X I hl (c_X10_empty hlt hz1) yv_X10_empty tw_725 ⟨rfl, rfl, Nat.le_of_ble_eq_true rfl, Nat.le_of_ble_eq_true rfl⟩ (kC_0 E).1 rfl rfl rfl rfl (Nat.le_of_ble_eq_true rfl) ⟨Nat.le_of_ble_eq_true rfl, Nat.le_of_ble_eq_true rfl⟩ dL_empty_4 h (fun k u h H locs q9 ce I hce hcv hcl => ?_) (fun v u h H locs I => ?_)
  · by_cases ck : k = 1
    · have h := ite_t h ck
      subst ck
      refine r_catch1 (k := 1) X htab I (x := E.2.2.2.2.2.1) rfl tw_653 (by decide +kernel) (by decide) (by decide) hce hcv hcl ?_
      refine lv_astore_n (lv' := [(3, .ref q9), (0, .ref (ca E 0)), (1, .int x1), (2, .ref (ca E 59))]) hx hb dL_empty_12 rfl hl (by decide) rfl (fun ls hl => ?_)
      refine lv_iconst (v := 1) hx hb dL_empty_13 (by decide) ?_
      exact r_iretm X I (Option.some.inj h).symm ⟨Nat.le_of_ble_eq_true rfl, Nat.le_of_ble_eq_true rfl⟩ dL_empty_14
    · have h := ite_f h ck
      cases h
  · skip
    refine lv_i2l hx hb dL_empty_7 rfl ?_
    obtain ⟨hin, h⟩ := gd_some h
    refine jastC X I (kC_59 E hn) (x := v) (by rfl) hin dL_empty_8 (fun H locs I => ?_)
    obtain ⟨σ2, eσ2, h⟩ := lt_e h
    replace I := wi_nm eσ2 I
    refine lv_goto (tgt := 15) hx hb dL_empty_9 (by decide) ?_
    refine lv_iconst (v := 0) hx hb dL_empty_15 (by decide) ?_
    exact r_iretm X I (Option.some.inj h).symm ⟨Nat.le_of_ble_eq_true rfl, Nat.le_of_ble_eq_true rfl⟩ dL_empty_16
theorem c_L_empty {l : Launch} {E : CE} {σ : Mem} {x1 : Int32} (hlt : l.stackTraces = false) (hn : 0 < E.2.2.2.2.2.2) {q : Int32 × Mem} (h : m_L_empty σ x1 = some q) : CIm l (vC E) yL_empty (.codeWith yL_empty cL_empty 4 (some .int) [(0, 9, 12, 13)] :: GG) rm_L_empty 1 6 [.ref (ca E 0), .int x1, .ref (ca E 59)] σ q :=
  mk_CIm (by decide +kernel) (Nat.le_of_ble_eq_true rfl) (fun p e s m args below meth c A ls X htab I hl => w_L_empty_0 X hlt hn htab σ x1 h s.heap [] ls I hl)

def rm_L_liking : Room := { frames := 9, cells := 2, slots := 12, locals := 243 }
def m_L_liking (σ : Mem) (x1 : Int32) (x2 : Int32) : Option (Int32 × Mem) := (hb (m_X10_liking σ x1 x2) (fun k u => (if k = 0 then (some ((1 : Int32), u)) else none)) (fun v u => (gd (0 : Int32) 1 (lt (ms u 59 (Int32.toNatClampNeg (0 : Int32)) v) fun σ2 => (some ((0 : Int32), σ2))))))
set_option maxHeartbeats 4000000 in
set_option maxRecDepth 100000 in
theorem w_L_liking_0 {p : Program} {l : Launch} {e : Env} {s : State} {m : MethodId} {args : Array Value} {below : List Frame} {meth : Method} {c : Code} {A : Nat → Prop} {E : CE} {q : Int32 × Mem} (X : CX p s m meth c args cL_liking 5 RL (some .int)) (hlt : l.stackTraces = false) (hn : 0 < E.2.2.2.2.2.2) (htab : c.exceptionTable.toList = tableOf [(0, 10, 13, 18)]) : ∀ (σ : Mem) (x1 : Int32) (x2 : Int32) , m_L_liking σ x1 x2 = some q → ∀ (H : Heap) (locs : List Loc) (ls : Array Slot), WI (vC E) A s H locs σ → lv_has ls 5 [(0, .ref (ca E 0)), (1, .int x1), (2, .int x2), (3, .ref (ca E 59))] → W p l e rm_L_liking s m args below meth c H locs 0 0 (MQ below (QI (vC E) A q) args s 2 12 A) (F0 m 0 ls []) := by
  have hx := X.1
  have hb := X.2.1
  intro σ x1 x2 h H locs ls I hl
  unfold m_L_liking at h
  refine lv_aload_n hx hb dL_liking_0 rfl (lv_at hl 3 rfl) ?_
  refine lv_iconst (v := 0) hx hb dL_liking_1 (by decide) ?_
  refine lv_aload_n hx hb dL_liking_2 rfl (lv_at hl 0 rfl) ?_
  refine lv_iload_n hx hb dL_liking_3 rfl (lv_at hl 1 rfl) ?_
  refine lv_iload_n hx hb dL_liking_4 rfl (lv_at hl 2 rfl) ?_
  obtain ⟨z1, hz1, h⟩ := hb_e h
  refine r_callH (V := (vC E)) (k := 0) (As := [.int x1, .int x2]) (rest := [.int (0 : Int32), .ref (ca E 59)]) X I hl (c_X10_liking hlt hz1) yv_X10_liking tw_730 ⟨rfl, rfl, Nat.le_of_ble_eq_true rfl, Nat.le_of_ble_eq_true rfl⟩ (kC_0 E).1 rfl rfl rfl rfl (Nat.le_of_ble_eq_true rfl) ⟨Nat.le_of_ble_eq_true rfl, Nat.le_of_ble_eq_true rfl⟩ dL_liking_5 h (fun k u h H locs q9 ce I hce hcv hcl => ?_) (fun v u h H locs I => ?_)
  · by_cases ck : k = 0
    · have h := ite_t h ck
      subst ck
      refine r_catch1 (k := 0) X htab I (x := E.2.2.2.2.2.1) rfl tw_659 (by decide +kernel) (by decide) (by decide) hce hcv hcl ?_
      refine lv_astore (lv' := [(4, .ref q9), (0, .ref (ca E 0)), (1, .int x1), (2, .int x2), (3, .ref (ca E 59))]) hx hb dL_liking_13 hl (by decide) rfl (fun ls hl => ?_)
      refine lv_iconst (v := 1) hx hb dL_liking_15 (by decide) ?_
      exact r_iretm X I (Option.some.inj h).symm ⟨Nat.le_of_ble_eq_true rfl, Nat.le_of_ble_eq_true rfl⟩ dL_liking_16
    · have h := ite_f h ck
      cases h
  · skip
    refine lv_i2l hx hb dL_liking_8 rfl ?_
    obtain ⟨hin, h⟩ := gd_some h
    refine jastC X I (kC_59 E hn) (x := v) (by rfl) hin dL_liking_9 (fun H locs I => ?_)
    obtain ⟨σ2, eσ2, h⟩ := lt_e h
    replace I := wi_nm eσ2 I
    refine lv_goto (tgt := 17) hx hb dL_liking_10 (by decide) ?_
    refine lv_iconst (v := 0) hx hb dL_liking_17 (by decide) ?_
    exact r_iretm X I (Option.some.inj h).symm ⟨Nat.le_of_ble_eq_true rfl, Nat.le_of_ble_eq_true rfl⟩ dL_liking_18
theorem c_L_liking {l : Launch} {E : CE} {σ : Mem} {x1 : Int32} {x2 : Int32} (hlt : l.stackTraces = false) (hn : 0 < E.2.2.2.2.2.2) {q : Int32 × Mem} (h : m_L_liking σ x1 x2 = some q) : CIm l (vC E) yL_liking (.codeWith yL_liking cL_liking 5 (some .int) [(0, 10, 13, 18)] :: GG) rm_L_liking 2 12 [.ref (ca E 0), .int x1, .int x2, .ref (ca E 59)] σ q :=
  mk_CIm (by decide +kernel) (Nat.le_of_ble_eq_true rfl) (fun p e s m args below meth c A ls X htab I hl => w_L_liking_0 X hlt hn htab σ x1 x2 h s.heap [] ls I hl)

def rm_L_leastChops : Room := { frames := 9, cells := 2, slots := 12, locals := 244 }
def m_L_leastChops (σ : Mem) (x1 : Int32) (x2 : Int32) : Option (Int32 × Mem) := (hb (m_X10_leastChops σ x1 x2) (fun k u => (if k = 0 then (some ((1 : Int32), u)) else none)) (fun v u => (gd (0 : Int32) 1 (lt (ms u 59 (Int32.toNatClampNeg (0 : Int32)) v) fun σ2 => (some ((0 : Int32), σ2))))))
set_option maxHeartbeats 4000000 in
set_option maxRecDepth 100000 in
theorem w_L_leastChops_0 {p : Program} {l : Launch} {e : Env} {s : State} {m : MethodId} {args : Array Value} {below : List Frame} {meth : Method} {c : Code} {A : Nat → Prop} {E : CE} {q : Int32 × Mem} (X : CX p s m meth c args cL_leastChops 5 RL (some .int)) (hlt : l.stackTraces = false) (hn : 0 < E.2.2.2.2.2.2) (htab : c.exceptionTable.toList = tableOf [(0, 10, 13, 18)]) : ∀ (σ : Mem) (x1 : Int32) (x2 : Int32) , m_L_leastChops σ x1 x2 = some q → ∀ (H : Heap) (locs : List Loc) (ls : Array Slot), WI (vC E) A s H locs σ → lv_has ls 5 [(0, .ref (ca E 0)), (1, .int x1), (2, .int x2), (3, .ref (ca E 59))] → W p l e rm_L_leastChops s m args below meth c H locs 0 0 (MQ below (QI (vC E) A q) args s 2 12 A) (F0 m 0 ls []) := by
  have hx := X.1
  have hb := X.2.1
  intro σ x1 x2 h H locs ls I hl
  unfold m_L_leastChops at h
  refine lv_aload_n hx hb dL_leastChops_0 rfl (lv_at hl 3 rfl) ?_
  refine lv_iconst (v := 0) hx hb dL_leastChops_1 (by decide) ?_
  refine lv_aload_n hx hb dL_leastChops_2 rfl (lv_at hl 0 rfl) ?_
  refine lv_iload_n hx hb dL_leastChops_3 rfl (lv_at hl 1 rfl) ?_
  refine lv_iload_n hx hb dL_leastChops_4 rfl (lv_at hl 2 rfl) ?_
  obtain ⟨z1, hz1, h⟩ := hb_e h
  refine r_callH (V := (vC E)) (k := 0) (As := [.int x1, .int x2]) (rest := [.int (0 : Int32), .ref (ca E 59)]) X I hl (c_X10_leastChops hlt hz1) yv_X10_leastChops tw_735 ⟨rfl, rfl, Nat.le_of_ble_eq_true rfl, Nat.le_of_ble_eq_true rfl⟩ (kC_0 E).1 rfl rfl rfl rfl (Nat.le_of_ble_eq_true rfl) ⟨Nat.le_of_ble_eq_true rfl, Nat.le_of_ble_eq_true rfl⟩ dL_leastChops_5 h (fun k u h H locs q9 ce I hce hcv hcl => ?_) (fun v u h H locs I => ?_)
  · by_cases ck : k = 0
    · have h := ite_t h ck
      subst ck
      refine r_catch1 (k := 0) X htab I (x := E.2.2.2.2.2.1) rfl tw_659 (by decide +kernel) (by decide) (by decide) hce hcv hcl ?_
      refine lv_astore (lv' := [(4, .ref q9), (0, .ref (ca E 0)), (1, .int x1), (2, .int x2), (3, .ref (ca E 59))]) hx hb dL_leastChops_13 hl (by decide) rfl (fun ls hl => ?_)
      refine lv_iconst (v := 1) hx hb dL_leastChops_15 (by decide) ?_
      exact r_iretm X I (Option.some.inj h).symm ⟨Nat.le_of_ble_eq_true rfl, Nat.le_of_ble_eq_true rfl⟩ dL_leastChops_16
    · have h := ite_f h ck
      cases h
  · skip
    refine lv_i2l hx hb dL_leastChops_8 rfl ?_
    obtain ⟨hin, h⟩ := gd_some h
    refine jastC X I (kC_59 E hn) (x := v) (by rfl) hin dL_leastChops_9 (fun H locs I => ?_)
    obtain ⟨σ2, eσ2, h⟩ := lt_e h
    replace I := wi_nm eσ2 I
    refine lv_goto (tgt := 17) hx hb dL_leastChops_10 (by decide) ?_
    refine lv_iconst (v := 0) hx hb dL_leastChops_17 (by decide) ?_
    exact r_iretm X I (Option.some.inj h).symm ⟨Nat.le_of_ble_eq_true rfl, Nat.le_of_ble_eq_true rfl⟩ dL_leastChops_18
theorem c_L_leastChops {l : Launch} {E : CE} {σ : Mem} {x1 : Int32} {x2 : Int32} (hlt : l.stackTraces = false) (hn : 0 < E.2.2.2.2.2.2) {q : Int32 × Mem} (h : m_L_leastChops σ x1 x2 = some q) : CIm l (vC E) yL_leastChops (.codeWith yL_leastChops cL_leastChops 5 (some .int) [(0, 10, 13, 18)] :: GG) rm_L_leastChops 2 12 [.ref (ca E 0), .int x1, .int x2, .ref (ca E 59)] σ q :=
  mk_CIm (by decide +kernel) (Nat.le_of_ble_eq_true rfl) (fun p e s m args below meth c A ls X htab I hl => w_L_leastChops_0 X hlt hn htab σ x1 x2 h s.heap [] ls I hl)

def rm_L_toWin : Room := { frames := 9, cells := 2, slots := 12, locals := 248 }
def m_L_toWin (σ : Mem) (x1 : Int32) (x2 : Int32) : Option (Int32 × Mem) := (hb (m_X10_toWin σ x1 x2) (fun k u => (if k = 0 then (some ((1 : Int32), u)) else none)) (fun v u => (gd (0 : Int32) 1 (lt (ms u 59 (Int32.toNatClampNeg (0 : Int32)) v) fun σ2 => (some ((0 : Int32), σ2))))))
set_option maxHeartbeats 4000000 in
set_option maxRecDepth 100000 in
theorem w_L_toWin_0 {p : Program} {l : Launch} {e : Env} {s : State} {m : MethodId} {args : Array Value} {below : List Frame} {meth : Method} {c : Code} {A : Nat → Prop} {E : CE} {q : Int32 × Mem} (X : CX p s m meth c args cL_toWin 5 RL (some .int)) (hlt : l.stackTraces = false) (hn : 0 < E.2.2.2.2.2.2) (htab : c.exceptionTable.toList = tableOf [(0, 10, 13, 18)]) : ∀ (σ : Mem) (x1 : Int32) (x2 : Int32) , m_L_toWin σ x1 x2 = some q → ∀ (H : Heap) (locs : List Loc) (ls : Array Slot), WI (vC E) A s H locs σ → lv_has ls 5 [(0, .ref (ca E 0)), (1, .int x1), (2, .int x2), (3, .ref (ca E 59))] → W p l e rm_L_toWin s m args below meth c H locs 0 0 (MQ below (QI (vC E) A q) args s 2 12 A) (F0 m 0 ls []) := by
  have hx := X.1
  have hb := X.2.1
  intro σ x1 x2 h H locs ls I hl
  unfold m_L_toWin at h
  refine lv_aload_n hx hb dL_toWin_0 rfl (lv_at hl 3 rfl) ?_
  refine lv_iconst (v := 0) hx hb dL_toWin_1 (by decide) ?_
  refine lv_aload_n hx hb dL_toWin_2 rfl (lv_at hl 0 rfl) ?_
  refine lv_iload_n hx hb dL_toWin_3 rfl (lv_at hl 1 rfl) ?_
  refine lv_iload_n hx hb dL_toWin_4 rfl (lv_at hl 2 rfl) ?_
  obtain ⟨z1, hz1, h⟩ := hb_e h
  refine r_callH (V := (vC E)) (k := 0) (As := [.int x1, .int x2]) (rest := [.int (0 : Int32), .ref (ca E 59)]) X I hl (c_X10_toWin hlt hz1) yv_X10_toWin tw_740 ⟨rfl, rfl, Nat.le_of_ble_eq_true rfl, Nat.le_of_ble_eq_true rfl⟩ (kC_0 E).1 rfl rfl rfl rfl (Nat.le_of_ble_eq_true rfl) ⟨Nat.le_of_ble_eq_true rfl, Nat.le_of_ble_eq_true rfl⟩ dL_toWin_5 h (fun k u h H locs q9 ce I hce hcv hcl => ?_) (fun v u h H locs I => ?_)
  · by_cases ck : k = 0
    · have h := ite_t h ck
      subst ck
      refine r_catch1 (k := 0) X htab I (x := E.2.2.2.2.2.1) rfl tw_659 (by decide +kernel) (by decide) (by decide) hce hcv hcl ?_
      refine lv_astore (lv' := [(4, .ref q9), (0, .ref (ca E 0)), (1, .int x1), (2, .int x2), (3, .ref (ca E 59))]) hx hb dL_toWin_13 hl (by decide) rfl (fun ls hl => ?_)
      refine lv_iconst (v := 1) hx hb dL_toWin_15 (by decide) ?_
      exact r_iretm X I (Option.some.inj h).symm ⟨Nat.le_of_ble_eq_true rfl, Nat.le_of_ble_eq_true rfl⟩ dL_toWin_16
    · have h := ite_f h ck
      cases h
  · skip
    refine lv_i2l hx hb dL_toWin_8 rfl ?_
    obtain ⟨hin, h⟩ := gd_some h
    refine jastC X I (kC_59 E hn) (x := v) (by rfl) hin dL_toWin_9 (fun H locs I => ?_)
    obtain ⟨σ2, eσ2, h⟩ := lt_e h
    replace I := wi_nm eσ2 I
    refine lv_goto (tgt := 17) hx hb dL_toWin_10 (by decide) ?_
    refine lv_iconst (v := 0) hx hb dL_toWin_17 (by decide) ?_
    exact r_iretm X I (Option.some.inj h).symm ⟨Nat.le_of_ble_eq_true rfl, Nat.le_of_ble_eq_true rfl⟩ dL_toWin_18
theorem c_L_toWin {l : Launch} {E : CE} {σ : Mem} {x1 : Int32} {x2 : Int32} (hlt : l.stackTraces = false) (hn : 0 < E.2.2.2.2.2.2) {q : Int32 × Mem} (h : m_L_toWin σ x1 x2 = some q) : CIm l (vC E) yL_toWin (.codeWith yL_toWin cL_toWin 5 (some .int) [(0, 10, 13, 18)] :: GG) rm_L_toWin 2 12 [.ref (ca E 0), .int x1, .int x2, .ref (ca E 59)] σ q :=
  mk_CIm (by decide +kernel) (Nat.le_of_ble_eq_true rfl) (fun p e s m args below meth c A ls X htab I hl => w_L_toWin_0 X hlt hn htab σ x1 x2 h s.heap [] ls I hl)

def rm_L_ruin : Room := { frames := 9, cells := 1, slots := 6, locals := 252 }
def m_L_ruin (σ : Mem) (x1 : Int32) : Option (Int32 × Mem) := (hb (m_X10_ruin σ x1) (fun k u => (if k = 0 then (some ((1 : Int32), u)) else none)) (fun v u => (gd (0 : Int32) 1 (lt (ms u 59 (Int32.toNatClampNeg (0 : Int32)) v) fun σ2 => (some ((0 : Int32), σ2))))))
set_option maxHeartbeats 4000000 in
set_option maxRecDepth 100000 in
theorem w_L_ruin_0 {p : Program} {l : Launch} {e : Env} {s : State} {m : MethodId} {args : Array Value} {below : List Frame} {meth : Method} {c : Code} {A : Nat → Prop} {E : CE} {q : Int32 × Mem} (X : CX p s m meth c args cL_ruin 4 RL (some .int)) (hlt : l.stackTraces = false) (hn : 0 < E.2.2.2.2.2.2) (htab : c.exceptionTable.toList = tableOf [(0, 9, 12, 18)]) : ∀ (σ : Mem) (x1 : Int32) , m_L_ruin σ x1 = some q → ∀ (H : Heap) (locs : List Loc) (ls : Array Slot), WI (vC E) A s H locs σ → lv_has ls 4 [(0, .ref (ca E 0)), (1, .int x1), (2, .ref (ca E 59))] → W p l e rm_L_ruin s m args below meth c H locs 0 0 (MQ below (QI (vC E) A q) args s 1 6 A) (F0 m 0 ls []) := by
  have hx := X.1
  have hb := X.2.1
  intro σ x1 h H locs ls I hl
  unfold m_L_ruin at h
  refine lv_aload_n hx hb dL_ruin_0 rfl (lv_at hl 2 rfl) ?_
  refine lv_iconst (v := 0) hx hb dL_ruin_1 (by decide) ?_
  refine lv_aload_n hx hb dL_ruin_2 rfl (lv_at hl 0 rfl) ?_
  refine lv_iload_n hx hb dL_ruin_3 rfl (lv_at hl 1 rfl) ?_
  obtain ⟨z1, hz1, h⟩ := hb_e h
  refine r_callH (V := (vC E)) (k := 0) (As := [.int x1]) (rest := [.int (0 : Int32), .ref (ca E 59)]) X I hl (c_X10_ruin hlt hz1) yv_X10_ruin tw_745 ⟨rfl, rfl, Nat.le_of_ble_eq_true rfl, Nat.le_of_ble_eq_true rfl⟩ (kC_0 E).1 rfl rfl rfl rfl (Nat.le_of_ble_eq_true rfl) ⟨Nat.le_of_ble_eq_true rfl, Nat.le_of_ble_eq_true rfl⟩ dL_ruin_4 h (fun k u h H locs q9 ce I hce hcv hcl => ?_) (fun v u h H locs I => ?_)
  · by_cases ck : k = 0
    · have h := ite_t h ck
      subst ck
      refine r_catch1 (k := 0) X htab I (x := E.2.2.2.2.2.1) rfl tw_659 (by decide +kernel) (by decide) (by decide) hce hcv hcl ?_
      refine lv_astore_n (lv' := [(3, .ref q9), (0, .ref (ca E 0)), (1, .int x1), (2, .ref (ca E 59))]) hx hb dL_ruin_12 rfl hl (by decide) rfl (fun ls hl => ?_)
      refine lv_iconst (v := 1) hx hb dL_ruin_13 (by decide) ?_
      exact r_iretm X I (Option.some.inj h).symm ⟨Nat.le_of_ble_eq_true rfl, Nat.le_of_ble_eq_true rfl⟩ dL_ruin_14
    · have h := ite_f h ck
      cases h
  · skip
    refine lv_i2l hx hb dL_ruin_7 rfl ?_
    obtain ⟨hin, h⟩ := gd_some h
    refine jastC X I (kC_59 E hn) (x := v) (by rfl) hin dL_ruin_8 (fun H locs I => ?_)
    obtain ⟨σ2, eσ2, h⟩ := lt_e h
    replace I := wi_nm eσ2 I
    refine lv_goto (tgt := 15) hx hb dL_ruin_9 (by decide) ?_
    refine lv_iconst (v := 0) hx hb dL_ruin_15 (by decide) ?_
    exact r_iretm X I (Option.some.inj h).symm ⟨Nat.le_of_ble_eq_true rfl, Nat.le_of_ble_eq_true rfl⟩ dL_ruin_16
theorem c_L_ruin {l : Launch} {E : CE} {σ : Mem} {x1 : Int32} (hlt : l.stackTraces = false) (hn : 0 < E.2.2.2.2.2.2) {q : Int32 × Mem} (h : m_L_ruin σ x1 = some q) : CIm l (vC E) yL_ruin (.codeWith yL_ruin cL_ruin 4 (some .int) [(0, 9, 12, 18)] :: GG) rm_L_ruin 1 6 [.ref (ca E 0), .int x1, .ref (ca E 59)] σ q :=
  mk_CIm (by decide +kernel) (Nat.le_of_ble_eq_true rfl) (fun p e s m args below meth c A ls X htab I hl => w_L_ruin_0 X hlt hn htab σ x1 h s.heap [] ls I hl)

def rm_L_share : Room := { frames := 9, cells := 2, slots := 12, locals := 245 }
def m_L_share (σ : Mem) (x1 : Int32) (x2 : Int32) : Option (Int32 × Mem) := (hb (m_X10_share σ x1 x2) (fun k u => (if k = 0 then (some ((1 : Int32), u)) else (some ((2 : Int32), u)))) (fun v u => (gd (0 : Int32) 1 (lt (ms u 59 (Int32.toNatClampNeg (0 : Int32)) v) fun σ2 => (some ((0 : Int32), σ2))))))
set_option maxHeartbeats 4000000 in
set_option maxRecDepth 100000 in
theorem w_L_share_0 {p : Program} {l : Launch} {e : Env} {s : State} {m : MethodId} {args : Array Value} {below : List Frame} {meth : Method} {c : Code} {A : Nat → Prop} {E : CE} {q : Int32 × Mem} (X : CX p s m meth c args cL_share 5 RL (some .int)) (hlt : l.stackTraces = false) (hn : 0 < E.2.2.2.2.2.2) (htab : c.exceptionTable.toList = tableOf [(0, 10, 13, 18), (0, 10, 17, 13)]) : ∀ (σ : Mem) (x1 : Int32) (x2 : Int32) , m_L_share σ x1 x2 = some q → ∀ (H : Heap) (locs : List Loc) (ls : Array Slot), WI (vC E) A s H locs σ → lv_has ls 5 [(0, .ref (ca E 0)), (1, .int x1), (2, .int x2), (3, .ref (ca E 59))] → W p l e rm_L_share s m args below meth c H locs 0 0 (MQ below (QI (vC E) A q) args s 2 12 A) (F0 m 0 ls []) := by
  have hx := X.1
  have hb := X.2.1
  intro σ x1 x2 h H locs ls I hl
  unfold m_L_share at h
  refine lv_aload_n hx hb dL_share_0 rfl (lv_at hl 3 rfl) ?_
  refine lv_iconst (v := 0) hx hb dL_share_1 (by decide) ?_
  refine lv_aload_n hx hb dL_share_2 rfl (lv_at hl 0 rfl) ?_
  refine lv_iload_n hx hb dL_share_3 rfl (lv_at hl 1 rfl) ?_
  refine lv_iload_n hx hb dL_share_4 rfl (lv_at hl 2 rfl) ?_
  obtain ⟨z1, hz1, h⟩ := hb_e h
  refine r_callH (V := (vC E)) (k := 0) (As := [.int x1, .int x2]) (rest := [.int (0 : Int32), .ref (ca E 59)]) X I hl (c_X10_share hlt hz1) yv_X10_share tw_750 ⟨rfl, rfl, Nat.le_of_ble_eq_true rfl, Nat.le_of_ble_eq_true rfl⟩ (kC_0 E).1 rfl rfl rfl rfl (Nat.le_of_ble_eq_true rfl) ⟨Nat.le_of_ble_eq_true rfl, Nat.le_of_ble_eq_true rfl⟩ dL_share_5 h (fun k u h H locs q9 ce I hce hcv hcl => ?_) (fun v u h H locs I => ?_)
  · by_cases ck : k = 0
    · have h := ite_t h ck
      subst ck
      refine r_catch1 (k := 0) X htab I (x := E.2.2.2.2.2.1) rfl tw_659 (by decide +kernel) (by decide) (by decide) hce hcv hcl ?_
      refine lv_astore (lv' := [(4, .ref q9), (0, .ref (ca E 0)), (1, .int x1), (2, .int x2), (3, .ref (ca E 59))]) hx hb dL_share_13 hl (by decide) rfl (fun ls hl => ?_)
      refine lv_iconst (v := 1) hx hb dL_share_15 (by decide) ?_
      exact r_iretm X I (Option.some.inj h).symm ⟨Nat.le_of_ble_eq_true rfl, Nat.le_of_ble_eq_true rfl⟩ dL_share_16
    · have h := ite_f h ck
      have ek : exNm k = exNm 1 := by unfold exNm; rw [if_neg ck]; rfl
      rw [ek] at hcl
      refine r_catch2 X htab I (x := E.2.2.2.2.2.1) rfl tw_659 (by decide) tw_653 (by decide) (by decide) hce hcv hcl ?_
      refine lv_astore (lv' := [(4, .ref q9), (0, .ref (ca E 0)), (1, .int x1), (2, .int x2), (3, .ref (ca E 59))]) hx hb dL_share_17 hl (by decide) rfl (fun ls hl => ?_)
      refine lv_iconst (v := 2) hx hb dL_share_19 (by decide) ?_
      exact r_iretm X I (Option.some.inj h).symm ⟨Nat.le_of_ble_eq_true rfl, Nat.le_of_ble_eq_true rfl⟩ dL_share_20
  · skip
    refine lv_i2l hx hb dL_share_8 rfl ?_
    obtain ⟨hin, h⟩ := gd_some h
    refine jastC X I (kC_59 E hn) (x := v) (by rfl) hin dL_share_9 (fun H locs I => ?_)
    obtain ⟨σ2, eσ2, h⟩ := lt_e h
    replace I := wi_nm eσ2 I
    refine lv_goto (tgt := 21) hx hb dL_share_10 (by decide) ?_
    refine lv_iconst (v := 0) hx hb dL_share_21 (by decide) ?_
    exact r_iretm X I (Option.some.inj h).symm ⟨Nat.le_of_ble_eq_true rfl, Nat.le_of_ble_eq_true rfl⟩ dL_share_22
theorem c_L_share {l : Launch} {E : CE} {σ : Mem} {x1 : Int32} {x2 : Int32} (hlt : l.stackTraces = false) (hn : 0 < E.2.2.2.2.2.2) {q : Int32 × Mem} (h : m_L_share σ x1 x2 = some q) : CIm l (vC E) yL_share (.codeWith yL_share cL_share 5 (some .int) [(0, 10, 13, 18), (0, 10, 17, 13)] :: GG) rm_L_share 2 12 [.ref (ca E 0), .int x1, .int x2, .ref (ca E 59)] σ q :=
  mk_CIm (by decide +kernel) (Nat.le_of_ble_eq_true rfl) (fun p e s m args below meth c A ls X htab I hl => w_L_share_0 X hlt hn htab σ x1 x2 h s.heap [] ls I hl)

def rm_L_beside : Room := { frames := 9, cells := 1, slots := 6, locals := 244 }
def m_L_beside (σ : Mem) (x1 : Int32) : Option (Int32 × Mem) := (hb (m_X10_beside σ x1) (fun k u => (if k = 0 then (some ((1 : Int32), u)) else none)) (fun v u => (gd (0 : Int32) 1 (lt (ms u 59 (Int32.toNatClampNeg (0 : Int32)) v) fun σ2 => (some ((0 : Int32), σ2))))))
set_option maxHeartbeats 4000000 in
set_option maxRecDepth 100000 in
theorem w_L_beside_0 {p : Program} {l : Launch} {e : Env} {s : State} {m : MethodId} {args : Array Value} {below : List Frame} {meth : Method} {c : Code} {A : Nat → Prop} {E : CE} {q : Int32 × Mem} (X : CX p s m meth c args cL_beside 4 RL (some .int)) (hlt : l.stackTraces = false) (hn : 0 < E.2.2.2.2.2.2) (htab : c.exceptionTable.toList = tableOf [(0, 9, 12, 18)]) : ∀ (σ : Mem) (x1 : Int32) , m_L_beside σ x1 = some q → ∀ (H : Heap) (locs : List Loc) (ls : Array Slot), WI (vC E) A s H locs σ → lv_has ls 4 [(0, .ref (ca E 0)), (1, .int x1), (2, .ref (ca E 59))] → W p l e rm_L_beside s m args below meth c H locs 0 0 (MQ below (QI (vC E) A q) args s 1 6 A) (F0 m 0 ls []) := by
  have hx := X.1
  have hb := X.2.1
  intro σ x1 h H locs ls I hl
  unfold m_L_beside at h
  refine lv_aload_n hx hb dL_beside_0 rfl (lv_at hl 2 rfl) ?_
  refine lv_iconst (v := 0) hx hb dL_beside_1 (by decide) ?_
  refine lv_aload_n hx hb dL_beside_2 rfl (lv_at hl 0 rfl) ?_
  refine lv_iload_n hx hb dL_beside_3 rfl (lv_at hl 1 rfl) ?_
  obtain ⟨z1, hz1, h⟩ := hb_e h
  refine r_callH (V := (vC E)) (k := 0) (As := [.int x1]) (rest := [.int (0 : Int32), .ref (ca E 59)]) X I hl (c_X10_beside hlt hz1) yv_X10_beside tw_755 ⟨rfl, rfl, Nat.le_of_ble_eq_true rfl, Nat.le_of_ble_eq_true rfl⟩ (kC_0 E).1 rfl rfl rfl rfl (Nat.le_of_ble_eq_true rfl) ⟨Nat.le_of_ble_eq_true rfl, Nat.le_of_ble_eq_true rfl⟩ dL_beside_4 h (fun k u h H locs q9 ce I hce hcv hcl => ?_) (fun v u h H locs I => ?_)
  · by_cases ck : k = 0
    · have h := ite_t h ck
      subst ck
      refine r_catch1 (k := 0) X htab I (x := E.2.2.2.2.2.1) rfl tw_659 (by decide +kernel) (by decide) (by decide) hce hcv hcl ?_
      refine lv_astore_n (lv' := [(3, .ref q9), (0, .ref (ca E 0)), (1, .int x1), (2, .ref (ca E 59))]) hx hb dL_beside_12 rfl hl (by decide) rfl (fun ls hl => ?_)
      refine lv_iconst (v := 1) hx hb dL_beside_13 (by decide) ?_
      exact r_iretm X I (Option.some.inj h).symm ⟨Nat.le_of_ble_eq_true rfl, Nat.le_of_ble_eq_true rfl⟩ dL_beside_14
    · have h := ite_f h ck
      cases h
  · skip
    refine lv_i2l hx hb dL_beside_7 rfl ?_
    obtain ⟨hin, h⟩ := gd_some h
    refine jastC X I (kC_59 E hn) (x := v) (by rfl) hin dL_beside_8 (fun H locs I => ?_)
    obtain ⟨σ2, eσ2, h⟩ := lt_e h
    replace I := wi_nm eσ2 I
    refine lv_goto (tgt := 15) hx hb dL_beside_9 (by decide) ?_
    refine lv_iconst (v := 0) hx hb dL_beside_15 (by decide) ?_
    exact r_iretm X I (Option.some.inj h).symm ⟨Nat.le_of_ble_eq_true rfl, Nat.le_of_ble_eq_true rfl⟩ dL_beside_16
theorem c_L_beside {l : Launch} {E : CE} {σ : Mem} {x1 : Int32} (hlt : l.stackTraces = false) (hn : 0 < E.2.2.2.2.2.2) {q : Int32 × Mem} (h : m_L_beside σ x1 = some q) : CIm l (vC E) yL_beside (.codeWith yL_beside cL_beside 4 (some .int) [(0, 9, 12, 18)] :: GG) rm_L_beside 1 6 [.ref (ca E 0), .int x1, .ref (ca E 59)] σ q :=
  mk_CIm (by decide +kernel) (Nat.le_of_ble_eq_true rfl) (fun p e s m args below meth c A ls X htab I hl => w_L_beside_0 X hlt hn htab σ x1 h s.heap [] ls I hl)

def rm_L_oldest : Room := { frames := 9, cells := 1, slots := 6, locals := 247 }
def m_L_oldest (σ : Mem) (x1 : Int32) : Option (Int32 × Mem) := (hb (m_X10_oldest σ x1) (fun k u => (if k = 0 then (some ((1 : Int32), u)) else none)) (fun v u => (gd (0 : Int32) 1 (lt (ms u 59 (Int32.toNatClampNeg (0 : Int32)) v) fun σ2 => (some ((0 : Int32), σ2))))))
set_option maxHeartbeats 4000000 in
set_option maxRecDepth 100000 in
theorem w_L_oldest_0 {p : Program} {l : Launch} {e : Env} {s : State} {m : MethodId} {args : Array Value} {below : List Frame} {meth : Method} {c : Code} {A : Nat → Prop} {E : CE} {q : Int32 × Mem} (X : CX p s m meth c args cL_oldest 4 RL (some .int)) (hlt : l.stackTraces = false) (hn : 0 < E.2.2.2.2.2.2) (htab : c.exceptionTable.toList = tableOf [(0, 9, 12, 18)]) : ∀ (σ : Mem) (x1 : Int32) , m_L_oldest σ x1 = some q → ∀ (H : Heap) (locs : List Loc) (ls : Array Slot), WI (vC E) A s H locs σ → lv_has ls 4 [(0, .ref (ca E 0)), (1, .int x1), (2, .ref (ca E 59))] → W p l e rm_L_oldest s m args below meth c H locs 0 0 (MQ below (QI (vC E) A q) args s 1 6 A) (F0 m 0 ls []) := by
  have hx := X.1
  have hb := X.2.1
  intro σ x1 h H locs ls I hl
  unfold m_L_oldest at h
  refine lv_aload_n hx hb dL_oldest_0 rfl (lv_at hl 2 rfl) ?_
  refine lv_iconst (v := 0) hx hb dL_oldest_1 (by decide) ?_
  refine lv_aload_n hx hb dL_oldest_2 rfl (lv_at hl 0 rfl) ?_
  refine lv_iload_n hx hb dL_oldest_3 rfl (lv_at hl 1 rfl) ?_
  obtain ⟨z1, hz1, h⟩ := hb_e h
  refine r_callH (V := (vC E)) (k := 0) (As := [.int x1]) (rest := [.int (0 : Int32), .ref (ca E 59)]) X I hl (c_X10_oldest hlt hz1) yv_X10_oldest tw_760 ⟨rfl, rfl, Nat.le_of_ble_eq_true rfl, Nat.le_of_ble_eq_true rfl⟩ (kC_0 E).1 rfl rfl rfl rfl (Nat.le_of_ble_eq_true rfl) ⟨Nat.le_of_ble_eq_true rfl, Nat.le_of_ble_eq_true rfl⟩ dL_oldest_4 h (fun k u h H locs q9 ce I hce hcv hcl => ?_) (fun v u h H locs I => ?_)
  · by_cases ck : k = 0
    · have h := ite_t h ck
      subst ck
      refine r_catch1 (k := 0) X htab I (x := E.2.2.2.2.2.1) rfl tw_659 (by decide +kernel) (by decide) (by decide) hce hcv hcl ?_
      refine lv_astore_n (lv' := [(3, .ref q9), (0, .ref (ca E 0)), (1, .int x1), (2, .ref (ca E 59))]) hx hb dL_oldest_12 rfl hl (by decide) rfl (fun ls hl => ?_)
      refine lv_iconst (v := 1) hx hb dL_oldest_13 (by decide) ?_
      exact r_iretm X I (Option.some.inj h).symm ⟨Nat.le_of_ble_eq_true rfl, Nat.le_of_ble_eq_true rfl⟩ dL_oldest_14
    · have h := ite_f h ck
      cases h
  · skip
    refine lv_i2l hx hb dL_oldest_7 rfl ?_
    obtain ⟨hin, h⟩ := gd_some h
    refine jastC X I (kC_59 E hn) (x := v) (by rfl) hin dL_oldest_8 (fun H locs I => ?_)
    obtain ⟨σ2, eσ2, h⟩ := lt_e h
    replace I := wi_nm eσ2 I
    refine lv_goto (tgt := 15) hx hb dL_oldest_9 (by decide) ?_
    refine lv_iconst (v := 0) hx hb dL_oldest_15 (by decide) ?_
    exact r_iretm X I (Option.some.inj h).symm ⟨Nat.le_of_ble_eq_true rfl, Nat.le_of_ble_eq_true rfl⟩ dL_oldest_16
theorem c_L_oldest {l : Launch} {E : CE} {σ : Mem} {x1 : Int32} (hlt : l.stackTraces = false) (hn : 0 < E.2.2.2.2.2.2) {q : Int32 × Mem} (h : m_L_oldest σ x1 = some q) : CIm l (vC E) yL_oldest (.codeWith yL_oldest cL_oldest 4 (some .int) [(0, 9, 12, 18)] :: GG) rm_L_oldest 1 6 [.ref (ca E 0), .int x1, .ref (ca E 59)] σ q :=
  mk_CIm (by decide +kernel) (Nat.le_of_ble_eq_true rfl) (fun p e s m args below meth c A ls X htab I hl => w_L_oldest_0 X hlt hn htab σ x1 h s.heap [] ls I hl)

def rm_L_envy : Room := { frames := 9, cells := 1, slots := 6, locals := 245 }
def m_L_envy (σ : Mem) (x1 : Int32) : Option (Int32 × Mem) := (hb (m_X10_envy σ x1) (fun k u => (if k = 0 then (some ((1 : Int32), u)) else none)) (fun v u => (gd (0 : Int32) 1 (lt (ms u 59 (Int32.toNatClampNeg (0 : Int32)) v) fun σ2 => (some ((0 : Int32), σ2))))))
set_option maxHeartbeats 4000000 in
set_option maxRecDepth 100000 in
theorem w_L_envy_0 {p : Program} {l : Launch} {e : Env} {s : State} {m : MethodId} {args : Array Value} {below : List Frame} {meth : Method} {c : Code} {A : Nat → Prop} {E : CE} {q : Int32 × Mem} (X : CX p s m meth c args cL_envy 4 RL (some .int)) (hlt : l.stackTraces = false) (hn : 0 < E.2.2.2.2.2.2) (htab : c.exceptionTable.toList = tableOf [(0, 9, 12, 18)]) : ∀ (σ : Mem) (x1 : Int32) , m_L_envy σ x1 = some q → ∀ (H : Heap) (locs : List Loc) (ls : Array Slot), WI (vC E) A s H locs σ → lv_has ls 4 [(0, .ref (ca E 0)), (1, .int x1), (2, .ref (ca E 59))] → W p l e rm_L_envy s m args below meth c H locs 0 0 (MQ below (QI (vC E) A q) args s 1 6 A) (F0 m 0 ls []) := by
  have hx := X.1
  have hb := X.2.1
  intro σ x1 h H locs ls I hl
  unfold m_L_envy at h
  refine lv_aload_n hx hb dL_envy_0 rfl (lv_at hl 2 rfl) ?_
  refine lv_iconst (v := 0) hx hb dL_envy_1 (by decide) ?_
  refine lv_aload_n hx hb dL_envy_2 rfl (lv_at hl 0 rfl) ?_
  refine lv_iload_n hx hb dL_envy_3 rfl (lv_at hl 1 rfl) ?_
  obtain ⟨z1, hz1, h⟩ := hb_e h
  refine r_callH (V := (vC E)) (k := 0) (As := [.int x1]) (rest := [.int (0 : Int32), .ref (ca E 59)]) X I hl (c_X10_envy hlt hz1) yv_X10_envy tw_765 ⟨rfl, rfl, Nat.le_of_ble_eq_true rfl, Nat.le_of_ble_eq_true rfl⟩ (kC_0 E).1 rfl rfl rfl rfl (Nat.le_of_ble_eq_true rfl) ⟨Nat.le_of_ble_eq_true rfl, Nat.le_of_ble_eq_true rfl⟩ dL_envy_4 h (fun k u h H locs q9 ce I hce hcv hcl => ?_) (fun v u h H locs I => ?_)
  · by_cases ck : k = 0
    · have h := ite_t h ck
      subst ck
      refine r_catch1 (k := 0) X htab I (x := E.2.2.2.2.2.1) rfl tw_659 (by decide +kernel) (by decide) (by decide) hce hcv hcl ?_
      refine lv_astore_n (lv' := [(3, .ref q9), (0, .ref (ca E 0)), (1, .int x1), (2, .ref (ca E 59))]) hx hb dL_envy_12 rfl hl (by decide) rfl (fun ls hl => ?_)
      refine lv_iconst (v := 1) hx hb dL_envy_13 (by decide) ?_
      exact r_iretm X I (Option.some.inj h).symm ⟨Nat.le_of_ble_eq_true rfl, Nat.le_of_ble_eq_true rfl⟩ dL_envy_14
    · have h := ite_f h ck
      cases h
  · skip
    refine lv_i2l hx hb dL_envy_7 rfl ?_
    obtain ⟨hin, h⟩ := gd_some h
    refine jastC X I (kC_59 E hn) (x := v) (by rfl) hin dL_envy_8 (fun H locs I => ?_)
    obtain ⟨σ2, eσ2, h⟩ := lt_e h
    replace I := wi_nm eσ2 I
    refine lv_goto (tgt := 15) hx hb dL_envy_9 (by decide) ?_
    refine lv_iconst (v := 0) hx hb dL_envy_15 (by decide) ?_
    exact r_iretm X I (Option.some.inj h).symm ⟨Nat.le_of_ble_eq_true rfl, Nat.le_of_ble_eq_true rfl⟩ dL_envy_16
theorem c_L_envy {l : Launch} {E : CE} {σ : Mem} {x1 : Int32} (hlt : l.stackTraces = false) (hn : 0 < E.2.2.2.2.2.2) {q : Int32 × Mem} (h : m_L_envy σ x1 = some q) : CIm l (vC E) yL_envy (.codeWith yL_envy cL_envy 4 (some .int) [(0, 9, 12, 18)] :: GG) rm_L_envy 1 6 [.ref (ca E 0), .int x1, .ref (ca E 59)] σ q :=
  mk_CIm (by decide +kernel) (Nat.le_of_ble_eq_true rfl) (fun p e s m args below meth c A ls X htab I hl => w_L_envy_0 X hlt hn htab σ x1 h s.heap [] ls I hl)

def rm_L_see : Room := { frames := 9, cells := 2, slots := 12, locals := 245 }
def m_L_see (σ : Mem) (x1 : Int32) (x2 : Int32) (x3 : Int32) (x4 : Int32) : Option (Int32 × Mem) := (hb (m_X10_see σ x1 x2 x3 x4) (fun k u => (if k = 0 then (some ((1 : Int32), u)) else none)) (fun v u => (gd (0 : Int32) 1 (lt (ms u 59 (Int32.toNatClampNeg (0 : Int32)) v) fun σ2 => (some ((0 : Int32), σ2))))))
set_option maxHeartbeats 4000000 in
set_option maxRecDepth 100000 in
theorem w_L_see_0 {p : Program} {l : Launch} {e : Env} {s : State} {m : MethodId} {args : Array Value} {below : List Frame} {meth : Method} {c : Code} {A : Nat → Prop} {E : CE} {q : Int32 × Mem} (X : CX p s m meth c args cL_see 7 RL (some .int)) (hlt : l.stackTraces = false) (hn : 0 < E.2.2.2.2.2.2) (htab : c.exceptionTable.toList = tableOf [(0, 14, 17, 18)]) : ∀ (σ : Mem) (x1 : Int32) (x2 : Int32) (x3 : Int32) (x4 : Int32) , m_L_see σ x1 x2 x3 x4 = some q → ∀ (H : Heap) (locs : List Loc) (ls : Array Slot), WI (vC E) A s H locs σ → lv_has ls 7 [(0, .ref (ca E 0)), (1, .int x1), (2, .int x2), (3, .int x3), (4, .int x4), (5, .ref (ca E 59))] → W p l e rm_L_see s m args below meth c H locs 0 0 (MQ below (QI (vC E) A q) args s 2 12 A) (F0 m 0 ls []) := by
  have hx := X.1
  have hb := X.2.1
  intro σ x1 x2 x3 x4 h H locs ls I hl
  unfold m_L_see at h
  refine lv_aload hx hb dL_see_0 (lv_at hl 5 rfl) ?_
  refine lv_iconst (v := 0) hx hb dL_see_2 (by decide) ?_
  refine lv_aload_n hx hb dL_see_3 rfl (lv_at hl 0 rfl) ?_
  refine lv_iload_n hx hb dL_see_4 rfl (lv_at hl 1 rfl) ?_
  refine lv_iload_n hx hb dL_see_5 rfl (lv_at hl 2 rfl) ?_
  refine lv_iload_n hx hb dL_see_6 rfl (lv_at hl 3 rfl) ?_
  refine lv_iload hx hb dL_see_7 (lv_at hl 4 rfl) ?_
  obtain ⟨z1, hz1, h⟩ := hb_e h
  refine r_callH (V := (vC E)) (k := 0) (As := [.int x1, .int x2, .int x3, .int x4]) (rest := [.int (0 : Int32), .ref (ca E 59)]) X I hl (c_X10_see hlt hz1) yv_X10_see tw_770 ⟨rfl, rfl, Nat.le_of_ble_eq_true rfl, Nat.le_of_ble_eq_true rfl⟩ (kC_0 E).1 rfl rfl rfl rfl (Nat.le_of_ble_eq_true rfl) ⟨Nat.le_of_ble_eq_true rfl, Nat.le_of_ble_eq_true rfl⟩ dL_see_9 h (fun k u h H locs q9 ce I hce hcv hcl => ?_) (fun v u h H locs I => ?_)
  · by_cases ck : k = 0
    · have h := ite_t h ck
      subst ck
      refine r_catch1 (k := 0) X htab I (x := E.2.2.2.2.2.1) rfl tw_659 (by decide +kernel) (by decide) (by decide) hce hcv hcl ?_
      refine lv_astore (lv' := [(6, .ref q9), (0, .ref (ca E 0)), (1, .int x1), (2, .int x2), (3, .int x3), (4, .int x4), (5, .ref (ca E 59))]) hx hb dL_see_17 hl (by decide) rfl (fun ls hl => ?_)
      refine lv_iconst (v := 1) hx hb dL_see_19 (by decide) ?_
      exact r_iretm X I (Option.some.inj h).symm ⟨Nat.le_of_ble_eq_true rfl, Nat.le_of_ble_eq_true rfl⟩ dL_see_20
    · have h := ite_f h ck
      cases h
  · skip
    refine lv_i2l hx hb dL_see_12 rfl ?_
    obtain ⟨hin, h⟩ := gd_some h
    refine jastC X I (kC_59 E hn) (x := v) (by rfl) hin dL_see_13 (fun H locs I => ?_)
    obtain ⟨σ2, eσ2, h⟩ := lt_e h
    replace I := wi_nm eσ2 I
    refine lv_goto (tgt := 21) hx hb dL_see_14 (by decide) ?_
    refine lv_iconst (v := 0) hx hb dL_see_21 (by decide) ?_
    exact r_iretm X I (Option.some.inj h).symm ⟨Nat.le_of_ble_eq_true rfl, Nat.le_of_ble_eq_true rfl⟩ dL_see_22
theorem c_L_see {l : Launch} {E : CE} {σ : Mem} {x1 : Int32} {x2 : Int32} {x3 : Int32} {x4 : Int32} (hlt : l.stackTraces = false) (hn : 0 < E.2.2.2.2.2.2) {q : Int32 × Mem} (h : m_L_see σ x1 x2 x3 x4 = some q) : CIm l (vC E) yL_see (.codeWith yL_see cL_see 7 (some .int) [(0, 14, 17, 18)] :: GG) rm_L_see 2 12 [.ref (ca E 0), .int x1, .int x2, .int x3, .int x4, .ref (ca E 59)] σ q :=
  mk_CIm (by decide +kernel) (Nat.le_of_ble_eq_true rfl) (fun p e s m args below meth c A ls X htab I hl => w_L_see_0 X hlt hn htab σ x1 x2 x3 x4 h s.heap [] ls I hl)

def rm_L_pockets : Room := { frames := 9, cells := 1, slots := 6, locals := 247 }
def m_L_pockets (σ : Mem) (x1 : Int32) : Option (Int32 × Mem) := (hb (m_X10_pockets σ x1) (fun k u => (if k = 0 then (some ((1 : Int32), u)) else none)) (fun v u => (gd (0 : Int32) 1 (lt (ms u 59 (Int32.toNatClampNeg (0 : Int32)) v) fun σ2 => (some ((0 : Int32), σ2))))))
set_option maxHeartbeats 4000000 in
set_option maxRecDepth 100000 in
theorem w_L_pockets_0 {p : Program} {l : Launch} {e : Env} {s : State} {m : MethodId} {args : Array Value} {below : List Frame} {meth : Method} {c : Code} {A : Nat → Prop} {E : CE} {q : Int32 × Mem} (X : CX p s m meth c args cL_pockets 4 RL (some .int)) (hlt : l.stackTraces = false) (hn : 0 < E.2.2.2.2.2.2) (htab : c.exceptionTable.toList = tableOf [(0, 9, 12, 18)]) : ∀ (σ : Mem) (x1 : Int32) , m_L_pockets σ x1 = some q → ∀ (H : Heap) (locs : List Loc) (ls : Array Slot), WI (vC E) A s H locs σ → lv_has ls 4 [(0, .ref (ca E 0)), (1, .int x1), (2, .ref (ca E 59))] → W p l e rm_L_pockets s m args below meth c H locs 0 0 (MQ below (QI (vC E) A q) args s 1 6 A) (F0 m 0 ls []) := by
  have hx := X.1
  have hb := X.2.1
  intro σ x1 h H locs ls I hl
  unfold m_L_pockets at h
  refine lv_aload_n hx hb dL_pockets_0 rfl (lv_at hl 2 rfl) ?_
  refine lv_iconst (v := 0) hx hb dL_pockets_1 (by decide) ?_
  refine lv_aload_n hx hb dL_pockets_2 rfl (lv_at hl 0 rfl) ?_
  refine lv_iload_n hx hb dL_pockets_3 rfl (lv_at hl 1 rfl) ?_
  obtain ⟨z1, hz1, h⟩ := hb_e h
  refine r_callH (V := (vC E)) (k := 0) (As := [.int x1]) (rest := [.int (0 : Int32), .ref (ca E 59)]) X I hl (c_X10_pockets hlt hz1) yv_X10_pockets tw_775 ⟨rfl, rfl, Nat.le_of_ble_eq_true rfl, Nat.le_of_ble_eq_true rfl⟩ (kC_0 E).1 rfl rfl rfl rfl (Nat.le_of_ble_eq_true rfl) ⟨Nat.le_of_ble_eq_true rfl, Nat.le_of_ble_eq_true rfl⟩ dL_pockets_4 h (fun k u h H locs q9 ce I hce hcv hcl => ?_) (fun v u h H locs I => ?_)
  · by_cases ck : k = 0
    · have h := ite_t h ck
      subst ck
      refine r_catch1 (k := 0) X htab I (x := E.2.2.2.2.2.1) rfl tw_659 (by decide +kernel) (by decide) (by decide) hce hcv hcl ?_
      refine lv_astore_n (lv' := [(3, .ref q9), (0, .ref (ca E 0)), (1, .int x1), (2, .ref (ca E 59))]) hx hb dL_pockets_12 rfl hl (by decide) rfl (fun ls hl => ?_)
      refine lv_iconst (v := 1) hx hb dL_pockets_13 (by decide) ?_
      exact r_iretm X I (Option.some.inj h).symm ⟨Nat.le_of_ble_eq_true rfl, Nat.le_of_ble_eq_true rfl⟩ dL_pockets_14
    · have h := ite_f h ck
      cases h
  · skip
    refine lv_i2l hx hb dL_pockets_7 rfl ?_
    obtain ⟨hin, h⟩ := gd_some h
    refine jastC X I (kC_59 E hn) (x := v) (by rfl) hin dL_pockets_8 (fun H locs I => ?_)
    obtain ⟨σ2, eσ2, h⟩ := lt_e h
    replace I := wi_nm eσ2 I
    refine lv_goto (tgt := 15) hx hb dL_pockets_9 (by decide) ?_
    refine lv_iconst (v := 0) hx hb dL_pockets_15 (by decide) ?_
    exact r_iretm X I (Option.some.inj h).symm ⟨Nat.le_of_ble_eq_true rfl, Nat.le_of_ble_eq_true rfl⟩ dL_pockets_16
theorem c_L_pockets {l : Launch} {E : CE} {σ : Mem} {x1 : Int32} (hlt : l.stackTraces = false) (hn : 0 < E.2.2.2.2.2.2) {q : Int32 × Mem} (h : m_L_pockets σ x1 = some q) : CIm l (vC E) yL_pockets (.codeWith yL_pockets cL_pockets 4 (some .int) [(0, 9, 12, 18)] :: GG) rm_L_pockets 1 6 [.ref (ca E 0), .int x1, .ref (ca E 59)] σ q :=
  mk_CIm (by decide +kernel) (Nat.le_of_ble_eq_true rfl) (fun p e s m args below meth c A ls X htab I hl => w_L_pockets_0 X hlt hn htab σ x1 h s.heap [] ls I hl)

def rm_L_look : Room := { frames := 9, cells := 1, slots := 6, locals := 254 }
def m_L_look (σ : Mem) (x1 : Int32) : Option (Int32 × Mem) := (hb (m_X10_look σ x1) (fun k u => (if k = 0 then (some ((1 : Int32), u)) else none)) (fun v u => (gd (0 : Int32) 1 (lt (ms u 59 (Int32.toNatClampNeg (0 : Int32)) v) fun σ2 => (some ((0 : Int32), σ2))))))
set_option maxHeartbeats 4000000 in
set_option maxRecDepth 100000 in
theorem w_L_look_0 {p : Program} {l : Launch} {e : Env} {s : State} {m : MethodId} {args : Array Value} {below : List Frame} {meth : Method} {c : Code} {A : Nat → Prop} {E : CE} {q : Int32 × Mem} (X : CX p s m meth c args cL_look 4 RL (some .int)) (hlt : l.stackTraces = false) (hn : 0 < E.2.2.2.2.2.2) (htab : c.exceptionTable.toList = tableOf [(0, 9, 12, 18)]) : ∀ (σ : Mem) (x1 : Int32) , m_L_look σ x1 = some q → ∀ (H : Heap) (locs : List Loc) (ls : Array Slot), WI (vC E) A s H locs σ → lv_has ls 4 [(0, .ref (ca E 0)), (1, .int x1), (2, .ref (ca E 59))] → W p l e rm_L_look s m args below meth c H locs 0 0 (MQ below (QI (vC E) A q) args s 1 6 A) (F0 m 0 ls []) := by
  have hx := X.1
  have hb := X.2.1
  intro σ x1 h H locs ls I hl
  unfold m_L_look at h
  refine lv_aload_n hx hb dL_look_0 rfl (lv_at hl 2 rfl) ?_
  refine lv_iconst (v := 0) hx hb dL_look_1 (by decide) ?_
  refine lv_aload_n hx hb dL_look_2 rfl (lv_at hl 0 rfl) ?_
  refine lv_iload_n hx hb dL_look_3 rfl (lv_at hl 1 rfl) ?_
  obtain ⟨z1, hz1, h⟩ := hb_e h
  refine r_callH (V := (vC E)) (k := 0) (As := [.int x1]) (rest := [.int (0 : Int32), .ref (ca E 59)]) X I hl (c_X10_look hlt hz1) yv_X10_look tw_780 ⟨rfl, rfl, Nat.le_of_ble_eq_true rfl, Nat.le_of_ble_eq_true rfl⟩ (kC_0 E).1 rfl rfl rfl rfl (Nat.le_of_ble_eq_true rfl) ⟨Nat.le_of_ble_eq_true rfl, Nat.le_of_ble_eq_true rfl⟩ dL_look_4 h (fun k u h H locs q9 ce I hce hcv hcl => ?_) (fun v u h H locs I => ?_)
  · by_cases ck : k = 0
    · have h := ite_t h ck
      subst ck
      refine r_catch1 (k := 0) X htab I (x := E.2.2.2.2.2.1) rfl tw_659 (by decide +kernel) (by decide) (by decide) hce hcv hcl ?_
      refine lv_astore_n (lv' := [(3, .ref q9), (0, .ref (ca E 0)), (1, .int x1), (2, .ref (ca E 59))]) hx hb dL_look_12 rfl hl (by decide) rfl (fun ls hl => ?_)
      refine lv_iconst (v := 1) hx hb dL_look_13 (by decide) ?_
      exact r_iretm X I (Option.some.inj h).symm ⟨Nat.le_of_ble_eq_true rfl, Nat.le_of_ble_eq_true rfl⟩ dL_look_14
    · have h := ite_f h ck
      cases h
  · skip
    refine lv_i2l hx hb dL_look_7 rfl ?_
    obtain ⟨hin, h⟩ := gd_some h
    refine jastC X I (kC_59 E hn) (x := v) (by rfl) hin dL_look_8 (fun H locs I => ?_)
    obtain ⟨σ2, eσ2, h⟩ := lt_e h
    replace I := wi_nm eσ2 I
    refine lv_goto (tgt := 15) hx hb dL_look_9 (by decide) ?_
    refine lv_iconst (v := 0) hx hb dL_look_15 (by decide) ?_
    exact r_iretm X I (Option.some.inj h).symm ⟨Nat.le_of_ble_eq_true rfl, Nat.le_of_ble_eq_true rfl⟩ dL_look_16
theorem c_L_look {l : Launch} {E : CE} {σ : Mem} {x1 : Int32} (hlt : l.stackTraces = false) (hn : 0 < E.2.2.2.2.2.2) {q : Int32 × Mem} (h : m_L_look σ x1 = some q) : CIm l (vC E) yL_look (.codeWith yL_look cL_look 4 (some .int) [(0, 9, 12, 18)] :: GG) rm_L_look 1 6 [.ref (ca E 0), .int x1, .ref (ca E 59)] σ q :=
  mk_CIm (by decide +kernel) (Nat.le_of_ble_eq_true rfl) (fun p e s m args below meth c A ls X htab I hl => w_L_look_0 X hlt hn htab σ x1 h s.heap [] ls I hl)

def rm_L_game : Room := { frames := 9, cells := 4, slots := 24, locals := 249 }
def m_L_game (σ : Mem) (x1 : Int32) (x2 : Int32) (x3 : Int32) : Option (Int32 × Mem) := (hb (m_X10_game σ x1 x2 x3) (fun k u => (if k = 0 then (some ((1 : Int32), u)) else (some ((2 : Int32), u)))) (fun v u => (gd (0 : Int32) 1 (lt (ms u 59 (Int32.toNatClampNeg (0 : Int32)) v) fun σ2 => (some ((0 : Int32), σ2))))))
set_option maxHeartbeats 4000000 in
set_option maxRecDepth 100000 in
theorem w_L_game_0 {p : Program} {l : Launch} {e : Env} {s : State} {m : MethodId} {args : Array Value} {below : List Frame} {meth : Method} {c : Code} {A : Nat → Prop} {E : CE} {q : Int32 × Mem} (X : CX p s m meth c args cL_game 6 RL (some .int)) (hlt : l.stackTraces = false) (hn : 0 < E.2.2.2.2.2.2) (htab : c.exceptionTable.toList = tableOf [(0, 12, 15, 18), (0, 12, 19, 13)]) : ∀ (σ : Mem) (x1 : Int32) (x2 : Int32) (x3 : Int32) , m_L_game σ x1 x2 x3 = some q → ∀ (H : Heap) (locs : List Loc) (ls : Array Slot), WI (vC E) A s H locs σ → lv_has ls 6 [(0, .ref (ca E 0)), (1, .int x1), (2, .int x2), (3, .int x3), (4, .ref (ca E 59))] → W p l e rm_L_game s m args below meth c H locs 0 0 (MQ below (QI (vC E) A q) args s 4 24 A) (F0 m 0 ls []) := by
  have hx := X.1
  have hb := X.2.1
  intro σ x1 x2 x3 h H locs ls I hl
  unfold m_L_game at h
  refine lv_aload hx hb dL_game_0 (lv_at hl 4 rfl) ?_
  refine lv_iconst (v := 0) hx hb dL_game_2 (by decide) ?_
  refine lv_aload_n hx hb dL_game_3 rfl (lv_at hl 0 rfl) ?_
  refine lv_iload_n hx hb dL_game_4 rfl (lv_at hl 1 rfl) ?_
  refine lv_iload_n hx hb dL_game_5 rfl (lv_at hl 2 rfl) ?_
  refine lv_iload_n hx hb dL_game_6 rfl (lv_at hl 3 rfl) ?_
  obtain ⟨z1, hz1, h⟩ := hb_e h
  refine r_callH (V := (vC E)) (k := 0) (As := [.int x1, .int x2, .int x3]) (rest := [.int (0 : Int32), .ref (ca E 59)]) X I hl (c_X10_game hlt hz1) yv_X10_game tw_785 ⟨rfl, rfl, Nat.le_of_ble_eq_true rfl, Nat.le_of_ble_eq_true rfl⟩ (kC_0 E).1 rfl rfl rfl rfl (Nat.le_of_ble_eq_true rfl) ⟨Nat.le_of_ble_eq_true rfl, Nat.le_of_ble_eq_true rfl⟩ dL_game_7 h (fun k u h H locs q9 ce I hce hcv hcl => ?_) (fun v u h H locs I => ?_)
  · by_cases ck : k = 0
    · have h := ite_t h ck
      subst ck
      refine r_catch1 (k := 0) X htab I (x := E.2.2.2.2.2.1) rfl tw_659 (by decide +kernel) (by decide) (by decide) hce hcv hcl ?_
      refine lv_astore (lv' := [(5, .ref q9), (0, .ref (ca E 0)), (1, .int x1), (2, .int x2), (3, .int x3), (4, .ref (ca E 59))]) hx hb dL_game_15 hl (by decide) rfl (fun ls hl => ?_)
      refine lv_iconst (v := 1) hx hb dL_game_17 (by decide) ?_
      exact r_iretm X I (Option.some.inj h).symm ⟨Nat.le_of_ble_eq_true rfl, Nat.le_of_ble_eq_true rfl⟩ dL_game_18
    · have h := ite_f h ck
      have ek : exNm k = exNm 1 := by unfold exNm; rw [if_neg ck]; rfl
      rw [ek] at hcl
      refine r_catch2 X htab I (x := E.2.2.2.2.2.1) rfl tw_659 (by decide) tw_653 (by decide) (by decide) hce hcv hcl ?_
      refine lv_astore (lv' := [(5, .ref q9), (0, .ref (ca E 0)), (1, .int x1), (2, .int x2), (3, .int x3), (4, .ref (ca E 59))]) hx hb dL_game_19 hl (by decide) rfl (fun ls hl => ?_)
      refine lv_iconst (v := 2) hx hb dL_game_21 (by decide) ?_
      exact r_iretm X I (Option.some.inj h).symm ⟨Nat.le_of_ble_eq_true rfl, Nat.le_of_ble_eq_true rfl⟩ dL_game_22
  · skip
    refine lv_i2l hx hb dL_game_10 rfl ?_
    obtain ⟨hin, h⟩ := gd_some h
    refine jastC X I (kC_59 E hn) (x := v) (by rfl) hin dL_game_11 (fun H locs I => ?_)
    obtain ⟨σ2, eσ2, h⟩ := lt_e h
    replace I := wi_nm eσ2 I
    refine lv_goto (tgt := 23) hx hb dL_game_12 (by decide) ?_
    refine lv_iconst (v := 0) hx hb dL_game_23 (by decide) ?_
    exact r_iretm X I (Option.some.inj h).symm ⟨Nat.le_of_ble_eq_true rfl, Nat.le_of_ble_eq_true rfl⟩ dL_game_24
theorem c_L_game {l : Launch} {E : CE} {σ : Mem} {x1 : Int32} {x2 : Int32} {x3 : Int32} (hlt : l.stackTraces = false) (hn : 0 < E.2.2.2.2.2.2) {q : Int32 × Mem} (h : m_L_game σ x1 x2 x3 = some q) : CIm l (vC E) yL_game (.codeWith yL_game cL_game 6 (some .int) [(0, 12, 15, 18), (0, 12, 19, 13)] :: GG) rm_L_game 4 24 [.ref (ca E 0), .int x1, .int x2, .int x3, .ref (ca E 59)] σ q :=
  mk_CIm (by decide +kernel) (Nat.le_of_ble_eq_true rfl) (fun p e s m args below meth c A ls X htab I hl => w_L_game_0 X hlt hn htab σ x1 x2 x3 h s.heap [] ls I hl)

def rm_L_years : Room := { frames := 9, cells := 2, slots := 12, locals := 246 }
def m_L_years (σ : Mem) (x1 : Int32) (x2 : Int32) (x3 : Int32) : Option (Int32 × Mem) := (hb (m_X10_years σ x1 x2 x3) (fun k u => (if k = 0 then (some ((1 : Int32), u)) else (some ((2 : Int32), u)))) (fun v u => (gd (0 : Int32) 1 (lt (ms u 59 (Int32.toNatClampNeg (0 : Int32)) v) fun σ2 => (some ((0 : Int32), σ2))))))
set_option maxHeartbeats 4000000 in
set_option maxRecDepth 100000 in
theorem w_L_years_0 {p : Program} {l : Launch} {e : Env} {s : State} {m : MethodId} {args : Array Value} {below : List Frame} {meth : Method} {c : Code} {A : Nat → Prop} {E : CE} {q : Int32 × Mem} (X : CX p s m meth c args cL_years 6 RL (some .int)) (hlt : l.stackTraces = false) (hn : 0 < E.2.2.2.2.2.2) (htab : c.exceptionTable.toList = tableOf [(0, 12, 15, 18), (0, 12, 19, 13)]) : ∀ (σ : Mem) (x1 : Int32) (x2 : Int32) (x3 : Int32) , m_L_years σ x1 x2 x3 = some q → ∀ (H : Heap) (locs : List Loc) (ls : Array Slot), WI (vC E) A s H locs σ → lv_has ls 6 [(0, .ref (ca E 0)), (1, .int x1), (2, .int x2), (3, .int x3), (4, .ref (ca E 59))] → W p l e rm_L_years s m args below meth c H locs 0 0 (MQ below (QI (vC E) A q) args s 2 12 A) (F0 m 0 ls []) := by
  have hx := X.1
  have hb := X.2.1
  intro σ x1 x2 x3 h H locs ls I hl
  unfold m_L_years at h
  refine lv_aload hx hb dL_years_0 (lv_at hl 4 rfl) ?_
  refine lv_iconst (v := 0) hx hb dL_years_2 (by decide) ?_
  refine lv_aload_n hx hb dL_years_3 rfl (lv_at hl 0 rfl) ?_
  refine lv_iload_n hx hb dL_years_4 rfl (lv_at hl 1 rfl) ?_
  refine lv_iload_n hx hb dL_years_5 rfl (lv_at hl 2 rfl) ?_
  refine lv_iload_n hx hb dL_years_6 rfl (lv_at hl 3 rfl) ?_
  obtain ⟨z1, hz1, h⟩ := hb_e h
  refine r_callH (V := (vC E)) (k := 0) (As := [.int x1, .int x2, .int x3]) (rest := [.int (0 : Int32), .ref (ca E 59)]) X I hl (c_X10_years hlt hz1) yv_X10_years tw_790 ⟨rfl, rfl, Nat.le_of_ble_eq_true rfl, Nat.le_of_ble_eq_true rfl⟩ (kC_0 E).1 rfl rfl rfl rfl (Nat.le_of_ble_eq_true rfl) ⟨Nat.le_of_ble_eq_true rfl, Nat.le_of_ble_eq_true rfl⟩ dL_years_7 h (fun k u h H locs q9 ce I hce hcv hcl => ?_) (fun v u h H locs I => ?_)
  · by_cases ck : k = 0
    · have h := ite_t h ck
      subst ck
      refine r_catch1 (k := 0) X htab I (x := E.2.2.2.2.2.1) rfl tw_659 (by decide +kernel) (by decide) (by decide) hce hcv hcl ?_
      refine lv_astore (lv' := [(5, .ref q9), (0, .ref (ca E 0)), (1, .int x1), (2, .int x2), (3, .int x3), (4, .ref (ca E 59))]) hx hb dL_years_15 hl (by decide) rfl (fun ls hl => ?_)
      refine lv_iconst (v := 1) hx hb dL_years_17 (by decide) ?_
      exact r_iretm X I (Option.some.inj h).symm ⟨Nat.le_of_ble_eq_true rfl, Nat.le_of_ble_eq_true rfl⟩ dL_years_18
    · have h := ite_f h ck
      have ek : exNm k = exNm 1 := by unfold exNm; rw [if_neg ck]; rfl
      rw [ek] at hcl
      refine r_catch2 X htab I (x := E.2.2.2.2.2.1) rfl tw_659 (by decide) tw_653 (by decide) (by decide) hce hcv hcl ?_
      refine lv_astore (lv' := [(5, .ref q9), (0, .ref (ca E 0)), (1, .int x1), (2, .int x2), (3, .int x3), (4, .ref (ca E 59))]) hx hb dL_years_19 hl (by decide) rfl (fun ls hl => ?_)
      refine lv_iconst (v := 2) hx hb dL_years_21 (by decide) ?_
      exact r_iretm X I (Option.some.inj h).symm ⟨Nat.le_of_ble_eq_true rfl, Nat.le_of_ble_eq_true rfl⟩ dL_years_22
  · skip
    refine lv_i2l hx hb dL_years_10 rfl ?_
    obtain ⟨hin, h⟩ := gd_some h
    refine jastC X I (kC_59 E hn) (x := v) (by rfl) hin dL_years_11 (fun H locs I => ?_)
    obtain ⟨σ2, eσ2, h⟩ := lt_e h
    replace I := wi_nm eσ2 I
    refine lv_goto (tgt := 23) hx hb dL_years_12 (by decide) ?_
    refine lv_iconst (v := 0) hx hb dL_years_23 (by decide) ?_
    exact r_iretm X I (Option.some.inj h).symm ⟨Nat.le_of_ble_eq_true rfl, Nat.le_of_ble_eq_true rfl⟩ dL_years_24
theorem c_L_years {l : Launch} {E : CE} {σ : Mem} {x1 : Int32} {x2 : Int32} {x3 : Int32} (hlt : l.stackTraces = false) (hn : 0 < E.2.2.2.2.2.2) {q : Int32 × Mem} (h : m_L_years σ x1 x2 x3 = some q) : CIm l (vC E) yL_years (.codeWith yL_years cL_years 6 (some .int) [(0, 12, 15, 18), (0, 12, 19, 13)] :: GG) rm_L_years 2 12 [.ref (ca E 0), .int x1, .int x2, .int x3, .ref (ca E 59)] σ q :=
  mk_CIm (by decide +kernel) (Nat.le_of_ble_eq_true rfl) (fun p e s m args below meth c A ls X htab I hl => w_L_years_0 X hlt hn htab σ x1 x2 x3 h s.heap [] ls I hl)

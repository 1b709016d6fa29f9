def rm_X1_begin : Room := { frames := 2, cells := 0, slots := 0, locals := 84 }
def m_X1_begin (k r1 : Nat) (σ : Mem) : Option (Mem) := (gcp (0 : Int32) (0 : Int32) (64 : Int32) 64 64 (lt (mcp σ r1 (k + 1) (0 : Int32) (0 : Int32) (64 : Int32)) fun σ1 => ((m_X0_clear (k + 2) σ1).bind fun q2 => (lt (ms q2 (k + 4) 1 (0 : Int32)) fun σ3 => (some σ3)))))
set_option maxHeartbeats 4000000 in
set_option maxRecDepth 100000 in
theorem w_X1_begin_0 {p : Program} {l : Launch} {e : Env} {s : State} {m : MethodId} {args : Array Value} {below : List Frame} {meth : Method} {c : Code} {A : Nat → Prop} {E : CE} {q : Mem} (X : CX p s m meth c args cX1_begin 2 RX1 none) {k r1 : Nat} (hk_0 : KCo1 E k) (hk_1 : KCaI E (k + 1) 64) (hk_2 : KCo0 E (k + 2)) (hk_3 : KCaI E (k + 3) 2560) (hk_4 : KCo6 E (k + 4)) (hk_5 : KCaI E (k + 5) 32) (hk_6 : KCaI E (k + 6) 3) (hr1 : KCaI E r1 64) : ∀ (σ : Mem)  , m_X1_begin k r1 σ = some q → ∀ (H : Heap) (locs : List Loc) (ls : Array Slot), WI (vC E) A s H locs σ → lv_has ls 2 [(0, .ref (ca E k)), (1, .ref (ca E r1))] → W p l e rm_X1_begin s m args below meth c H locs 0 0 (MQ below (QV (vC E) A q) args s 0 0 A) (F0 m 0 ls []) := by
  have hx := X.1
  have hb := X.2.1
  intro σ  h H locs ls I hl
  unfold m_X1_begin at h
  refine lv_aload_n hx hb dX1_begin_0 rfl (lv_at hl 1 rfl) ?_
  refine lv_iconst (v := 0) hx hb dX1_begin_1 (by decide) ?_
  refine lv_aload_n hx hb dX1_begin_2 rfl (lv_at hl 0 rfl) ?_
  refine gfC_X1_9 X I hk_0 (k' := (k + 1)) rfl dX1_begin_3 ?_
  refine lv_iconst (v := 0) hx hb dX1_begin_6 (by decide) ?_
  refine lv_bipush (v := 64) hx hb dX1_begin_7 (by decide) ?_
  obtain ⟨hcp, h⟩ := gcp_some h
  refine icpC X I hl tw_203 hr1 hk_1 hcp ⟨Nat.le_of_ble_eq_true rfl, Nat.le_of_ble_eq_true rfl⟩ dX1_begin_9 (fun H locs I => ?_)
  obtain ⟨σ1, eσ1, h⟩ := lt_e h
  replace I := wi_nm eσ1 I
  refine lv_aload_n hx hb dX1_begin_12 rfl (lv_at hl 0 rfl) ?_
  refine gfC_X1_18 X I hk_0 (k' := (k + 2)) rfl dX1_begin_13 ?_
  obtain ⟨q2, hq2, h⟩ := bd h
  refine r_callVV (V := (vC E)) (k := (k + 2)) (As := []) (rest := []) X I hl (c_X0_clear hk_2 hk_3 hq2) yv_X0_clear tw_205 ⟨rfl, rfl, Nat.le_of_ble_eq_true rfl, Nat.le_of_ble_eq_true rfl⟩ hk_2.1 (hk_2.2 (σ1 (k + 2))) rfl rfl rfl (Nat.le_of_ble_eq_true rfl) dX1_begin_16 (fun H locs I => ?_)
  refine lv_aload_n hx hb dX1_begin_19 rfl (lv_at hl 0 rfl) ?_
  refine gfC_X1_25 X I hk_0 (k' := (k + 4)) rfl dX1_begin_20 ?_
  refine lv_iconst (v := 0) hx hb dX1_begin_23 (by decide) ?_
  refine pfC_X1_41 X I hk_4 dX1_begin_24 (fun H locs I => ?_)
  obtain ⟨σ3, eσ3, h⟩ := lt_e h
  replace I := wi_nm eσ3 I
  exact r_vret X I (Option.some.inj h).symm dX1_begin_27
theorem c_X1_begin {l : Launch} {E : CE} {k r1 : Nat} {σ : Mem} (hk_0 : KCo1 E k) (hk_1 : KCaI E (k + 1) 64) (hk_2 : KCo0 E (k + 2)) (hk_3 : KCaI E (k + 3) 2560) (hk_4 : KCo6 E (k + 4)) (hk_5 : KCaI E (k + 5) 32) (hk_6 : KCaI E (k + 6) 3) (hr1 : KCaI E r1 64) {q : Mem} (h : m_X1_begin k r1 σ = some q) : CV l (vC E) yX1_begin (.code yX1_begin cX1_begin 2 none :: GG) rm_X1_begin [.ref (ca E k), .ref (ca E r1)] σ q :=
  mk_CV (by decide +kernel) (Nat.le_of_ble_eq_true rfl) (fun p e s m args below meth c A ls X I hl => w_X1_begin_0 X hk_0 hk_1 hk_2 hk_3 hk_4 hk_5 hk_6 hr1 σ  h s.heap [] ls I (lv_sub hl [0, 1] rfl))

def rm_X1_refuse : Room := { frames := 1, cells := 0, slots := 0, locals := 64 }
def m_X1_refuse (k : Nat) (σ : Mem) (x1 : Int32) : Option (Int32 × Mem) := (gd x1 3 (gd x1 3 (lt (ms σ (k + 6) (Int32.toNatClampNeg x1) (((σ (k + 6) (Int32.toNatClampNeg x1)) + (1 : Int32)))) fun σ1 => (some ((-1 : Int32), σ1)))))
set_option maxHeartbeats 4000000 in
set_option maxRecDepth 100000 in
theorem w_X1_refuse_0 {p : Program} {l : Launch} {e : Env} {s : State} {m : MethodId} {args : Array Value} {below : List Frame} {meth : Method} {c : Code} {A : Nat → Prop} {E : CE} {q : Int32 × Mem} (X : CX p s m meth c args cX1_refuse 2 RX1 (some .int)) {k : Nat} (hk_0 : KCo1 E k) (hk_1 : KCaI E (k + 1) 64) (hk_2 : KCo0 E (k + 2)) (hk_3 : KCaI E (k + 3) 2560) (hk_4 : KCo6 E (k + 4)) (hk_5 : KCaI E (k + 5) 32) (hk_6 : KCaI E (k + 6) 3) : ∀ (σ : Mem) (x1 : Int32) , m_X1_refuse k σ x1 = some q → ∀ (H : Heap) (locs : List Loc) (ls : Array Slot), WI (vC E) A s H locs σ → lv_has ls 2 [(0, .ref (ca E k)), (1, .int x1)] → W p l e rm_X1_refuse s m args below meth c H locs 0 0 (MQ below (QI (vC E) A q) args s 0 0 A) (F0 m 0 ls []) := by
  have hx := X.1
  have hb := X.2.1
  intro σ x1 h H locs ls I hl
  unfold m_X1_refuse at h
  refine lv_aload_n hx hb dX1_refuse_0 rfl (lv_at hl 0 rfl) ?_
  refine gfC_X1_29 X I hk_0 (k' := (k + 6)) rfl dX1_refuse_1 ?_
  refine lv_iload_n hx hb dX1_refuse_4 rfl (lv_at hl 1 rfl) ?_
  refine lv_dup2_11 hx hb dX1_refuse_5 rfl rfl ?_
  obtain ⟨hin, h⟩ := gd_some h
  refine ialdC X I hk_6 hin dX1_refuse_6 ?_
  refine lv_iconst (v := 1) hx hb dX1_refuse_7 (by decide) ?_
  refine lv_iadd hx hb dX1_refuse_8 ?_
  obtain ⟨hin, h⟩ := gd_some h
  refine iastC X I hk_6 hin dX1_refuse_9 (fun H locs I => ?_)
  obtain ⟨σ1, eσ1, h⟩ := lt_e h
  replace I := wi_nm eσ1 I
  refine lv_iconst (v := -1) hx hb dX1_refuse_10 (by decide) ?_
  exact r_iret X I (Option.some.inj h).symm dX1_refuse_11
theorem c_X1_refuse {l : Launch} {E : CE} {k : Nat} {σ : Mem} {x1 : Int32} (hk_0 : KCo1 E k) (hk_1 : KCaI E (k + 1) 64) (hk_2 : KCo0 E (k + 2)) (hk_3 : KCaI E (k + 3) 2560) (hk_4 : KCo6 E (k + 4)) (hk_5 : KCaI E (k + 5) 32) (hk_6 : KCaI E (k + 6) 3) {q : Int32 × Mem} (h : m_X1_refuse k σ x1 = some q) : CI l (vC E) yX1_refuse (.code yX1_refuse cX1_refuse 2 (some .int) :: GG) rm_X1_refuse [.ref (ca E k), .int x1] σ q :=
  mk_CI (by decide +kernel) (Nat.le_of_ble_eq_true rfl) (fun p e s m args below meth c A ls X I hl => w_X1_refuse_0 X hk_0 hk_1 hk_2 hk_3 hk_4 hk_5 hk_6 σ x1 h s.heap [] ls I (lv_sub hl [0, 1] rfl))

def rm_X1_beginAct : Room := { frames := 2, cells := 0, slots := 0, locals := 85 }
def m_X1_beginAct (k : Nat) (σ : Mem) : Option (Mem) := ((m_X0_add (k + 2) (k + 1) σ).bind fun q1 => (some q1))
set_option maxHeartbeats 4000000 in
set_option maxRecDepth 100000 in
theorem w_X1_beginAct_0 {p : Program} {l : Launch} {e : Env} {s : State} {m : MethodId} {args : Array Value} {below : List Frame} {meth : Method} {c : Code} {A : Nat → Prop} {E : CE} {q : Mem} (X : CX p s m meth c args cX1_beginAct 1 RX1 none) {k : Nat} (hk_0 : KCo1 E k) (hk_1 : KCaI E (k + 1) 64) (hk_2 : KCo0 E (k + 2)) (hk_3 : KCaI E (k + 3) 2560) (hk_4 : KCo6 E (k + 4)) (hk_5 : KCaI E (k + 5) 32) (hk_6 : KCaI E (k + 6) 3) : ∀ (σ : Mem)  , m_X1_beginAct k σ = some q → ∀ (H : Heap) (locs : List Loc) (ls : Array Slot), WI (vC E) A s H locs σ → lv_has ls 1 [(0, .ref (ca E k))] → W p l e rm_X1_beginAct s m args below meth c H locs 0 0 (MQ below (QV (vC E) A q) args s 0 0 A) (F0 m 0 ls []) := by
  have hx := X.1
  have hb := X.2.1
  intro σ  h H locs ls I hl
  unfold m_X1_beginAct at h
  refine lv_aload_n hx hb dX1_beginAct_0 rfl (lv_at hl 0 rfl) ?_
  refine gfC_X1_18 X I hk_0 (k' := (k + 2)) rfl dX1_beginAct_1 ?_
  refine lv_aload_n hx hb dX1_beginAct_4 rfl (lv_at hl 0 rfl) ?_
  refine gfC_X1_9 X I hk_0 (k' := (k + 1)) rfl dX1_beginAct_5 ?_
  obtain ⟨q1, hq1, h⟩ := bd h
  refine r_callVV (V := (vC E)) (k := (k + 2)) (As := [.ref (ca E (k + 1))]) (rest := []) X I hl (c_X0_add hk_2 hk_3 hk_1 hq1) yv_X0_add tw_213 ⟨rfl, rfl, Nat.le_of_ble_eq_true rfl, Nat.le_of_ble_eq_true rfl⟩ hk_2.1 (hk_2.2 (σ (k + 2))) rfl rfl rfl (Nat.le_of_ble_eq_true rfl) dX1_beginAct_8 (fun H locs I => ?_)
  exact r_vret X I (Option.some.inj h).symm dX1_beginAct_11
theorem c_X1_beginAct {l : Launch} {E : CE} {k : Nat} {σ : Mem} (hk_0 : KCo1 E k) (hk_1 : KCaI E (k + 1) 64) (hk_2 : KCo0 E (k + 2)) (hk_3 : KCaI E (k + 3) 2560) (hk_4 : KCo6 E (k + 4)) (hk_5 : KCaI E (k + 5) 32) (hk_6 : KCaI E (k + 6) 3) {q : Mem} (h : m_X1_beginAct k σ = some q) : CV l (vC E) yX1_beginAct (.code yX1_beginAct cX1_beginAct 1 none :: GG) rm_X1_beginAct [.ref (ca E k)] σ q :=
  mk_CV (by decide +kernel) (Nat.le_of_ble_eq_true rfl) (fun p e s m args below meth c A ls X I hl => w_X1_beginAct_0 X hk_0 hk_1 hk_2 hk_3 hk_4 hk_5 hk_6 σ  h s.heap [] ls I (lv_sub hl [0] rfl))

def rm_X1_actTo : Room := { frames := 3, cells := 0, slots := 0, locals := 105 }
def m_X1_actTo (k : Nat) (σ : Mem) (x1 : Int32) (x2 : Int32) : Option (Int32 × Mem) := (gd x1 64 (lt (σ (k + 1) (Int32.toNatClampNeg x1)) fun y1 => ((m_X1_beginAct k σ).bind fun q2 => (gd x1 64 (lt (ms q2 (k + 1) (Int32.toNatClampNeg x1) (x2)) fun σ3 => (some (y1, σ3)))))))
set_option maxHeartbeats 4000000 in
set_option maxRecDepth 100000 in
theorem w_X1_actTo_0 {p : Program} {l : Launch} {e : Env} {s : State} {m : MethodId} {args : Array Value} {below : List Frame} {meth : Method} {c : Code} {A : Nat → Prop} {E : CE} {q : Int32 × Mem} (X : CX p s m meth c args cX1_actTo 4 RX1 (some .int)) {k : Nat} (hk_0 : KCo1 E k) (hk_1 : KCaI E (k + 1) 64) (hk_2 : KCo0 E (k + 2)) (hk_3 : KCaI E (k + 3) 2560) (hk_4 : KCo6 E (k + 4)) (hk_5 : KCaI E (k + 5) 32) (hk_6 : KCaI E (k + 6) 3) : ∀ (σ : Mem) (x1 : Int32) (x2 : Int32) , m_X1_actTo k σ x1 x2 = some q → ∀ (H : Heap) (locs : List Loc) (ls : Array Slot), WI (vC E) A s H locs σ → lv_has ls 4 [(0, .ref (ca E k)), (1, .int x1), (2, .int x2)] → W p l e rm_X1_actTo s m args below meth c H locs 0 0 (MQ below (QI (vC E) A q) args s 0 0 A) (F0 m 0 ls []) := by
  have hx := X.1
  have hb := X.2.1
  intro σ x1 x2 h H locs ls I hl
  unfold m_X1_actTo at h
  refine lv_aload_n hx hb dX1_actTo_0 rfl (lv_at hl 0 rfl) ?_
  refine gfC_X1_9 X I hk_0 (k' := (k + 1)) rfl dX1_actTo_1 ?_
  refine lv_iload_n hx hb dX1_actTo_4 rfl (lv_at hl 1 rfl) ?_
  obtain ⟨hin, h⟩ := gd_some h
  refine ialdC X I hk_1 hin dX1_actTo_5 ?_
  obtain ⟨y1, ey1, h⟩ := lt_e h
  refine nm_i ey1 ?_
  refine lv_istore_n (lv' := [(3, .int y1), (0, .ref (ca E k)), (1, .int x1), (2, .int x2)]) hx hb dX1_actTo_6 rfl hl (by decide) rfl (fun ls hl => ?_)
  refine lv_aload_n hx hb dX1_actTo_7 rfl (lv_at hl 1 rfl) ?_
  obtain ⟨q2, hq2, h⟩ := bd h
  refine r_callVV (V := (vC E)) (k := k) (As := []) (rest := []) X I hl (c_X1_beginAct hk_0 hk_1 hk_2 hk_3 hk_4 hk_5 hk_6 hq2) yv_X1_beginAct tw_218 ⟨rfl, rfl, Nat.le_of_ble_eq_true rfl, Nat.le_of_ble_eq_true rfl⟩ hk_0.1 (hk_0.2 (σ k)) rfl rfl rfl (Nat.le_of_ble_eq_true rfl) dX1_actTo_8 (fun H locs I => ?_)
  refine lv_aload_n hx hb dX1_actTo_11 rfl (lv_at hl 1 rfl) ?_
  refine gfC_X1_9 X I hk_0 (k' := (k + 1)) rfl dX1_actTo_12 ?_
  refine lv_iload_n hx hb dX1_actTo_15 rfl (lv_at hl 2 rfl) ?_
  refine lv_iload_n hx hb dX1_actTo_16 rfl (lv_at hl 3 rfl) ?_
  obtain ⟨hin, h⟩ := gd_some h
  refine iastC X I hk_1 hin dX1_actTo_17 (fun H locs I => ?_)
  obtain ⟨σ3, eσ3, h⟩ := lt_e h
  replace I := wi_nm eσ3 I
  refine lv_iload_n hx hb dX1_actTo_18 rfl (lv_at hl 0 rfl) ?_
  exact r_iret X I (Option.some.inj h).symm dX1_actTo_19
theorem c_X1_actTo {l : Launch} {E : CE} {k : Nat} {σ : Mem} {x1 : Int32} {x2 : Int32} (hk_0 : KCo1 E k) (hk_1 : KCaI E (k + 1) 64) (hk_2 : KCo0 E (k + 2)) (hk_3 : KCaI E (k + 3) 2560) (hk_4 : KCo6 E (k + 4)) (hk_5 : KCaI E (k + 5) 32) (hk_6 : KCaI E (k + 6) 3) {q : Int32 × Mem} (h : m_X1_actTo k σ x1 x2 = some q) : CI l (vC E) yX1_actTo (.code yX1_actTo cX1_actTo 4 (some .int) :: GG) rm_X1_actTo [.ref (ca E k), .int x1, .int x2] σ q :=
  mk_CI (by decide +kernel) (Nat.le_of_ble_eq_true rfl) (fun p e s m args below meth c A ls X I hl => w_X1_actTo_0 X hk_0 hk_1 hk_2 hk_3 hk_4 hk_5 hk_6 σ x1 x2 h s.heap [] ls I (lv_sub hl [0, 1, 2] rfl))

def rm_X1_copyFrom : Room := { frames := 2, cells := 0, slots := 0, locals := 85 }
def m_X1_copyFrom (k o1 : Nat) (σ : Mem) : Option (Mem) := (gcp (0 : Int32) (0 : Int32) (64 : Int32) 64 64 (lt (mcp σ (o1 + 1) (k + 1) (0 : Int32) (0 : Int32) (64 : Int32)) fun σ1 => ((m_X0_copyFrom (k + 2) (o1 + 2) σ1).bind fun q2 => ((m_X6_copyFrom (k + 4) (o1 + 4) q2).bind fun q3 => (gcp (0 : Int32) (0 : Int32) (3 : Int32) 3 3 (lt (mcp q3 (o1 + 6) (k + 6) (0 : Int32) (0 : Int32) (3 : Int32)) fun σ4 => (some σ4)))))))
set_option maxHeartbeats 4000000 in
set_option maxRecDepth 100000 in
theorem w_X1_copyFrom_0 {p : Program} {l : Launch} {e : Env} {s : State} {m : MethodId} {args : Array Value} {below : List Frame} {meth : Method} {c : Code} {A : Nat → Prop} {E : CE} {q : Mem} (X : CX p s m meth c args cX1_copyFrom 2 RX1 none) {k o1 : Nat} (hk_0 : KCo1 E k) (hk_1 : KCaI E (k + 1) 64) (hk_2 : KCo0 E (k + 2)) (hk_3 : KCaI E (k + 3) 2560) (hk_4 : KCo6 E (k + 4)) (hk_5 : KCaI E (k + 5) 32) (hk_6 : KCaI E (k + 6) 3) (ho1_0 : KCo1 E o1) (ho1_1 : KCaI E (o1 + 1) 64) (ho1_2 : KCo0 E (o1 + 2)) (ho1_3 : KCaI E (o1 + 3) 2560) (ho1_4 : KCo6 E (o1 + 4)) (ho1_5 : KCaI E (o1 + 5) 32) (ho1_6 : KCaI E (o1 + 6) 3) : ∀ (σ : Mem)  , m_X1_copyFrom k o1 σ = some q → ∀ (H : Heap) (locs : List Loc) (ls : Array Slot), WI (vC E) A s H locs σ → lv_has ls 2 [(0, .ref (ca E k)), (1, .ref (ca E o1))] → W p l e rm_X1_copyFrom s m args below meth c H locs 0 0 (MQ below (QV (vC E) A q) args s 0 0 A) (F0 m 0 ls []) := by
  have hx := X.1
  have hb := X.2.1
  intro σ  h H locs ls I hl
  unfold m_X1_copyFrom at h
  refine lv_aload_n hx hb dX1_copyFrom_0 rfl (lv_at hl 1 rfl) ?_
  refine gfC_X1_9 X I ho1_0 (k' := (o1 + 1)) rfl dX1_copyFrom_1 ?_
  refine lv_iconst (v := 0) hx hb dX1_copyFrom_4 (by decide) ?_
  refine lv_aload_n hx hb dX1_copyFrom_5 rfl (lv_at hl 0 rfl) ?_
  refine gfC_X1_9 X I hk_0 (k' := (k + 1)) rfl dX1_copyFrom_6 ?_
  refine lv_iconst (v := 0) hx hb dX1_copyFrom_9 (by decide) ?_
  refine lv_bipush (v := 64) hx hb dX1_copyFrom_10 (by decide) ?_
  obtain ⟨hcp, h⟩ := gcp_some h
  refine icpC X I hl tw_203 ho1_1 hk_1 hcp ⟨Nat.le_of_ble_eq_true rfl, Nat.le_of_ble_eq_true rfl⟩ dX1_copyFrom_12 (fun H locs I => ?_)
  obtain ⟨σ1, eσ1, h⟩ := lt_e h
  replace I := wi_nm eσ1 I
  refine lv_aload_n hx hb dX1_copyFrom_15 rfl (lv_at hl 0 rfl) ?_
  refine gfC_X1_18 X I hk_0 (k' := (k + 2)) rfl dX1_copyFrom_16 ?_
  refine lv_aload_n hx hb dX1_copyFrom_19 rfl (lv_at hl 1 rfl) ?_
  refine gfC_X1_18 X I ho1_0 (k' := (o1 + 2)) rfl dX1_copyFrom_20 ?_
  obtain ⟨q2, hq2, h⟩ := bd h
  refine r_callVV (V := (vC E)) (k := (k + 2)) (As := [.ref (ca E (o1 + 2))]) (rest := []) X I hl (c_X0_copyFrom hk_2 hk_3 ho1_2 ho1_3 hq2) yv_X0_copyFrom tw_223 ⟨rfl, rfl, Nat.le_of_ble_eq_true rfl, Nat.le_of_ble_eq_true rfl⟩ hk_2.1 (hk_2.2 (σ1 (k + 2))) rfl rfl rfl (Nat.le_of_ble_eq_true rfl) dX1_copyFrom_23 (fun H locs I => ?_)
  refine lv_aload_n hx hb dX1_copyFrom_26 rfl (lv_at hl 0 rfl) ?_
  refine gfC_X1_25 X I hk_0 (k' := (k + 4)) rfl dX1_copyFrom_27 ?_
  refine lv_aload_n hx hb dX1_copyFrom_30 rfl (lv_at hl 1 rfl) ?_
  refine gfC_X1_25 X I ho1_0 (k' := (o1 + 4)) rfl dX1_copyFrom_31 ?_
  obtain ⟨q3, hq3, h⟩ := bd h
  refine r_callVV (V := (vC E)) (k := (k + 4)) (As := [.ref (ca E (o1 + 4))]) (rest := []) X I hl (c_X6_copyFrom hk_4 hk_5 ho1_4 ho1_5 hq3) yv_X6_copyFrom tw_228 ⟨rfl, rfl, Nat.le_of_ble_eq_true rfl, Nat.le_of_ble_eq_true rfl⟩ hk_4.1 (hk_4.2 (q2 (k + 4))) rfl rfl rfl (Nat.le_of_ble_eq_true rfl) dX1_copyFrom_34 (fun H locs I => ?_)
  refine lv_aload_n hx hb dX1_copyFrom_37 rfl (lv_at hl 1 rfl) ?_
  refine gfC_X1_29 X I ho1_0 (k' := (o1 + 6)) rfl dX1_copyFrom_38 ?_
  refine lv_iconst (v := 0) hx hb dX1_copyFrom_41 (by decide) ?_
  refine lv_aload_n hx hb dX1_copyFrom_42 rfl (lv_at hl 0 rfl) ?_
  refine gfC_X1_29 X I hk_0 (k' := (k + 6)) rfl dX1_copyFrom_43 ?_
  refine lv_iconst (v := 0) hx hb dX1_copyFrom_46 (by decide) ?_
  refine lv_aload_n hx hb dX1_copyFrom_47 rfl (lv_at hl 0 rfl) ?_
  refine gfC_X1_29 X I hk_0 (k' := (k + 6)) rfl dX1_copyFrom_48 ?_
  refine alenIC X I hk_6 (v := 3) rfl dX1_copyFrom_51 ?_
  obtain ⟨hcp, h⟩ := gcp_some h
  refine icpC X I hl tw_203 ho1_6 hk_6 hcp ⟨Nat.le_of_ble_eq_true rfl, Nat.le_of_ble_eq_true rfl⟩ dX1_copyFrom_52 (fun H locs I => ?_)
  obtain ⟨σ4, eσ4, h⟩ := lt_e h
  replace I := wi_nm eσ4 I
  exact r_vret X I (Option.some.inj h).symm dX1_copyFrom_55
theorem c_X1_copyFrom {l : Launch} {E : CE} {k o1 : Nat} {σ : Mem} (hk_0 : KCo1 E k) (hk_1 : KCaI E (k + 1) 64) (hk_2 : KCo0 E (k + 2)) (hk_3 : KCaI E (k + 3) 2560) (hk_4 : KCo6 E (k + 4)) (hk_5 : KCaI E (k + 5) 32) (hk_6 : KCaI E (k + 6) 3) (ho1_0 : KCo1 E o1) (ho1_1 : KCaI E (o1 + 1) 64) (ho1_2 : KCo0 E (o1 + 2)) (ho1_3 : KCaI E (o1 + 3) 2560) (ho1_4 : KCo6 E (o1 + 4)) (ho1_5 : KCaI E (o1 + 5) 32) (ho1_6 : KCaI E (o1 + 6) 3) {q : Mem} (h : m_X1_copyFrom k o1 σ = some q) : CV l (vC E) yX1_copyFrom (.code yX1_copyFrom cX1_copyFrom 2 none :: GG) rm_X1_copyFrom [.ref (ca E k), .ref (ca E o1)] σ q :=
  mk_CV (by decide +kernel) (Nat.le_of_ble_eq_true rfl) (fun p e s m args below meth c A ls X I hl => w_X1_copyFrom_0 X hk_0 hk_1 hk_2 hk_3 hk_4 hk_5 hk_6 ho1_0 ho1_1 ho1_2 ho1_3 ho1_4 ho1_5 ho1_6 σ  h s.heap [] ls I (lv_sub hl [0, 1] rfl))

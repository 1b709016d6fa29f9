def rm_X0_clear : Room := { frames := 1, cells := 0, slots := 0, locals := 64 }
def m_X0_clear (k : Nat) (σ : Mem) : Option (Mem) := (lt (ms σ k 1 (0 : Int32)) fun σ1 => (lt (ms σ1 k 2 (0 : Int32)) fun σ2 => (some σ2)))
set_option maxHeartbeats 4000000 in
set_option maxRecDepth 100000 in
theorem w_X0_clear_0 {p : Program} {l : Launch} {e : Env} {s : State} {m : MethodId} {args : Array Value} {below : List Frame} {meth : Method} {c : Code} {A : Nat → Prop} {E : CE} {q : Mem} (X : CX p s m meth c args cX0_clear 1 RX0 none) {k : Nat} (hk_0 : KCo0 E k) (hk_1 : KCaI E (k + 1) 2560) : ∀ (σ : Mem)  , m_X0_clear k σ = some q → ∀ (H : Heap) (locs : List Loc) (ls : Array Slot), WI (vC E) A s H locs σ → lv_has ls 1 [(0, .ref (ca E k))] → W p l e rm_X0_clear s m args below meth c H locs 0 0 (MQ below (QV (vC E) A q) args s 0 0 A) (F0 m 0 ls []) := by
  have hx := X.1
  have hb := X.2.1
  intro σ  h H locs ls I hl
  unfold m_X0_clear at h
  refine lv_aload_n hx hb dX0_clear_0 rfl (lv_at hl 0 rfl) ?_
  refine lv_iconst (v := 0) hx hb dX0_clear_1 (by decide) ?_
  refine pfC_X0_15 X I hk_0 dX0_clear_2 (fun H locs I => ?_)
  obtain ⟨σ1, eσ1, h⟩ := lt_e h
  replace I := wi_nm eσ1 I
  refine lv_aload_n hx hb dX0_clear_5 rfl (lv_at hl 0 rfl) ?_
  refine lv_iconst (v := 0) hx hb dX0_clear_6 (by decide) ?_
  refine pfC_X0_19 X I hk_0 dX0_clear_7 (fun H locs I => ?_)
  obtain ⟨σ2, eσ2, h⟩ := lt_e h
  replace I := wi_nm eσ2 I
  exact r_vret X I (Option.some.inj h).symm dX0_clear_10
theorem c_X0_clear {l : Launch} {E : CE} {k : Nat} {σ : Mem} (hk_0 : KCo0 E k) (hk_1 : KCaI E (k + 1) 2560) {q : Mem} (h : m_X0_clear k σ = some q) : CV l (vC E) yX0_clear (.code yX0_clear cX0_clear 1 none :: GG) rm_X0_clear [.ref (ca E k)] σ q :=
  mk_CV (by decide +kernel) (Nat.le_of_ble_eq_true rfl) (fun p e s m args below meth c A ls X I hl => w_X0_clear_0 X hk_0 hk_1 σ  h s.heap [] ls I (lv_sub hl [0] rfl))

def rm_X0_add : Room := { frames := 1, cells := 0, slots := 0, locals := 64 }
def m_X0_add (k r1 : Nat) (σ : Mem) : Option (Mem) := (gnz (40 : Int32) (gcp (0 : Int32) ((((σ k 1) + (σ k 2)) - ((σ k 1) + (σ k 2)) / (40 : Int32) * (40 : Int32)) * (64 : Int32)) (64 : Int32) 64 2560 (lt (mcp σ r1 (k + 1) (0 : Int32) ((((σ k 1) + (σ k 2)) - ((σ k 1) + (σ k 2)) / (40 : Int32) * (40 : Int32)) * (64 : Int32)) (64 : Int32)) fun σ1 => (if (40 : Int32) ≤ (σ1 k 2) then (gnz (40 : Int32) (lt (ms σ1 k 1 (((σ1 k 1) + (1 : Int32)) - ((σ1 k 1) + (1 : Int32)) / (40 : Int32) * (40 : Int32))) fun σ3 => (some σ3))) else (lt (ms σ1 k 2 ((σ1 k 2) + (1 : Int32))) fun σ4 => (some σ4))))))
set_option maxHeartbeats 4000000 in
set_option maxRecDepth 100000 in
theorem w_X0_add_0 {p : Program} {l : Launch} {e : Env} {s : State} {m : MethodId} {args : Array Value} {below : List Frame} {meth : Method} {c : Code} {A : Nat → Prop} {E : CE} {q : Mem} (X : CX p s m meth c args cX0_add 2 RX0 none) {k r1 : Nat} (hk_0 : KCo0 E k) (hk_1 : KCaI E (k + 1) 2560) (hr1 : KCaI E r1 64) : ∀ (σ : Mem)  , m_X0_add k r1 σ = some q → ∀ (H : Heap) (locs : List Loc) (ls : Array Slot), WI (vC E) A s H locs σ → lv_has ls 2 [(0, .ref (ca E k)), (1, .ref (ca E r1))] → W p l e rm_X0_add s m args below meth c H locs 0 0 (MQ below (QV (vC E) A q) args s 0 0 A) (F0 m 0 ls []) := by
  have hx := X.1
  have hb := X.2.1
  intro σ  h H locs ls I hl
  unfold m_X0_add at h
  refine lv_aload_n hx hb dX0_add_0 rfl (lv_at hl 1 rfl) ?_
  refine lv_iconst (v := 0) hx hb dX0_add_1 (by decide) ?_
  refine lv_aload_n hx hb dX0_add_2 rfl (lv_at hl 0 rfl) ?_
  refine gfC_X0_9 X I hk_0 (k' := (k + 1)) rfl dX0_add_3 ?_
  refine lv_aload_n hx hb dX0_add_6 rfl (lv_at hl 0 rfl) ?_
  refine gfC_X0_15 X I hk_0 dX0_add_7 ?_
  refine lv_aload_n hx hb dX0_add_10 rfl (lv_at hl 0 rfl) ?_
  refine gfC_X0_19 X I hk_0 dX0_add_11 ?_
  refine lv_iadd hx hb dX0_add_14 ?_
  refine lv_bipush (v := 40) hx hb dX0_add_15 (by decide) ?_
  obtain ⟨hnz, h⟩ := gnz_some h
  refine lv_irem hx hb dX0_add_17 hnz ?_
  refine lv_bipush (v := 64) hx hb dX0_add_18 (by decide) ?_
  refine lv_imul hx hb dX0_add_20 ?_
  refine lv_bipush (v := 64) hx hb dX0_add_21 (by decide) ?_
  obtain ⟨hcp, h⟩ := gcp_some h
  refine icpC X I hl tw_37 hr1 hk_1 hcp ⟨Nat.le_of_ble_eq_true rfl, Nat.le_of_ble_eq_true rfl⟩ dX0_add_23 (fun H locs I => ?_)
  obtain ⟨σ1, eσ1, h⟩ := lt_e h
  replace I := wi_nm eσ1 I
  refine lv_aload_n hx hb dX0_add_26 rfl (lv_at hl 0 rfl) ?_
  refine gfC_X0_19 X I hk_0 dX0_add_27 ?_
  refine lv_bipush (v := 40) hx hb dX0_add_30 (by decide) ?_
  refine lv_icmp_ge (tgt := 48) hx hb dX0_add_32 (by decide) (fun c2 => ?_) (fun c2 => ?_)
  · have h := ite_t h c2
    refine lv_aload_n hx hb dX0_add_48 rfl (lv_at hl 0 rfl) ?_
    refine lv_aload_n hx hb dX0_add_49 rfl (lv_at hl 0 rfl) ?_
    refine gfC_X0_15 X I hk_0 dX0_add_50 ?_
    refine lv_iconst (v := 1) hx hb dX0_add_53 (by decide) ?_
    refine lv_iadd hx hb dX0_add_54 ?_
    refine lv_bipush (v := 40) hx hb dX0_add_55 (by decide) ?_
    obtain ⟨hnz, h⟩ := gnz_some h
    refine lv_irem hx hb dX0_add_57 hnz ?_
    refine pfC_X0_15 X I hk_0 dX0_add_58 (fun H locs I => ?_)
    obtain ⟨σ3, eσ3, h⟩ := lt_e h
    replace I := wi_nm eσ3 I
    exact r_vret X I (Option.some.inj h).symm dX0_add_61
  · have h := ite_f h c2
    refine lv_aload_n hx hb dX0_add_35 rfl (lv_at hl 0 rfl) ?_
    refine lv_dup hx hb dX0_add_36 rfl ?_
    refine gfC_X0_19 X I hk_0 dX0_add_37 ?_
    refine lv_iconst (v := 1) hx hb dX0_add_40 (by decide) ?_
    refine lv_iadd hx hb dX0_add_41 ?_
    refine pfC_X0_19 X I hk_0 dX0_add_42 (fun H locs I => ?_)
    obtain ⟨σ4, eσ4, h⟩ := lt_e h
    replace I := wi_nm eσ4 I
    refine lv_goto (tgt := 61) hx hb dX0_add_45 (by decide) ?_
    exact r_vret X I (Option.some.inj h).symm dX0_add_61
theorem c_X0_add {l : Launch} {E : CE} {k r1 : Nat} {σ : Mem} (hk_0 : KCo0 E k) (hk_1 : KCaI E (k + 1) 2560) (hr1 : KCaI E r1 64) {q : Mem} (h : m_X0_add k r1 σ = some q) : CV l (vC E) yX0_add (.code yX0_add cX0_add 2 none :: GG) rm_X0_add [.ref (ca E k), .ref (ca E r1)] σ q :=
  mk_CV (by decide +kernel) (Nat.le_of_ble_eq_true rfl) (fun p e s m args below meth c A ls X I hl => w_X0_add_0 X hk_0 hk_1 hr1 σ  h s.heap [] ls I (lv_sub hl [0, 1] rfl))

def rm_X0_takeBack : Room := { frames := 1, cells := 0, slots := 0, locals := 64 }
def m_X0_takeBack (k r1 : Nat) (σ : Mem) : Option (Int32 × Mem) := (if (σ k 2) = (0 : Int32) then (some ((-1 : Int32), σ)) else (lt (ms σ k 2 ((σ k 2) - (1 : Int32))) fun σ2 => (gnz (40 : Int32) (gcp ((((σ2 k 1) + (σ2 k 2)) - ((σ2 k 1) + (σ2 k 2)) / (40 : Int32) * (40 : Int32)) * (64 : Int32)) (0 : Int32) (64 : Int32) 2560 64 (lt (mcp σ2 (k + 1) r1 ((((σ2 k 1) + (σ2 k 2)) - ((σ2 k 1) + (σ2 k 2)) / (40 : Int32) * (40 : Int32)) * (64 : Int32)) (0 : Int32) (64 : Int32)) fun σ3 => (some ((σ3 k 2), σ3)))))))
set_option maxHeartbeats 4000000 in
set_option maxRecDepth 100000 in
theorem w_X0_takeBack_0 {p : Program} {l : Launch} {e : Env} {s : State} {m : MethodId} {args : Array Value} {below : List Frame} {meth : Method} {c : Code} {A : Nat → Prop} {E : CE} {q : Int32 × Mem} (X : CX p s m meth c args cX0_takeBack 2 RX0 (some .int)) {k r1 : Nat} (hk_0 : KCo0 E k) (hk_1 : KCaI E (k + 1) 2560) (hr1 : KCaI E r1 64) : ∀ (σ : Mem)  , m_X0_takeBack k r1 σ = some q → ∀ (H : Heap) (locs : List Loc) (ls : Array Slot), WI (vC E) A s H locs σ → lv_has ls 2 [(0, .ref (ca E k)), (1, .ref (ca E r1))] → W p l e rm_X0_takeBack s m args below meth c H locs 0 0 (MQ below (QI (vC E) A q) args s 0 0 A) (F0 m 0 ls []) := by
  have hx := X.1
  have hb := X.2.1
  intro σ  h H locs ls I hl
  unfold m_X0_takeBack at h
  refine lv_aload_n hx hb dX0_takeBack_0 rfl (lv_at hl 0 rfl) ?_
  refine gfC_X0_19 X I hk_0 dX0_takeBack_1 ?_
  refine lv_if_ne (tgt := 9) hx hb dX0_takeBack_4 (by decide) (fun c1 => ?_) (fun c1 => ?_)
  · have h := ite_f h c1
    refine lv_aload_n hx hb dX0_takeBack_9 rfl (lv_at hl 0 rfl) ?_
    refine lv_dup hx hb dX0_takeBack_10 rfl ?_
    refine gfC_X0_19 X I hk_0 dX0_takeBack_11 ?_
    refine lv_iconst (v := 1) hx hb dX0_takeBack_14 (by decide) ?_
    refine lv_isub hx hb dX0_takeBack_15 ?_
    refine pfC_X0_19 X I hk_0 dX0_takeBack_16 (fun H locs I => ?_)
    obtain ⟨σ2, eσ2, h⟩ := lt_e h
    replace I := wi_nm eσ2 I
    refine lv_aload_n hx hb dX0_takeBack_19 rfl (lv_at hl 0 rfl) ?_
    refine gfC_X0_9 X I hk_0 (k' := (k + 1)) rfl dX0_takeBack_20 ?_
    refine lv_aload_n hx hb dX0_takeBack_23 rfl (lv_at hl 0 rfl) ?_
    refine gfC_X0_15 X I hk_0 dX0_takeBack_24 ?_
    refine lv_aload_n hx hb dX0_takeBack_27 rfl (lv_at hl 0 rfl) ?_
    refine gfC_X0_19 X I hk_0 dX0_takeBack_28 ?_
    refine lv_iadd hx hb dX0_takeBack_31 ?_
    refine lv_bipush (v := 40) hx hb dX0_takeBack_32 (by decide) ?_
    obtain ⟨hnz, h⟩ := gnz_some h
    refine lv_irem hx hb dX0_takeBack_34 hnz ?_
    refine lv_bipush (v := 64) hx hb dX0_takeBack_35 (by decide) ?_
    refine lv_imul hx hb dX0_takeBack_37 ?_
    refine lv_aload_n hx hb dX0_takeBack_38 rfl (lv_at hl 1 rfl) ?_
    refine lv_iconst (v := 0) hx hb dX0_takeBack_39 (by decide) ?_
    refine lv_bipush (v := 64) hx hb dX0_takeBack_40 (by decide) ?_
    obtain ⟨hcp, h⟩ := gcp_some h
    refine icpC X I hl tw_37 hk_1 hr1 hcp ⟨Nat.le_of_ble_eq_true rfl, Nat.le_of_ble_eq_true rfl⟩ dX0_takeBack_42 (fun H locs I => ?_)
    obtain ⟨σ3, eσ3, h⟩ := lt_e h
    replace I := wi_nm eσ3 I
    refine lv_aload_n hx hb dX0_takeBack_45 rfl (lv_at hl 0 rfl) ?_
    refine gfC_X0_19 X I hk_0 dX0_takeBack_46 ?_
    exact r_iret X I (Option.some.inj h).symm dX0_takeBack_49
  · have h := ite_t h c1
    refine lv_iconst (v := -1) hx hb dX0_takeBack_7 (by decide) ?_
    exact r_iret X I (Option.some.inj h).symm dX0_takeBack_8
theorem c_X0_takeBack {l : Launch} {E : CE} {k r1 : Nat} {σ : Mem} (hk_0 : KCo0 E k) (hk_1 : KCaI E (k + 1) 2560) (hr1 : KCaI E r1 64) {q : Int32 × Mem} (h : m_X0_takeBack k r1 σ = some q) : CI l (vC E) yX0_takeBack (.code yX0_takeBack cX0_takeBack 2 (some .int) :: GG) rm_X0_takeBack [.ref (ca E k), .ref (ca E r1)] σ q :=
  mk_CI (by decide +kernel) (Nat.le_of_ble_eq_true rfl) (fun p e s m args below meth c A ls X I hl => w_X0_takeBack_0 X hk_0 hk_1 hr1 σ  h s.heap [] ls I (lv_sub hl [0, 1] rfl))

def rm_X0_copyFrom : Room := { frames := 1, cells := 0, slots := 0, locals := 64 }
def m_X0_copyFrom (k o1 : Nat) (σ : Mem) : Option (Mem) := (gcp (0 : Int32) (0 : Int32) (2560 : Int32) 2560 2560 (lt (mcp σ (o1 + 1) (k + 1) (0 : Int32) (0 : Int32) (2560 : Int32)) fun σ1 => (lt (ms σ1 k 1 (σ1 o1 1)) fun σ2 => (lt (ms σ2 k 2 (σ2 o1 2)) fun σ3 => (some σ3)))))
set_option maxHeartbeats 4000000 in
set_option maxRecDepth 100000 in
theorem w_X0_copyFrom_0 {p : Program} {l : Launch} {e : Env} {s : State} {m : MethodId} {args : Array Value} {below : List Frame} {meth : Method} {c : Code} {A : Nat → Prop} {E : CE} {q : Mem} (X : CX p s m meth c args cX0_copyFrom 2 RX0 none) {k o1 : Nat} (hk_0 : KCo0 E k) (hk_1 : KCaI E (k + 1) 2560) (ho1_0 : KCo0 E o1) (ho1_1 : KCaI E (o1 + 1) 2560) : ∀ (σ : Mem)  , m_X0_copyFrom k o1 σ = some q → ∀ (H : Heap) (locs : List Loc) (ls : Array Slot), WI (vC E) A s H locs σ → lv_has ls 2 [(0, .ref (ca E k)), (1, .ref (ca E o1))] → W p l e rm_X0_copyFrom s m args below meth c H locs 0 0 (MQ below (QV (vC E) A q) args s 0 0 A) (F0 m 0 ls []) := by
  have hx := X.1
  have hb := X.2.1
  intro σ  h H locs ls I hl
  unfold m_X0_copyFrom at h
  refine lv_aload_n hx hb dX0_copyFrom_0 rfl (lv_at hl 1 rfl) ?_
  refine gfC_X0_9 X I ho1_0 (k' := (o1 + 1)) rfl dX0_copyFrom_1 ?_
  refine lv_iconst (v := 0) hx hb dX0_copyFrom_4 (by decide) ?_
  refine lv_aload_n hx hb dX0_copyFrom_5 rfl (lv_at hl 0 rfl) ?_
  refine gfC_X0_9 X I hk_0 (k' := (k + 1)) rfl dX0_copyFrom_6 ?_
  refine lv_iconst (v := 0) hx hb dX0_copyFrom_9 (by decide) ?_
  refine lv_sipush (v := 2560) hx hb dX0_copyFrom_10 (by decide) ?_
  obtain ⟨hcp, h⟩ := gcp_some h
  refine icpC X I hl tw_37 ho1_1 hk_1 hcp ⟨Nat.le_of_ble_eq_true rfl, Nat.le_of_ble_eq_true rfl⟩ dX0_copyFrom_13 (fun H locs I => ?_)
  obtain ⟨σ1, eσ1, h⟩ := lt_e h
  replace I := wi_nm eσ1 I
  refine lv_aload_n hx hb dX0_copyFrom_16 rfl (lv_at hl 0 rfl) ?_
  refine lv_aload_n hx hb dX0_copyFrom_17 rfl (lv_at hl 1 rfl) ?_
  refine gfC_X0_15 X I ho1_0 dX0_copyFrom_18 ?_
  refine pfC_X0_15 X I hk_0 dX0_copyFrom_21 (fun H locs I => ?_)
  obtain ⟨σ2, eσ2, h⟩ := lt_e h
  replace I := wi_nm eσ2 I
  refine lv_aload_n hx hb dX0_copyFrom_24 rfl (lv_at hl 0 rfl) ?_
  refine lv_aload_n hx hb dX0_copyFrom_25 rfl (lv_at hl 1 rfl) ?_
  refine gfC_X0_19 X I ho1_0 dX0_copyFrom_26 ?_
  refine pfC_X0_19 X I hk_0 dX0_copyFrom_29 (fun H locs I => ?_)
  obtain ⟨σ3, eσ3, h⟩ := lt_e h
  replace I := wi_nm eσ3 I
  exact r_vret X I (Option.some.inj h).symm dX0_copyFrom_32
theorem c_X0_copyFrom {l : Launch} {E : CE} {k o1 : Nat} {σ : Mem} (hk_0 : KCo0 E k) (hk_1 : KCaI E (k + 1) 2560) (ho1_0 : KCo0 E o1) (ho1_1 : KCaI E (o1 + 1) 2560) {q : Mem} (h : m_X0_copyFrom k o1 σ = some q) : CV l (vC E) yX0_copyFrom (.code yX0_copyFrom cX0_copyFrom 2 none :: GG) rm_X0_copyFrom [.ref (ca E k), .ref (ca E o1)] σ q :=
  mk_CV (by decide +kernel) (Nat.le_of_ble_eq_true rfl) (fun p e s m args below meth c A ls X I hl => w_X0_copyFrom_0 X hk_0 hk_1 ho1_0 ho1_1 σ  h s.heap [] ls I (lv_sub hl [0, 1] rfl))

def rm_X2_clear : Room := { frames := 2, cells := 0, slots := 0, locals := 84 }
def f_X2_clear_53 (k : Nat) : Nat → Mem → Int32 → Option (Mem)
  | 0, _, _ => none
  | n + 1, σ, x1 => (if (8 : Int32) ≤ x1 then (some σ) else (gd ((24 : Int32) + x1) 64 (lt (ms σ (k + 11) (Int32.toNatClampNeg ((24 : Int32) + x1)) ((-1 : Int32))) fun σ2 => f_X2_clear_53 k n σ2 (x1 + 1))))
def f_X2_clear_32 (k : Nat) : Nat → Mem → Int32 → Option (Mem)
  | 0, _, _ => none
  | n + 1, σ, x1 => (if (64 : Int32) ≤ x1 then (f_X2_clear_53 k KF σ (0 : Int32)) else (gd x1 64 (lt (ms σ (k + 11) (Int32.toNatClampNeg x1) ((0 : Int32))) fun σ2 => f_X2_clear_32 k n σ2 (x1 + 1))))
def m_X2_clear (k : Nat) (σ : Mem) : Option (Mem) := (lt (ms σ k 0 (0 : Int32)) fun σ1 => (lt (ms σ1 k 1 (0 : Int32)) fun σ2 => (lt (ms σ2 k 2 (40 : Int32)) fun σ3 => ((m_X4_clear (k + 5) σ3).bind fun q4 => ((m_X4_clear (k + 8) q4).bind fun q5 => (f_X2_clear_32 k KF q5 (0 : Int32)))))))
set_option maxHeartbeats 4000000 in
set_option maxRecDepth 100000 in
theorem w_X2_clear_53 {p : Program} {l : Launch} {e : Env} {s : State} {m : MethodId} {args : Array Value} {below : List Frame} {meth : Method} {c : Code} {A : Nat → Prop} {E : CE} {q : Mem} (X : CX p s m meth c args cX2_clear 2 RX2 none) {k : Nat} (hk_0 : KCo2 E k) (hk_1 : KCaI E (k + 1) 8) (hk_2 : KCaI E (k + 2) 8) (hk_3 : KCaI E (k + 3) 7) (hk_4 : KCaI E (k + 4) 7) (hk_5 : KCo4 E (k + 5)) (hk_6 : KCaI E (k + 6) 700) (hk_7 : KCaI E (k + 7) 64) (hk_8 : KCo4 E (k + 8)) (hk_9 : KCaI E (k + 9) 700) (hk_10 : KCaI E (k + 10) 64) (hk_11 : KCaI E (k + 11) 64) : ∀ (n : Nat), ∀ (σ : Mem) (x1 : Int32) , f_X2_clear_53 k n σ x1 = some q → ∀ (H : Heap) (locs : List Loc) (ls : Array Slot), WI (vC E) A s H locs σ → lv_has ls 2 [(0, .ref (ca E k)), (1, .int x1)] → W p l e rm_X2_clear s m args below meth c H locs 0 0 (MQ below (QV (vC E) A q) args s 0 0 A) (F0 m 53 ls []) := by
  have hx := X.1
  have hb := X.2.1
  intro n
  induction n with
  | zero =>
    intro σ x1 h
    cases h
  | succ n ih =>
    intro σ x1 h H locs ls I hl
    rw [f_X2_clear_53] at h
    refine lv_iload_n hx hb dX2_clear_53 rfl (lv_at hl 1 rfl) ?_
    refine lv_bipush (v := 8) hx hb dX2_clear_54 (by decide) ?_
    refine lv_icmp_ge (tgt := 75) hx hb dX2_clear_56 (by decide) (fun c1 => ?_) (fun c1 => ?_)
    · have h := ite_t h c1
      exact r_vret X I (Option.some.inj h).symm dX2_clear_75
    · have h := ite_f h c1
      refine lv_aload_n hx hb dX2_clear_59 rfl (lv_at hl 0 rfl) ?_
      refine gfC_X2_44 X I hk_0 (k' := (k + 11)) rfl dX2_clear_60 ?_
      refine lv_bipush (v := 24) hx hb dX2_clear_63 (by decide) ?_
      refine lv_iload_n hx hb dX2_clear_65 rfl (lv_at hl 1 rfl) ?_
      refine lv_iadd hx hb dX2_clear_66 ?_
      refine lv_iconst (v := -1) hx hb dX2_clear_67 (by decide) ?_
      obtain ⟨hin, h⟩ := gd_some h
      refine iastC X I hk_11 hin dX2_clear_68 (fun H locs I => ?_)
      obtain ⟨σ2, eσ2, h⟩ := lt_e h
      replace I := wi_nm eσ2 I
      refine lv_iinc (v := (x1 + 1)) (lv' := [(1, .int (x1 + 1)), (0, .ref (ca E k))]) hx hb dX2_clear_69 hl (k := 1) rfl rfl (by decide) rfl (fun ls hl => ?_)
      refine lv_goto (tgt := 53) hx hb dX2_clear_72 (by decide) ?_
      exact ih σ2 (x1 + 1) h H locs ls I (lv_sub hl [1, 0] rfl)
set_option maxHeartbeats 4000000 in
set_option maxRecDepth 100000 in
theorem w_X2_clear_32 {p : Program} {l : Launch} {e : Env} {s : State} {m : MethodId} {args : Array Value} {below : List Frame} {meth : Method} {c : Code} {A : Nat → Prop} {E : CE} {q : Mem} (X : CX p s m meth c args cX2_clear 2 RX2 none) {k : Nat} (hk_0 : KCo2 E k) (hk_1 : KCaI E (k + 1) 8) (hk_2 : KCaI E (k + 2) 8) (hk_3 : KCaI E (k + 3) 7) (hk_4 : KCaI E (k + 4) 7) (hk_5 : KCo4 E (k + 5)) (hk_6 : KCaI E (k + 6) 700) (hk_7 : KCaI E (k + 7) 64) (hk_8 : KCo4 E (k + 8)) (hk_9 : KCaI E (k + 9) 700) (hk_10 : KCaI E (k + 10) 64) (hk_11 : KCaI E (k + 11) 64) : ∀ (n : Nat), ∀ (σ : Mem) (x1 : Int32) , f_X2_clear_32 k n σ x1 = some q → ∀ (H : Heap) (locs : List Loc) (ls : Array Slot), WI (vC E) A s H locs σ → lv_has ls 2 [(0, .ref (ca E k)), (1, .int x1)] → W p l e rm_X2_clear s m args below meth c H locs 0 0 (MQ below (QV (vC E) A q) args s 0 0 A) (F0 m 32 ls []) := by
  have hx := X.1
  have hb := X.2.1
  intro n
  induction n with
  | zero =>
    intro σ x1 h
    cases h
  | succ n ih =>
    intro σ x1 h H locs ls I hl
    rw [f_X2_clear_32] at h
    refine lv_iload_n hx hb dX2_clear_32 rfl (lv_at hl 1 rfl) ?_
    refine lv_bipush (v := 64) hx hb dX2_clear_33 (by decide) ?_
    refine lv_icmp_ge (tgt := 51) hx hb dX2_clear_35 (by decide) (fun c1 => ?_) (fun c1 => ?_)
    · have h := ite_t h c1
      refine lv_iconst (v := 0) hx hb dX2_clear_51 (by decide) ?_
      refine lv_istore_n (lv' := [(1, .int (0 : Int32)), (0, .ref (ca E k))]) hx hb dX2_clear_52 rfl hl (by decide) rfl (fun ls hl => ?_)
      exact w_X2_clear_53 X hk_0 hk_1 hk_2 hk_3 hk_4 hk_5 hk_6 hk_7 hk_8 hk_9 hk_10 hk_11  KF σ (0 : Int32) h H locs ls I (lv_sub hl [1, 0] rfl)
    · have h := ite_f h c1
      refine lv_aload_n hx hb dX2_clear_38 rfl (lv_at hl 0 rfl) ?_
      refine gfC_X2_44 X I hk_0 (k' := (k + 11)) rfl dX2_clear_39 ?_
      refine lv_iload_n hx hb dX2_clear_42 rfl (lv_at hl 1 rfl) ?_
      refine lv_iconst (v := 0) hx hb dX2_clear_43 (by decide) ?_
      obtain ⟨hin, h⟩ := gd_some h
      refine iastC X I hk_11 hin dX2_clear_44 (fun H locs I => ?_)
      obtain ⟨σ2, eσ2, h⟩ := lt_e h
      replace I := wi_nm eσ2 I
      refine lv_iinc (v := (x1 + 1)) (lv' := [(1, .int (x1 + 1)), (0, .ref (ca E k))]) hx hb dX2_clear_45 hl (k := 1) rfl rfl (by decide) rfl (fun ls hl => ?_)
      refine lv_goto (tgt := 32) hx hb dX2_clear_48 (by decide) ?_
      exact ih σ2 (x1 + 1) h H locs ls I (lv_sub hl [1, 0] rfl)
set_option maxHeartbeats 4000000 in
set_option maxRecDepth 100000 in
theorem w_X2_clear_0 {p : Program} {l : Launch} {e : Env} {s : State} {m : MethodId} {args : Array Value} {below : List Frame} {meth : Method} {c : Code} {A : Nat → Prop} {E : CE} {q : Mem} (X : CX p s m meth c args cX2_clear 2 RX2 none) {k : Nat} (hk_0 : KCo2 E k) (hk_1 : KCaI E (k + 1) 8) (hk_2 : KCaI E (k + 2) 8) (hk_3 : KCaI E (k + 3) 7) (hk_4 : KCaI E (k + 4) 7) (hk_5 : KCo4 E (k + 5)) (hk_6 : KCaI E (k + 6) 700) (hk_7 : KCaI E (k + 7) 64) (hk_8 : KCo4 E (k + 8)) (hk_9 : KCaI E (k + 9) 700) (hk_10 : KCaI E (k + 10) 64) (hk_11 : KCaI E (k + 11) 64) : ∀ (σ : Mem)  , m_X2_clear k σ = some q → ∀ (H : Heap) (locs : List Loc) (ls : Array Slot), WI (vC E) A s H locs σ → lv_has ls 2 [(0, .ref (ca E k))] → W p l e rm_X2_clear s m args below meth c H locs 0 0 (MQ below (QV (vC E) A q) args s 0 0 A) (F0 m 0 ls []) := by
  have hx := X.1
  have hb := X.2.1
  intro σ  h H locs ls I hl
  unfold m_X2_clear at h
  refine lv_aload_n hx hb dX2_clear_0 rfl (lv_at hl 0 rfl) ?_
  refine lv_iconst (v := 0) hx hb dX2_clear_1 (by decide) ?_
  refine pfC_X2_9 X I hk_0 dX2_clear_2 (fun H locs I => ?_)
  obtain ⟨σ1, eσ1, h⟩ := lt_e h
  replace I := wi_nm eσ1 I
  refine lv_aload_n hx hb dX2_clear_5 rfl (lv_at hl 0 rfl) ?_
  refine lv_iconst (v := 0) hx hb dX2_clear_6 (by decide) ?_
  refine pfC_X2_15 X I hk_0 dX2_clear_7 (fun H locs I => ?_)
  obtain ⟨σ2, eσ2, h⟩ := lt_e h
  replace I := wi_nm eσ2 I
  refine lv_aload_n hx hb dX2_clear_10 rfl (lv_at hl 0 rfl) ?_
  refine lv_bipush (v := 40) hx hb dX2_clear_11 (by decide) ?_
  refine pfC_X2_18 X I hk_0 dX2_clear_13 (fun H locs I => ?_)
  obtain ⟨σ3, eσ3, h⟩ := lt_e h
  replace I := wi_nm eσ3 I
  refine lv_aload_n hx hb dX2_clear_16 rfl (lv_at hl 0 rfl) ?_
  refine gfC_X2_37 X I hk_0 (k' := (k + 5)) rfl dX2_clear_17 ?_
  obtain ⟨q4, hq4, h⟩ := bd h
  refine r_callVV (V := (vC E)) (k := (k + 5)) (As := []) (rest := []) X I hl (c_X4_clear hk_5 hk_6 hk_7 hq4) yv_X4_clear tw_185 ⟨rfl, rfl, Nat.le_of_ble_eq_true rfl, Nat.le_of_ble_eq_true rfl⟩ hk_5.1 (hk_5.2 (σ3 (k + 5))) rfl rfl rfl (Nat.le_of_ble_eq_true rfl) dX2_clear_20 (fun H locs I => ?_)
  refine lv_aload_n hx hb dX2_clear_23 rfl (lv_at hl 0 rfl) ?_
  refine gfC_X2_41 X I hk_0 (k' := (k + 8)) rfl dX2_clear_24 ?_
  obtain ⟨q5, hq5, h⟩ := bd h
  refine r_callVV (V := (vC E)) (k := (k + 8)) (As := []) (rest := []) X I hl (c_X4_clear hk_8 hk_9 hk_10 hq5) yv_X4_clear tw_185 ⟨rfl, rfl, Nat.le_of_ble_eq_true rfl, Nat.le_of_ble_eq_true rfl⟩ hk_8.1 (hk_8.2 (q4 (k + 8))) rfl rfl rfl (Nat.le_of_ble_eq_true rfl) dX2_clear_27 (fun H locs I => ?_)
  refine lv_iconst (v := 0) hx hb dX2_clear_30 (by decide) ?_
  refine lv_istore_n (lv' := [(1, .int (0 : Int32)), (0, .ref (ca E k))]) hx hb dX2_clear_31 rfl hl (by decide) rfl (fun ls hl => ?_)
  exact w_X2_clear_32 X hk_0 hk_1 hk_2 hk_3 hk_4 hk_5 hk_6 hk_7 hk_8 hk_9 hk_10 hk_11  KF q5 (0 : Int32) h H locs ls I (lv_sub hl [1, 0] rfl)
theorem c_X2_clear {l : Launch} {E : CE} {k : Nat} {σ : Mem} (hk_0 : KCo2 E k) (hk_1 : KCaI E (k + 1) 8) (hk_2 : KCaI E (k + 2) 8) (hk_3 : KCaI E (k + 3) 7) (hk_4 : KCaI E (k + 4) 7) (hk_5 : KCo4 E (k + 5)) (hk_6 : KCaI E (k + 6) 700) (hk_7 : KCaI E (k + 7) 64) (hk_8 : KCo4 E (k + 8)) (hk_9 : KCaI E (k + 9) 700) (hk_10 : KCaI E (k + 10) 64) (hk_11 : KCaI E (k + 11) 64) {q : Mem} (h : m_X2_clear k σ = some q) : CV l (vC E) yX2_clear (.code yX2_clear cX2_clear 2 none :: GG) rm_X2_clear [.ref (ca E k)] σ q :=
  mk_CV (by decide +kernel) (Nat.le_of_ble_eq_true rfl) (fun p e s m args below meth c A ls X I hl => w_X2_clear_0 X hk_0 hk_1 hk_2 hk_3 hk_4 hk_5 hk_6 hk_7 hk_8 hk_9 hk_10 hk_11 σ  h s.heap [] ls I (lv_sub hl [0] rfl))

def rm_X2_copyFrom : Room := { frames := 2, cells := 0, slots := 0, locals := 85 }
def m_X2_copyFrom (k o1 : Nat) (σ : Mem) : Option (Mem) := (lt (ms σ k 0 (σ o1 0)) fun σ1 => (lt (ms σ1 k 1 (σ1 o1 1)) fun σ2 => (lt (ms σ2 k 2 (σ2 o1 2)) fun σ3 => (gcp (0 : Int32) (0 : Int32) (8 : Int32) 8 8 (lt (mcp σ3 (o1 + 1) (k + 1) (0 : Int32) (0 : Int32) (8 : Int32)) fun σ4 => (gcp (0 : Int32) (0 : Int32) (8 : Int32) 8 8 (lt (mcp σ4 (o1 + 2) (k + 2) (0 : Int32) (0 : Int32) (8 : Int32)) fun σ5 => (gcp (0 : Int32) (0 : Int32) (7 : Int32) 7 7 (lt (mcp σ5 (o1 + 3) (k + 3) (0 : Int32) (0 : Int32) (7 : Int32)) fun σ6 => (gcp (0 : Int32) (0 : Int32) (7 : Int32) 7 7 (lt (mcp σ6 (o1 + 4) (k + 4) (0 : Int32) (0 : Int32) (7 : Int32)) fun σ7 => ((m_X4_copyFrom (k + 5) (o1 + 5) σ7).bind fun q8 => ((m_X4_copyFrom (k + 8) (o1 + 8) q8).bind fun q9 => (gcp (0 : Int32) (0 : Int32) (64 : Int32) 64 64 (lt (mcp q9 (o1 + 11) (k + 11) (0 : Int32) (0 : Int32) (64 : Int32)) fun σ10 => (some σ10))))))))))))))))
set_option maxHeartbeats 4000000 in
set_option maxRecDepth 100000 in
theorem w_X2_copyFrom_0 {p : Program} {l : Launch} {e : Env} {s : State} {m : MethodId} {args : Array Value} {below : List Frame} {meth : Method} {c : Code} {A : Nat → Prop} {E : CE} {q : Mem} (X : CX p s m meth c args cX2_copyFrom 2 RX2 none) {k o1 : Nat} (hk_0 : KCo2 E k) (hk_1 : KCaI E (k + 1) 8) (hk_2 : KCaI E (k + 2) 8) (hk_3 : KCaI E (k + 3) 7) (hk_4 : KCaI E (k + 4) 7) (hk_5 : KCo4 E (k + 5)) (hk_6 : KCaI E (k + 6) 700) (hk_7 : KCaI E (k + 7) 64) (hk_8 : KCo4 E (k + 8)) (hk_9 : KCaI E (k + 9) 700) (hk_10 : KCaI E (k + 10) 64) (hk_11 : KCaI E (k + 11) 64) (ho1_0 : KCo2 E o1) (ho1_1 : KCaI E (o1 + 1) 8) (ho1_2 : KCaI E (o1 + 2) 8) (ho1_3 : KCaI E (o1 + 3) 7) (ho1_4 : KCaI E (o1 + 4) 7) (ho1_5 : KCo4 E (o1 + 5)) (ho1_6 : KCaI E (o1 + 6) 700) (ho1_7 : KCaI E (o1 + 7) 64) (ho1_8 : KCo4 E (o1 + 8)) (ho1_9 : KCaI E (o1 + 9) 700) (ho1_10 : KCaI E (o1 + 10) 64) (ho1_11 : KCaI E (o1 + 11) 64) : ∀ (σ : Mem)  , m_X2_copyFrom k o1 σ = some q → ∀ (H : Heap) (locs : List Loc) (ls : Array Slot), WI (vC E) A s H locs σ → lv_has ls 2 [(0, .ref (ca E k)), (1, .ref (ca E o1))] → W p l e rm_X2_copyFrom s m args below meth c H locs 0 0 (MQ below (QV (vC E) A q) args s 0 0 A) (F0 m 0 ls []) := by
  have hx := X.1
  have hb := X.2.1
  intro σ  h H locs ls I hl
  unfold m_X2_copyFrom at h
  refine lv_aload_n hx hb dX2_copyFrom_0 rfl (lv_at hl 0 rfl) ?_
  refine lv_aload_n hx hb dX2_copyFrom_1 rfl (lv_at hl 1 rfl) ?_
  refine gfC_X2_9 X I ho1_0 dX2_copyFrom_2 ?_
  refine pfC_X2_9 X I hk_0 dX2_copyFrom_5 (fun H locs I => ?_)
  obtain ⟨σ1, eσ1, h⟩ := lt_e h
  replace I := wi_nm eσ1 I
  refine lv_aload_n hx hb dX2_copyFrom_8 rfl (lv_at hl 0 rfl) ?_
  refine lv_aload_n hx hb dX2_copyFrom_9 rfl (lv_at hl 1 rfl) ?_
  refine gfC_X2_15 X I ho1_0 dX2_copyFrom_10 ?_
  refine pfC_X2_15 X I hk_0 dX2_copyFrom_13 (fun H locs I => ?_)
  obtain ⟨σ2, eσ2, h⟩ := lt_e h
  replace I := wi_nm eσ2 I
  refine lv_aload_n hx hb dX2_copyFrom_16 rfl (lv_at hl 0 rfl) ?_
  refine lv_aload_n hx hb dX2_copyFrom_17 rfl (lv_at hl 1 rfl) ?_
  refine gfC_X2_18 X I ho1_0 dX2_copyFrom_18 ?_
  refine pfC_X2_18 X I hk_0 dX2_copyFrom_21 (fun H locs I => ?_)
  obtain ⟨σ3, eσ3, h⟩ := lt_e h
  replace I := wi_nm eσ3 I
  refine lv_aload_n hx hb dX2_copyFrom_24 rfl (lv_at hl 1 rfl) ?_
  refine gfC_X2_21 X I ho1_0 (k' := (o1 + 1)) rfl dX2_copyFrom_25 ?_
  refine lv_iconst (v := 0) hx hb dX2_copyFrom_28 (by decide) ?_
  refine lv_aload_n hx hb dX2_copyFrom_29 rfl (lv_at hl 0 rfl) ?_
  refine gfC_X2_21 X I hk_0 (k' := (k + 1)) rfl dX2_copyFrom_30 ?_
  refine lv_iconst (v := 0) hx hb dX2_copyFrom_33 (by decide) ?_
  refine lv_bipush (v := 8) hx hb dX2_copyFrom_34 (by decide) ?_
  obtain ⟨hcp, h⟩ := gcp_some h
  refine icpC X I hl tw_193 ho1_1 hk_1 hcp ⟨Nat.le_of_ble_eq_true rfl, Nat.le_of_ble_eq_true rfl⟩ dX2_copyFrom_36 (fun H locs I => ?_)
  obtain ⟨σ4, eσ4, h⟩ := lt_e h
  replace I := wi_nm eσ4 I
  refine lv_aload_n hx hb dX2_copyFrom_39 rfl (lv_at hl 1 rfl) ?_
  refine gfC_X2_25 X I ho1_0 (k' := (o1 + 2)) rfl dX2_copyFrom_40 ?_
  refine lv_iconst (v := 0) hx hb dX2_copyFrom_43 (by decide) ?_
  refine lv_aload_n hx hb dX2_copyFrom_44 rfl (lv_at hl 0 rfl) ?_
  refine gfC_X2_25 X I hk_0 (k' := (k + 2)) rfl dX2_copyFrom_45 ?_
  refine lv_iconst (v := 0) hx hb dX2_copyFrom_48 (by decide) ?_
  refine lv_bipush (v := 8) hx hb dX2_copyFrom_49 (by decide) ?_
  obtain ⟨hcp, h⟩ := gcp_some h
  refine icpC X I hl tw_193 ho1_2 hk_2 hcp ⟨Nat.le_of_ble_eq_true rfl, Nat.le_of_ble_eq_true rfl⟩ dX2_copyFrom_51 (fun H locs I => ?_)
  obtain ⟨σ5, eσ5, h⟩ := lt_e h
  replace I := wi_nm eσ5 I
  refine lv_aload_n hx hb dX2_copyFrom_54 rfl (lv_at hl 1 rfl) ?_
  refine gfC_X2_28 X I ho1_0 (k' := (o1 + 3)) rfl dX2_copyFrom_55 ?_
  refine lv_iconst (v := 0) hx hb dX2_copyFrom_58 (by decide) ?_
  refine lv_aload_n hx hb dX2_copyFrom_59 rfl (lv_at hl 0 rfl) ?_
  refine gfC_X2_28 X I hk_0 (k' := (k + 3)) rfl dX2_copyFrom_60 ?_
  refine lv_iconst (v := 0) hx hb dX2_copyFrom_63 (by decide) ?_
  refine lv_bipush (v := 7) hx hb dX2_copyFrom_64 (by decide) ?_
  obtain ⟨hcp, h⟩ := gcp_some h
  refine icpC X I hl tw_193 ho1_3 hk_3 hcp ⟨Nat.le_of_ble_eq_true rfl, Nat.le_of_ble_eq_true rfl⟩ dX2_copyFrom_66 (fun H locs I => ?_)
  obtain ⟨σ6, eσ6, h⟩ := lt_e h
  replace I := wi_nm eσ6 I
  refine lv_aload_n hx hb dX2_copyFrom_69 rfl (lv_at hl 1 rfl) ?_
  refine gfC_X2_31 X I ho1_0 (k' := (o1 + 4)) rfl dX2_copyFrom_70 ?_
  refine lv_iconst (v := 0) hx hb dX2_copyFrom_73 (by decide) ?_
  refine lv_aload_n hx hb dX2_copyFrom_74 rfl (lv_at hl 0 rfl) ?_
  refine gfC_X2_31 X I hk_0 (k' := (k + 4)) rfl dX2_copyFrom_75 ?_
  refine lv_iconst (v := 0) hx hb dX2_copyFrom_78 (by decide) ?_
  refine lv_bipush (v := 7) hx hb dX2_copyFrom_79 (by decide) ?_
  obtain ⟨hcp, h⟩ := gcp_some h
  refine icpC X I hl tw_193 ho1_4 hk_4 hcp ⟨Nat.le_of_ble_eq_true rfl, Nat.le_of_ble_eq_true rfl⟩ dX2_copyFrom_81 (fun H locs I => ?_)
  obtain ⟨σ7, eσ7, h⟩ := lt_e h
  replace I := wi_nm eσ7 I
  refine lv_aload_n hx hb dX2_copyFrom_84 rfl (lv_at hl 0 rfl) ?_
  refine gfC_X2_37 X I hk_0 (k' := (k + 5)) rfl dX2_copyFrom_85 ?_
  refine lv_aload_n hx hb dX2_copyFrom_88 rfl (lv_at hl 1 rfl) ?_
  refine gfC_X2_37 X I ho1_0 (k' := (o1 + 5)) rfl dX2_copyFrom_89 ?_
  obtain ⟨q8, hq8, h⟩ := bd h
  refine r_callVV (V := (vC E)) (k := (k + 5)) (As := [.ref (ca E (o1 + 5))]) (rest := []) X I hl (c_X4_copyFrom hk_5 hk_6 hk_7 ho1_5 ho1_6 ho1_7 hq8) yv_X4_copyFrom tw_197 ⟨rfl, rfl, Nat.le_of_ble_eq_true rfl, Nat.le_of_ble_eq_true rfl⟩ hk_5.1 (hk_5.2 (σ7 (k + 5))) rfl rfl rfl (Nat.le_of_ble_eq_true rfl) dX2_copyFrom_92 (fun H locs I => ?_)
  refine lv_aload_n hx hb dX2_copyFrom_95 rfl (lv_at hl 0 rfl) ?_
  refine gfC_X2_41 X I hk_0 (k' := (k + 8)) rfl dX2_copyFrom_96 ?_
  refine lv_aload_n hx hb dX2_copyFrom_99 rfl (lv_at hl 1 rfl) ?_
  refine gfC_X2_41 X I ho1_0 (k' := (o1 + 8)) rfl dX2_copyFrom_100 ?_
  obtain ⟨q9, hq9, h⟩ := bd h
  refine r_callVV (V := (vC E)) (k := (k + 8)) (As := [.ref (ca E (o1 + 8))]) (rest := []) X I hl (c_X4_copyFrom hk_8 hk_9 hk_10 ho1_8 ho1_9 ho1_10 hq9) yv_X4_copyFrom tw_197 ⟨rfl, rfl, Nat.le_of_ble_eq_true rfl, Nat.le_of_ble_eq_true rfl⟩ hk_8.1 (hk_8.2 (q8 (k + 8))) rfl rfl rfl (Nat.le_of_ble_eq_true rfl) dX2_copyFrom_103 (fun H locs I => ?_)
  refine lv_aload_n hx hb dX2_copyFrom_106 rfl (lv_at hl 1 rfl) ?_
  refine gfC_X2_44 X I ho1_0 (k' := (o1 + 11)) rfl dX2_copyFrom_107 ?_
  refine lv_iconst (v := 0) hx hb dX2_copyFrom_110 (by decide) ?_
  refine lv_aload_n hx hb dX2_copyFrom_111 rfl (lv_at hl 0 rfl) ?_
  refine gfC_X2_44 X I hk_0 (k' := (k + 11)) rfl dX2_copyFrom_112 ?_
  refine lv_iconst (v := 0) hx hb dX2_copyFrom_115 (by decide) ?_
  refine lv_bipush (v := 64) hx hb dX2_copyFrom_116 (by decide) ?_
  obtain ⟨hcp, h⟩ := gcp_some h
  refine icpC X I hl tw_193 ho1_11 hk_11 hcp ⟨Nat.le_of_ble_eq_true rfl, Nat.le_of_ble_eq_true rfl⟩ dX2_copyFrom_118 (fun H locs I => ?_)
  obtain ⟨σ10, eσ10, h⟩ := lt_e h
  replace I := wi_nm eσ10 I
  exact r_vret X I (Option.some.inj h).symm dX2_copyFrom_121
theorem c_X2_copyFrom {l : Launch} {E : CE} {k o1 : Nat} {σ : Mem} (hk_0 : KCo2 E k) (hk_1 : KCaI E (k + 1) 8) (hk_2 : KCaI E (k + 2) 8) (hk_3 : KCaI E (k + 3) 7) (hk_4 : KCaI E (k + 4) 7) (hk_5 : KCo4 E (k + 5)) (hk_6 : KCaI E (k + 6) 700) (hk_7 : KCaI E (k + 7) 64) (hk_8 : KCo4 E (k + 8)) (hk_9 : KCaI E (k + 9) 700) (hk_10 : KCaI E (k + 10) 64) (hk_11 : KCaI E (k + 11) 64) (ho1_0 : KCo2 E o1) (ho1_1 : KCaI E (o1 + 1) 8) (ho1_2 : KCaI E (o1 + 2) 8) (ho1_3 : KCaI E (o1 + 3) 7) (ho1_4 : KCaI E (o1 + 4) 7) (ho1_5 : KCo4 E (o1 + 5)) (ho1_6 : KCaI E (o1 + 6) 700) (ho1_7 : KCaI E (o1 + 7) 64) (ho1_8 : KCo4 E (o1 + 8)) (ho1_9 : KCaI E (o1 + 9) 700) (ho1_10 : KCaI E (o1 + 10) 64) (ho1_11 : KCaI E (o1 + 11) 64) {q : Mem} (h : m_X2_copyFrom k o1 σ = some q) : CV l (vC E) yX2_copyFrom (.code yX2_copyFrom cX2_copyFrom 2 none :: GG) rm_X2_copyFrom [.ref (ca E k), .ref (ca E o1)] σ q :=
  mk_CV (by decide +kernel) (Nat.le_of_ble_eq_true rfl) (fun p e s m args below meth c A ls X I hl => w_X2_copyFrom_0 X hk_0 hk_1 hk_2 hk_3 hk_4 hk_5 hk_6 hk_7 hk_8 hk_9 hk_10 hk_11 ho1_0 ho1_1 ho1_2 ho1_3 ho1_4 ho1_5 ho1_6 ho1_7 ho1_8 ho1_9 ho1_10 ho1_11 σ  h s.heap [] ls I (lv_sub hl [0, 1] rfl))

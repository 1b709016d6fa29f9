def rm_X6_add : Room := { frames := 1, cells := 0, slots := 0, locals := 64 }
def m_X6_add (k : Nat) (σ : Mem) (x1 : Int32) (x2 : Int32) (x3 : Int32) (x4 : Int32) : Option (Mem) := (if (8 : Int32) ≤ (σ k 1) then (some σ) else (lt ((σ k 1) * (4 : Int32)) fun y2 => (gd y2 32 (lt (ms σ (k + 1) (Int32.toNatClampNeg y2) (x1)) fun σ3 => (gd (y2 + (1 : Int32)) 32 (lt (ms σ3 (k + 1) (Int32.toNatClampNeg (y2 + (1 : Int32))) (x2)) fun σ4 => (gd (y2 + (2 : Int32)) 32 (lt (ms σ4 (k + 1) (Int32.toNatClampNeg (y2 + (2 : Int32))) (x3)) fun σ5 => (if x4 = (0 : Int32) then (gd (y2 + (3 : Int32)) 32 (lt (ms σ5 (k + 1) (Int32.toNatClampNeg (y2 + (3 : Int32))) ((0 : Int32))) fun σ7 => (lt (ms σ7 k 1 ((σ7 k 1) + (1 : Int32))) fun σ8 => (some σ8)))) else (gd (y2 + (3 : Int32)) 32 (lt (ms σ5 (k + 1) (Int32.toNatClampNeg (y2 + (3 : Int32))) ((1 : Int32))) fun σ9 => (lt (ms σ9 k 1 ((σ9 k 1) + (1 : Int32))) fun σ10 => (some σ10)))))))))))))
set_option maxHeartbeats 4000000 in
set_option maxRecDepth 100000 in
theorem w_X6_add_0 {p : Program} {l : Launch} {e : Env} {s : State} {m : MethodId} {args : Array Value} {below : List Frame} {meth : Method} {c : Code} {A : Nat → Prop} {E : CE} {q : Mem} (X : CX p s m meth c args cX6_add 6 RX6 none) {k : Nat} (hk_0 : KCo6 E k) (hk_1 : KCaI E (k + 1) 32) : ∀ (σ : Mem) (x1 : Int32) (x2 : Int32) (x3 : Int32) (x4 : Int32) , m_X6_add k σ x1 x2 x3 x4 = some q → ∀ (H : Heap) (locs : List Loc) (ls : Array Slot), WI (vC E) A s H locs σ → lv_has ls 6 [(0, .ref (ca E k)), (1, .int x1), (2, .int x2), (3, .int x3), (4, .int x4)] → W p l e rm_X6_add s m args below meth c H locs 0 0 (MQ below (QV (vC E) A q) args s 0 0 A) (F0 m 0 ls []) := by
  have hx := X.1
  have hb := X.2.1
  intro σ x1 x2 x3 x4 h H locs ls I hl
  unfold m_X6_add at h
  refine lv_aload_n hx hb dX6_add_0 rfl (lv_at hl 0 rfl) ?_
  refine gfC_X6_15 X I hk_0 dX6_add_1 ?_
  refine lv_bipush (v := 8) hx hb dX6_add_4 (by decide) ?_
  refine lv_icmp_ge (tgt := 74) hx hb dX6_add_6 (by decide) (fun c1 => ?_) (fun c1 => ?_)
  · have h := ite_t h c1
    exact r_vret X I (Option.some.inj h).symm dX6_add_74
  · have h := ite_f h c1
    refine lv_aload_n hx hb dX6_add_9 rfl (lv_at hl 0 rfl) ?_
    refine gfC_X6_15 X I hk_0 dX6_add_10 ?_
    refine lv_iconst (v := 4) hx hb dX6_add_13 (by decide) ?_
    refine lv_imul hx hb dX6_add_14 ?_
    obtain ⟨y2, ey2, h⟩ := lt_e h
    refine nm_i ey2 ?_
    refine lv_istore (lv' := [(5, .int y2), (0, .ref (ca E k)), (1, .int x1), (2, .int x2), (3, .int x3), (4, .int x4)]) hx hb dX6_add_15 hl (by decide) rfl (fun ls hl => ?_)
    refine lv_aload_n hx hb dX6_add_17 rfl (lv_at hl 1 rfl) ?_
    refine gfC_X6_11 X I hk_0 (k' := (k + 1)) rfl dX6_add_18 ?_
    refine lv_iload hx hb dX6_add_21 (lv_at hl 0 rfl) ?_
    refine lv_iload_n hx hb dX6_add_23 rfl (lv_at hl 2 rfl) ?_
    obtain ⟨hin, h⟩ := gd_some h
    refine iastC X I hk_1 hin dX6_add_24 (fun H locs I => ?_)
    obtain ⟨σ3, eσ3, h⟩ := lt_e h
    replace I := wi_nm eσ3 I
    refine lv_aload_n hx hb dX6_add_25 rfl (lv_at hl 1 rfl) ?_
    refine gfC_X6_11 X I hk_0 (k' := (k + 1)) rfl dX6_add_26 ?_
    refine lv_iload hx hb dX6_add_29 (lv_at hl 0 rfl) ?_
    refine lv_iconst (v := 1) hx hb dX6_add_31 (by decide) ?_
    refine lv_iadd hx hb dX6_add_32 ?_
    refine lv_iload_n hx hb dX6_add_33 rfl (lv_at hl 3 rfl) ?_
    obtain ⟨hin, h⟩ := gd_some h
    refine iastC X I hk_1 hin dX6_add_34 (fun H locs I => ?_)
    obtain ⟨σ4, eσ4, h⟩ := lt_e h
    replace I := wi_nm eσ4 I
    refine lv_aload_n hx hb dX6_add_35 rfl (lv_at hl 1 rfl) ?_
    refine gfC_X6_11 X I hk_0 (k' := (k + 1)) rfl dX6_add_36 ?_
    refine lv_iload hx hb dX6_add_39 (lv_at hl 0 rfl) ?_
    refine lv_iconst (v := 2) hx hb dX6_add_41 (by decide) ?_
    refine lv_iadd hx hb dX6_add_42 ?_
    refine lv_iload_n hx hb dX6_add_43 rfl (lv_at hl 4 rfl) ?_
    obtain ⟨hin, h⟩ := gd_some h
    refine iastC X I hk_1 hin dX6_add_44 (fun H locs I => ?_)
    obtain ⟨σ5, eσ5, h⟩ := lt_e h
    replace I := wi_nm eσ5 I
    refine lv_aload_n hx hb dX6_add_45 rfl (lv_at hl 1 rfl) ?_
    refine gfC_X6_11 X I hk_0 (k' := (k + 1)) rfl dX6_add_46 ?_
    refine lv_iload hx hb dX6_add_49 (lv_at hl 0 rfl) ?_
    refine lv_iconst (v := 3) hx hb dX6_add_51 (by decide) ?_
    refine lv_iadd hx hb dX6_add_52 ?_
    refine lv_iload hx hb dX6_add_53 (lv_at hl 5 rfl) ?_
    refine lv_if_eq (tgt := 62) hx hb dX6_add_55 (by decide) (fun c6 => ?_) (fun c6 => ?_)
    · have h := ite_t h c6
      refine lv_iconst (v := 0) hx hb dX6_add_62 (by decide) ?_
      obtain ⟨hin, h⟩ := gd_some h
      refine iastC X I hk_1 hin dX6_add_63 (fun H locs I => ?_)
      obtain ⟨σ7, eσ7, h⟩ := lt_e h
      replace I := wi_nm eσ7 I
      refine lv_aload_n hx hb dX6_add_64 rfl (lv_at hl 1 rfl) ?_
      refine lv_dup hx hb dX6_add_65 rfl ?_
      refine gfC_X6_15 X I hk_0 dX6_add_66 ?_
      refine lv_iconst (v := 1) hx hb dX6_add_69 (by decide) ?_
      refine lv_iadd hx hb dX6_add_70 ?_
      refine pfC_X6_15 X I hk_0 dX6_add_71 (fun H locs I => ?_)
      obtain ⟨σ8, eσ8, h⟩ := lt_e h
      replace I := wi_nm eσ8 I
      exact r_vret X I (Option.some.inj h).symm dX6_add_74
    · have h := ite_f h c6
      refine lv_iconst (v := 1) hx hb dX6_add_58 (by decide) ?_
      refine lv_goto (tgt := 63) hx hb dX6_add_59 (by decide) ?_
      obtain ⟨hin, h⟩ := gd_some h
      refine iastC X I hk_1 hin dX6_add_63 (fun H locs I => ?_)
      obtain ⟨σ9, eσ9, h⟩ := lt_e h
      replace I := wi_nm eσ9 I
      refine lv_aload_n hx hb dX6_add_64 rfl (lv_at hl 1 rfl) ?_
      refine lv_dup hx hb dX6_add_65 rfl ?_
      refine gfC_X6_15 X I hk_0 dX6_add_66 ?_
      refine lv_iconst (v := 1) hx hb dX6_add_69 (by decide) ?_
      refine lv_iadd hx hb dX6_add_70 ?_
      refine pfC_X6_15 X I hk_0 dX6_add_71 (fun H locs I => ?_)
      obtain ⟨σ10, eσ10, h⟩ := lt_e h
      replace I := wi_nm eσ10 I
      exact r_vret X I (Option.some.inj h).symm dX6_add_74
theorem c_X6_add {l : Launch} {E : CE} {k : Nat} {σ : Mem} {x1 : Int32} {x2 : Int32} {x3 : Int32} {x4 : Int32} (hk_0 : KCo6 E k) (hk_1 : KCaI E (k + 1) 32) {q : Mem} (h : m_X6_add k σ x1 x2 x3 x4 = some q) : CV l (vC E) yX6_add (.code yX6_add cX6_add 6 none :: GG) rm_X6_add [.ref (ca E k), .int x1, .int x2, .int x3, .int x4] σ q :=
  mk_CV (by decide +kernel) (Nat.le_of_ble_eq_true rfl) (fun p e s m args below meth c A ls X I hl => w_X6_add_0 X hk_0 hk_1 σ x1 x2 x3 x4 h s.heap [] ls I (lv_sub hl [0, 1, 2, 3, 4] rfl))

def rm_X6_lastQuarter : Room := { frames := 2, cells := 0, slots := 0, locals := 85 }
def f_X6_lastQuarter_4 (k : Nat) : Nat → Mem → Int32 → Int32 → Option (Int32)
  | 0, _, _, _ => none
  | n + 1, σ, x1, x2 => (if (σ k 1) ≤ x2 then (some x1) else (gd ((x2 * (4 : Int32)) + (2 : Int32)) 32 (lt (imax x1 (σ (k + 1) (Int32.toNatClampNeg ((x2 * (4 : Int32)) + (2 : Int32))))) fun y2 => f_X6_lastQuarter_4 k n σ y2 (x2 + 1))))
def m_X6_lastQuarter (k : Nat) (σ : Mem) : Option (Int32) := (f_X6_lastQuarter_4 k KF σ (0 : Int32) (0 : Int32))
set_option maxHeartbeats 4000000 in
set_option maxRecDepth 100000 in
theorem w_X6_lastQuarter_4 {p : Program} {l : Launch} {e : Env} {s : State} {m : MethodId} {args : Array Value} {below : List Frame} {meth : Method} {c : Code} {A : Nat → Prop} {E : CE} {q : Int32} (X : CX p s m meth c args cX6_lastQuarter 3 RX6 (some .int)) {k : Nat} (hk_0 : KCo6 E k) (hk_1 : KCaI E (k + 1) 32) : ∀ (n : Nat), ∀ (σ : Mem) (x1 : Int32) (x2 : Int32) , f_X6_lastQuarter_4 k n σ x1 x2 = some q → ∀ (H : Heap) (locs : List Loc) (ls : Array Slot), WI (vC E) A s H locs σ → lv_has ls 3 [(0, .ref (ca E k)), (1, .int x1), (2, .int x2)] → W p l e rm_X6_lastQuarter s m args below meth c H locs 0 0 (MQ below (QI (vC E) A (q, σ)) args s 0 0 A) (F0 m 4 ls []) := by
  have hx := X.1
  have hb := X.2.1
  intro n
  induction n with
  | zero =>
    intro σ x1 x2 h
    cases h
  | succ n ih =>
    intro σ x1 x2 h H locs ls I hl
    rw [f_X6_lastQuarter_4] at h
    refine lv_iload_n hx hb dX6_lastQuarter_4 rfl (lv_at hl 2 rfl) ?_
    refine lv_aload_n hx hb dX6_lastQuarter_5 rfl (lv_at hl 0 rfl) ?_
    refine gfC_X6_15 X I hk_0 dX6_lastQuarter_6 ?_
    refine lv_icmp_ge (tgt := 33) hx hb dX6_lastQuarter_9 (by decide) (fun c1 => ?_) (fun c1 => ?_)
    · have h := ite_t h c1
      refine lv_iload_n hx hb dX6_lastQuarter_33 rfl (lv_at hl 1 rfl) ?_
      exact r_iret X I (congrArg (fun z => (z, σ)) (Option.some.inj h).symm) dX6_lastQuarter_34
    · have h := ite_f h c1
      refine lv_iload_n hx hb dX6_lastQuarter_12 rfl (lv_at hl 1 rfl) ?_
      refine lv_aload_n hx hb dX6_lastQuarter_13 rfl (lv_at hl 0 rfl) ?_
      refine gfC_X6_11 X I hk_0 (k' := (k + 1)) rfl dX6_lastQuarter_14 ?_
      refine lv_iload_n hx hb dX6_lastQuarter_17 rfl (lv_at hl 2 rfl) ?_
      refine lv_iconst (v := 4) hx hb dX6_lastQuarter_18 (by decide) ?_
      refine lv_imul hx hb dX6_lastQuarter_19 ?_
      refine lv_iconst (v := 2) hx hb dX6_lastQuarter_20 (by decide) ?_
      refine lv_iadd hx hb dX6_lastQuarter_21 ?_
      obtain ⟨hin, h⟩ := gd_some h
      refine ialdC X I hk_1 hin dX6_lastQuarter_22 ?_
      refine r_max X hl tw_48 ⟨Nat.le_of_ble_eq_true rfl, Nat.le_of_ble_eq_true rfl⟩ dX6_lastQuarter_23 ?_
      obtain ⟨y2, ey2, h⟩ := lt_e h
      refine nm_i ey2 ?_
      refine lv_istore_n (lv' := [(1, .int y2), (0, .ref (ca E k)), (2, .int x2)]) hx hb dX6_lastQuarter_26 rfl hl (by decide) rfl (fun ls hl => ?_)
      refine lv_iinc (v := (x2 + 1)) (lv' := [(2, .int (x2 + 1)), (1, .int y2), (0, .ref (ca E k))]) hx hb dX6_lastQuarter_27 hl (k := 2) rfl rfl (by decide) rfl (fun ls hl => ?_)
      refine lv_goto (tgt := 4) hx hb dX6_lastQuarter_30 (by decide) ?_
      exact ih σ y2 (x2 + 1) h H locs ls I (lv_sub hl [2, 1, 0] rfl)
set_option maxHeartbeats 4000000 in
set_option maxRecDepth 100000 in
theorem w_X6_lastQuarter_0 {p : Program} {l : Launch} {e : Env} {s : State} {m : MethodId} {args : Array Value} {below : List Frame} {meth : Method} {c : Code} {A : Nat → Prop} {E : CE} {q : Int32} (X : CX p s m meth c args cX6_lastQuarter 3 RX6 (some .int)) {k : Nat} (hk_0 : KCo6 E k) (hk_1 : KCaI E (k + 1) 32) : ∀ (σ : Mem)  , m_X6_lastQuarter k σ = some q → ∀ (H : Heap) (locs : List Loc) (ls : Array Slot), WI (vC E) A s H locs σ → lv_has ls 3 [(0, .ref (ca E k))] → W p l e rm_X6_lastQuarter s m args below meth c H locs 0 0 (MQ below (QI (vC E) A (q, σ)) args s 0 0 A) (F0 m 0 ls []) := by
  have hx := X.1
  have hb := X.2.1
  intro σ  h H locs ls I hl
  unfold m_X6_lastQuarter at h
  refine lv_iconst (v := 0) hx hb dX6_lastQuarter_0 (by decide) ?_
  refine lv_istore_n (lv' := [(1, .int (0 : Int32)), (0, .ref (ca E k))]) hx hb dX6_lastQuarter_1 rfl hl (by decide) rfl (fun ls hl => ?_)
  refine lv_iconst (v := 0) hx hb dX6_lastQuarter_2 (by decide) ?_
  refine lv_istore_n (lv' := [(2, .int (0 : Int32)), (1, .int (0 : Int32)), (0, .ref (ca E k))]) hx hb dX6_lastQuarter_3 rfl hl (by decide) rfl (fun ls hl => ?_)
  exact w_X6_lastQuarter_4 X hk_0 hk_1  KF σ (0 : Int32) (0 : Int32) h H locs ls I (lv_sub hl [2, 1, 0] rfl)
theorem c_X6_lastQuarter {l : Launch} {E : CE} {k : Nat} {σ : Mem} (hk_0 : KCo6 E k) (hk_1 : KCaI E (k + 1) 32) {q : Int32} (h : m_X6_lastQuarter k σ = some q) : CI l (vC E) yX6_lastQuarter (.code yX6_lastQuarter cX6_lastQuarter 3 (some .int) :: GG) rm_X6_lastQuarter [.ref (ca E k)] σ (q, σ) :=
  mk_CI (by decide +kernel) (Nat.le_of_ble_eq_true rfl) (fun p e s m args below meth c A ls X I hl => w_X6_lastQuarter_0 X hk_0 hk_1 σ  h s.heap [] ls I (lv_sub hl [0] rfl))

def rm_X6_agrees : Room := { frames := 1, cells := 0, slots := 0, locals := 64 }
def f_X6_agrees_2 (k r1 : Nat) (x2 : Int32) : Nat → Mem → Int32 → Option (Int32)
  | 0, _, _ => none
  | n + 1, σ, x3 => (if (σ k 1) ≤ x3 then (some (1 : Int32)) else (lt (x3 * (4 : Int32)) fun y2 => (gd (y2 + (2 : Int32)) 32 (if (σ (k + 1) (Int32.toNatClampNeg (y2 + (2 : Int32)))) = x2 then (gd (y2 + (1 : Int32)) 32 (gd ((24 : Int32) + (σ (k + 1) (Int32.toNatClampNeg (y2 + (1 : Int32))))) 64 (gd y2 32 (if (σ r1 (Int32.toNatClampNeg ((24 : Int32) + (σ (k + 1) (Int32.toNatClampNeg (y2 + (1 : Int32))))))) = (σ (k + 1) (Int32.toNatClampNeg y2)) then (gd (y2 + (3 : Int32)) 32 (if (1 : Int32) = (σ (k + 1) (Int32.toNatClampNeg (y2 + (3 : Int32)))) then f_X6_agrees_2 k r1 x2 n σ (x3 + 1) else (some (0 : Int32)))) else (gd (y2 + (3 : Int32)) 32 (if (0 : Int32) = (σ (k + 1) (Int32.toNatClampNeg (y2 + (3 : Int32)))) then f_X6_agrees_2 k r1 x2 n σ (x3 + 1) else (some (0 : Int32)))))))) else f_X6_agrees_2 k r1 x2 n σ (x3 + 1)))))
def m_X6_agrees (k r1 : Nat) (σ : Mem) (x2 : Int32) : Option (Int32) := (f_X6_agrees_2 k r1 x2 KF σ (0 : Int32))
set_option maxHeartbeats 4000000 in
set_option maxRecDepth 100000 in
theorem w_X6_agrees_2 {p : Program} {l : Launch} {e : Env} {s : State} {m : MethodId} {args : Array Value} {below : List Frame} {meth : Method} {c : Code} {A : Nat → Prop} {E : CE} {q : Int32} (X : CX p s m meth c args cX6_agrees 6 RX6 (some .boolean)) {k r1 : Nat} {x2 : Int32} (hk_0 : KCo6 E k) (hk_1 : KCaI E (k + 1) 32) (hr1 : KCaI E r1 64) : ∀ (n : Nat), ∀ (σ : Mem) (x3 : Int32) , f_X6_agrees_2 k r1 x2 n σ x3 = some q → ∀ (H : Heap) (locs : List Loc) (ls : Array Slot), WI (vC E) A s H locs σ → lv_has ls 6 [(0, .ref (ca E k)), (1, .ref (ca E r1)), (2, .int x2), (3, .int x3)] → W p l e rm_X6_agrees s m args below meth c H locs 0 0 (MQ below (QI (vC E) A (q, σ)) args s 0 0 A) (F0 m 2 ls []) := by
  have hx := X.1
  have hb := X.2.1
  intro n
  induction n with
  | zero =>
    intro σ x3 h
    cases h
  | succ n ih =>
    intro σ x3 h H locs ls I hl
    rw [f_X6_agrees_2] at h
    refine lv_iload_n hx hb dX6_agrees_2 rfl (lv_at hl 3 rfl) ?_
    refine lv_aload_n hx hb dX6_agrees_3 rfl (lv_at hl 0 rfl) ?_
    refine gfC_X6_15 X I hk_0 dX6_agrees_4 ?_
    refine lv_icmp_ge (tgt := 81) hx hb dX6_agrees_7 (by decide) (fun c1 => ?_) (fun c1 => ?_)
    · have h := ite_t h c1
      refine lv_iconst (v := 1) hx hb dX6_agrees_81 (by decide) ?_
      exact r_zret X I (congrArg (fun z => (z, σ)) (Option.some.inj h).symm) rfl dX6_agrees_82
    · have h := ite_f h c1
      refine lv_iload_n hx hb dX6_agrees_10 rfl (lv_at hl 3 rfl) ?_
      refine lv_iconst (v := 4) hx hb dX6_agrees_11 (by decide) ?_
      refine lv_imul hx hb dX6_agrees_12 ?_
      obtain ⟨y2, ey2, h⟩ := lt_e h
      refine nm_i ey2 ?_
      refine lv_istore (lv' := [(4, .int y2), (0, .ref (ca E k)), (1, .ref (ca E r1)), (2, .int x2), (3, .int x3)]) hx hb dX6_agrees_13 hl (by decide) rfl (fun ls hl => ?_)
      refine lv_aload_n hx hb dX6_agrees_15 rfl (lv_at hl 1 rfl) ?_
      refine gfC_X6_11 X I hk_0 (k' := (k + 1)) rfl dX6_agrees_16 ?_
      refine lv_iload hx hb dX6_agrees_19 (lv_at hl 0 rfl) ?_
      refine lv_iconst (v := 2) hx hb dX6_agrees_21 (by decide) ?_
      refine lv_iadd hx hb dX6_agrees_22 ?_
      obtain ⟨hin, h⟩ := gd_some h
      refine ialdC X I hk_1 hin dX6_agrees_23 ?_
      refine lv_iload_n hx hb dX6_agrees_24 rfl (lv_at hl 3 rfl) ?_
      refine lv_icmp_ne (tgt := 75) hx hb dX6_agrees_25 (by decide) (fun c3 => ?_) (fun c3 => ?_)
      · have h := ite_f h c3
        refine lv_iinc (v := (x3 + 1)) (lv' := [(3, .int (x3 + 1)), (4, .int y2), (0, .ref (ca E k)), (1, .ref (ca E r1)), (2, .int x2)]) hx hb dX6_agrees_75 hl (k := 4) rfl rfl (by decide) rfl (fun ls hl => ?_)
        refine lv_goto (tgt := 2) hx hb dX6_agrees_78 (by decide) ?_
        exact ih σ (x3 + 1) h H locs ls I (lv_sub hl [2, 3, 4, 0] rfl)
      · have h := ite_t h c3
        refine lv_aload_n hx hb dX6_agrees_28 rfl (lv_at hl 2 rfl) ?_
        refine lv_bipush (v := 24) hx hb dX6_agrees_29 (by decide) ?_
        refine lv_aload_n hx hb dX6_agrees_31 rfl (lv_at hl 1 rfl) ?_
        refine gfC_X6_11 X I hk_0 (k' := (k + 1)) rfl dX6_agrees_32 ?_
        refine lv_iload hx hb dX6_agrees_35 (lv_at hl 0 rfl) ?_
        refine lv_iconst (v := 1) hx hb dX6_agrees_37 (by decide) ?_
        refine lv_iadd hx hb dX6_agrees_38 ?_
        obtain ⟨hin, h⟩ := gd_some h
        refine ialdC X I hk_1 hin dX6_agrees_39 ?_
        refine lv_iadd hx hb dX6_agrees_40 ?_
        obtain ⟨hin, h⟩ := gd_some h
        refine ialdC X I hr1 hin dX6_agrees_41 ?_
        refine lv_aload_n hx hb dX6_agrees_42 rfl (lv_at hl 1 rfl) ?_
        refine gfC_X6_11 X I hk_0 (k' := (k + 1)) rfl dX6_agrees_43 ?_
        refine lv_iload hx hb dX6_agrees_46 (lv_at hl 0 rfl) ?_
        obtain ⟨hin, h⟩ := gd_some h
        refine ialdC X I hk_1 hin dX6_agrees_48 ?_
        refine lv_icmp_ne (tgt := 56) hx hb dX6_agrees_49 (by decide) (fun c4 => ?_) (fun c4 => ?_)
        · have h := ite_f h c4
          refine lv_iconst (v := 0) hx hb dX6_agrees_56 (by decide) ?_
          refine lv_istore (lv' := [(5, .int (0 : Int32)), (4, .int y2), (0, .ref (ca E k)), (1, .ref (ca E r1)), (2, .int x2), (3, .int x3)]) hx hb dX6_agrees_57 hl (by decide) rfl (fun ls hl => ?_)
          refine lv_iload hx hb dX6_agrees_59 (lv_at hl 0 rfl) ?_
          refine lv_aload_n hx hb dX6_agrees_61 rfl (lv_at hl 2 rfl) ?_
          refine gfC_X6_11 X I hk_0 (k' := (k + 1)) rfl dX6_agrees_62 ?_
          refine lv_iload hx hb dX6_agrees_65 (lv_at hl 1 rfl) ?_
          refine lv_iconst (v := 3) hx hb dX6_agrees_67 (by decide) ?_
          refine lv_iadd hx hb dX6_agrees_68 ?_
          obtain ⟨hin, h⟩ := gd_some h
          refine ialdC X I hk_1 hin dX6_agrees_69 ?_
          refine lv_icmp_eq (tgt := 75) hx hb dX6_agrees_70 (by decide) (fun c5 => ?_) (fun c5 => ?_)
          · have h := ite_t h c5
            refine lv_iinc (v := (x3 + 1)) (lv' := [(3, .int (x3 + 1)), (5, .int (0 : Int32)), (4, .int y2), (0, .ref (ca E k)), (1, .ref (ca E r1)), (2, .int x2)]) hx hb dX6_agrees_75 hl (k := 5) rfl rfl (by decide) rfl (fun ls hl => ?_)
            refine lv_goto (tgt := 2) hx hb dX6_agrees_78 (by decide) ?_
            exact ih σ (x3 + 1) h H locs ls I (lv_sub hl [3, 4, 5, 0] rfl)
          · have h := ite_f h c5
            refine lv_iconst (v := 0) hx hb dX6_agrees_73 (by decide) ?_
            exact r_zret X I (congrArg (fun z => (z, σ)) (Option.some.inj h).symm) rfl dX6_agrees_74
        · have h := ite_t h c4
          refine lv_iconst (v := 1) hx hb dX6_agrees_52 (by decide) ?_
          refine lv_goto (tgt := 57) hx hb dX6_agrees_53 (by decide) ?_
          refine lv_istore (lv' := [(5, .int (1 : Int32)), (4, .int y2), (0, .ref (ca E k)), (1, .ref (ca E r1)), (2, .int x2), (3, .int x3)]) hx hb dX6_agrees_57 hl (by decide) rfl (fun ls hl => ?_)
          refine lv_iload hx hb dX6_agrees_59 (lv_at hl 0 rfl) ?_
          refine lv_aload_n hx hb dX6_agrees_61 rfl (lv_at hl 2 rfl) ?_
          refine gfC_X6_11 X I hk_0 (k' := (k + 1)) rfl dX6_agrees_62 ?_
          refine lv_iload hx hb dX6_agrees_65 (lv_at hl 1 rfl) ?_
          refine lv_iconst (v := 3) hx hb dX6_agrees_67 (by decide) ?_
          refine lv_iadd hx hb dX6_agrees_68 ?_
          obtain ⟨hin, h⟩ := gd_some h
          refine ialdC X I hk_1 hin dX6_agrees_69 ?_
          refine lv_icmp_eq (tgt := 75) hx hb dX6_agrees_70 (by decide) (fun c6 => ?_) (fun c6 => ?_)
          · have h := ite_t h c6
            refine lv_iinc (v := (x3 + 1)) (lv' := [(3, .int (x3 + 1)), (5, .int (1 : Int32)), (4, .int y2), (0, .ref (ca E k)), (1, .ref (ca E r1)), (2, .int x2)]) hx hb dX6_agrees_75 hl (k := 5) rfl rfl (by decide) rfl (fun ls hl => ?_)
            refine lv_goto (tgt := 2) hx hb dX6_agrees_78 (by decide) ?_
            exact ih σ (x3 + 1) h H locs ls I (lv_sub hl [3, 4, 5, 0] rfl)
          · have h := ite_f h c6
            refine lv_iconst (v := 0) hx hb dX6_agrees_73 (by decide) ?_
            exact r_zret X I (congrArg (fun z => (z, σ)) (Option.some.inj h).symm) rfl dX6_agrees_74
set_option maxHeartbeats 4000000 in
set_option maxRecDepth 100000 in
theorem w_X6_agrees_0 {p : Program} {l : Launch} {e : Env} {s : State} {m : MethodId} {args : Array Value} {below : List Frame} {meth : Method} {c : Code} {A : Nat → Prop} {E : CE} {q : Int32} (X : CX p s m meth c args cX6_agrees 6 RX6 (some .boolean)) {k r1 : Nat} (hk_0 : KCo6 E k) (hk_1 : KCaI E (k + 1) 32) (hr1 : KCaI E r1 64) : ∀ (σ : Mem) (x2 : Int32) , m_X6_agrees k r1 σ x2 = some q → ∀ (H : Heap) (locs : List Loc) (ls : Array Slot), WI (vC E) A s H locs σ → lv_has ls 6 [(0, .ref (ca E k)), (1, .ref (ca E r1)), (2, .int x2)] → W p l e rm_X6_agrees s m args below meth c H locs 0 0 (MQ below (QI (vC E) A (q, σ)) args s 0 0 A) (F0 m 0 ls []) := by
  have hx := X.1
  have hb := X.2.1
  intro σ x2 h H locs ls I hl
  unfold m_X6_agrees at h
  refine lv_iconst (v := 0) hx hb dX6_agrees_0 (by decide) ?_
  refine lv_istore_n (lv' := [(3, .int (0 : Int32)), (0, .ref (ca E k)), (1, .ref (ca E r1)), (2, .int x2)]) hx hb dX6_agrees_1 rfl hl (by decide) rfl (fun ls hl => ?_)
  exact w_X6_agrees_2 X hk_0 hk_1 hr1  KF σ (0 : Int32) h H locs ls I (lv_sub hl [1, 2, 3, 0] rfl)
theorem c_X6_agrees {l : Launch} {E : CE} {k r1 : Nat} {σ : Mem} {x2 : Int32} (hk_0 : KCo6 E k) (hk_1 : KCaI E (k + 1) 32) (hr1 : KCaI E r1 64) {q : Int32} (h : m_X6_agrees k r1 σ x2 = some q) : CI l (vC E) yX6_agrees (.code yX6_agrees cX6_agrees 6 (some .boolean) :: GG) rm_X6_agrees [.ref (ca E k), .ref (ca E r1), .int x2] σ (q, σ) :=
  mk_CI (by decide +kernel) (Nat.le_of_ble_eq_true rfl) (fun p e s m args below meth c A ls X I hl => w_X6_agrees_0 X hk_0 hk_1 hr1 σ x2 h s.heap [] ls I (lv_sub hl [0, 1, 2] rfl))

def rm_X6_copyFrom : Room := { frames := 1, cells := 0, slots := 0, locals := 64 }
def m_X6_copyFrom (k o1 : Nat) (σ : Mem) : Option (Mem) := (gcp (0 : Int32) (0 : Int32) (32 : Int32) 32 32 (lt (mcp σ (o1 + 1) (k + 1) (0 : Int32) (0 : Int32) (32 : Int32)) fun σ1 => (lt (ms σ1 k 1 (σ1 o1 1)) fun σ2 => (some σ2))))
set_option maxHeartbeats 4000000 in
set_option maxRecDepth 100000 in
theorem w_X6_copyFrom_0 {p : Program} {l : Launch} {e : Env} {s : State} {m : MethodId} {args : Array Value} {below : List Frame} {meth : Method} {c : Code} {A : Nat → Prop} {E : CE} {q : Mem} (X : CX p s m meth c args cX6_copyFrom 2 RX6 none) {k o1 : Nat} (hk_0 : KCo6 E k) (hk_1 : KCaI E (k + 1) 32) (ho1_0 : KCo6 E o1) (ho1_1 : KCaI E (o1 + 1) 32) : ∀ (σ : Mem)  , m_X6_copyFrom k o1 σ = some q → ∀ (H : Heap) (locs : List Loc) (ls : Array Slot), WI (vC E) A s H locs σ → lv_has ls 2 [(0, .ref (ca E k)), (1, .ref (ca E o1))] → W p l e rm_X6_copyFrom s m args below meth c H locs 0 0 (MQ below (QV (vC E) A q) args s 0 0 A) (F0 m 0 ls []) := by
  have hx := X.1
  have hb := X.2.1
  intro σ  h H locs ls I hl
  unfold m_X6_copyFrom at h
  refine lv_aload_n hx hb dX6_copyFrom_0 rfl (lv_at hl 1 rfl) ?_
  refine gfC_X6_11 X I ho1_0 (k' := (o1 + 1)) rfl dX6_copyFrom_1 ?_
  refine lv_iconst (v := 0) hx hb dX6_copyFrom_4 (by decide) ?_
  refine lv_aload_n hx hb dX6_copyFrom_5 rfl (lv_at hl 0 rfl) ?_
  refine gfC_X6_11 X I hk_0 (k' := (k + 1)) rfl dX6_copyFrom_6 ?_
  refine lv_iconst (v := 0) hx hb dX6_copyFrom_9 (by decide) ?_
  refine lv_bipush (v := 32) hx hb dX6_copyFrom_10 (by decide) ?_
  obtain ⟨hcp, h⟩ := gcp_some h
  refine icpC X I hl tw_49 ho1_1 hk_1 hcp ⟨Nat.le_of_ble_eq_true rfl, Nat.le_of_ble_eq_true rfl⟩ dX6_copyFrom_12 (fun H locs I => ?_)
  obtain ⟨σ1, eσ1, h⟩ := lt_e h
  replace I := wi_nm eσ1 I
  refine lv_aload_n hx hb dX6_copyFrom_15 rfl (lv_at hl 0 rfl) ?_
  refine lv_aload_n hx hb dX6_copyFrom_16 rfl (lv_at hl 1 rfl) ?_
  refine gfC_X6_15 X I ho1_0 dX6_copyFrom_17 ?_
  refine pfC_X6_15 X I hk_0 dX6_copyFrom_20 (fun H locs I => ?_)
  obtain ⟨σ2, eσ2, h⟩ := lt_e h
  replace I := wi_nm eσ2 I
  exact r_vret X I (Option.some.inj h).symm dX6_copyFrom_23
theorem c_X6_copyFrom {l : Launch} {E : CE} {k o1 : Nat} {σ : Mem} (hk_0 : KCo6 E k) (hk_1 : KCaI E (k + 1) 32) (ho1_0 : KCo6 E o1) (ho1_1 : KCaI E (o1 + 1) 32) {q : Mem} (h : m_X6_copyFrom k o1 σ = some q) : CV l (vC E) yX6_copyFrom (.code yX6_copyFrom cX6_copyFrom 2 none :: GG) rm_X6_copyFrom [.ref (ca E k), .ref (ca E o1)] σ q :=
  mk_CV (by decide +kernel) (Nat.le_of_ble_eq_true rfl) (fun p e s m args below meth c A ls X I hl => w_X6_copyFrom_0 X hk_0 hk_1 ho1_0 ho1_1 σ  h s.heap [] ls I (lv_sub hl [0, 1] rfl))

def rm_X4_clear : Room := { frames := 1, cells := 0, slots := 0, locals := 64 }
def m_X4_clear (k : Nat) (σ : Mem) : Option (Mem) := (lt (ms σ k 2 (0 : Int32)) fun σ1 => (some σ1))
set_option maxHeartbeats 4000000 in
set_option maxRecDepth 100000 in
theorem w_X4_clear_0 {p : Program} {l : Launch} {e : Env} {s : State} {m : MethodId} {args : Array Value} {below : List Frame} {meth : Method} {c : Code} {A : Nat → Prop} {E : CE} {q : Mem} (X : CX p s m meth c args cX4_clear 1 RX4 none) {k : Nat} (hk_0 : KCo4 E k) (hk_1 : KCaI E (k + 1) 700) (hk_2 : KCaI E (k + 2) 64) : ∀ (σ : Mem)  , m_X4_clear k σ = some q → ∀ (H : Heap) (locs : List Loc) (ls : Array Slot), WI (vC E) A s H locs σ → lv_has ls 1 [(0, .ref (ca E k))] → W p l e rm_X4_clear s m args below meth c H locs 0 0 (MQ below (QV (vC E) A q) args s 0 0 A) (F0 m 0 ls []) := by
  have hx := X.1
  have hb := X.2.1
  intro σ  h H locs ls I hl
  unfold m_X4_clear at h
  refine lv_aload_n hx hb dX4_clear_0 rfl (lv_at hl 0 rfl) ?_
  refine lv_iconst (v := 0) hx hb dX4_clear_1 (by decide) ?_
  refine pfC_X4_18 X I hk_0 dX4_clear_2 (fun H locs I => ?_)
  obtain ⟨σ1, eσ1, h⟩ := lt_e h
  replace I := wi_nm eσ1 I
  exact r_vret X I (Option.some.inj h).symm dX4_clear_5
theorem c_X4_clear {l : Launch} {E : CE} {k : Nat} {σ : Mem} (hk_0 : KCo4 E k) (hk_1 : KCaI E (k + 1) 700) (hk_2 : KCaI E (k + 2) 64) {q : Mem} (h : m_X4_clear k σ = some q) : CV l (vC E) yX4_clear (.code yX4_clear cX4_clear 1 none :: GG) rm_X4_clear [.ref (ca E k)] σ q :=
  mk_CV (by decide +kernel) (Nat.le_of_ble_eq_true rfl) (fun p e s m args below meth c A ls X I hl => w_X4_clear_0 X hk_0 hk_1 hk_2 σ  h s.heap [] ls I (lv_sub hl [0] rfl))

def rm_X4_isTold : Room := { frames := 1, cells := 0, slots := 0, locals := 64 }
def m_X4_isTold (k : Nat) (σ : Mem) : Option (Int32) := (if (σ k 2) ≤ (0 : Int32) then (some (0 : Int32)) else (some (1 : Int32)))
set_option maxHeartbeats 4000000 in
set_option maxRecDepth 100000 in
theorem w_X4_isTold_0 {p : Program} {l : Launch} {e : Env} {s : State} {m : MethodId} {args : Array Value} {below : List Frame} {meth : Method} {c : Code} {A : Nat → Prop} {E : CE} {q : Int32} (X : CX p s m meth c args cX4_isTold 1 RX4 (some .boolean)) {k : Nat} (hk_0 : KCo4 E k) (hk_1 : KCaI E (k + 1) 700) (hk_2 : KCaI E (k + 2) 64) : ∀ (σ : Mem)  , m_X4_isTold k σ = some q → ∀ (H : Heap) (locs : List Loc) (ls : Array Slot), WI (vC E) A s H locs σ → lv_has ls 1 [(0, .ref (ca E k))] → W p l e rm_X4_isTold s m args below meth c H locs 0 0 (MQ below (QI (vC E) A (q, σ)) args s 0 0 A) (F0 m 0 ls []) := by
  have hx := X.1
  have hb := X.2.1
  intro σ  h H locs ls I hl
  unfold m_X4_isTold at h
  refine lv_aload_n hx hb dX4_isTold_0 rfl (lv_at hl 0 rfl) ?_
  refine gfC_X4_18 X I hk_0 dX4_isTold_1 ?_
  refine lv_if_le (tgt := 11) hx hb dX4_isTold_4 (by decide) (fun c1 => ?_) (fun c1 => ?_)
  · have h := ite_t h c1
    refine lv_iconst (v := 0) hx hb dX4_isTold_11 (by decide) ?_
    exact r_zret X I (congrArg (fun z => (z, σ)) (Option.some.inj h).symm) rfl dX4_isTold_12
  · have h := ite_f h c1
    refine lv_iconst (v := 1) hx hb dX4_isTold_7 (by decide) ?_
    refine lv_goto (tgt := 12) hx hb dX4_isTold_8 (by decide) ?_
    exact r_zret X I (congrArg (fun z => (z, σ)) (Option.some.inj h).symm) rfl dX4_isTold_12
theorem c_X4_isTold {l : Launch} {E : CE} {k : Nat} {σ : Mem} (hk_0 : KCo4 E k) (hk_1 : KCaI E (k + 1) 700) (hk_2 : KCaI E (k + 2) 64) {q : Int32} (h : m_X4_isTold k σ = some q) : CI l (vC E) yX4_isTold (.code yX4_isTold cX4_isTold 1 (some .boolean) :: GG) rm_X4_isTold [.ref (ca E k)] σ (q, σ) :=
  mk_CI (by decide +kernel) (Nat.le_of_ble_eq_true rfl) (fun p e s m args below meth c A ls X I hl => w_X4_isTold_0 X hk_0 hk_1 hk_2 σ  h s.heap [] ls I (lv_sub hl [0] rfl))

def rm_X4_add : Room := { frames := 1, cells := 0, slots := 0, locals := 64 }
def m_X4_add (k : Nat) (σ : Mem) (x1 : Int32) : Option (Mem) := (if (700 : Int32) ≤ (σ k 2) then (some σ) else (gd (σ k 2) 700 (lt (ms σ (k + 1) (Int32.toNatClampNeg (σ k 2)) (x1)) fun σ2 => (lt (ms σ2 k 2 ((σ2 k 2) + (1 : Int32))) fun σ3 => (some σ3)))))
set_option maxHeartbeats 4000000 in
set_option maxRecDepth 100000 in
theorem w_X4_add_0 {p : Program} {l : Launch} {e : Env} {s : State} {m : MethodId} {args : Array Value} {below : List Frame} {meth : Method} {c : Code} {A : Nat → Prop} {E : CE} {q : Mem} (X : CX p s m meth c args cX4_add 2 RX4 none) {k : Nat} (hk_0 : KCo4 E k) (hk_1 : KCaI E (k + 1) 700) (hk_2 : KCaI E (k + 2) 64) : ∀ (σ : Mem) (x1 : Int32) , m_X4_add k σ x1 = some q → ∀ (H : Heap) (locs : List Loc) (ls : Array Slot), WI (vC E) A s H locs σ → lv_has ls 2 [(0, .ref (ca E k)), (1, .int x1)] → W p l e rm_X4_add s m args below meth c H locs 0 0 (MQ below (QV (vC E) A q) args s 0 0 A) (F0 m 0 ls []) := by
  have hx := X.1
  have hb := X.2.1
  intro σ x1 h H locs ls I hl
  unfold m_X4_add at h
  refine lv_aload_n hx hb dX4_add_0 rfl (lv_at hl 0 rfl) ?_
  refine gfC_X4_18 X I hk_0 dX4_add_1 ?_
  refine lv_sipush (v := 700) hx hb dX4_add_4 (by decide) ?_
  refine lv_icmp_ge (tgt := 30) hx hb dX4_add_7 (by decide) (fun c1 => ?_) (fun c1 => ?_)
  · have h := ite_t h c1
    exact r_vret X I (Option.some.inj h).symm dX4_add_30
  · have h := ite_f h c1
    refine lv_aload_n hx hb dX4_add_10 rfl (lv_at hl 0 rfl) ?_
    refine gfC_X4_9 X I hk_0 (k' := (k + 1)) rfl dX4_add_11 ?_
    refine lv_aload_n hx hb dX4_add_14 rfl (lv_at hl 0 rfl) ?_
    refine gfC_X4_18 X I hk_0 dX4_add_15 ?_
    refine lv_iload_n hx hb dX4_add_18 rfl (lv_at hl 1 rfl) ?_
    obtain ⟨hin, h⟩ := gd_some h
    refine iastC X I hk_1 hin dX4_add_19 (fun H locs I => ?_)
    obtain ⟨σ2, eσ2, h⟩ := lt_e h
    replace I := wi_nm eσ2 I
    refine lv_aload_n hx hb dX4_add_20 rfl (lv_at hl 0 rfl) ?_
    refine lv_dup hx hb dX4_add_21 rfl ?_
    refine gfC_X4_18 X I hk_0 dX4_add_22 ?_
    refine lv_iconst (v := 1) hx hb dX4_add_25 (by decide) ?_
    refine lv_iadd hx hb dX4_add_26 ?_
    refine pfC_X4_18 X I hk_0 dX4_add_27 (fun H locs I => ?_)
    obtain ⟨σ3, eσ3, h⟩ := lt_e h
    replace I := wi_nm eσ3 I
    exact r_vret X I (Option.some.inj h).symm dX4_add_30
theorem c_X4_add {l : Launch} {E : CE} {k : Nat} {σ : Mem} {x1 : Int32} (hk_0 : KCo4 E k) (hk_1 : KCaI E (k + 1) 700) (hk_2 : KCaI E (k + 2) 64) {q : Mem} (h : m_X4_add k σ x1 = some q) : CV l (vC E) yX4_add (.code yX4_add cX4_add 2 none :: GG) rm_X4_add [.ref (ca E k), .int x1] σ q :=
  mk_CV (by decide +kernel) (Nat.le_of_ble_eq_true rfl) (fun p e s m args below meth c A ls X I hl => w_X4_add_0 X hk_0 hk_1 hk_2 σ x1 h s.heap [] ls I (lv_sub hl [0, 1] rfl))

def rm_X4_copyFrom : Room := { frames := 1, cells := 0, slots := 0, locals := 64 }
def m_X4_copyFrom (k o1 : Nat) (σ : Mem) : Option (Mem) := (gcp (0 : Int32) (0 : Int32) (700 : Int32) 700 700 (lt (mcp σ (o1 + 1) (k + 1) (0 : Int32) (0 : Int32) (700 : Int32)) fun σ1 => (lt (ms σ1 k 2 (σ1 o1 2)) fun σ2 => (some σ2))))
set_option maxHeartbeats 4000000 in
set_option maxRecDepth 100000 in
theorem w_X4_copyFrom_0 {p : Program} {l : Launch} {e : Env} {s : State} {m : MethodId} {args : Array Value} {below : List Frame} {meth : Method} {c : Code} {A : Nat → Prop} {E : CE} {q : Mem} (X : CX p s m meth c args cX4_copyFrom 2 RX4 none) {k o1 : Nat} (hk_0 : KCo4 E k) (hk_1 : KCaI E (k + 1) 700) (hk_2 : KCaI E (k + 2) 64) (ho1_0 : KCo4 E o1) (ho1_1 : KCaI E (o1 + 1) 700) (ho1_2 : KCaI E (o1 + 2) 64) : ∀ (σ : Mem)  , m_X4_copyFrom k o1 σ = some q → ∀ (H : Heap) (locs : List Loc) (ls : Array Slot), WI (vC E) A s H locs σ → lv_has ls 2 [(0, .ref (ca E k)), (1, .ref (ca E o1))] → W p l e rm_X4_copyFrom s m args below meth c H locs 0 0 (MQ below (QV (vC E) A q) args s 0 0 A) (F0 m 0 ls []) := by
  have hx := X.1
  have hb := X.2.1
  intro σ  h H locs ls I hl
  unfold m_X4_copyFrom at h
  refine lv_aload_n hx hb dX4_copyFrom_0 rfl (lv_at hl 1 rfl) ?_
  refine gfC_X4_9 X I ho1_0 (k' := (o1 + 1)) rfl dX4_copyFrom_1 ?_
  refine lv_iconst (v := 0) hx hb dX4_copyFrom_4 (by decide) ?_
  refine lv_aload_n hx hb dX4_copyFrom_5 rfl (lv_at hl 0 rfl) ?_
  refine gfC_X4_9 X I hk_0 (k' := (k + 1)) rfl dX4_copyFrom_6 ?_
  refine lv_iconst (v := 0) hx hb dX4_copyFrom_9 (by decide) ?_
  refine lv_sipush (v := 700) hx hb dX4_copyFrom_10 (by decide) ?_
  obtain ⟨hcp, h⟩ := gcp_some h
  refine icpC X I hl tw_40 ho1_1 hk_1 hcp ⟨Nat.le_of_ble_eq_true rfl, Nat.le_of_ble_eq_true rfl⟩ dX4_copyFrom_13 (fun H locs I => ?_)
  obtain ⟨σ1, eσ1, h⟩ := lt_e h
  replace I := wi_nm eσ1 I
  refine lv_aload_n hx hb dX4_copyFrom_16 rfl (lv_at hl 0 rfl) ?_
  refine lv_aload_n hx hb dX4_copyFrom_17 rfl (lv_at hl 1 rfl) ?_
  refine gfC_X4_18 X I ho1_0 dX4_copyFrom_18 ?_
  refine pfC_X4_18 X I hk_0 dX4_copyFrom_21 (fun H locs I => ?_)
  obtain ⟨σ2, eσ2, h⟩ := lt_e h
  replace I := wi_nm eσ2 I
  exact r_vret X I (Option.some.inj h).symm dX4_copyFrom_24
theorem c_X4_copyFrom {l : Launch} {E : CE} {k o1 : Nat} {σ : Mem} (hk_0 : KCo4 E k) (hk_1 : KCaI E (k + 1) 700) (hk_2 : KCaI E (k + 2) 64) (ho1_0 : KCo4 E o1) (ho1_1 : KCaI E (o1 + 1) 700) (ho1_2 : KCaI E (o1 + 2) 64) {q : Mem} (h : m_X4_copyFrom k o1 σ = some q) : CV l (vC E) yX4_copyFrom (.code yX4_copyFrom cX4_copyFrom 2 none :: GG) rm_X4_copyFrom [.ref (ca E k), .ref (ca E o1)] σ q :=
  mk_CV (by decide +kernel) (Nat.le_of_ble_eq_true rfl) (fun p e s m args below meth c A ls X I hl => w_X4_copyFrom_0 X hk_0 hk_1 hk_2 ho1_0 ho1_1 ho1_2 σ  h s.heap [] ls I (lv_sub hl [0, 1] rfl))

def rm_X4_join : Room := { frames := 1, cells := 0, slots := 0, locals := 64 }
def m_X4_join (σ : Mem) (x0 : Int32) (x1 : Int32) (x2 : Int32) : Option (Int32) := (if x0 = (-29 : Int32) then (if x2 = (0 : Int32) then (some (0 : Int32)) else (gnz x2 (some (x1 / x2)))) else (if x0 = (-28 : Int32) then (some (x1 * x2)) else (if x0 = (-27 : Int32) then (some (x1 - x2)) else (if x0 = (-26 : Int32) then (some (x1 + x2)) else (if x0 = (-25 : Int32) then (if x1 = x2 then (some (1 : Int32)) else (some (0 : Int32))) else (if x0 = (-24 : Int32) then (if x2 ≤ x1 then (some (0 : Int32)) else (some (1 : Int32))) else (if x0 = (-22 : Int32) then (if x1 = (0 : Int32) then (some (0 : Int32)) else (if x2 = (0 : Int32) then (some (0 : Int32)) else (some (1 : Int32)))) else (if x0 = (-21 : Int32) then (if x1 = (0 : Int32) then (if x2 = (0 : Int32) then (some (0 : Int32)) else (some (1 : Int32))) else (some (1 : Int32))) else (some (0 : Int32))))))))))
set_option maxHeartbeats 4000000 in
set_option maxRecDepth 100000 in
theorem w_X4_join_0 {p : Program} {l : Launch} {e : Env} {s : State} {m : MethodId} {args : Array Value} {below : List Frame} {meth : Method} {c : Code} {A : Nat → Prop} {E : CE} {q : Int32} (X : CX p s m meth c args cX4_join 3 RX4 (some .int)) : ∀ (σ : Mem) (x0 : Int32) (x1 : Int32) (x2 : Int32) , m_X4_join σ x0 x1 x2 = some q → ∀ (H : Heap) (locs : List Loc) (ls : Array Slot), WI (vC E) A s H locs σ → lv_has ls 3 [(0, .int x0), (1, .int x1), (2, .int x2)] → W p l e rm_X4_join s m args below meth c H locs 0 0 (MQ below (QI (vC E) A (q, σ)) args s 0 0 A) (F0 m 0 ls []) := by
  have hx := X.1
  have hb := X.2.1
  intro σ x0 x1 x2 h H locs ls I hl
  unfold m_X4_join at h
  refine lv_iload_n hx hb dX4_join_0 rfl (lv_at hl 0 rfl) ?_
  by_cases c1 : x0 = (-29 : Int32)
  · have h := ite_t h c1
    have ht : Int32.toInt x0 = -29 := by rw [c1]; rfl
    refine lv_tableIn (off := 113) (tgt := 114) hx hb dX4_join_1 (by rw [ht]; decide) (by rw [ht]; decide) (by rw [ht]; rfl) (by decide) ?_
    refine lv_iload_n hx hb dX4_join_114 rfl (lv_at hl 2 rfl) ?_
    refine lv_if_ne (tgt := 122) hx hb dX4_join_115 (by decide) (fun c2 => ?_) (fun c2 => ?_)
    · have h := ite_f h c2
      refine lv_iload_n hx hb dX4_join_122 rfl (lv_at hl 1 rfl) ?_
      refine lv_iload_n hx hb dX4_join_123 rfl (lv_at hl 2 rfl) ?_
      obtain ⟨hnz, h⟩ := gnz_some h
      refine lv_idiv hx hb dX4_join_124 hnz ?_
      exact r_iret X I (congrArg (fun z => (z, σ)) (Option.some.inj h).symm) dX4_join_125
    · have h := ite_t h c2
      refine lv_iconst (v := 0) hx hb dX4_join_118 (by decide) ?_
      refine lv_goto (tgt := 125) hx hb dX4_join_119 (by decide) ?_
      exact r_iret X I (congrArg (fun z => (z, σ)) (Option.some.inj h).symm) dX4_join_125
  replace h := ite_f h c1
  by_cases c3 : x0 = (-28 : Int32)
  · have h := ite_t h c3
    have ht : Int32.toInt x0 = -28 := by rw [c3]; rfl
    refine lv_tableIn (off := 109) (tgt := 110) hx hb dX4_join_1 (by rw [ht]; decide) (by rw [ht]; decide) (by rw [ht]; rfl) (by decide) ?_
    refine lv_iload_n hx hb dX4_join_110 rfl (lv_at hl 1 rfl) ?_
    refine lv_iload_n hx hb dX4_join_111 rfl (lv_at hl 2 rfl) ?_
    refine lv_imul hx hb dX4_join_112 ?_
    exact r_iret X I (congrArg (fun z => (z, σ)) (Option.some.inj h).symm) dX4_join_113
  replace h := ite_f h c3
  by_cases c4 : x0 = (-27 : Int32)
  · have h := ite_t h c4
    have ht : Int32.toInt x0 = -27 := by rw [c4]; rfl
    refine lv_tableIn (off := 105) (tgt := 106) hx hb dX4_join_1 (by rw [ht]; decide) (by rw [ht]; decide) (by rw [ht]; rfl) (by decide) ?_
    refine lv_iload_n hx hb dX4_join_106 rfl (lv_at hl 1 rfl) ?_
    refine lv_iload_n hx hb dX4_join_107 rfl (lv_at hl 2 rfl) ?_
    refine lv_isub hx hb dX4_join_108 ?_
    exact r_iret X I (congrArg (fun z => (z, σ)) (Option.some.inj h).symm) dX4_join_109
  replace h := ite_f h c4
  by_cases c5 : x0 = (-26 : Int32)
  · have h := ite_t h c5
    have ht : Int32.toInt x0 = -26 := by rw [c5]; rfl
    refine lv_tableIn (off := 101) (tgt := 102) hx hb dX4_join_1 (by rw [ht]; decide) (by rw [ht]; decide) (by rw [ht]; rfl) (by decide) ?_
    refine lv_iload_n hx hb dX4_join_102 rfl (lv_at hl 1 rfl) ?_
    refine lv_iload_n hx hb dX4_join_103 rfl (lv_at hl 2 rfl) ?_
    refine lv_iadd hx hb dX4_join_104 ?_
    exact r_iret X I (congrArg (fun z => (z, σ)) (Option.some.inj h).symm) dX4_join_105
  replace h := ite_f h c5
  by_cases c6 : x0 = (-25 : Int32)
  · have h := ite_t h c6
    have ht : Int32.toInt x0 = -25 := by rw [c6]; rfl
    refine lv_tableIn (off := 90) (tgt := 91) hx hb dX4_join_1 (by rw [ht]; decide) (by rw [ht]; decide) (by rw [ht]; rfl) (by decide) ?_
    refine lv_iload_n hx hb dX4_join_91 rfl (lv_at hl 1 rfl) ?_
    refine lv_iload_n hx hb dX4_join_92 rfl (lv_at hl 2 rfl) ?_
    refine lv_icmp_ne (tgt := 100) hx hb dX4_join_93 (by decide) (fun c7 => ?_) (fun c7 => ?_)
    · have h := ite_f h c7
      refine lv_iconst (v := 0) hx hb dX4_join_100 (by decide) ?_
      exact r_iret X I (congrArg (fun z => (z, σ)) (Option.some.inj h).symm) dX4_join_101
    · have h := ite_t h c7
      refine lv_iconst (v := 1) hx hb dX4_join_96 (by decide) ?_
      refine lv_goto (tgt := 101) hx hb dX4_join_97 (by decide) ?_
      exact r_iret X I (congrArg (fun z => (z, σ)) (Option.some.inj h).symm) dX4_join_101
  replace h := ite_f h c6
  by_cases c8 : x0 = (-24 : Int32)
  · have h := ite_t h c8
    have ht : Int32.toInt x0 = -24 := by rw [c8]; rfl
    refine lv_tableIn (off := 79) (tgt := 80) hx hb dX4_join_1 (by rw [ht]; decide) (by rw [ht]; decide) (by rw [ht]; rfl) (by decide) ?_
    refine lv_iload_n hx hb dX4_join_80 rfl (lv_at hl 1 rfl) ?_
    refine lv_iload_n hx hb dX4_join_81 rfl (lv_at hl 2 rfl) ?_
    refine lv_icmp_ge (tgt := 89) hx hb dX4_join_82 (by decide) (fun c9 => ?_) (fun c9 => ?_)
    · have h := ite_t h c9
      refine lv_iconst (v := 0) hx hb dX4_join_89 (by decide) ?_
      exact r_iret X I (congrArg (fun z => (z, σ)) (Option.some.inj h).symm) dX4_join_90
    · have h := ite_f h c9
      refine lv_iconst (v := 1) hx hb dX4_join_85 (by decide) ?_
      refine lv_goto (tgt := 90) hx hb dX4_join_86 (by decide) ?_
      exact r_iret X I (congrArg (fun z => (z, σ)) (Option.some.inj h).symm) dX4_join_90
  replace h := ite_f h c8
  by_cases c10 : x0 = (-22 : Int32)
  · have h := ite_t h c10
    have ht : Int32.toInt x0 = -22 := by rw [c10]; rfl
    refine lv_tableIn (off := 65) (tgt := 66) hx hb dX4_join_1 (by rw [ht]; decide) (by rw [ht]; decide) (by rw [ht]; rfl) (by decide) ?_
    refine lv_iload_n hx hb dX4_join_66 rfl (lv_at hl 1 rfl) ?_
    refine lv_if_eq (tgt := 78) hx hb dX4_join_67 (by decide) (fun c11 => ?_) (fun c11 => ?_)
    · have h := ite_t h c11
      refine lv_iconst (v := 0) hx hb dX4_join_78 (by decide) ?_
      exact r_iret X I (congrArg (fun z => (z, σ)) (Option.some.inj h).symm) dX4_join_79
    · have h := ite_f h c11
      refine lv_iload_n hx hb dX4_join_70 rfl (lv_at hl 2 rfl) ?_
      refine lv_if_eq (tgt := 78) hx hb dX4_join_71 (by decide) (fun c12 => ?_) (fun c12 => ?_)
      · have h := ite_t h c12
        refine lv_iconst (v := 0) hx hb dX4_join_78 (by decide) ?_
        exact r_iret X I (congrArg (fun z => (z, σ)) (Option.some.inj h).symm) dX4_join_79
      · have h := ite_f h c12
        refine lv_iconst (v := 1) hx hb dX4_join_74 (by decide) ?_
        refine lv_goto (tgt := 79) hx hb dX4_join_75 (by decide) ?_
        exact r_iret X I (congrArg (fun z => (z, σ)) (Option.some.inj h).symm) dX4_join_79
  replace h := ite_f h c10
  by_cases c13 : x0 = (-21 : Int32)
  · have h := ite_t h c13
    have ht : Int32.toInt x0 = -21 := by rw [c13]; rfl
    refine lv_tableIn (off := 51) (tgt := 52) hx hb dX4_join_1 (by rw [ht]; decide) (by rw [ht]; decide) (by rw [ht]; rfl) (by decide) ?_
    refine lv_iload_n hx hb dX4_join_52 rfl (lv_at hl 1 rfl) ?_
    refine lv_if_ne (tgt := 60) hx hb dX4_join_53 (by decide) (fun c14 => ?_) (fun c14 => ?_)
    · have h := ite_f h c14
      refine lv_iconst (v := 1) hx hb dX4_join_60 (by decide) ?_
      refine lv_goto (tgt := 65) hx hb dX4_join_61 (by decide) ?_
      exact r_iret X I (congrArg (fun z => (z, σ)) (Option.some.inj h).symm) dX4_join_65
    · have h := ite_t h c14
      refine lv_iload_n hx hb dX4_join_56 rfl (lv_at hl 2 rfl) ?_
      refine lv_if_eq (tgt := 64) hx hb dX4_join_57 (by decide) (fun c15 => ?_) (fun c15 => ?_)
      · have h := ite_t h c15
        refine lv_iconst (v := 0) hx hb dX4_join_64 (by decide) ?_
        exact r_iret X I (congrArg (fun z => (z, σ)) (Option.some.inj h).symm) dX4_join_65
      · have h := ite_f h c15
        refine lv_iconst (v := 1) hx hb dX4_join_60 (by decide) ?_
        refine lv_goto (tgt := 65) hx hb dX4_join_61 (by decide) ?_
        exact r_iret X I (congrArg (fun z => (z, σ)) (Option.some.inj h).symm) dX4_join_65
  replace h := ite_f h c13
  have kd : W p l e rm_X4_join s m args below meth c H locs 0 0 (MQ below (QI (vC E) A (q, σ)) args s 0 0 A) (F0 m 126 ls []) := by
    refine lv_iconst (v := 0) hx hb dX4_join_126 (by decide) ?_
    exact r_iret X I (congrArg (fun z => (z, σ)) (Option.some.inj h).symm) dX4_join_127
  by_cases c16 : Int32.toInt x0 = -23
  · exact lv_tableIn (off := 125) (tgt := 126) hx hb dX4_join_1 (by rw [c16]; decide) (by rw [c16]; decide) (by rw [c16]; rfl) (by decide) kd
  have tc1 := lv_neT (a := -29) c1 (by decide)
  have tc3 := lv_neT (a := -28) c3 (by decide)
  have tc4 := lv_neT (a := -27) c4 (by decide)
  have tc5 := lv_neT (a := -26) c5 (by decide)
  have tc6 := lv_neT (a := -25) c6 (by decide)
  have tc8 := lv_neT (a := -24) c8 (by decide)
  have tc10 := lv_neT (a := -22) c10 (by decide)
  have tc13 := lv_neT (a := -21) c13 (by decide)
  exact lv_tableOut (tgt := 126) hx hb dX4_join_1 (by omega) (by decide) kd
theorem c_X4_join {l : Launch} {E : CE} {σ : Mem} {x0 : Int32} {x1 : Int32} {x2 : Int32} {q : Int32} (h : m_X4_join σ x0 x1 x2 = some q) : CI l (vC E) yX4_join (.code yX4_join cX4_join 3 (some .int) :: GG) rm_X4_join [.int x0, .int x1, .int x2] σ (q, σ) :=
  mk_CI (by decide +kernel) (Nat.le_of_ble_eq_true rfl) (fun p e s m args below meth c A ls X I hl => w_X4_join_0 X  σ x0 x1 x2 h s.heap [] ls I (lv_sub hl [0, 1, 2] rfl))

def rm_X4_value : Room := { frames := 2, cells := 0, slots := 0, locals := 86 }
def f_X4_value_4 (k r1 : Nat) : Nat → Mem → Int32 → Int32 → Option (Int32 × Mem)
  | 0, _, _, _ => none
  | n + 1, σ, x2, x3 => (if (σ k 2) ≤ x3 then (gd (0 : Int32) 64 (some ((σ (k + 2) (Int32.toNatClampNeg (0 : Int32))), σ))) else (gd x3 700 (lt (σ (k + 1) (Int32.toNatClampNeg x3)) fun y2 => (if y2 < (-10 : Int32) then (if y2 = (-23 : Int32) then (if x2 < (1 : Int32) then f_X4_value_4 k r1 n σ x2 (x3 + 1) else (gd (x2 - (1 : Int32)) 64 (if (σ (k + 2) (Int32.toNatClampNeg (x2 - (1 : Int32)))) = (0 : Int32) then (gd (x2 - (1 : Int32)) 64 (lt (ms σ (k + 2) (Int32.toNatClampNeg (x2 - (1 : Int32))) ((1 : Int32))) fun σ11 => f_X4_value_4 k r1 n σ11 x2 (x3 + 1))) else (gd (x2 - (1 : Int32)) 64 (lt (ms σ (k + 2) (Int32.toNatClampNeg (x2 - (1 : Int32))) ((0 : Int32))) fun σ10 => f_X4_value_4 k r1 n σ10 x2 (x3 + 1)))))) else (if x2 < (2 : Int32) then f_X4_value_4 k r1 n σ x2 (x3 + 1) else (gd ((x2 + (-1)) - (1 : Int32)) 64 (gd (x2 + (-1)) 64 ((m_X4_join σ y2 (σ (k + 2) (Int32.toNatClampNeg ((x2 + (-1)) - (1 : Int32)))) (σ (k + 2) (Int32.toNatClampNeg (x2 + (-1))))).bind fun q6 => (gd ((x2 + (-1)) - (1 : Int32)) 64 (lt (ms σ (k + 2) (Int32.toNatClampNeg ((x2 + (-1)) - (1 : Int32))) (q6)) fun σ7 => f_X4_value_4 k r1 n σ7 (x2 + (-1)) (x3 + 1)))))))) else (if (64 : Int32) ≤ x2 then f_X4_value_4 k r1 n σ x2 (x3 + 1) else (if y2 < (0 : Int32) then (gd ((-1 : Int32) - y2) 10 (gd x2 64 (lt (ms σ (k + 2) (Int32.toNatClampNeg x2) ((σ r1 (Int32.toNatClampNeg ((-1 : Int32) - y2))))) fun σ14 => f_X4_value_4 k r1 n σ14 (x2 + 1) (x3 + 1)))) else (gd x2 64 (lt (ms σ (k + 2) (Int32.toNatClampNeg x2) (y2)) fun σ15 => f_X4_value_4 k r1 n σ15 (x2 + 1) (x3 + 1)))))))))
def m_X4_value (k r1 : Nat) (σ : Mem) : Option (Int32 × Mem) := (f_X4_value_4 k r1 KF σ (0 : Int32) (0 : Int32))
set_option maxHeartbeats 4000000 in
set_option maxRecDepth 100000 in
theorem w_X4_value_4 {p : Program} {l : Launch} {e : Env} {s : State} {m : MethodId} {args : Array Value} {below : List Frame} {meth : Method} {c : Code} {A : Nat → Prop} {E : CE} {q : Int32 × Mem} (X : CX p s m meth c args cX4_value 5 RX4 (some .int)) {k r1 : Nat} (hk_0 : KCo4 E k) (hk_1 : KCaI E (k + 1) 700) (hk_2 : KCaI E (k + 2) 64) (hr1 : KCaI E r1 10) : ∀ (n : Nat), ∀ (σ : Mem) (x2 : Int32) (x3 : Int32) , f_X4_value_4 k r1 n σ x2 x3 = some q → ∀ (H : Heap) (locs : List Loc) (ls : Array Slot), WI (vC E) A s H locs σ → lv_has ls 5 [(0, .ref (ca E k)), (1, .ref (ca E r1)), (2, .int x2), (3, .int x3)] → W p l e rm_X4_value s m args below meth c H locs 0 0 (MQ below (QI (vC E) A q) args s 0 0 A) (F0 m 4 ls []) := by
  have hx := X.1
  have hb := X.2.1
  intro n
  induction n with
  | zero =>
    intro σ x2 x3 h
    cases h
  | succ n ih =>
    intro σ x2 x3 h H locs ls I hl
    rw [f_X4_value_4] at h
    refine lv_iload_n hx hb dX4_value_4 rfl (lv_at hl 3 rfl) ?_
    refine lv_aload_n hx hb dX4_value_5 rfl (lv_at hl 0 rfl) ?_
    refine gfC_X4_18 X I hk_0 dX4_value_6 ?_
    refine lv_icmp_ge (tgt := 141) hx hb dX4_value_9 (by decide) (fun c1 => ?_) (fun c1 => ?_)
    · have h := ite_t h c1
      refine lv_aload_n hx hb dX4_value_141 rfl (lv_at hl 0 rfl) ?_
      refine gfC_X4_15 X I hk_0 (k' := (k + 2)) rfl dX4_value_142 ?_
      refine lv_iconst (v := 0) hx hb dX4_value_145 (by decide) ?_
      obtain ⟨hin, h⟩ := gd_some h
      refine ialdC X I hk_2 hin dX4_value_146 ?_
      exact r_iret X I (Option.some.inj h).symm dX4_value_147
    · have h := ite_f h c1
      refine lv_aload_n hx hb dX4_value_12 rfl (lv_at hl 0 rfl) ?_
      refine gfC_X4_9 X I hk_0 (k' := (k + 1)) rfl dX4_value_13 ?_
      refine lv_iload_n hx hb dX4_value_16 rfl (lv_at hl 3 rfl) ?_
      obtain ⟨hin, h⟩ := gd_some h
      refine ialdC X I hk_1 hin dX4_value_17 ?_
      obtain ⟨y2, ey2, h⟩ := lt_e h
      refine nm_i ey2 ?_
      refine lv_istore (lv' := [(4, .int y2), (0, .ref (ca E k)), (1, .ref (ca E r1)), (2, .int x2), (3, .int x3)]) hx hb dX4_value_18 hl (by decide) rfl (fun ls hl => ?_)
      refine lv_iload hx hb dX4_value_20 (lv_at hl 0 rfl) ?_
      refine lv_bipush (v := -10) hx hb dX4_value_22 (by decide) ?_
      refine lv_icmp_lt (tgt := 61) hx hb dX4_value_24 (by decide) (fun c3 => ?_) (fun c3 => ?_)
      · have h := ite_t h c3
        refine lv_iload hx hb dX4_value_61 (lv_at hl 0 rfl) ?_
        refine lv_bipush (v := -23) hx hb dX4_value_63 (by decide) ?_
        refine lv_icmp_ne (tgt := 100) hx hb dX4_value_65 (by decide) (fun c4 => ?_) (fun c4 => ?_)
        · have h := ite_f h c4
          refine lv_iload_n hx hb dX4_value_100 rfl (lv_at hl 3 rfl) ?_
          refine lv_iconst (v := 2) hx hb dX4_value_101 (by decide) ?_
          refine lv_icmp_lt (tgt := 135) hx hb dX4_value_102 (by decide) (fun c5 => ?_) (fun c5 => ?_)
          · have h := ite_t h c5
            refine lv_iinc (v := (x3 + 1)) (lv' := [(3, .int (x3 + 1)), (4, .int y2), (0, .ref (ca E k)), (1, .ref (ca E r1)), (2, .int x2)]) hx hb dX4_value_135 hl (k := 4) rfl rfl (by decide) rfl (fun ls hl => ?_)
            refine lv_goto (tgt := 4) hx hb dX4_value_138 (by decide) ?_
            exact ih σ x2 (x3 + 1) h H locs ls I (lv_sub hl [2, 3, 4, 0] rfl)
          · have h := ite_f h c5
            refine lv_iinc (v := (x2 + (-1))) (lv' := [(2, .int (x2 + (-1))), (4, .int y2), (0, .ref (ca E k)), (1, .ref (ca E r1)), (3, .int x3)]) hx hb dX4_value_105 hl (k := 3) rfl rfl (by decide) rfl (fun ls hl => ?_)
            refine lv_aload_n hx hb dX4_value_108 rfl (lv_at hl 2 rfl) ?_
            refine gfC_X4_15 X I hk_0 (k' := (k + 2)) rfl dX4_value_109 ?_
            refine lv_iload_n hx hb dX4_value_112 rfl (lv_at hl 0 rfl) ?_
            refine lv_iconst (v := 1) hx hb dX4_value_113 (by decide) ?_
            refine lv_isub hx hb dX4_value_114 ?_
            refine lv_iload hx hb dX4_value_115 (lv_at hl 1 rfl) ?_
            refine lv_aload_n hx hb dX4_value_117 rfl (lv_at hl 2 rfl) ?_
            refine gfC_X4_15 X I hk_0 (k' := (k + 2)) rfl dX4_value_118 ?_
            refine lv_iload_n hx hb dX4_value_121 rfl (lv_at hl 0 rfl) ?_
            refine lv_iconst (v := 1) hx hb dX4_value_122 (by decide) ?_
            refine lv_isub hx hb dX4_value_123 ?_
            obtain ⟨hin, h⟩ := gd_some h
            refine ialdC X I hk_2 hin dX4_value_124 ?_
            refine lv_aload_n hx hb dX4_value_125 rfl (lv_at hl 2 rfl) ?_
            refine gfC_X4_15 X I hk_0 (k' := (k + 2)) rfl dX4_value_126 ?_
            refine lv_iload_n hx hb dX4_value_129 rfl (lv_at hl 0 rfl) ?_
            obtain ⟨hin, h⟩ := gd_some h
            refine ialdC X I hk_2 hin dX4_value_130 ?_
            obtain ⟨q6, hq6, h⟩ := bd h
            refine r_callSI (V := (vC E)) (As := [.int y2, .int (σ (k + 2) (Int32.toNatClampNeg ((x2 + (-1)) - (1 : Int32)))), .int (σ (k + 2) (Int32.toNatClampNeg (x2 + (-1))))]) (rest := [.int ((x2 + (-1)) - (1 : Int32)), .ref (ca E (k + 2))]) X I hl (c_X4_join  hq6) ys_X4_join tw_42 ⟨rfl, rfl, Nat.le_of_ble_eq_true rfl, Nat.le_of_ble_eq_true rfl⟩ rfl rfl (Nat.le_of_ble_eq_true rfl) dX4_value_131 (fun H locs I => ?_)
            obtain ⟨hin, h⟩ := gd_some h
            refine iastC X I hk_2 hin dX4_value_134 (fun H locs I => ?_)
            obtain ⟨σ7, eσ7, h⟩ := lt_e h
            replace I := wi_nm eσ7 I
            refine lv_iinc (v := (x3 + 1)) (lv' := [(3, .int (x3 + 1)), (2, .int (x2 + (-1))), (4, .int y2), (0, .ref (ca E k)), (1, .ref (ca E r1))]) hx hb dX4_value_135 hl (k := 4) rfl rfl (by decide) rfl (fun ls hl => ?_)
            refine lv_goto (tgt := 4) hx hb dX4_value_138 (by decide) ?_
            exact ih σ7 (x2 + (-1)) (x3 + 1) h H locs ls I (lv_sub hl [3, 4, 1, 0] rfl)
        · have h := ite_t h c4
          refine lv_iload_n hx hb dX4_value_68 rfl (lv_at hl 3 rfl) ?_
          refine lv_iconst (v := 1) hx hb dX4_value_69 (by decide) ?_
          refine lv_icmp_lt (tgt := 135) hx hb dX4_value_70 (by decide) (fun c8 => ?_) (fun c8 => ?_)
          · have h := ite_t h c8
            refine lv_iinc (v := (x3 + 1)) (lv' := [(3, .int (x3 + 1)), (4, .int y2), (0, .ref (ca E k)), (1, .ref (ca E r1)), (2, .int x2)]) hx hb dX4_value_135 hl (k := 4) rfl rfl (by decide) rfl (fun ls hl => ?_)
            refine lv_goto (tgt := 4) hx hb dX4_value_138 (by decide) ?_
            exact ih σ x2 (x3 + 1) h H locs ls I (lv_sub hl [2, 3, 4, 0] rfl)
          · have h := ite_f h c8
            refine lv_aload_n hx hb dX4_value_73 rfl (lv_at hl 1 rfl) ?_
            refine gfC_X4_15 X I hk_0 (k' := (k + 2)) rfl dX4_value_74 ?_
            refine lv_iload_n hx hb dX4_value_77 rfl (lv_at hl 3 rfl) ?_
            refine lv_iconst (v := 1) hx hb dX4_value_78 (by decide) ?_
            refine lv_isub hx hb dX4_value_79 ?_
            refine lv_aload_n hx hb dX4_value_80 rfl (lv_at hl 1 rfl) ?_
            refine gfC_X4_15 X I hk_0 (k' := (k + 2)) rfl dX4_value_81 ?_
            refine lv_iload_n hx hb dX4_value_84 rfl (lv_at hl 3 rfl) ?_
            refine lv_iconst (v := 1) hx hb dX4_value_85 (by decide) ?_
            refine lv_isub hx hb dX4_value_86 ?_
            obtain ⟨hin, h⟩ := gd_some h
            refine ialdC X I hk_2 hin dX4_value_87 ?_
            refine lv_if_ne (tgt := 95) hx hb dX4_value_88 (by decide) (fun c9 => ?_) (fun c9 => ?_)
            · have h := ite_f h c9
              refine lv_iconst (v := 0) hx hb dX4_value_95 (by decide) ?_
              obtain ⟨hin, h⟩ := gd_some h
              refine iastC X I hk_2 hin dX4_value_96 (fun H locs I => ?_)
              obtain ⟨σ10, eσ10, h⟩ := lt_e h
              replace I := wi_nm eσ10 I
              refine lv_goto (tgt := 135) hx hb dX4_value_97 (by decide) ?_
              refine lv_iinc (v := (x3 + 1)) (lv' := [(3, .int (x3 + 1)), (4, .int y2), (0, .ref (ca E k)), (1, .ref (ca E r1)), (2, .int x2)]) hx hb dX4_value_135 hl (k := 4) rfl rfl (by decide) rfl (fun ls hl => ?_)
              refine lv_goto (tgt := 4) hx hb dX4_value_138 (by decide) ?_
              exact ih σ10 x2 (x3 + 1) h H locs ls I (lv_sub hl [2, 3, 4, 0] rfl)
            · have h := ite_t h c9
              refine lv_iconst (v := 1) hx hb dX4_value_91 (by decide) ?_
              refine lv_goto (tgt := 96) hx hb dX4_value_92 (by decide) ?_
              obtain ⟨hin, h⟩ := gd_some h
              refine iastC X I hk_2 hin dX4_value_96 (fun H locs I => ?_)
              obtain ⟨σ11, eσ11, h⟩ := lt_e h
              replace I := wi_nm eσ11 I
              refine lv_goto (tgt := 135) hx hb dX4_value_97 (by decide) ?_
              refine lv_iinc (v := (x3 + 1)) (lv' := [(3, .int (x3 + 1)), (4, .int y2), (0, .ref (ca E k)), (1, .ref (ca E r1)), (2, .int x2)]) hx hb dX4_value_135 hl (k := 4) rfl rfl (by decide) rfl (fun ls hl => ?_)
              refine lv_goto (tgt := 4) hx hb dX4_value_138 (by decide) ?_
              exact ih σ11 x2 (x3 + 1) h H locs ls I (lv_sub hl [2, 3, 4, 0] rfl)
      · have h := ite_f h c3
        refine lv_iload_n hx hb dX4_value_27 rfl (lv_at hl 3 rfl) ?_
        refine lv_bipush (v := 64) hx hb dX4_value_28 (by decide) ?_
        refine lv_icmp_ge (tgt := 135) hx hb dX4_value_30 (by decide) (fun c12 => ?_) (fun c12 => ?_)
        · have h := ite_t h c12
          refine lv_iinc (v := (x3 + 1)) (lv' := [(3, .int (x3 + 1)), (4, .int y2), (0, .ref (ca E k)), (1, .ref (ca E r1)), (2, .int x2)]) hx hb dX4_value_135 hl (k := 4) rfl rfl (by decide) rfl (fun ls hl => ?_)
          refine lv_goto (tgt := 4) hx hb dX4_value_138 (by decide) ?_
          exact ih σ x2 (x3 + 1) h H locs ls I (lv_sub hl [2, 3, 4, 0] rfl)
        · have h := ite_f h c12
          refine lv_aload_n hx hb dX4_value_33 rfl (lv_at hl 1 rfl) ?_
          refine gfC_X4_15 X I hk_0 (k' := (k + 2)) rfl dX4_value_34 ?_
          refine lv_iload_n hx hb dX4_value_37 rfl (lv_at hl 3 rfl) ?_
          refine lv_iload hx hb dX4_value_38 (lv_at hl 0 rfl) ?_
          refine lv_if_lt (tgt := 48) hx hb dX4_value_40 (by decide) (fun c13 => ?_) (fun c13 => ?_)
          · have h := ite_t h c13
            refine lv_aload_n hx hb dX4_value_48 rfl (lv_at hl 2 rfl) ?_
            refine lv_iconst (v := -1) hx hb dX4_value_49 (by decide) ?_
            refine lv_iload hx hb dX4_value_50 (lv_at hl 0 rfl) ?_
            refine lv_isub hx hb dX4_value_52 ?_
            obtain ⟨hin, h⟩ := gd_some h
            refine ialdC X I hr1 hin dX4_value_53 ?_
            obtain ⟨hin, h⟩ := gd_some h
            refine iastC X I hk_2 hin dX4_value_54 (fun H locs I => ?_)
            obtain ⟨σ14, eσ14, h⟩ := lt_e h
            replace I := wi_nm eσ14 I
            refine lv_iinc (v := (x2 + 1)) (lv' := [(2, .int (x2 + 1)), (4, .int y2), (0, .ref (ca E k)), (1, .ref (ca E r1)), (3, .int x3)]) hx hb dX4_value_55 hl (k := 3) rfl rfl (by decide) rfl (fun ls hl => ?_)
            refine lv_goto (tgt := 135) hx hb dX4_value_58 (by decide) ?_
            refine lv_iinc (v := (x3 + 1)) (lv' := [(3, .int (x3 + 1)), (2, .int (x2 + 1)), (4, .int y2), (0, .ref (ca E k)), (1, .ref (ca E r1))]) hx hb dX4_value_135 hl (k := 4) rfl rfl (by decide) rfl (fun ls hl => ?_)
            refine lv_goto (tgt := 4) hx hb dX4_value_138 (by decide) ?_
            exact ih σ14 (x2 + 1) (x3 + 1) h H locs ls I (lv_sub hl [3, 4, 1, 0] rfl)
          · have h := ite_f h c13
            refine lv_iload hx hb dX4_value_43 (lv_at hl 0 rfl) ?_
            refine lv_goto (tgt := 54) hx hb dX4_value_45 (by decide) ?_
            obtain ⟨hin, h⟩ := gd_some h
            refine iastC X I hk_2 hin dX4_value_54 (fun H locs I => ?_)
            obtain ⟨σ15, eσ15, h⟩ := lt_e h
            replace I := wi_nm eσ15 I
            refine lv_iinc (v := (x2 + 1)) (lv' := [(2, .int (x2 + 1)), (4, .int y2), (0, .ref (ca E k)), (1, .ref (ca E r1)), (3, .int x3)]) hx hb dX4_value_55 hl (k := 3) rfl rfl (by decide) rfl (fun ls hl => ?_)
            refine lv_goto (tgt := 135) hx hb dX4_value_58 (by decide) ?_
            refine lv_iinc (v := (x3 + 1)) (lv' := [(3, .int (x3 + 1)), (2, .int (x2 + 1)), (4, .int y2), (0, .ref (ca E k)), (1, .ref (ca E r1))]) hx hb dX4_value_135 hl (k := 4) rfl rfl (by decide) rfl (fun ls hl => ?_)
            refine lv_goto (tgt := 4) hx hb dX4_value_138 (by decide) ?_
            exact ih σ15 (x2 + 1) (x3 + 1) h H locs ls I (lv_sub hl [3, 4, 1, 0] rfl)
set_option maxHeartbeats 4000000 in
set_option maxRecDepth 100000 in
theorem w_X4_value_0 {p : Program} {l : Launch} {e : Env} {s : State} {m : MethodId} {args : Array Value} {below : List Frame} {meth : Method} {c : Code} {A : Nat → Prop} {E : CE} {q : Int32 × Mem} (X : CX p s m meth c args cX4_value 5 RX4 (some .int)) {k r1 : Nat} (hk_0 : KCo4 E k) (hk_1 : KCaI E (k + 1) 700) (hk_2 : KCaI E (k + 2) 64) (hr1 : KCaI E r1 10) : ∀ (σ : Mem)  , m_X4_value k r1 σ = some q → ∀ (H : Heap) (locs : List Loc) (ls : Array Slot), WI (vC E) A s H locs σ → lv_has ls 5 [(0, .ref (ca E k)), (1, .ref (ca E r1))] → W p l e rm_X4_value s m args below meth c H locs 0 0 (MQ below (QI (vC E) A q) args s 0 0 A) (F0 m 0 ls []) := by
  have hx := X.1
  have hb := X.2.1
  intro σ  h H locs ls I hl
  unfold m_X4_value at h
  refine lv_iconst (v := 0) hx hb dX4_value_0 (by decide) ?_
  refine lv_istore_n (lv' := [(2, .int (0 : Int32)), (0, .ref (ca E k)), (1, .ref (ca E r1))]) hx hb dX4_value_1 rfl hl (by decide) rfl (fun ls hl => ?_)
  refine lv_iconst (v := 0) hx hb dX4_value_2 (by decide) ?_
  refine lv_istore_n (lv' := [(3, .int (0 : Int32)), (2, .int (0 : Int32)), (0, .ref (ca E k)), (1, .ref (ca E r1))]) hx hb dX4_value_3 rfl hl (by decide) rfl (fun ls hl => ?_)
  exact w_X4_value_4 X hk_0 hk_1 hk_2 hr1  KF σ (0 : Int32) (0 : Int32) h H locs ls I (lv_sub hl [2, 3, 1, 0] rfl)
theorem c_X4_value {l : Launch} {E : CE} {k r1 : Nat} {σ : Mem} (hk_0 : KCo4 E k) (hk_1 : KCaI E (k + 1) 700) (hk_2 : KCaI E (k + 2) 64) (hr1 : KCaI E r1 10) {q : Int32 × Mem} (h : m_X4_value k r1 σ = some q) : CI l (vC E) yX4_value (.code yX4_value cX4_value 5 (some .int) :: GG) rm_X4_value [.ref (ca E k), .ref (ca E r1)] σ q :=
  mk_CI (by decide +kernel) (Nat.le_of_ble_eq_true rfl) (fun p e s m args below meth c A ls X I hl => w_X4_value_0 X hk_0 hk_1 hk_2 hr1 σ  h s.heap [] ls I (lv_sub hl [0, 1] rfl))

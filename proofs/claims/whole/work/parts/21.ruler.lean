def rm_X5_beginNot : Room := { frames := 1, cells := 0, slots := 0, locals := 64 }
def m_X5_beginNot (σ : Mem) : Option (Mem) := (gz (1 : Int32) (lt (ms σ 2 5 (1 : Int32)) fun σ1 => (gz (1 : Int32) (lt (ms σ1 2 6 (1 : Int32)) fun σ2 => (gz (0 : Int32) (lt (ms σ2 2 7 (0 : Int32)) fun σ3 => (some σ3)))))))
set_option maxHeartbeats 4000000 in
set_option maxRecDepth 100000 in
theorem w_X5_beginNot_0 {p : Program} {l : Launch} {e : Env} {s : State} {m : MethodId} {args : Array Value} {below : List Frame} {meth : Method} {c : Code} {A : Nat → Prop} {E : CE} {q : Mem} (X : CX p s m meth c args cX5_beginNot 1 RX5 none) : ∀ (σ : Mem)  , m_X5_beginNot σ = some q → ∀ (H : Heap) (locs : List Loc) (ls : Array Slot), WI (vC E) A s H locs σ → lv_has ls 1 [(0, .ref (ca E 2))] → W p l e rm_X5_beginNot s m args below meth c H locs 0 0 (MQ below (QV (vC E) A q) args s 0 0 A) (F0 m 0 ls []) := by
  have hx := X.1
  have hb := X.2.1
  intro σ  h H locs ls I hl
  unfold m_X5_beginNot at h
  refine lv_aload_n hx hb dX5_beginNot_0 rfl (lv_at hl 0 rfl) ?_
  refine lv_iconst (v := 1) hx hb dX5_beginNot_1 (by decide) ?_
  obtain ⟨hz, h⟩ := gz_some h
  refine pfC_X5_37 X I (kC_2 E) hz dX5_beginNot_2 (fun H locs I => ?_)
  obtain ⟨σ1, eσ1, h⟩ := lt_e h
  replace I := wi_nm eσ1 I
  refine lv_aload_n hx hb dX5_beginNot_5 rfl (lv_at hl 0 rfl) ?_
  refine lv_iconst (v := 1) hx hb dX5_beginNot_6 (by decide) ?_
  obtain ⟨hz, h⟩ := gz_some h
  refine pfC_X5_40 X I (kC_2 E) hz dX5_beginNot_7 (fun H locs I => ?_)
  obtain ⟨σ2, eσ2, h⟩ := lt_e h
  replace I := wi_nm eσ2 I
  refine lv_aload_n hx hb dX5_beginNot_10 rfl (lv_at hl 0 rfl) ?_
  refine lv_iconst (v := 0) hx hb dX5_beginNot_11 (by decide) ?_
  obtain ⟨hz, h⟩ := gz_some h
  refine pfC_X5_43 X I (kC_2 E) hz dX5_beginNot_12 (fun H locs I => ?_)
  obtain ⟨σ3, eσ3, h⟩ := lt_e h
  replace I := wi_nm eσ3 I
  exact r_vret X I (Option.some.inj h).symm dX5_beginNot_15
theorem c_X5_beginNot {l : Launch} {E : CE} {σ : Mem} {q : Mem} (h : m_X5_beginNot σ = some q) : CV l (vC E) yX5_beginNot (.code yX5_beginNot cX5_beginNot 1 none :: GG) rm_X5_beginNot [.ref (ca E 2)] σ q :=
  mk_CV (by decide +kernel) (Nat.le_of_ble_eq_true rfl) (fun p e s m args below meth c A ls X I hl => w_X5_beginNot_0 X  σ  h s.heap [] ls I (lv_sub hl [0] rfl))

def rm_X5_begin : Room := { frames := 2, cells := 0, slots := 0, locals := 84 }
def m_X5_begin (σ : Mem) (x1 : Int32) : Option (Mem) := ((m_X4_clear 5 σ).bind fun q1 => (gz x1 (lt (ms q1 2 4 x1) fun σ2 => (lt (ms σ2 2 3 (0 : Int32)) fun σ3 => (lt (ms σ3 2 8 (0 : Int32)) fun σ4 => (lt (ms σ4 2 9 (0 : Int32)) fun σ5 => ((m_X5_beginNot σ5).bind fun q6 => (some q6))))))))
set_option maxHeartbeats 4000000 in
set_option maxRecDepth 100000 in
theorem w_X5_begin_0 {p : Program} {l : Launch} {e : Env} {s : State} {m : MethodId} {args : Array Value} {below : List Frame} {meth : Method} {c : Code} {A : Nat → Prop} {E : CE} {q : Mem} (X : CX p s m meth c args cX5_begin 2 RX5 none) : ∀ (σ : Mem) (x1 : Int32) , m_X5_begin σ x1 = some q → ∀ (H : Heap) (locs : List Loc) (ls : Array Slot), WI (vC E) A s H locs σ → lv_has ls 2 [(0, .ref (ca E 2)), (1, .int x1)] → W p l e rm_X5_begin s m args below meth c H locs 0 0 (MQ below (QV (vC E) A q) args s 0 0 A) (F0 m 0 ls []) := by
  have hx := X.1
  have hb := X.2.1
  intro σ x1 h H locs ls I hl
  unfold m_X5_begin at h
  refine lv_aload_n hx hb dX5_begin_0 rfl (lv_at hl 0 rfl) ?_
  refine gfC_X5_21 X I (kC_2 E) (k' := 5) rfl dX5_begin_1 ?_
  obtain ⟨q1, hq1, h⟩ := bd h
  refine r_callVV (V := (vC E)) (k := 5) (As := []) (rest := []) X I hl (c_X4_clear (kC_5 E) (kC_6 E) (kC_7 E) hq1) yv_X4_clear tw_273 ⟨rfl, rfl, Nat.le_of_ble_eq_true rfl, Nat.le_of_ble_eq_true rfl⟩ (kC_5 E).1 ((kC_5 E).2 (σ 5)) rfl rfl rfl (Nat.le_of_ble_eq_true rfl) dX5_begin_4 (fun H locs I => ?_)
  refine lv_aload_n hx hb dX5_begin_7 rfl (lv_at hl 0 rfl) ?_
  refine lv_iload_n hx hb dX5_begin_8 rfl (lv_at hl 1 rfl) ?_
  obtain ⟨hz, h⟩ := gz_some h
  refine pfC_X5_33 X I (kC_2 E) hz dX5_begin_9 (fun H locs I => ?_)
  obtain ⟨σ2, eσ2, h⟩ := lt_e h
  replace I := wi_nm eσ2 I
  refine lv_aload_n hx hb dX5_begin_12 rfl (lv_at hl 0 rfl) ?_
  refine lv_iconst (v := 0) hx hb dX5_begin_13 (by decide) ?_
  refine pfC_X5_29 X I (kC_2 E) dX5_begin_14 (fun H locs I => ?_)
  obtain ⟨σ3, eσ3, h⟩ := lt_e h
  replace I := wi_nm eσ3 I
  refine lv_aload_n hx hb dX5_begin_17 rfl (lv_at hl 0 rfl) ?_
  refine lv_iconst (v := 0) hx hb dX5_begin_18 (by decide) ?_
  refine pfC_X5_46 X I (kC_2 E) dX5_begin_19 (fun H locs I => ?_)
  obtain ⟨σ4, eσ4, h⟩ := lt_e h
  replace I := wi_nm eσ4 I
  refine lv_aload_n hx hb dX5_begin_22 rfl (lv_at hl 0 rfl) ?_
  refine lv_iconst (v := 0) hx hb dX5_begin_23 (by decide) ?_
  refine pfC_X5_49 X I (kC_2 E) dX5_begin_24 (fun H locs I => ?_)
  obtain ⟨σ5, eσ5, h⟩ := lt_e h
  replace I := wi_nm eσ5 I
  refine lv_aload_n hx hb dX5_begin_27 rfl (lv_at hl 0 rfl) ?_
  obtain ⟨q6, hq6, h⟩ := bd h
  refine r_callVV (V := (vC E)) (k := 2) (As := []) (rest := []) X I hl (c_X5_beginNot  hq6) yv_X5_beginNot tw_278 ⟨rfl, rfl, Nat.le_of_ble_eq_true rfl, Nat.le_of_ble_eq_true rfl⟩ (kC_2 E).1 ((kC_2 E).2 (σ5 2)) rfl rfl rfl (Nat.le_of_ble_eq_true rfl) dX5_begin_28 (fun H locs I => ?_)
  exact r_vret X I (Option.some.inj h).symm dX5_begin_31
theorem c_X5_begin {l : Launch} {E : CE} {σ : Mem} {x1 : Int32} {q : Mem} (h : m_X5_begin σ x1 = some q) : CV l (vC E) yX5_begin (.code yX5_begin cX5_begin 2 none :: GG) rm_X5_begin [.ref (ca E 2), .int x1] σ q :=
  mk_CV (by decide +kernel) (Nat.le_of_ble_eq_true rfl) (fun p e s m args below meth c A ls X I hl => w_X5_begin_0 X  σ x1 h s.heap [] ls I (lv_sub hl [0, 1] rfl))

def rm_X5_hold : Room := { frames := 1, cells := 0, slots := 0, locals := 64 }
def m_X5_hold (σ : Mem) (x1 : Int32) : Option (Mem) := (if (128 : Int32) ≤ (σ 2 3) then (some σ) else (gd (σ 2 3) 128 (lt (ms σ 8 (Int32.toNatClampNeg (σ 2 3)) (x1)) fun σ2 => (lt (ms σ2 2 3 ((σ2 2 3) + (1 : Int32))) fun σ3 => (some σ3)))))
set_option maxHeartbeats 4000000 in
set_option maxRecDepth 100000 in
theorem w_X5_hold_0 {p : Program} {l : Launch} {e : Env} {s : State} {m : MethodId} {args : Array Value} {below : List Frame} {meth : Method} {c : Code} {A : Nat → Prop} {E : CE} {q : Mem} (X : CX p s m meth c args cX5_hold 2 RX5 none) : ∀ (σ : Mem) (x1 : Int32) , m_X5_hold σ x1 = some q → ∀ (H : Heap) (locs : List Loc) (ls : Array Slot), WI (vC E) A s H locs σ → lv_has ls 2 [(0, .ref (ca E 2)), (1, .int x1)] → W p l e rm_X5_hold s m args below meth c H locs 0 0 (MQ below (QV (vC E) A q) args s 0 0 A) (F0 m 0 ls []) := by
  have hx := X.1
  have hb := X.2.1
  intro σ x1 h H locs ls I hl
  unfold m_X5_hold at h
  refine lv_aload_n hx hb dX5_hold_0 rfl (lv_at hl 0 rfl) ?_
  refine gfC_X5_29 X I (kC_2 E) dX5_hold_1 ?_
  refine lv_sipush (v := 128) hx hb dX5_hold_4 (by decide) ?_
  refine lv_icmp_ge (tgt := 30) hx hb dX5_hold_7 (by decide) (fun c1 => ?_) (fun c1 => ?_)
  · have h := ite_t h c1
    exact r_vret X I (Option.some.inj h).symm dX5_hold_30
  · have h := ite_f h c1
    refine lv_aload_n hx hb dX5_hold_10 rfl (lv_at hl 0 rfl) ?_
    refine gfC_X5_25 X I (kC_2 E) (k' := 8) rfl dX5_hold_11 ?_
    refine lv_aload_n hx hb dX5_hold_14 rfl (lv_at hl 0 rfl) ?_
    refine gfC_X5_29 X I (kC_2 E) dX5_hold_15 ?_
    refine lv_iload_n hx hb dX5_hold_18 rfl (lv_at hl 1 rfl) ?_
    obtain ⟨hin, h⟩ := gd_some h
    refine iastC X I (kC_8 E) hin dX5_hold_19 (fun H locs I => ?_)
    obtain ⟨σ2, eσ2, h⟩ := lt_e h
    replace I := wi_nm eσ2 I
    refine lv_aload_n hx hb dX5_hold_20 rfl (lv_at hl 0 rfl) ?_
    refine lv_dup hx hb dX5_hold_21 rfl ?_
    refine gfC_X5_29 X I (kC_2 E) dX5_hold_22 ?_
    refine lv_iconst (v := 1) hx hb dX5_hold_25 (by decide) ?_
    refine lv_iadd hx hb dX5_hold_26 ?_
    refine pfC_X5_29 X I (kC_2 E) dX5_hold_27 (fun H locs I => ?_)
    obtain ⟨σ3, eσ3, h⟩ := lt_e h
    replace I := wi_nm eσ3 I
    exact r_vret X I (Option.some.inj h).symm dX5_hold_30
theorem c_X5_hold {l : Launch} {E : CE} {σ : Mem} {x1 : Int32} {q : Mem} (h : m_X5_hold σ x1 = some q) : CV l (vC E) yX5_hold (.code yX5_hold cX5_hold 2 none :: GG) rm_X5_hold [.ref (ca E 2), .int x1] σ q :=
  mk_CV (by decide +kernel) (Nat.le_of_ble_eq_true rfl) (fun p e s m args below meth c A ls X I hl => w_X5_hold_0 X  σ x1 h s.heap [] ls I (lv_sub hl [0, 1] rfl))

def rm_X5_binding : Room := { frames := 1, cells := 0, slots := 0, locals := 64 }
def m_X5_binding (σ : Mem) (x0 : Int32) : Option (Int32) := (if x0 = (-29 : Int32) then (some (6 : Int32)) else (if x0 = (-28 : Int32) then (some (6 : Int32)) else (if x0 = (-27 : Int32) then (some (5 : Int32)) else (if x0 = (-26 : Int32) then (some (5 : Int32)) else (if x0 = (-25 : Int32) then (some (4 : Int32)) else (if x0 = (-24 : Int32) then (some (4 : Int32)) else (if x0 = (-23 : Int32) then (some (3 : Int32)) else (if x0 = (-22 : Int32) then (some (2 : Int32)) else (if x0 = (-21 : Int32) then (some (1 : Int32)) else (some (0 : Int32)))))))))))
set_option maxHeartbeats 4000000 in
set_option maxRecDepth 100000 in
theorem w_X5_binding_0 {p : Program} {l : Launch} {e : Env} {s : State} {m : MethodId} {args : Array Value} {below : List Frame} {meth : Method} {c : Code} {A : Nat → Prop} {E : CE} {q : Int32} (X : CX p s m meth c args cX5_binding 1 RX5 (some .int)) : ∀ (σ : Mem) (x0 : Int32) , m_X5_binding σ x0 = some q → ∀ (H : Heap) (locs : List Loc) (ls : Array Slot), WI (vC E) A s H locs σ → lv_has ls 1 [(0, .int x0)] → W p l e rm_X5_binding s m args below meth c H locs 0 0 (MQ below (QI (vC E) A (q, σ)) args s 0 0 A) (F0 m 0 ls []) := by
  have hx := X.1
  have hb := X.2.1
  intro σ x0 h H locs ls I hl
  unfold m_X5_binding at h
  refine lv_iload_n hx hb dX5_binding_0 rfl (lv_at hl 0 rfl) ?_
  by_cases c1 : x0 = (-29 : Int32)
  · have h := ite_t h c1
    have ht : Int32.toInt x0 = -29 := by rw [c1]; rfl
    refine lv_tableIn (off := 61) (tgt := 62) hx hb dX5_binding_1 (by rw [ht]; decide) (by rw [ht]; decide) (by rw [ht]; rfl) (by decide) ?_
    refine lv_bipush (v := 6) hx hb dX5_binding_62 (by decide) ?_
    exact r_iret X I (congrArg (fun z => (z, σ)) (Option.some.inj h).symm) dX5_binding_64
  replace h := ite_f h c1
  by_cases c2 : x0 = (-28 : Int32)
  · have h := ite_t h c2
    have ht : Int32.toInt x0 = -28 := by rw [c2]; rfl
    refine lv_tableIn (off := 61) (tgt := 62) hx hb dX5_binding_1 (by rw [ht]; decide) (by rw [ht]; decide) (by rw [ht]; rfl) (by decide) ?_
    refine lv_bipush (v := 6) hx hb dX5_binding_62 (by decide) ?_
    exact r_iret X I (congrArg (fun z => (z, σ)) (Option.some.inj h).symm) dX5_binding_64
  replace h := ite_f h c2
  by_cases c3 : x0 = (-27 : Int32)
  · have h := ite_t h c3
    have ht : Int32.toInt x0 = -27 := by rw [c3]; rfl
    refine lv_tableIn (off := 59) (tgt := 60) hx hb dX5_binding_1 (by rw [ht]; decide) (by rw [ht]; decide) (by rw [ht]; rfl) (by decide) ?_
    refine lv_iconst (v := 5) hx hb dX5_binding_60 (by decide) ?_
    exact r_iret X I (congrArg (fun z => (z, σ)) (Option.some.inj h).symm) dX5_binding_61
  replace h := ite_f h c3
  by_cases c4 : x0 = (-26 : Int32)
  · have h := ite_t h c4
    have ht : Int32.toInt x0 = -26 := by rw [c4]; rfl
    refine lv_tableIn (off := 59) (tgt := 60) hx hb dX5_binding_1 (by rw [ht]; decide) (by rw [ht]; decide) (by rw [ht]; rfl) (by decide) ?_
    refine lv_iconst (v := 5) hx hb dX5_binding_60 (by decide) ?_
    exact r_iret X I (congrArg (fun z => (z, σ)) (Option.some.inj h).symm) dX5_binding_61
  replace h := ite_f h c4
  by_cases c5 : x0 = (-25 : Int32)
  · have h := ite_t h c5
    have ht : Int32.toInt x0 = -25 := by rw [c5]; rfl
    refine lv_tableIn (off := 57) (tgt := 58) hx hb dX5_binding_1 (by rw [ht]; decide) (by rw [ht]; decide) (by rw [ht]; rfl) (by decide) ?_
    refine lv_iconst (v := 4) hx hb dX5_binding_58 (by decide) ?_
    exact r_iret X I (congrArg (fun z => (z, σ)) (Option.some.inj h).symm) dX5_binding_59
  replace h := ite_f h c5
  by_cases c6 : x0 = (-24 : Int32)
  · have h := ite_t h c6
    have ht : Int32.toInt x0 = -24 := by rw [c6]; rfl
    refine lv_tableIn (off := 57) (tgt := 58) hx hb dX5_binding_1 (by rw [ht]; decide) (by rw [ht]; decide) (by rw [ht]; rfl) (by decide) ?_
    refine lv_iconst (v := 4) hx hb dX5_binding_58 (by decide) ?_
    exact r_iret X I (congrArg (fun z => (z, σ)) (Option.some.inj h).symm) dX5_binding_59
  replace h := ite_f h c6
  by_cases c7 : x0 = (-23 : Int32)
  · have h := ite_t h c7
    have ht : Int32.toInt x0 = -23 := by rw [c7]; rfl
    refine lv_tableIn (off := 55) (tgt := 56) hx hb dX5_binding_1 (by rw [ht]; decide) (by rw [ht]; decide) (by rw [ht]; rfl) (by decide) ?_
    refine lv_iconst (v := 3) hx hb dX5_binding_56 (by decide) ?_
    exact r_iret X I (congrArg (fun z => (z, σ)) (Option.some.inj h).symm) dX5_binding_57
  replace h := ite_f h c7
  by_cases c8 : x0 = (-22 : Int32)
  · have h := ite_t h c8
    have ht : Int32.toInt x0 = -22 := by rw [c8]; rfl
    refine lv_tableIn (off := 53) (tgt := 54) hx hb dX5_binding_1 (by rw [ht]; decide) (by rw [ht]; decide) (by rw [ht]; rfl) (by decide) ?_
    refine lv_iconst (v := 2) hx hb dX5_binding_54 (by decide) ?_
    exact r_iret X I (congrArg (fun z => (z, σ)) (Option.some.inj h).symm) dX5_binding_55
  replace h := ite_f h c8
  by_cases c9 : x0 = (-21 : Int32)
  · have h := ite_t h c9
    have ht : Int32.toInt x0 = -21 := by rw [c9]; rfl
    refine lv_tableIn (off := 51) (tgt := 52) hx hb dX5_binding_1 (by rw [ht]; decide) (by rw [ht]; decide) (by rw [ht]; rfl) (by decide) ?_
    refine lv_iconst (v := 1) hx hb dX5_binding_52 (by decide) ?_
    exact r_iret X I (congrArg (fun z => (z, σ)) (Option.some.inj h).symm) dX5_binding_53
  replace h := ite_f h c9
  have kd : W p l e rm_X5_binding s m args below meth c H locs 0 0 (MQ below (QI (vC E) A (q, σ)) args s 0 0 A) (F0 m 65 ls []) := by
    refine lv_iconst (v := 0) hx hb dX5_binding_65 (by decide) ?_
    exact r_iret X I (congrArg (fun z => (z, σ)) (Option.some.inj h).symm) dX5_binding_66
  have tc1 := lv_neT (a := -29) c1 (by decide)
  have tc2 := lv_neT (a := -28) c2 (by decide)
  have tc3 := lv_neT (a := -27) c3 (by decide)
  have tc4 := lv_neT (a := -26) c4 (by decide)
  have tc5 := lv_neT (a := -25) c5 (by decide)
  have tc6 := lv_neT (a := -24) c6 (by decide)
  have tc7 := lv_neT (a := -23) c7 (by decide)
  have tc8 := lv_neT (a := -22) c8 (by decide)
  have tc9 := lv_neT (a := -21) c9 (by decide)
  exact lv_tableOut (tgt := 65) hx hb dX5_binding_1 (by omega) (by decide) kd
theorem c_X5_binding {l : Launch} {E : CE} {σ : Mem} {x0 : Int32} {q : Int32} (h : m_X5_binding σ x0 = some q) : CI l (vC E) yX5_binding (.code yX5_binding cX5_binding 1 (some .int) :: GG) rm_X5_binding [.int x0] σ (q, σ) :=
  mk_CI (by decide +kernel) (Nat.le_of_ble_eq_true rfl) (fun p e s m args below meth c A ls X I hl => w_X5_binding_0 X  σ x0 h s.heap [] ls I (lv_sub hl [0] rfl))

def rm_X5_release : Room := { frames := 2, cells := 0, slots := 0, locals := 85 }
def f_X5_release_0 (x1 : Int32) : Nat → Mem → Option (Mem)
  | 0, _ => none
  | n + 1, σ => (if (σ 2 3) ≤ (0 : Int32) then (some σ) else (gd ((σ 2 3) - (1 : Int32)) 128 ((m_X5_binding σ (σ 8 (Int32.toNatClampNeg ((σ 2 3) - (1 : Int32))))).bind fun q2 => (if q2 < x1 then (some σ) else (lt (ms σ 2 3 ((σ 2 3) - (1 : Int32))) fun σ4 => (gd (σ4 2 3) 128 ((m_X4_add 5 σ4 (σ4 8 (Int32.toNatClampNeg (σ4 2 3)))).bind fun q5 => f_X5_release_0 x1 n q5)))))))
def m_X5_release (σ : Mem) (x1 : Int32) : Option (Mem) := f_X5_release_0 x1 KF σ
set_option maxHeartbeats 4000000 in
set_option maxRecDepth 100000 in
theorem w_X5_release_0 {p : Program} {l : Launch} {e : Env} {s : State} {m : MethodId} {args : Array Value} {below : List Frame} {meth : Method} {c : Code} {A : Nat → Prop} {E : CE} {q : Mem} (X : CX p s m meth c args cX5_release 2 RX5 none) {x1 : Int32} : ∀ (n : Nat), ∀ (σ : Mem)  , f_X5_release_0 x1 n σ = some q → ∀ (H : Heap) (locs : List Loc) (ls : Array Slot), WI (vC E) A s H locs σ → lv_has ls 2 [(0, .ref (ca E 2)), (1, .int x1)] → W p l e rm_X5_release s m args below meth c H locs 0 0 (MQ below (QV (vC E) A q) args s 0 0 A) (F0 m 0 ls []) := by
  have hx := X.1
  have hb := X.2.1
  intro n
  induction n with
  | zero =>
    intro σ  h
    cases h
  | succ n ih =>
    intro σ  h H locs ls I hl
    rw [f_X5_release_0] at h
    refine lv_aload_n hx hb dX5_release_0 rfl (lv_at hl 0 rfl) ?_
    refine gfC_X5_29 X I (kC_2 E) dX5_release_1 ?_
    refine lv_if_le (tgt := 54) hx hb dX5_release_4 (by decide) (fun c1 => ?_) (fun c1 => ?_)
    · have h := ite_t h c1
      exact r_vret X I (Option.some.inj h).symm dX5_release_54
    · have h := ite_f h c1
      refine lv_aload_n hx hb dX5_release_7 rfl (lv_at hl 0 rfl) ?_
      refine gfC_X5_25 X I (kC_2 E) (k' := 8) rfl dX5_release_8 ?_
      refine lv_aload_n hx hb dX5_release_11 rfl (lv_at hl 0 rfl) ?_
      refine gfC_X5_29 X I (kC_2 E) dX5_release_12 ?_
      refine lv_iconst (v := 1) hx hb dX5_release_15 (by decide) ?_
      refine lv_isub hx hb dX5_release_16 ?_
      obtain ⟨hin, h⟩ := gd_some h
      refine ialdC X I (kC_8 E) hin dX5_release_17 ?_
      obtain ⟨q2, hq2, h⟩ := bd h
      refine r_callSI (V := (vC E)) (As := [.int (σ 8 (Int32.toNatClampNeg ((σ 2 3) - (1 : Int32))))]) (rest := []) X I hl (c_X5_binding  hq2) ys_X5_binding tw_284 ⟨rfl, rfl, Nat.le_of_ble_eq_true rfl, Nat.le_of_ble_eq_true rfl⟩ rfl rfl (Nat.le_of_ble_eq_true rfl) dX5_release_18 (fun H locs I => ?_)
      refine lv_iload_n hx hb dX5_release_21 rfl (lv_at hl 1 rfl) ?_
      refine lv_icmp_lt (tgt := 54) hx hb dX5_release_22 (by decide) (fun c3 => ?_) (fun c3 => ?_)
      · have h := ite_t h c3
        exact r_vret X I (Option.some.inj h).symm dX5_release_54
      · have h := ite_f h c3
        refine lv_aload_n hx hb dX5_release_25 rfl (lv_at hl 0 rfl) ?_
        refine lv_dup hx hb dX5_release_26 rfl ?_
        refine gfC_X5_29 X I (kC_2 E) dX5_release_27 ?_
        refine lv_iconst (v := 1) hx hb dX5_release_30 (by decide) ?_
        refine lv_isub hx hb dX5_release_31 ?_
        refine pfC_X5_29 X I (kC_2 E) dX5_release_32 (fun H locs I => ?_)
        obtain ⟨σ4, eσ4, h⟩ := lt_e h
        replace I := wi_nm eσ4 I
        refine lv_aload_n hx hb dX5_release_35 rfl (lv_at hl 0 rfl) ?_
        refine gfC_X5_21 X I (kC_2 E) (k' := 5) rfl dX5_release_36 ?_
        refine lv_aload_n hx hb dX5_release_39 rfl (lv_at hl 0 rfl) ?_
        refine gfC_X5_25 X I (kC_2 E) (k' := 8) rfl dX5_release_40 ?_
        refine lv_aload_n hx hb dX5_release_43 rfl (lv_at hl 0 rfl) ?_
        refine gfC_X5_29 X I (kC_2 E) dX5_release_44 ?_
        obtain ⟨hin, h⟩ := gd_some h
        refine ialdC X I (kC_8 E) hin dX5_release_47 ?_
        obtain ⟨q5, hq5, h⟩ := bd h
        refine r_callVV (V := (vC E)) (k := 5) (As := [.int (σ4 8 (Int32.toNatClampNeg (σ4 2 3)))]) (rest := []) X I hl (c_X4_add (kC_5 E) (kC_6 E) (kC_7 E) hq5) yv_X4_add tw_288 ⟨rfl, rfl, Nat.le_of_ble_eq_true rfl, Nat.le_of_ble_eq_true rfl⟩ (kC_5 E).1 ((kC_5 E).2 (σ4 5)) rfl rfl rfl (Nat.le_of_ble_eq_true rfl) dX5_release_48 (fun H locs I => ?_)
        refine lv_goto (tgt := 0) hx hb dX5_release_51 (by decide) ?_
        exact ih q5 h H locs ls I (lv_sub hl [0, 1] rfl)
theorem c_X5_release {l : Launch} {E : CE} {σ : Mem} {x1 : Int32} {q : Mem} (h : m_X5_release σ x1 = some q) : CV l (vC E) yX5_release (.code yX5_release cX5_release 2 none :: GG) rm_X5_release [.ref (ca E 2), .int x1] σ q :=
  mk_CV (by decide +kernel) (Nat.le_of_ble_eq_true rfl) (fun p e s m args below meth c A ls X I hl => w_X5_release_0 X  KF σ  h s.heap [] ls I (lv_sub hl [0, 1] rfl))

def rm_X5_endPart : Room := { frames := 2, cells := 0, slots := 0, locals := 85 }
def m_X5_endPart (σ : Mem) (x1 : Int32) : Option (Int32 × Mem) := ((m_X4_add 5 σ x1).bind fun q1 => (lt (ms q1 2 9 (0 : Int32)) fun σ2 => (gz (0 : Int32) (lt (ms σ2 2 5 (0 : Int32)) fun σ3 => (some ((0 : Int32), σ3))))))
set_option maxHeartbeats 4000000 in
set_option maxRecDepth 100000 in
theorem w_X5_endPart_0 {p : Program} {l : Launch} {e : Env} {s : State} {m : MethodId} {args : Array Value} {below : List Frame} {meth : Method} {c : Code} {A : Nat → Prop} {E : CE} {q : Int32 × Mem} (X : CX p s m meth c args cX5_endPart 2 RX5 (some .int)) : ∀ (σ : Mem) (x1 : Int32) , m_X5_endPart σ x1 = some q → ∀ (H : Heap) (locs : List Loc) (ls : Array Slot), WI (vC E) A s H locs σ → lv_has ls 2 [(0, .ref (ca E 2)), (1, .int x1)] → W p l e rm_X5_endPart s m args below meth c H locs 0 0 (MQ below (QI (vC E) A q) args s 0 0 A) (F0 m 0 ls []) := by
  have hx := X.1
  have hb := X.2.1
  intro σ x1 h H locs ls I hl
  unfold m_X5_endPart at h
  refine lv_aload_n hx hb dX5_endPart_0 rfl (lv_at hl 0 rfl) ?_
  refine gfC_X5_21 X I (kC_2 E) (k' := 5) rfl dX5_endPart_1 ?_
  refine lv_iload_n hx hb dX5_endPart_4 rfl (lv_at hl 1 rfl) ?_
  obtain ⟨q1, hq1, h⟩ := bd h
  refine r_callVV (V := (vC E)) (k := 5) (As := [.int x1]) (rest := []) X I hl (c_X4_add (kC_5 E) (kC_6 E) (kC_7 E) hq1) yv_X4_add tw_288 ⟨rfl, rfl, Nat.le_of_ble_eq_true rfl, Nat.le_of_ble_eq_true rfl⟩ (kC_5 E).1 ((kC_5 E).2 (σ 5)) rfl rfl rfl (Nat.le_of_ble_eq_true rfl) dX5_endPart_5 (fun H locs I => ?_)
  refine lv_aload_n hx hb dX5_endPart_8 rfl (lv_at hl 0 rfl) ?_
  refine lv_iconst (v := 0) hx hb dX5_endPart_9 (by decide) ?_
  refine pfC_X5_49 X I (kC_2 E) dX5_endPart_10 (fun H locs I => ?_)
  obtain ⟨σ2, eσ2, h⟩ := lt_e h
  replace I := wi_nm eσ2 I
  refine lv_aload_n hx hb dX5_endPart_13 rfl (lv_at hl 0 rfl) ?_
  refine lv_iconst (v := 0) hx hb dX5_endPart_14 (by decide) ?_
  obtain ⟨hz, h⟩ := gz_some h
  refine pfC_X5_37 X I (kC_2 E) hz dX5_endPart_15 (fun H locs I => ?_)
  obtain ⟨σ3, eσ3, h⟩ := lt_e h
  replace I := wi_nm eσ3 I
  refine lv_iconst (v := 0) hx hb dX5_endPart_18 (by decide) ?_
  exact r_iret X I (Option.some.inj h).symm dX5_endPart_19
theorem c_X5_endPart {l : Launch} {E : CE} {σ : Mem} {x1 : Int32} {q : Int32 × Mem} (h : m_X5_endPart σ x1 = some q) : CI l (vC E) yX5_endPart (.code yX5_endPart cX5_endPart 2 (some .int) :: GG) rm_X5_endPart [.ref (ca E 2), .int x1] σ q :=
  mk_CI (by decide +kernel) (Nat.le_of_ble_eq_true rfl) (fun p e s m args below meth c A ls X I hl => w_X5_endPart_0 X  σ x1 h s.heap [] ls I (lv_sub hl [0, 1] rfl))

def rm_X5_takeNot : Room := { frames := 2, cells := 0, slots := 0, locals := 85 }
def m_X5_takeNot (σ : Mem) : Option (Int32 × Mem) := (if (σ 2 9) < (6 : Int32) then (lt (ms σ 2 9 ((σ 2 9) + (1 : Int32))) fun σ2 => ((m_X5_hold σ2 (-23 : Int32)).bind fun q3 => (some ((0 : Int32), q3)))) else (some ((2 : Int32), σ)))
set_option maxHeartbeats 4000000 in
set_option maxRecDepth 100000 in
theorem w_X5_takeNot_0 {p : Program} {l : Launch} {e : Env} {s : State} {m : MethodId} {args : Array Value} {below : List Frame} {meth : Method} {c : Code} {A : Nat → Prop} {E : CE} {q : Int32 × Mem} (X : CX p s m meth c args cX5_takeNot 1 RX5 (some .int)) : ∀ (σ : Mem)  , m_X5_takeNot σ = some q → ∀ (H : Heap) (locs : List Loc) (ls : Array Slot), WI (vC E) A s H locs σ → lv_has ls 1 [(0, .ref (ca E 2))] → W p l e rm_X5_takeNot s m args below meth c H locs 0 0 (MQ below (QI (vC E) A q) args s 0 0 A) (F0 m 0 ls []) := by
  have hx := X.1
  have hb := X.2.1
  intro σ  h H locs ls I hl
  unfold m_X5_takeNot at h
  refine lv_aload_n hx hb dX5_takeNot_0 rfl (lv_at hl 0 rfl) ?_
  refine gfC_X5_49 X I (kC_2 E) dX5_takeNot_1 ?_
  refine lv_bipush (v := 6) hx hb dX5_takeNot_4 (by decide) ?_
  refine lv_icmp_lt (tgt := 11) hx hb dX5_takeNot_6 (by decide) (fun c1 => ?_) (fun c1 => ?_)
  · have h := ite_t h c1
    refine lv_aload_n hx hb dX5_takeNot_11 rfl (lv_at hl 0 rfl) ?_
    refine lv_dup hx hb dX5_takeNot_12 rfl ?_
    refine gfC_X5_49 X I (kC_2 E) dX5_takeNot_13 ?_
    refine lv_iconst (v := 1) hx hb dX5_takeNot_16 (by decide) ?_
    refine lv_iadd hx hb dX5_takeNot_17 ?_
    refine pfC_X5_49 X I (kC_2 E) dX5_takeNot_18 (fun H locs I => ?_)
    obtain ⟨σ2, eσ2, h⟩ := lt_e h
    replace I := wi_nm eσ2 I
    refine lv_aload_n hx hb dX5_takeNot_21 rfl (lv_at hl 0 rfl) ?_
    refine lv_bipush (v := -23) hx hb dX5_takeNot_22 (by decide) ?_
    obtain ⟨q3, hq3, h⟩ := bd h
    refine r_callVV (V := (vC E)) (k := 2) (As := [.int (-23 : Int32)]) (rest := []) X I hl (c_X5_hold  hq3) yv_X5_hold tw_293 ⟨rfl, rfl, Nat.le_of_ble_eq_true rfl, Nat.le_of_ble_eq_true rfl⟩ (kC_2 E).1 ((kC_2 E).2 (σ2 2)) rfl rfl rfl (Nat.le_of_ble_eq_true rfl) dX5_takeNot_24 (fun H locs I => ?_)
    refine lv_iconst (v := 0) hx hb dX5_takeNot_27 (by decide) ?_
    exact r_iret X I (Option.some.inj h).symm dX5_takeNot_28
  · have h := ite_f h c1
    refine lv_iconst (v := 2) hx hb dX5_takeNot_9 (by decide) ?_
    exact r_iret X I (Option.some.inj h).symm dX5_takeNot_10
theorem c_X5_takeNot {l : Launch} {E : CE} {σ : Mem} {q : Int32 × Mem} (h : m_X5_takeNot σ = some q) : CI l (vC E) yX5_takeNot (.code yX5_takeNot cX5_takeNot 1 (some .int) :: GG) rm_X5_takeNot [.ref (ca E 2)] σ q :=
  mk_CI (by decide +kernel) (Nat.le_of_ble_eq_true rfl) (fun p e s m args below meth c A ls X I hl => w_X5_takeNot_0 X  σ  h s.heap [] ls I (lv_sub hl [0] rfl))

def rm_X5_takeOpening : Room := { frames := 2, cells := 0, slots := 0, locals := 85 }
def m_X5_takeOpening (σ : Mem) : Option (Int32 × Mem) := (if (σ 2 7) = (0 : Int32) then ((m_X5_hold σ (-30 : Int32)).bind fun q2 => (lt (ms q2 2 8 ((q2 2 8) + (1 : Int32))) fun σ3 => (lt (ms σ3 2 9 (0 : Int32)) fun σ4 => ((m_X5_beginNot σ4).bind fun q5 => (some ((0 : Int32), q5)))))) else ((m_X5_hold σ (-31 : Int32)).bind fun q6 => (lt (ms q6 2 8 ((q6 2 8) + (1 : Int32))) fun σ7 => (lt (ms σ7 2 9 (0 : Int32)) fun σ8 => ((m_X5_beginNot σ8).bind fun q9 => (some ((0 : Int32), q9)))))))
set_option maxHeartbeats 4000000 in
set_option maxRecDepth 100000 in
theorem w_X5_takeOpening_0 {p : Program} {l : Launch} {e : Env} {s : State} {m : MethodId} {args : Array Value} {below : List Frame} {meth : Method} {c : Code} {A : Nat → Prop} {E : CE} {q : Int32 × Mem} (X : CX p s m meth c args cX5_takeOpening 1 RX5 (some .int)) : ∀ (σ : Mem)  , m_X5_takeOpening σ = some q → ∀ (H : Heap) (locs : List Loc) (ls : Array Slot), WI (vC E) A s H locs σ → lv_has ls 1 [(0, .ref (ca E 2))] → W p l e rm_X5_takeOpening s m args below meth c H locs 0 0 (MQ below (QI (vC E) A q) args s 0 0 A) (F0 m 0 ls []) := by
  have hx := X.1
  have hb := X.2.1
  intro σ  h H locs ls I hl
  unfold m_X5_takeOpening at h
  refine lv_aload_n hx hb dX5_takeOpening_0 rfl (lv_at hl 0 rfl) ?_
  refine lv_aload_n hx hb dX5_takeOpening_1 rfl (lv_at hl 0 rfl) ?_
  refine gfC_X5_43 X I (kC_2 E) dX5_takeOpening_2 ?_
  refine lv_if_eq (tgt := 13) hx hb dX5_takeOpening_5 (by decide) (fun c1 => ?_) (fun c1 => ?_)
  · have h := ite_t h c1
    refine lv_bipush (v := -30) hx hb dX5_takeOpening_13 (by decide) ?_
    obtain ⟨q2, hq2, h⟩ := bd h
    refine r_callVV (V := (vC E)) (k := 2) (As := [.int (-30 : Int32)]) (rest := []) X I hl (c_X5_hold  hq2) yv_X5_hold tw_293 ⟨rfl, rfl, Nat.le_of_ble_eq_true rfl, Nat.le_of_ble_eq_true rfl⟩ (kC_2 E).1 ((kC_2 E).2 (σ 2)) rfl rfl rfl (Nat.le_of_ble_eq_true rfl) dX5_takeOpening_15 (fun H locs I => ?_)
    refine lv_aload_n hx hb dX5_takeOpening_18 rfl (lv_at hl 0 rfl) ?_
    refine lv_dup hx hb dX5_takeOpening_19 rfl ?_
    refine gfC_X5_46 X I (kC_2 E) dX5_takeOpening_20 ?_
    refine lv_iconst (v := 1) hx hb dX5_takeOpening_23 (by decide) ?_
    refine lv_iadd hx hb dX5_takeOpening_24 ?_
    refine pfC_X5_46 X I (kC_2 E) dX5_takeOpening_25 (fun H locs I => ?_)
    obtain ⟨σ3, eσ3, h⟩ := lt_e h
    replace I := wi_nm eσ3 I
    refine lv_aload_n hx hb dX5_takeOpening_28 rfl (lv_at hl 0 rfl) ?_
    refine lv_iconst (v := 0) hx hb dX5_takeOpening_29 (by decide) ?_
    refine pfC_X5_49 X I (kC_2 E) dX5_takeOpening_30 (fun H locs I => ?_)
    obtain ⟨σ4, eσ4, h⟩ := lt_e h
    replace I := wi_nm eσ4 I
    refine lv_aload_n hx hb dX5_takeOpening_33 rfl (lv_at hl 0 rfl) ?_
    obtain ⟨q5, hq5, h⟩ := bd h
    refine r_callVV (V := (vC E)) (k := 2) (As := []) (rest := []) X I hl (c_X5_beginNot  hq5) yv_X5_beginNot tw_278 ⟨rfl, rfl, Nat.le_of_ble_eq_true rfl, Nat.le_of_ble_eq_true rfl⟩ (kC_2 E).1 ((kC_2 E).2 (σ4 2)) rfl rfl rfl (Nat.le_of_ble_eq_true rfl) dX5_takeOpening_34 (fun H locs I => ?_)
    refine lv_iconst (v := 0) hx hb dX5_takeOpening_37 (by decide) ?_
    exact r_iret X I (Option.some.inj h).symm dX5_takeOpening_38
  · have h := ite_f h c1
    refine lv_bipush (v := -31) hx hb dX5_takeOpening_8 (by decide) ?_
    refine lv_goto (tgt := 15) hx hb dX5_takeOpening_10 (by decide) ?_
    obtain ⟨q6, hq6, h⟩ := bd h
    refine r_callVV (V := (vC E)) (k := 2) (As := [.int (-31 : Int32)]) (rest := []) X I hl (c_X5_hold  hq6) yv_X5_hold tw_293 ⟨rfl, rfl, Nat.le_of_ble_eq_true rfl, Nat.le_of_ble_eq_true rfl⟩ (kC_2 E).1 ((kC_2 E).2 (σ 2)) rfl rfl rfl (Nat.le_of_ble_eq_true rfl) dX5_takeOpening_15 (fun H locs I => ?_)
    refine lv_aload_n hx hb dX5_takeOpening_18 rfl (lv_at hl 0 rfl) ?_
    refine lv_dup hx hb dX5_takeOpening_19 rfl ?_
    refine gfC_X5_46 X I (kC_2 E) dX5_takeOpening_20 ?_
    refine lv_iconst (v := 1) hx hb dX5_takeOpening_23 (by decide) ?_
    refine lv_iadd hx hb dX5_takeOpening_24 ?_
    refine pfC_X5_46 X I (kC_2 E) dX5_takeOpening_25 (fun H locs I => ?_)
    obtain ⟨σ7, eσ7, h⟩ := lt_e h
    replace I := wi_nm eσ7 I
    refine lv_aload_n hx hb dX5_takeOpening_28 rfl (lv_at hl 0 rfl) ?_
    refine lv_iconst (v := 0) hx hb dX5_takeOpening_29 (by decide) ?_
    refine pfC_X5_49 X I (kC_2 E) dX5_takeOpening_30 (fun H locs I => ?_)
    obtain ⟨σ8, eσ8, h⟩ := lt_e h
    replace I := wi_nm eσ8 I
    refine lv_aload_n hx hb dX5_takeOpening_33 rfl (lv_at hl 0 rfl) ?_
    obtain ⟨q9, hq9, h⟩ := bd h
    refine r_callVV (V := (vC E)) (k := 2) (As := []) (rest := []) X I hl (c_X5_beginNot  hq9) yv_X5_beginNot tw_278 ⟨rfl, rfl, Nat.le_of_ble_eq_true rfl, Nat.le_of_ble_eq_true rfl⟩ (kC_2 E).1 ((kC_2 E).2 (σ8 2)) rfl rfl rfl (Nat.le_of_ble_eq_true rfl) dX5_takeOpening_34 (fun H locs I => ?_)
    refine lv_iconst (v := 0) hx hb dX5_takeOpening_37 (by decide) ?_
    exact r_iret X I (Option.some.inj h).symm dX5_takeOpening_38
theorem c_X5_takeOpening {l : Launch} {E : CE} {σ : Mem} {q : Int32 × Mem} (h : m_X5_takeOpening σ = some q) : CI l (vC E) yX5_takeOpening (.code yX5_takeOpening cX5_takeOpening 1 (some .int) :: GG) rm_X5_takeOpening [.ref (ca E 2)] σ q :=
  mk_CI (by decide +kernel) (Nat.le_of_ble_eq_true rfl) (fun p e s m args below meth c A ls X I hl => w_X5_takeOpening_0 X  σ  h s.heap [] ls I (lv_sub hl [0] rfl))

def rm_X5_operatorOf : Room := { frames := 7, cells := 0, slots := 0, locals := 192 }
def m_X5_operatorOf (σ : Mem) : Option (Int32) := (lt (σ 3 5) fun y1 => (if y1 = (42 : Int32) then (some (-28 : Int32)) else (if y1 = (43 : Int32) then (some (-26 : Int32)) else (if y1 = (45 : Int32) then (some (-27 : Int32)) else (if y1 = (47 : Int32) then (some (-29 : Int32)) else (if y1 = (60 : Int32) then (some (-24 : Int32)) else (if y1 = (61 : Int32) then (some (-25 : Int32)) else ((m_X9_isWord 18 σ).bind fun q8 => (if q8 = (0 : Int32) then ((m_X9_isWord 19 σ).bind fun q10 => (if q10 = (0 : Int32) then (some (0 : Int32)) else (some (-22 : Int32)))) else (some (-21 : Int32)))))))))))
set_option maxHeartbeats 4000000 in
set_option maxRecDepth 100000 in
theorem w_X5_operatorOf_0 {p : Program} {l : Launch} {e : Env} {s : State} {m : MethodId} {args : Array Value} {below : List Frame} {meth : Method} {c : Code} {A : Nat → Prop} {E : CE} {q : Int32} (X : CX p s m meth c args cX5_operatorOf 1 RX5 (some .int)) : ∀ (σ : Mem)  , m_X5_operatorOf σ = some q → ∀ (H : Heap) (locs : List Loc) (ls : Array Slot), WI (vC E) A s H locs σ → lv_has ls 1 [(0, .ref (ca E 2))] → W p l e rm_X5_operatorOf s m args below meth c H locs 0 0 (MQ below (QI (vC E) A (q, σ)) args s 0 0 A) (F0 m 0 ls []) := by
  have hx := X.1
  have hb := X.2.1
  intro σ  h H locs ls I hl
  unfold m_X5_operatorOf at h
  refine lv_aload_n hx hb dX5_operatorOf_0 rfl (lv_at hl 0 rfl) ?_
  refine gfC_X5_12 X I (kC_2 E) (k' := 3) rfl dX5_operatorOf_1 ?_
  refine gfC_X5_63 X I (kC_3 E) dX5_operatorOf_4 ?_
  obtain ⟨y1, ey1, h⟩ := lt_e h
  refine nm_i ey1 ?_
  by_cases c2 : y1 = (42 : Int32)
  · have h := ite_t h c2
    have ht : Int32.toInt y1 = 42 := by rw [c2]; rfl
    refine lv_tableIn (off := 105) (tgt := 112) hx hb dX5_operatorOf_7 (by rw [ht]; decide) (by rw [ht]; decide) (by rw [ht]; rfl) (by decide) ?_
    refine lv_bipush (v := -28) hx hb dX5_operatorOf_112 (by decide) ?_
    exact r_iret X I (congrArg (fun z => (z, σ)) (Option.some.inj h).symm) dX5_operatorOf_114
  replace h := ite_f h c2
  by_cases c3 : y1 = (43 : Int32)
  · have h := ite_t h c3
    have ht : Int32.toInt y1 = 43 := by rw [c3]; rfl
    refine lv_tableIn (off := 99) (tgt := 106) hx hb dX5_operatorOf_7 (by rw [ht]; decide) (by rw [ht]; decide) (by rw [ht]; rfl) (by decide) ?_
    refine lv_bipush (v := -26) hx hb dX5_operatorOf_106 (by decide) ?_
    exact r_iret X I (congrArg (fun z => (z, σ)) (Option.some.inj h).symm) dX5_operatorOf_108
  replace h := ite_f h c3
  by_cases c4 : y1 = (45 : Int32)
  · have h := ite_t h c4
    have ht : Int32.toInt y1 = 45 := by rw [c4]; rfl
    refine lv_tableIn (off := 102) (tgt := 109) hx hb dX5_operatorOf_7 (by rw [ht]; decide) (by rw [ht]; decide) (by rw [ht]; rfl) (by decide) ?_
    refine lv_bipush (v := -27) hx hb dX5_operatorOf_109 (by decide) ?_
    exact r_iret X I (congrArg (fun z => (z, σ)) (Option.some.inj h).symm) dX5_operatorOf_111
  replace h := ite_f h c4
  by_cases c5 : y1 = (47 : Int32)
  · have h := ite_t h c5
    have ht : Int32.toInt y1 = 47 := by rw [c5]; rfl
    refine lv_tableIn (off := 108) (tgt := 115) hx hb dX5_operatorOf_7 (by rw [ht]; decide) (by rw [ht]; decide) (by rw [ht]; rfl) (by decide) ?_
    refine lv_bipush (v := -29) hx hb dX5_operatorOf_115 (by decide) ?_
    exact r_iret X I (congrArg (fun z => (z, σ)) (Option.some.inj h).symm) dX5_operatorOf_117
  replace h := ite_f h c5
  by_cases c6 : y1 = (60 : Int32)
  · have h := ite_t h c6
    have ht : Int32.toInt y1 = 60 := by rw [c6]; rfl
    refine lv_tableIn (off := 93) (tgt := 100) hx hb dX5_operatorOf_7 (by rw [ht]; decide) (by rw [ht]; decide) (by rw [ht]; rfl) (by decide) ?_
    refine lv_bipush (v := -24) hx hb dX5_operatorOf_100 (by decide) ?_
    exact r_iret X I (congrArg (fun z => (z, σ)) (Option.some.inj h).symm) dX5_operatorOf_102
  replace h := ite_f h c6
  by_cases c7 : y1 = (61 : Int32)
  · have h := ite_t h c7
    have ht : Int32.toInt y1 = 61 := by rw [c7]; rfl
    refine lv_tableIn (off := 96) (tgt := 103) hx hb dX5_operatorOf_7 (by rw [ht]; decide) (by rw [ht]; decide) (by rw [ht]; rfl) (by decide) ?_
    refine lv_bipush (v := -25) hx hb dX5_operatorOf_103 (by decide) ?_
    exact r_iret X I (congrArg (fun z => (z, σ)) (Option.some.inj h).symm) dX5_operatorOf_105
  replace h := ite_f h c7
  have kd : W p l e rm_X5_operatorOf s m args below meth c H locs 0 0 (MQ below (QI (vC E) A (q, σ)) args s 0 0 A) (F0 m 118 ls []) := by
    refine lv_aload_n hx hb dX5_operatorOf_118 rfl (lv_at hl 0 rfl) ?_
    refine gfC_X5_12 X I (kC_2 E) (k' := 3) rfl dX5_operatorOf_119 ?_
    refine ldcSC X I (w := 18) (by decide) rfl rfl dX5_operatorOf_122 ?_
    obtain ⟨q8, hq8, h⟩ := bd h
    refine r_callVI (V := (vC E)) (k := 3) (As := [.ref (saC E 18)]) (rest := []) X I hl (c_X9_isWord (by decide) hq8) yv_X9_isWord tw_300 ⟨rfl, rfl, Nat.le_of_ble_eq_true rfl, Nat.le_of_ble_eq_true rfl⟩ (kC_3 E).1 ((kC_3 E).2 (σ 3)) rfl rfl rfl (Nat.le_of_ble_eq_true rfl) dX5_operatorOf_124 (fun H locs I => ?_)
    refine lv_if_eq (tgt := 135) hx hb dX5_operatorOf_127 (by decide) (fun c9 => ?_) (fun c9 => ?_)
    · have h := ite_t h c9
      refine lv_aload_n hx hb dX5_operatorOf_135 rfl (lv_at hl 0 rfl) ?_
      refine gfC_X5_12 X I (kC_2 E) (k' := 3) rfl dX5_operatorOf_136 ?_
      refine ldcSC X I (w := 19) (by decide) rfl rfl dX5_operatorOf_139 ?_
      obtain ⟨q10, hq10, h⟩ := bd h
      refine r_callVI (V := (vC E)) (k := 3) (As := [.ref (saC E 19)]) (rest := []) X I hl (c_X9_isWord (by decide) hq10) yv_X9_isWord tw_300 ⟨rfl, rfl, Nat.le_of_ble_eq_true rfl, Nat.le_of_ble_eq_true rfl⟩ (kC_3 E).1 ((kC_3 E).2 (σ 3)) rfl rfl rfl (Nat.le_of_ble_eq_true rfl) dX5_operatorOf_141 (fun H locs I => ?_)
      refine lv_if_eq (tgt := 152) hx hb dX5_operatorOf_144 (by decide) (fun c11 => ?_) (fun c11 => ?_)
      · have h := ite_t h c11
        refine lv_iconst (v := 0) hx hb dX5_operatorOf_152 (by decide) ?_
        exact r_iret X I (congrArg (fun z => (z, σ)) (Option.some.inj h).symm) dX5_operatorOf_153
      · have h := ite_f h c11
        refine lv_bipush (v := -22) hx hb dX5_operatorOf_147 (by decide) ?_
        refine lv_goto (tgt := 153) hx hb dX5_operatorOf_149 (by decide) ?_
        exact r_iret X I (congrArg (fun z => (z, σ)) (Option.some.inj h).symm) dX5_operatorOf_153
    · have h := ite_f h c9
      refine lv_bipush (v := -21) hx hb dX5_operatorOf_130 (by decide) ?_
      refine lv_goto (tgt := 153) hx hb dX5_operatorOf_132 (by decide) ?_
      exact r_iret X I (congrArg (fun z => (z, σ)) (Option.some.inj h).symm) dX5_operatorOf_153
  by_cases c12 : Int32.toInt y1 = 44
  · exact lv_tableIn (off := 111) (tgt := 118) hx hb dX5_operatorOf_7 (by rw [c12]; decide) (by rw [c12]; decide) (by rw [c12]; rfl) (by decide) kd
  by_cases c13 : Int32.toInt y1 = 46
  · exact lv_tableIn (off := 111) (tgt := 118) hx hb dX5_operatorOf_7 (by rw [c13]; decide) (by rw [c13]; decide) (by rw [c13]; rfl) (by decide) kd
  by_cases c14 : Int32.toInt y1 = 48
  · exact lv_tableIn (off := 111) (tgt := 118) hx hb dX5_operatorOf_7 (by rw [c14]; decide) (by rw [c14]; decide) (by rw [c14]; rfl) (by decide) kd
  by_cases c15 : Int32.toInt y1 = 49
  · exact lv_tableIn (off := 111) (tgt := 118) hx hb dX5_operatorOf_7 (by rw [c15]; decide) (by rw [c15]; decide) (by rw [c15]; rfl) (by decide) kd
  by_cases c16 : Int32.toInt y1 = 50
  · exact lv_tableIn (off := 111) (tgt := 118) hx hb dX5_operatorOf_7 (by rw [c16]; decide) (by rw [c16]; decide) (by rw [c16]; rfl) (by decide) kd
  by_cases c17 : Int32.toInt y1 = 51
  · exact lv_tableIn (off := 111) (tgt := 118) hx hb dX5_operatorOf_7 (by rw [c17]; decide) (by rw [c17]; decide) (by rw [c17]; rfl) (by decide) kd
  by_cases c18 : Int32.toInt y1 = 52
  · exact lv_tableIn (off := 111) (tgt := 118) hx hb dX5_operatorOf_7 (by rw [c18]; decide) (by rw [c18]; decide) (by rw [c18]; rfl) (by decide) kd
  by_cases c19 : Int32.toInt y1 = 53
  · exact lv_tableIn (off := 111) (tgt := 118) hx hb dX5_operatorOf_7 (by rw [c19]; decide) (by rw [c19]; decide) (by rw [c19]; rfl) (by decide) kd
  by_cases c20 : Int32.toInt y1 = 54
  · exact lv_tableIn (off := 111) (tgt := 118) hx hb dX5_operatorOf_7 (by rw [c20]; decide) (by rw [c20]; decide) (by rw [c20]; rfl) (by decide) kd
  by_cases c21 : Int32.toInt y1 = 55
  · exact lv_tableIn (off := 111) (tgt := 118) hx hb dX5_operatorOf_7 (by rw [c21]; decide) (by rw [c21]; decide) (by rw [c21]; rfl) (by decide) kd
  by_cases c22 : Int32.toInt y1 = 56
  · exact lv_tableIn (off := 111) (tgt := 118) hx hb dX5_operatorOf_7 (by rw [c22]; decide) (by rw [c22]; decide) (by rw [c22]; rfl) (by decide) kd
  by_cases c23 : Int32.toInt y1 = 57
  · exact lv_tableIn (off := 111) (tgt := 118) hx hb dX5_operatorOf_7 (by rw [c23]; decide) (by rw [c23]; decide) (by rw [c23]; rfl) (by decide) kd
  by_cases c24 : Int32.toInt y1 = 58
  · exact lv_tableIn (off := 111) (tgt := 118) hx hb dX5_operatorOf_7 (by rw [c24]; decide) (by rw [c24]; decide) (by rw [c24]; rfl) (by decide) kd
  by_cases c25 : Int32.toInt y1 = 59
  · exact lv_tableIn (off := 111) (tgt := 118) hx hb dX5_operatorOf_7 (by rw [c25]; decide) (by rw [c25]; decide) (by rw [c25]; rfl) (by decide) kd
  have tc2 := lv_neT (a := 42) c2 (by decide)
  have tc3 := lv_neT (a := 43) c3 (by decide)
  have tc4 := lv_neT (a := 45) c4 (by decide)
  have tc5 := lv_neT (a := 47) c5 (by decide)
  have tc6 := lv_neT (a := 60) c6 (by decide)
  have tc7 := lv_neT (a := 61) c7 (by decide)
  exact lv_tableOut (tgt := 118) hx hb dX5_operatorOf_7 (by omega) (by decide) kd
theorem c_X5_operatorOf {l : Launch} {E : CE} {σ : Mem} {q : Int32} (h : m_X5_operatorOf σ = some q) : CI l (vC E) yX5_operatorOf (.code yX5_operatorOf cX5_operatorOf 1 (some .int) :: GG) rm_X5_operatorOf [.ref (ca E 2)] σ (q, σ) :=
  mk_CI (by decide +kernel) (Nat.le_of_ble_eq_true rfl) (fun p e s m args below meth c A ls X I hl => w_X5_operatorOf_0 X  σ  h s.heap [] ls I (lv_sub hl [0] rfl))

def rm_X5_valueOf : Room := { frames := 7, cells := 0, slots := 0, locals := 192 }
def f_X5_valueOf_65 (σ : Mem) (z0 : Int32) : Option (Int32) := (if z0 = (-1 : Int32) then (if (σ 2 4) = (0 : Int32) then (some z0) else ((m_X9_isWord 24 σ).bind fun q3 => (if q3 = (0 : Int32) then ((m_X9_isWord 25 σ).bind fun q5 => (if q5 = (0 : Int32) then ((m_X9_isWord 26 σ).bind fun q7 => (if q7 = (0 : Int32) then ((m_X9_isWord 27 σ).bind fun q9 => (if q9 = (0 : Int32) then ((m_X9_isWord 28 σ).bind fun q11 => (if q11 = (0 : Int32) then ((m_X9_isWord 29 σ).bind fun q13 => (if q13 = (0 : Int32) then (some (-1 : Int32)) else (some (9 : Int32)))) else (some (8 : Int32)))) else (some (7 : Int32)))) else (some (6 : Int32)))) else (some (5 : Int32)))) else (some (4 : Int32))))) else (some z0))
def m_X5_valueOf (σ : Mem) : Option (Int32) := ((m_X9_isWord 20 σ).bind fun q1 => (if q1 = (0 : Int32) then ((m_X9_isWord 21 σ).bind fun q3 => (if q3 = (0 : Int32) then ((m_X9_isWord 22 σ).bind fun q5 => (if q5 = (0 : Int32) then ((m_X9_isWord 23 σ).bind fun q7 => (if q7 = (0 : Int32) then (f_X5_valueOf_65 σ (-1 : Int32)) else (f_X5_valueOf_65 σ (3 : Int32)))) else (f_X5_valueOf_65 σ (2 : Int32)))) else (f_X5_valueOf_65 σ (1 : Int32)))) else (f_X5_valueOf_65 σ (0 : Int32))))
set_option maxHeartbeats 4000000 in
set_option maxRecDepth 100000 in
theorem w_X5_valueOf_65 {p : Program} {l : Launch} {e : Env} {s : State} {m : MethodId} {args : Array Value} {below : List Frame} {meth : Method} {c : Code} {A : Nat → Prop} {E : CE} {q : Int32} (X : CX p s m meth c args cX5_valueOf 2 RX5 (some .int)) : ∀ (σ : Mem)  (z0 : Int32), f_X5_valueOf_65 σ z0 = some q → ∀ (H : Heap) (locs : List Loc) (ls : Array Slot), WI (vC E) A s H locs σ → lv_has ls 2 [(0, .ref (ca E 2))] → W p l e rm_X5_valueOf s m args below meth c H locs 0 0 (MQ below (QI (vC E) A (q, σ)) args s 0 0 A) (F0 m 65 ls [.int z0]) := by
  have hx := X.1
  have hb := X.2.1
  intro σ z0 h H locs ls I hl
  unfold f_X5_valueOf_65 at h
  refine lv_istore_n (lv' := [(1, .int z0), (0, .ref (ca E 2))]) hx hb dX5_valueOf_65 rfl hl (by decide) rfl (fun ls hl => ?_)
  refine lv_iload_n hx hb dX5_valueOf_66 rfl (lv_at hl 0 rfl) ?_
  refine lv_iconst (v := -1) hx hb dX5_valueOf_67 (by decide) ?_
  refine lv_icmp_ne (tgt := 78) hx hb dX5_valueOf_68 (by decide) (fun c1 => ?_) (fun c1 => ?_)
  · have h := ite_f h c1
    refine lv_iload_n hx hb dX5_valueOf_78 rfl (lv_at hl 0 rfl) ?_
    exact r_iret X I (congrArg (fun z => (z, σ)) (Option.some.inj h).symm) dX5_valueOf_79
  · have h := ite_t h c1
    refine lv_aload_n hx hb dX5_valueOf_71 rfl (lv_at hl 1 rfl) ?_
    refine gfC_X5_33 X I (kC_2 E) dX5_valueOf_72 ?_
    refine lv_if_ne (tgt := 80) hx hb dX5_valueOf_75 (by decide) (fun c2 => ?_) (fun c2 => ?_)
    · have h := ite_f h c2
      refine lv_aload_n hx hb dX5_valueOf_80 rfl (lv_at hl 1 rfl) ?_
      refine gfC_X5_12 X I (kC_2 E) (k' := 3) rfl dX5_valueOf_81 ?_
      refine ldcSC X I (w := 24) (by decide) rfl rfl dX5_valueOf_84 ?_
      obtain ⟨q3, hq3, h⟩ := bd h
      refine r_callVI (V := (vC E)) (k := 3) (As := [.ref (saC E 24)]) (rest := []) X I hl (c_X9_isWord (by decide) hq3) yv_X9_isWord tw_300 ⟨rfl, rfl, Nat.le_of_ble_eq_true rfl, Nat.le_of_ble_eq_true rfl⟩ (kC_3 E).1 ((kC_3 E).2 (σ 3)) rfl rfl rfl (Nat.le_of_ble_eq_true rfl) dX5_valueOf_86 (fun H locs I => ?_)
      refine lv_if_eq (tgt := 96) hx hb dX5_valueOf_89 (by decide) (fun c4 => ?_) (fun c4 => ?_)
      · have h := ite_t h c4
        refine lv_aload_n hx hb dX5_valueOf_96 rfl (lv_at hl 1 rfl) ?_
        refine gfC_X5_12 X I (kC_2 E) (k' := 3) rfl dX5_valueOf_97 ?_
        refine ldcSC X I (w := 25) (by decide) rfl rfl dX5_valueOf_100 ?_
        obtain ⟨q5, hq5, h⟩ := bd h
        refine r_callVI (V := (vC E)) (k := 3) (As := [.ref (saC E 25)]) (rest := []) X I hl (c_X9_isWord (by decide) hq5) yv_X9_isWord tw_300 ⟨rfl, rfl, Nat.le_of_ble_eq_true rfl, Nat.le_of_ble_eq_true rfl⟩ (kC_3 E).1 ((kC_3 E).2 (σ 3)) rfl rfl rfl (Nat.le_of_ble_eq_true rfl) dX5_valueOf_102 (fun H locs I => ?_)
        refine lv_if_eq (tgt := 112) hx hb dX5_valueOf_105 (by decide) (fun c6 => ?_) (fun c6 => ?_)
        · have h := ite_t h c6
          refine lv_aload_n hx hb dX5_valueOf_112 rfl (lv_at hl 1 rfl) ?_
          refine gfC_X5_12 X I (kC_2 E) (k' := 3) rfl dX5_valueOf_113 ?_
          refine ldcSC X I (w := 26) (by decide) rfl rfl dX5_valueOf_116 ?_
          obtain ⟨q7, hq7, h⟩ := bd h
          refine r_callVI (V := (vC E)) (k := 3) (As := [.ref (saC E 26)]) (rest := []) X I hl (c_X9_isWord (by decide) hq7) yv_X9_isWord tw_300 ⟨rfl, rfl, Nat.le_of_ble_eq_true rfl, Nat.le_of_ble_eq_true rfl⟩ (kC_3 E).1 ((kC_3 E).2 (σ 3)) rfl rfl rfl (Nat.le_of_ble_eq_true rfl) dX5_valueOf_118 (fun H locs I => ?_)
          refine lv_if_eq (tgt := 129) hx hb dX5_valueOf_121 (by decide) (fun c8 => ?_) (fun c8 => ?_)
          · have h := ite_t h c8
            refine lv_aload_n hx hb dX5_valueOf_129 rfl (lv_at hl 1 rfl) ?_
            refine gfC_X5_12 X I (kC_2 E) (k' := 3) rfl dX5_valueOf_130 ?_
            refine ldcSC X I (w := 27) (by decide) rfl rfl dX5_valueOf_133 ?_
            obtain ⟨q9, hq9, h⟩ := bd h
            refine r_callVI (V := (vC E)) (k := 3) (As := [.ref (saC E 27)]) (rest := []) X I hl (c_X9_isWord (by decide) hq9) yv_X9_isWord tw_300 ⟨rfl, rfl, Nat.le_of_ble_eq_true rfl, Nat.le_of_ble_eq_true rfl⟩ (kC_3 E).1 ((kC_3 E).2 (σ 3)) rfl rfl rfl (Nat.le_of_ble_eq_true rfl) dX5_valueOf_135 (fun H locs I => ?_)
            refine lv_if_eq (tgt := 146) hx hb dX5_valueOf_138 (by decide) (fun c10 => ?_) (fun c10 => ?_)
            · have h := ite_t h c10
              refine lv_aload_n hx hb dX5_valueOf_146 rfl (lv_at hl 1 rfl) ?_
              refine gfC_X5_12 X I (kC_2 E) (k' := 3) rfl dX5_valueOf_147 ?_
              refine ldcSC X I (w := 28) (by decide) rfl rfl dX5_valueOf_150 ?_
              obtain ⟨q11, hq11, h⟩ := bd h
              refine r_callVI (V := (vC E)) (k := 3) (As := [.ref (saC E 28)]) (rest := []) X I hl (c_X9_isWord (by decide) hq11) yv_X9_isWord tw_300 ⟨rfl, rfl, Nat.le_of_ble_eq_true rfl, Nat.le_of_ble_eq_true rfl⟩ (kC_3 E).1 ((kC_3 E).2 (σ 3)) rfl rfl rfl (Nat.le_of_ble_eq_true rfl) dX5_valueOf_152 (fun H locs I => ?_)
              refine lv_if_eq (tgt := 163) hx hb dX5_valueOf_155 (by decide) (fun c12 => ?_) (fun c12 => ?_)
              · have h := ite_t h c12
                refine lv_aload_n hx hb dX5_valueOf_163 rfl (lv_at hl 1 rfl) ?_
                refine gfC_X5_12 X I (kC_2 E) (k' := 3) rfl dX5_valueOf_164 ?_
                refine ldcSC X I (w := 29) (by decide) rfl rfl dX5_valueOf_167 ?_
                obtain ⟨q13, hq13, h⟩ := bd h
                refine r_callVI (V := (vC E)) (k := 3) (As := [.ref (saC E 29)]) (rest := []) X I hl (c_X9_isWord (by decide) hq13) yv_X9_isWord tw_300 ⟨rfl, rfl, Nat.le_of_ble_eq_true rfl, Nat.le_of_ble_eq_true rfl⟩ (kC_3 E).1 ((kC_3 E).2 (σ 3)) rfl rfl rfl (Nat.le_of_ble_eq_true rfl) dX5_valueOf_169 (fun H locs I => ?_)
                refine lv_if_eq (tgt := 180) hx hb dX5_valueOf_172 (by decide) (fun c14 => ?_) (fun c14 => ?_)
                · have h := ite_t h c14
                  refine lv_iconst (v := -1) hx hb dX5_valueOf_180 (by decide) ?_
                  exact r_iret X I (congrArg (fun z => (z, σ)) (Option.some.inj h).symm) dX5_valueOf_181
                · have h := ite_f h c14
                  refine lv_bipush (v := 9) hx hb dX5_valueOf_175 (by decide) ?_
                  refine lv_goto (tgt := 181) hx hb dX5_valueOf_177 (by decide) ?_
                  exact r_iret X I (congrArg (fun z => (z, σ)) (Option.some.inj h).symm) dX5_valueOf_181
              · have h := ite_f h c12
                refine lv_bipush (v := 8) hx hb dX5_valueOf_158 (by decide) ?_
                refine lv_goto (tgt := 181) hx hb dX5_valueOf_160 (by decide) ?_
                exact r_iret X I (congrArg (fun z => (z, σ)) (Option.some.inj h).symm) dX5_valueOf_181
            · have h := ite_f h c10
              refine lv_bipush (v := 7) hx hb dX5_valueOf_141 (by decide) ?_
              refine lv_goto (tgt := 181) hx hb dX5_valueOf_143 (by decide) ?_
              exact r_iret X I (congrArg (fun z => (z, σ)) (Option.some.inj h).symm) dX5_valueOf_181
          · have h := ite_f h c8
            refine lv_bipush (v := 6) hx hb dX5_valueOf_124 (by decide) ?_
            refine lv_goto (tgt := 181) hx hb dX5_valueOf_126 (by decide) ?_
            exact r_iret X I (congrArg (fun z => (z, σ)) (Option.some.inj h).symm) dX5_valueOf_181
        · have h := ite_f h c6
          refine lv_iconst (v := 5) hx hb dX5_valueOf_108 (by decide) ?_
          refine lv_goto (tgt := 181) hx hb dX5_valueOf_109 (by decide) ?_
          exact r_iret X I (congrArg (fun z => (z, σ)) (Option.some.inj h).symm) dX5_valueOf_181
      · have h := ite_f h c4
        refine lv_iconst (v := 4) hx hb dX5_valueOf_92 (by decide) ?_
        refine lv_goto (tgt := 181) hx hb dX5_valueOf_93 (by decide) ?_
        exact r_iret X I (congrArg (fun z => (z, σ)) (Option.some.inj h).symm) dX5_valueOf_181
    · have h := ite_t h c2
      refine lv_iload_n hx hb dX5_valueOf_78 rfl (lv_at hl 0 rfl) ?_
      exact r_iret X I (congrArg (fun z => (z, σ)) (Option.some.inj h).symm) dX5_valueOf_79
set_option maxHeartbeats 4000000 in
set_option maxRecDepth 100000 in
theorem w_X5_valueOf_0 {p : Program} {l : Launch} {e : Env} {s : State} {m : MethodId} {args : Array Value} {below : List Frame} {meth : Method} {c : Code} {A : Nat → Prop} {E : CE} {q : Int32} (X : CX p s m meth c args cX5_valueOf 2 RX5 (some .int)) : ∀ (σ : Mem)  , m_X5_valueOf σ = some q → ∀ (H : Heap) (locs : List Loc) (ls : Array Slot), WI (vC E) A s H locs σ → lv_has ls 2 [(0, .ref (ca E 2))] → W p l e rm_X5_valueOf s m args below meth c H locs 0 0 (MQ below (QI (vC E) A (q, σ)) args s 0 0 A) (F0 m 0 ls []) := by
  have hx := X.1
  have hb := X.2.1
  intro σ  h H locs ls I hl
  unfold m_X5_valueOf at h
  refine lv_aload_n hx hb dX5_valueOf_0 rfl (lv_at hl 0 rfl) ?_
  refine gfC_X5_12 X I (kC_2 E) (k' := 3) rfl dX5_valueOf_1 ?_
  refine ldcSC X I (w := 20) (by decide) rfl rfl dX5_valueOf_4 ?_
  obtain ⟨q1, hq1, h⟩ := bd h
  refine r_callVI (V := (vC E)) (k := 3) (As := [.ref (saC E 20)]) (rest := []) X I hl (c_X9_isWord (by decide) hq1) yv_X9_isWord tw_300 ⟨rfl, rfl, Nat.le_of_ble_eq_true rfl, Nat.le_of_ble_eq_true rfl⟩ (kC_3 E).1 ((kC_3 E).2 (σ 3)) rfl rfl rfl (Nat.le_of_ble_eq_true rfl) dX5_valueOf_6 (fun H locs I => ?_)
  refine lv_if_eq (tgt := 16) hx hb dX5_valueOf_9 (by decide) (fun c2 => ?_) (fun c2 => ?_)
  · have h := ite_t h c2
    refine lv_aload_n hx hb dX5_valueOf_16 rfl (lv_at hl 0 rfl) ?_
    refine gfC_X5_12 X I (kC_2 E) (k' := 3) rfl dX5_valueOf_17 ?_
    refine ldcSC X I (w := 21) (by decide) rfl rfl dX5_valueOf_20 ?_
    obtain ⟨q3, hq3, h⟩ := bd h
    refine r_callVI (V := (vC E)) (k := 3) (As := [.ref (saC E 21)]) (rest := []) X I hl (c_X9_isWord (by decide) hq3) yv_X9_isWord tw_300 ⟨rfl, rfl, Nat.le_of_ble_eq_true rfl, Nat.le_of_ble_eq_true rfl⟩ (kC_3 E).1 ((kC_3 E).2 (σ 3)) rfl rfl rfl (Nat.le_of_ble_eq_true rfl) dX5_valueOf_22 (fun H locs I => ?_)
    refine lv_if_eq (tgt := 32) hx hb dX5_valueOf_25 (by decide) (fun c4 => ?_) (fun c4 => ?_)
    · have h := ite_t h c4
      refine lv_aload_n hx hb dX5_valueOf_32 rfl (lv_at hl 0 rfl) ?_
      refine gfC_X5_12 X I (kC_2 E) (k' := 3) rfl dX5_valueOf_33 ?_
      refine ldcSC X I (w := 22) (by decide) rfl rfl dX5_valueOf_36 ?_
      obtain ⟨q5, hq5, h⟩ := bd h
      refine r_callVI (V := (vC E)) (k := 3) (As := [.ref (saC E 22)]) (rest := []) X I hl (c_X9_isWord (by decide) hq5) yv_X9_isWord tw_300 ⟨rfl, rfl, Nat.le_of_ble_eq_true rfl, Nat.le_of_ble_eq_true rfl⟩ (kC_3 E).1 ((kC_3 E).2 (σ 3)) rfl rfl rfl (Nat.le_of_ble_eq_true rfl) dX5_valueOf_38 (fun H locs I => ?_)
      refine lv_if_eq (tgt := 48) hx hb dX5_valueOf_41 (by decide) (fun c6 => ?_) (fun c6 => ?_)
      · have h := ite_t h c6
        refine lv_aload_n hx hb dX5_valueOf_48 rfl (lv_at hl 0 rfl) ?_
        refine gfC_X5_12 X I (kC_2 E) (k' := 3) rfl dX5_valueOf_49 ?_
        refine ldcSC X I (w := 23) (by decide) rfl rfl dX5_valueOf_52 ?_
        obtain ⟨q7, hq7, h⟩ := bd h
        refine r_callVI (V := (vC E)) (k := 3) (As := [.ref (saC E 23)]) (rest := []) X I hl (c_X9_isWord (by decide) hq7) yv_X9_isWord tw_300 ⟨rfl, rfl, Nat.le_of_ble_eq_true rfl, Nat.le_of_ble_eq_true rfl⟩ (kC_3 E).1 ((kC_3 E).2 (σ 3)) rfl rfl rfl (Nat.le_of_ble_eq_true rfl) dX5_valueOf_54 (fun H locs I => ?_)
        refine lv_if_eq (tgt := 64) hx hb dX5_valueOf_57 (by decide) (fun c8 => ?_) (fun c8 => ?_)
        · have h := ite_t h c8
          refine lv_iconst (v := -1) hx hb dX5_valueOf_64 (by decide) ?_
          exact w_X5_valueOf_65 X   σ (-1 : Int32) h H locs ls I (lv_sub hl [0] rfl)
        · have h := ite_f h c8
          refine lv_iconst (v := 3) hx hb dX5_valueOf_60 (by decide) ?_
          refine lv_goto (tgt := 65) hx hb dX5_valueOf_61 (by decide) ?_
          exact w_X5_valueOf_65 X   σ (3 : Int32) h H locs ls I (lv_sub hl [0] rfl)
      · have h := ite_f h c6
        refine lv_iconst (v := 2) hx hb dX5_valueOf_44 (by decide) ?_
        refine lv_goto (tgt := 65) hx hb dX5_valueOf_45 (by decide) ?_
        exact w_X5_valueOf_65 X   σ (2 : Int32) h H locs ls I (lv_sub hl [0] rfl)
    · have h := ite_f h c4
      refine lv_iconst (v := 1) hx hb dX5_valueOf_28 (by decide) ?_
      refine lv_goto (tgt := 65) hx hb dX5_valueOf_29 (by decide) ?_
      exact w_X5_valueOf_65 X   σ (1 : Int32) h H locs ls I (lv_sub hl [0] rfl)
  · have h := ite_f h c2
    refine lv_iconst (v := 0) hx hb dX5_valueOf_12 (by decide) ?_
    refine lv_goto (tgt := 65) hx hb dX5_valueOf_13 (by decide) ?_
    exact w_X5_valueOf_65 X   σ (0 : Int32) h H locs ls I (lv_sub hl [0] rfl)
theorem c_X5_valueOf {l : Launch} {E : CE} {σ : Mem} {q : Int32} (h : m_X5_valueOf σ = some q) : CI l (vC E) yX5_valueOf (.code yX5_valueOf cX5_valueOf 2 (some .int) :: GG) rm_X5_valueOf [.ref (ca E 2)] σ (q, σ) :=
  mk_CI (by decide +kernel) (Nat.le_of_ble_eq_true rfl) (fun p e s m args below meth c A ls X I hl => w_X5_valueOf_0 X  σ  h s.heap [] ls I (lv_sub hl [0] rfl))

def rm_X5_takePart : Room := { frames := 8, cells := 0, slots := 0, locals := 213 }
def f_X5_takePart_36 (σ : Mem) : Option (Int32 × Mem) := (if (σ 2 8) < (6 : Int32) then (if (σ 3 5) = (40 : Int32) then ((m_X5_takeOpening σ).bind fun q16 => (some (q16.1, q16.2))) else (if (σ 3 5) = (2 : Int32) then (if (σ 3 6) = (-1 : Int32) then (some ((2 : Int32), σ)) else ((m_X5_endPart σ (σ 3 6)).bind fun q15 => (some (q15.1, q15.2)))) else (if (σ 2 6) = (0 : Int32) then ((m_X5_valueOf σ).bind fun q5 => (if q5 = (-1 : Int32) then (some ((3 : Int32), σ)) else ((m_X5_endPart σ ((-1 : Int32) - q5)).bind fun q7 => (some (q7.1, q7.2))))) else ((m_X9_isWord 17 σ).bind fun q8 => (if q8 = (0 : Int32) then ((m_X5_valueOf σ).bind fun q10 => (if q10 = (-1 : Int32) then (some ((3 : Int32), σ)) else ((m_X5_endPart σ ((-1 : Int32) - q10)).bind fun q12 => (some (q12.1, q12.2))))) else ((m_X5_takeNot σ).bind fun q13 => (some (q13.1, q13.2)))))))) else (some ((2 : Int32), σ)))
def m_X5_takePart (σ : Mem) : Option (Int32 × Mem) := (if (σ 3 5) = (2 : Int32) then (f_X5_takePart_36 σ) else (if (σ 3 5) = (1 : Int32) then (f_X5_takePart_36 σ) else (if (σ 3 5) = (40 : Int32) then (f_X5_takePart_36 σ) else (some ((1 : Int32), σ)))))
set_option maxHeartbeats 4000000 in
set_option maxRecDepth 100000 in
theorem w_X5_takePart_36 {p : Program} {l : Launch} {e : Env} {s : State} {m : MethodId} {args : Array Value} {below : List Frame} {meth : Method} {c : Code} {A : Nat → Prop} {E : CE} {q : Int32 × Mem} (X : CX p s m meth c args cX5_takePart 2 RX5 (some .int)) : ∀ (σ : Mem)  , f_X5_takePart_36 σ = some q → ∀ (H : Heap) (locs : List Loc) (ls : Array Slot), WI (vC E) A s H locs σ → lv_has ls 2 [(0, .ref (ca E 2))] → W p l e rm_X5_takePart s m args below meth c H locs 0 0 (MQ below (QI (vC E) A q) args s 0 0 A) (F0 m 36 ls []) := by
  have hx := X.1
  have hb := X.2.1
  intro σ  h H locs ls I hl
  unfold f_X5_takePart_36 at h
  refine lv_aload_n hx hb dX5_takePart_36 rfl (lv_at hl 0 rfl) ?_
  refine gfC_X5_46 X I (kC_2 E) dX5_takePart_37 ?_
  refine lv_bipush (v := 6) hx hb dX5_takePart_40 (by decide) ?_
  refine lv_icmp_lt (tgt := 47) hx hb dX5_takePart_42 (by decide) (fun c1 => ?_) (fun c1 => ?_)
  · have h := ite_t h c1
    refine lv_aload_n hx hb dX5_takePart_47 rfl (lv_at hl 0 rfl) ?_
    refine gfC_X5_12 X I (kC_2 E) (k' := 3) rfl dX5_takePart_48 ?_
    refine gfC_X5_63 X I (kC_3 E) dX5_takePart_51 ?_
    refine lv_bipush (v := 40) hx hb dX5_takePart_54 (by decide) ?_
    refine lv_icmp_ne (tgt := 64) hx hb dX5_takePart_56 (by decide) (fun c2 => ?_) (fun c2 => ?_)
    · have h := ite_f h c2
      refine lv_aload_n hx hb dX5_takePart_64 rfl (lv_at hl 0 rfl) ?_
      refine gfC_X5_12 X I (kC_2 E) (k' := 3) rfl dX5_takePart_65 ?_
      refine gfC_X5_63 X I (kC_3 E) dX5_takePart_68 ?_
      refine lv_iconst (v := 2) hx hb dX5_takePart_71 (by decide) ?_
      refine lv_icmp_ne (tgt := 102) hx hb dX5_takePart_72 (by decide) (fun c3 => ?_) (fun c3 => ?_)
      · have h := ite_f h c3
        refine lv_aload_n hx hb dX5_takePart_102 rfl (lv_at hl 0 rfl) ?_
        refine gfC_X5_40 X I (kC_2 E) dX5_takePart_103 ?_
        refine lv_if_eq (tgt := 126) hx hb dX5_takePart_106 (by decide) (fun c4 => ?_) (fun c4 => ?_)
        · have h := ite_t h c4
          refine lv_aload_n hx hb dX5_takePart_126 rfl (lv_at hl 0 rfl) ?_
          obtain ⟨q5, hq5, h⟩ := bd h
          refine r_callVI (V := (vC E)) (k := 2) (As := []) (rest := []) X I hl (c_X5_valueOf  hq5) yv_X5_valueOf tw_305 ⟨rfl, rfl, Nat.le_of_ble_eq_true rfl, Nat.le_of_ble_eq_true rfl⟩ (kC_2 E).1 ((kC_2 E).2 (σ 2)) rfl rfl rfl (Nat.le_of_ble_eq_true rfl) dX5_takePart_127 (fun H locs I => ?_)
          refine lv_istore_n (lv' := [(1, .int q5), (0, .ref (ca E 2))]) hx hb dX5_takePart_130 rfl hl (by decide) rfl (fun ls hl => ?_)
          refine lv_iload_n hx hb dX5_takePart_131 rfl (lv_at hl 0 rfl) ?_
          refine lv_iconst (v := -1) hx hb dX5_takePart_132 (by decide) ?_
          refine lv_icmp_ne (tgt := 140) hx hb dX5_takePart_133 (by decide) (fun c6 => ?_) (fun c6 => ?_)
          · have h := ite_f h c6
            refine lv_aload_n hx hb dX5_takePart_140 rfl (lv_at hl 1 rfl) ?_
            refine lv_iconst (v := -1) hx hb dX5_takePart_141 (by decide) ?_
            refine lv_iload_n hx hb dX5_takePart_142 rfl (lv_at hl 0 rfl) ?_
            refine lv_isub hx hb dX5_takePart_143 ?_
            obtain ⟨q7, hq7, h⟩ := bd h
            refine r_callVI (V := (vC E)) (k := 2) (As := [.int ((-1 : Int32) - q5)]) (rest := []) X I hl (c_X5_endPart  hq7) yv_X5_endPart tw_310 ⟨rfl, rfl, Nat.le_of_ble_eq_true rfl, Nat.le_of_ble_eq_true rfl⟩ (kC_2 E).1 ((kC_2 E).2 (σ 2)) rfl rfl rfl (Nat.le_of_ble_eq_true rfl) dX5_takePart_144 (fun H locs I => ?_)
            exact r_iret X I (Option.some.inj h).symm dX5_takePart_147
          · have h := ite_t h c6
            refine lv_iconst (v := 3) hx hb dX5_takePart_136 (by decide) ?_
            refine lv_goto (tgt := 147) hx hb dX5_takePart_137 (by decide) ?_
            exact r_iret X I (Option.some.inj h).symm dX5_takePart_147
        · have h := ite_f h c4
          refine lv_aload_n hx hb dX5_takePart_109 rfl (lv_at hl 0 rfl) ?_
          refine gfC_X5_12 X I (kC_2 E) (k' := 3) rfl dX5_takePart_110 ?_
          refine ldcSC X I (w := 17) (by decide) rfl rfl dX5_takePart_113 ?_
          obtain ⟨q8, hq8, h⟩ := bd h
          refine r_callVI (V := (vC E)) (k := 3) (As := [.ref (saC E 17)]) (rest := []) X I hl (c_X9_isWord (by decide) hq8) yv_X9_isWord tw_300 ⟨rfl, rfl, Nat.le_of_ble_eq_true rfl, Nat.le_of_ble_eq_true rfl⟩ (kC_3 E).1 ((kC_3 E).2 (σ 3)) rfl rfl rfl (Nat.le_of_ble_eq_true rfl) dX5_takePart_115 (fun H locs I => ?_)
          refine lv_if_eq (tgt := 126) hx hb dX5_takePart_118 (by decide) (fun c9 => ?_) (fun c9 => ?_)
          · have h := ite_t h c9
            refine lv_aload_n hx hb dX5_takePart_126 rfl (lv_at hl 0 rfl) ?_
            obtain ⟨q10, hq10, h⟩ := bd h
            refine r_callVI (V := (vC E)) (k := 2) (As := []) (rest := []) X I hl (c_X5_valueOf  hq10) yv_X5_valueOf tw_305 ⟨rfl, rfl, Nat.le_of_ble_eq_true rfl, Nat.le_of_ble_eq_true rfl⟩ (kC_2 E).1 ((kC_2 E).2 (σ 2)) rfl rfl rfl (Nat.le_of_ble_eq_true rfl) dX5_takePart_127 (fun H locs I => ?_)
            refine lv_istore_n (lv' := [(1, .int q10), (0, .ref (ca E 2))]) hx hb dX5_takePart_130 rfl hl (by decide) rfl (fun ls hl => ?_)
            refine lv_iload_n hx hb dX5_takePart_131 rfl (lv_at hl 0 rfl) ?_
            refine lv_iconst (v := -1) hx hb dX5_takePart_132 (by decide) ?_
            refine lv_icmp_ne (tgt := 140) hx hb dX5_takePart_133 (by decide) (fun c11 => ?_) (fun c11 => ?_)
            · have h := ite_f h c11
              refine lv_aload_n hx hb dX5_takePart_140 rfl (lv_at hl 1 rfl) ?_
              refine lv_iconst (v := -1) hx hb dX5_takePart_141 (by decide) ?_
              refine lv_iload_n hx hb dX5_takePart_142 rfl (lv_at hl 0 rfl) ?_
              refine lv_isub hx hb dX5_takePart_143 ?_
              obtain ⟨q12, hq12, h⟩ := bd h
              refine r_callVI (V := (vC E)) (k := 2) (As := [.int ((-1 : Int32) - q10)]) (rest := []) X I hl (c_X5_endPart  hq12) yv_X5_endPart tw_310 ⟨rfl, rfl, Nat.le_of_ble_eq_true rfl, Nat.le_of_ble_eq_true rfl⟩ (kC_2 E).1 ((kC_2 E).2 (σ 2)) rfl rfl rfl (Nat.le_of_ble_eq_true rfl) dX5_takePart_144 (fun H locs I => ?_)
              exact r_iret X I (Option.some.inj h).symm dX5_takePart_147
            · have h := ite_t h c11
              refine lv_iconst (v := 3) hx hb dX5_takePart_136 (by decide) ?_
              refine lv_goto (tgt := 147) hx hb dX5_takePart_137 (by decide) ?_
              exact r_iret X I (Option.some.inj h).symm dX5_takePart_147
          · have h := ite_f h c9
            refine lv_aload_n hx hb dX5_takePart_121 rfl (lv_at hl 0 rfl) ?_
            obtain ⟨q13, hq13, h⟩ := bd h
            refine r_callVI (V := (vC E)) (k := 2) (As := []) (rest := []) X I hl (c_X5_takeNot  hq13) yv_X5_takeNot tw_315 ⟨rfl, rfl, Nat.le_of_ble_eq_true rfl, Nat.le_of_ble_eq_true rfl⟩ (kC_2 E).1 ((kC_2 E).2 (σ 2)) rfl rfl rfl (Nat.le_of_ble_eq_true rfl) dX5_takePart_122 (fun H locs I => ?_)
            exact r_iret X I (Option.some.inj h).symm dX5_takePart_125
      · have h := ite_t h c3
        refine lv_aload_n hx hb dX5_takePart_75 rfl (lv_at hl 0 rfl) ?_
        refine gfC_X5_12 X I (kC_2 E) (k' := 3) rfl dX5_takePart_76 ?_
        refine gfC_X5_90 X I (kC_3 E) dX5_takePart_79 ?_
        refine lv_iconst (v := -1) hx hb dX5_takePart_82 (by decide) ?_
        refine lv_icmp_ne (tgt := 90) hx hb dX5_takePart_83 (by decide) (fun c14 => ?_) (fun c14 => ?_)
        · have h := ite_f h c14
          refine lv_aload_n hx hb dX5_takePart_90 rfl (lv_at hl 0 rfl) ?_
          refine lv_aload_n hx hb dX5_takePart_91 rfl (lv_at hl 0 rfl) ?_
          refine gfC_X5_12 X I (kC_2 E) (k' := 3) rfl dX5_takePart_92 ?_
          refine gfC_X5_90 X I (kC_3 E) dX5_takePart_95 ?_
          obtain ⟨q15, hq15, h⟩ := bd h
          refine r_callVI (V := (vC E)) (k := 2) (As := [.int (σ 3 6)]) (rest := []) X I hl (c_X5_endPart  hq15) yv_X5_endPart tw_310 ⟨rfl, rfl, Nat.le_of_ble_eq_true rfl, Nat.le_of_ble_eq_true rfl⟩ (kC_2 E).1 ((kC_2 E).2 (σ 2)) rfl rfl rfl (Nat.le_of_ble_eq_true rfl) dX5_takePart_98 (fun H locs I => ?_)
          exact r_iret X I (Option.some.inj h).symm dX5_takePart_101
        · have h := ite_t h c14
          refine lv_iconst (v := 2) hx hb dX5_takePart_86 (by decide) ?_
          refine lv_goto (tgt := 101) hx hb dX5_takePart_87 (by decide) ?_
          exact r_iret X I (Option.some.inj h).symm dX5_takePart_101
    · have h := ite_t h c2
      refine lv_aload_n hx hb dX5_takePart_59 rfl (lv_at hl 0 rfl) ?_
      obtain ⟨q16, hq16, h⟩ := bd h
      refine r_callVI (V := (vC E)) (k := 2) (As := []) (rest := []) X I hl (c_X5_takeOpening  hq16) yv_X5_takeOpening tw_321 ⟨rfl, rfl, Nat.le_of_ble_eq_true rfl, Nat.le_of_ble_eq_true rfl⟩ (kC_2 E).1 ((kC_2 E).2 (σ 2)) rfl rfl rfl (Nat.le_of_ble_eq_true rfl) dX5_takePart_60 (fun H locs I => ?_)
      exact r_iret X I (Option.some.inj h).symm dX5_takePart_63
  · have h := ite_f h c1
    refine lv_iconst (v := 2) hx hb dX5_takePart_45 (by decide) ?_
    exact r_iret X I (Option.some.inj h).symm dX5_takePart_46
set_option maxHeartbeats 4000000 in
set_option maxRecDepth 100000 in
theorem w_X5_takePart_0 {p : Program} {l : Launch} {e : Env} {s : State} {m : MethodId} {args : Array Value} {below : List Frame} {meth : Method} {c : Code} {A : Nat → Prop} {E : CE} {q : Int32 × Mem} (X : CX p s m meth c args cX5_takePart 2 RX5 (some .int)) : ∀ (σ : Mem)  , m_X5_takePart σ = some q → ∀ (H : Heap) (locs : List Loc) (ls : Array Slot), WI (vC E) A s H locs σ → lv_has ls 2 [(0, .ref (ca E 2))] → W p l e rm_X5_takePart s m args below meth c H locs 0 0 (MQ below (QI (vC E) A q) args s 0 0 A) (F0 m 0 ls []) := by
  have hx := X.1
  have hb := X.2.1
  intro σ  h H locs ls I hl
  unfold m_X5_takePart at h
  refine lv_aload_n hx hb dX5_takePart_0 rfl (lv_at hl 0 rfl) ?_
  refine gfC_X5_12 X I (kC_2 E) (k' := 3) rfl dX5_takePart_1 ?_
  refine gfC_X5_63 X I (kC_3 E) dX5_takePart_4 ?_
  refine lv_iconst (v := 2) hx hb dX5_takePart_7 (by decide) ?_
  refine lv_icmp_eq (tgt := 36) hx hb dX5_takePart_8 (by decide) (fun c1 => ?_) (fun c1 => ?_)
  · have h := ite_t h c1
    exact w_X5_takePart_36 X   σ h H locs ls I (lv_sub hl [0] rfl)
  · have h := ite_f h c1
    refine lv_aload_n hx hb dX5_takePart_11 rfl (lv_at hl 0 rfl) ?_
    refine gfC_X5_12 X I (kC_2 E) (k' := 3) rfl dX5_takePart_12 ?_
    refine gfC_X5_63 X I (kC_3 E) dX5_takePart_15 ?_
    refine lv_iconst (v := 1) hx hb dX5_takePart_18 (by decide) ?_
    refine lv_icmp_eq (tgt := 36) hx hb dX5_takePart_19 (by decide) (fun c2 => ?_) (fun c2 => ?_)
    · have h := ite_t h c2
      exact w_X5_takePart_36 X   σ h H locs ls I (lv_sub hl [0] rfl)
    · have h := ite_f h c2
      refine lv_aload_n hx hb dX5_takePart_22 rfl (lv_at hl 0 rfl) ?_
      refine gfC_X5_12 X I (kC_2 E) (k' := 3) rfl dX5_takePart_23 ?_
      refine gfC_X5_63 X I (kC_3 E) dX5_takePart_26 ?_
      refine lv_bipush (v := 40) hx hb dX5_takePart_29 (by decide) ?_
      refine lv_icmp_eq (tgt := 36) hx hb dX5_takePart_31 (by decide) (fun c3 => ?_) (fun c3 => ?_)
      · have h := ite_t h c3
        exact w_X5_takePart_36 X   σ h H locs ls I (lv_sub hl [0] rfl)
      · have h := ite_f h c3
        refine lv_iconst (v := 1) hx hb dX5_takePart_34 (by decide) ?_
        exact r_iret X I (Option.some.inj h).symm dX5_takePart_35
theorem c_X5_takePart {l : Launch} {E : CE} {σ : Mem} {q : Int32 × Mem} (h : m_X5_takePart σ = some q) : CI l (vC E) yX5_takePart (.code yX5_takePart cX5_takePart 2 (some .int) :: GG) rm_X5_takePart [.ref (ca E 2)] σ q :=
  mk_CI (by decide +kernel) (Nat.le_of_ble_eq_true rfl) (fun p e s m args below meth c A ls X I hl => w_X5_takePart_0 X  σ  h s.heap [] ls I (lv_sub hl [0] rfl))

def rm_X5_takeClosing : Room := { frames := 3, cells := 0, slots := 0, locals := 106 }
def m_X5_takeClosing (σ : Mem) : Option (Int32 × Mem) := ((m_X5_release σ (1 : Int32)).bind fun q1 => (if (q1 2 3) ≤ (0 : Int32) then (lt (ms q1 2 8 ((q1 2 8) - (1 : Int32))) fun σ3 => (some ((0 : Int32), σ3))) else (lt (ms q1 2 3 ((q1 2 3) - (1 : Int32))) fun σ4 => (gd (σ4 2 3) 128 (if (σ4 8 (Int32.toNatClampNeg (σ4 2 3))) = (-31 : Int32) then (gz (1 : Int32) (lt (ms σ4 2 7 (1 : Int32)) fun σ8 => (lt (ms σ8 2 8 ((σ8 2 8) - (1 : Int32))) fun σ9 => (some ((0 : Int32), σ9))))) else (gz (0 : Int32) (lt (ms σ4 2 7 (0 : Int32)) fun σ6 => (lt (ms σ6 2 8 ((σ6 2 8) - (1 : Int32))) fun σ7 => (some ((0 : Int32), σ7))))))))))
set_option maxHeartbeats 4000000 in
set_option maxRecDepth 100000 in
theorem w_X5_takeClosing_0 {p : Program} {l : Launch} {e : Env} {s : State} {m : MethodId} {args : Array Value} {below : List Frame} {meth : Method} {c : Code} {A : Nat → Prop} {E : CE} {q : Int32 × Mem} (X : CX p s m meth c args cX5_takeClosing 1 RX5 (some .int)) : ∀ (σ : Mem)  , m_X5_takeClosing σ = some q → ∀ (H : Heap) (locs : List Loc) (ls : Array Slot), WI (vC E) A s H locs σ → lv_has ls 1 [(0, .ref (ca E 2))] → W p l e rm_X5_takeClosing s m args below meth c H locs 0 0 (MQ below (QI (vC E) A q) args s 0 0 A) (F0 m 0 ls []) := by
  have hx := X.1
  have hb := X.2.1
  intro σ  h H locs ls I hl
  unfold m_X5_takeClosing at h
  refine lv_aload_n hx hb dX5_takeClosing_0 rfl (lv_at hl 0 rfl) ?_
  refine lv_iconst (v := 1) hx hb dX5_takeClosing_1 (by decide) ?_
  obtain ⟨q1, hq1, h⟩ := bd h
  refine r_callVV (V := (vC E)) (k := 2) (As := [.int (1 : Int32)]) (rest := []) X I hl (c_X5_release  hq1) yv_X5_release tw_326 ⟨rfl, rfl, Nat.le_of_ble_eq_true rfl, Nat.le_of_ble_eq_true rfl⟩ (kC_2 E).1 ((kC_2 E).2 (σ 2)) rfl rfl rfl (Nat.le_of_ble_eq_true rfl) dX5_takeClosing_2 (fun H locs I => ?_)
  refine lv_aload_n hx hb dX5_takeClosing_5 rfl (lv_at hl 0 rfl) ?_
  refine gfC_X5_29 X I (kC_2 E) dX5_takeClosing_6 ?_
  refine lv_if_le (tgt := 45) hx hb dX5_takeClosing_9 (by decide) (fun c2 => ?_) (fun c2 => ?_)
  · have h := ite_t h c2
    refine lv_aload_n hx hb dX5_takeClosing_45 rfl (lv_at hl 0 rfl) ?_
    refine lv_dup hx hb dX5_takeClosing_46 rfl ?_
    refine gfC_X5_46 X I (kC_2 E) dX5_takeClosing_47 ?_
    refine lv_iconst (v := 1) hx hb dX5_takeClosing_50 (by decide) ?_
    refine lv_isub hx hb dX5_takeClosing_51 ?_
    refine pfC_X5_46 X I (kC_2 E) dX5_takeClosing_52 (fun H locs I => ?_)
    obtain ⟨σ3, eσ3, h⟩ := lt_e h
    replace I := wi_nm eσ3 I
    refine lv_iconst (v := 0) hx hb dX5_takeClosing_55 (by decide) ?_
    exact r_iret X I (Option.some.inj h).symm dX5_takeClosing_56
  · have h := ite_f h c2
    refine lv_aload_n hx hb dX5_takeClosing_12 rfl (lv_at hl 0 rfl) ?_
    refine lv_dup hx hb dX5_takeClosing_13 rfl ?_
    refine gfC_X5_29 X I (kC_2 E) dX5_takeClosing_14 ?_
    refine lv_iconst (v := 1) hx hb dX5_takeClosing_17 (by decide) ?_
    refine lv_isub hx hb dX5_takeClosing_18 ?_
    refine pfC_X5_29 X I (kC_2 E) dX5_takeClosing_19 (fun H locs I => ?_)
    obtain ⟨σ4, eσ4, h⟩ := lt_e h
    replace I := wi_nm eσ4 I
    refine lv_aload_n hx hb dX5_takeClosing_22 rfl (lv_at hl 0 rfl) ?_
    refine lv_aload_n hx hb dX5_takeClosing_23 rfl (lv_at hl 0 rfl) ?_
    refine gfC_X5_25 X I (kC_2 E) (k' := 8) rfl dX5_takeClosing_24 ?_
    refine lv_aload_n hx hb dX5_takeClosing_27 rfl (lv_at hl 0 rfl) ?_
    refine gfC_X5_29 X I (kC_2 E) dX5_takeClosing_28 ?_
    obtain ⟨hin, h⟩ := gd_some h
    refine ialdC X I (kC_8 E) hin dX5_takeClosing_31 ?_
    refine lv_bipush (v := -31) hx hb dX5_takeClosing_32 (by decide) ?_
    refine lv_icmp_ne (tgt := 41) hx hb dX5_takeClosing_34 (by decide) (fun c5 => ?_) (fun c5 => ?_)
    · have h := ite_f h c5
      refine lv_iconst (v := 0) hx hb dX5_takeClosing_41 (by decide) ?_
      obtain ⟨hz, h⟩ := gz_some h
      refine pfC_X5_43 X I (kC_2 E) hz dX5_takeClosing_42 (fun H locs I => ?_)
      obtain ⟨σ6, eσ6, h⟩ := lt_e h
      replace I := wi_nm eσ6 I
      refine lv_aload_n hx hb dX5_takeClosing_45 rfl (lv_at hl 0 rfl) ?_
      refine lv_dup hx hb dX5_takeClosing_46 rfl ?_
      refine gfC_X5_46 X I (kC_2 E) dX5_takeClosing_47 ?_
      refine lv_iconst (v := 1) hx hb dX5_takeClosing_50 (by decide) ?_
      refine lv_isub hx hb dX5_takeClosing_51 ?_
      refine pfC_X5_46 X I (kC_2 E) dX5_takeClosing_52 (fun H locs I => ?_)
      obtain ⟨σ7, eσ7, h⟩ := lt_e h
      replace I := wi_nm eσ7 I
      refine lv_iconst (v := 0) hx hb dX5_takeClosing_55 (by decide) ?_
      exact r_iret X I (Option.some.inj h).symm dX5_takeClosing_56
    · have h := ite_t h c5
      refine lv_iconst (v := 1) hx hb dX5_takeClosing_37 (by decide) ?_
      refine lv_goto (tgt := 42) hx hb dX5_takeClosing_38 (by decide) ?_
      obtain ⟨hz, h⟩ := gz_some h
      refine pfC_X5_43 X I (kC_2 E) hz dX5_takeClosing_42 (fun H locs I => ?_)
      obtain ⟨σ8, eσ8, h⟩ := lt_e h
      replace I := wi_nm eσ8 I
      refine lv_aload_n hx hb dX5_takeClosing_45 rfl (lv_at hl 0 rfl) ?_
      refine lv_dup hx hb dX5_takeClosing_46 rfl ?_
      refine gfC_X5_46 X I (kC_2 E) dX5_takeClosing_47 ?_
      refine lv_iconst (v := 1) hx hb dX5_takeClosing_50 (by decide) ?_
      refine lv_isub hx hb dX5_takeClosing_51 ?_
      refine pfC_X5_46 X I (kC_2 E) dX5_takeClosing_52 (fun H locs I => ?_)
      obtain ⟨σ9, eσ9, h⟩ := lt_e h
      replace I := wi_nm eσ9 I
      refine lv_iconst (v := 0) hx hb dX5_takeClosing_55 (by decide) ?_
      exact r_iret X I (Option.some.inj h).symm dX5_takeClosing_56
theorem c_X5_takeClosing {l : Launch} {E : CE} {σ : Mem} {q : Int32 × Mem} (h : m_X5_takeClosing σ = some q) : CI l (vC E) yX5_takeClosing (.code yX5_takeClosing cX5_takeClosing 1 (some .int) :: GG) rm_X5_takeClosing [.ref (ca E 2)] σ q :=
  mk_CI (by decide +kernel) (Nat.le_of_ble_eq_true rfl) (fun p e s m args below meth c A ls X I hl => w_X5_takeClosing_0 X  σ  h s.heap [] ls I (lv_sub hl [0] rfl))

def rm_X5_takeOperator : Room := { frames := 8, cells := 0, slots := 0, locals := 212 }
def f_X5_takeOperator_100 (σ : Mem) (x2 : Int32) (z1 : Int32) : Option (Int32 × Mem) := (gz z1 (lt (ms σ 2 6 z1) fun σ1 => (if x2 = (0 : Int32) then (if (σ1 2 7) = (0 : Int32) then (gz (0 : Int32) (lt (ms σ1 2 7 (0 : Int32)) fun σ5 => (some ((0 : Int32), σ5)))) else (if (σ1 2 6) = (0 : Int32) then (gz (1 : Int32) (lt (ms σ1 2 7 (1 : Int32)) fun σ8 => (some ((0 : Int32), σ8)))) else (gz (0 : Int32) (lt (ms σ1 2 7 (0 : Int32)) fun σ7 => (some ((0 : Int32), σ7)))))) else (gz (1 : Int32) (lt (ms σ1 2 7 (1 : Int32)) fun σ3 => (some ((0 : Int32), σ3)))))))
def f_X5_takeOperator_64 (σ : Mem) (x1 : Int32) (x2 : Int32) : Option (Int32 × Mem) := ((m_X5_binding σ x1).bind fun q1 => ((m_X5_release σ q1).bind fun q2 => ((m_X5_hold q2 x1).bind fun q3 => (gz (1 : Int32) (lt (ms q3 2 5 (1 : Int32)) fun σ4 => (if x1 = (-21 : Int32) then (f_X5_takeOperator_100 σ4 x2 (1 : Int32)) else (if x1 = (-22 : Int32) then (f_X5_takeOperator_100 σ4 x2 (1 : Int32)) else (f_X5_takeOperator_100 σ4 x2 (0 : Int32)))))))))
def f_X5_takeOperator_24 (σ : Mem) : Option (Int32 × Mem) := ((m_X5_operatorOf σ).bind fun q1 => (if q1 = (-24 : Int32) then (if q1 = (0 : Int32) then (some ((1 : Int32), σ)) else (if (1 : Int32) = (0 : Int32) then (f_X5_takeOperator_64 σ q1 (1 : Int32)) else (if (σ 2 7) = (0 : Int32) then (f_X5_takeOperator_64 σ q1 (1 : Int32)) else (some ((1 : Int32), σ))))) else (if q1 = (-25 : Int32) then (if q1 = (0 : Int32) then (some ((1 : Int32), σ)) else (if (1 : Int32) = (0 : Int32) then (f_X5_takeOperator_64 σ q1 (1 : Int32)) else (if (σ 2 7) = (0 : Int32) then (f_X5_takeOperator_64 σ q1 (1 : Int32)) else (some ((1 : Int32), σ))))) else (if q1 = (0 : Int32) then (some ((1 : Int32), σ)) else (if (0 : Int32) = (0 : Int32) then (f_X5_takeOperator_64 σ q1 (0 : Int32)) else (if (σ 2 7) = (0 : Int32) then (f_X5_takeOperator_64 σ q1 (0 : Int32)) else (some ((1 : Int32), σ))))))))
def m_X5_takeOperator (σ : Mem) : Option (Int32 × Mem) := (if (σ 3 5) = (41 : Int32) then (if (σ 2 8) ≤ (0 : Int32) then (f_X5_takeOperator_24 σ) else ((m_X5_takeClosing σ).bind fun q3 => (some (q3.1, q3.2)))) else (f_X5_takeOperator_24 σ))
set_option maxHeartbeats 4000000 in
set_option maxRecDepth 100000 in
theorem w_X5_takeOperator_100 {p : Program} {l : Launch} {e : Env} {s : State} {m : MethodId} {args : Array Value} {below : List Frame} {meth : Method} {c : Code} {A : Nat → Prop} {E : CE} {q : Int32 × Mem} (X : CX p s m meth c args cX5_takeOperator 3 RX5 (some .int)) : ∀ (σ : Mem) (x2 : Int32) (z1 : Int32), f_X5_takeOperator_100 σ x2 z1 = some q → ∀ (H : Heap) (locs : List Loc) (ls : Array Slot), WI (vC E) A s H locs σ → lv_has ls 3 [(0, .ref (ca E 2)), (2, .int x2)] → W p l e rm_X5_takeOperator s m args below meth c H locs 0 0 (MQ below (QI (vC E) A q) args s 0 0 A) (F0 m 100 ls [.int z1, .ref (ca E 2)]) := by
  have hx := X.1
  have hb := X.2.1
  intro σ x2 z1 h H locs ls I hl
  unfold f_X5_takeOperator_100 at h
  obtain ⟨hz, h⟩ := gz_some h
  refine pfC_X5_40 X I (kC_2 E) hz dX5_takeOperator_100 (fun H locs I => ?_)
  obtain ⟨σ1, eσ1, h⟩ := lt_e h
  replace I := wi_nm eσ1 I
  refine lv_aload_n hx hb dX5_takeOperator_103 rfl (lv_at hl 0 rfl) ?_
  refine lv_iload_n hx hb dX5_takeOperator_104 rfl (lv_at hl 1 rfl) ?_
  refine lv_if_ne (tgt := 122) hx hb dX5_takeOperator_105 (by decide) (fun c2 => ?_) (fun c2 => ?_)
  · have h := ite_f h c2
    refine lv_iconst (v := 1) hx hb dX5_takeOperator_122 (by decide) ?_
    refine lv_goto (tgt := 127) hx hb dX5_takeOperator_123 (by decide) ?_
    obtain ⟨hz, h⟩ := gz_some h
    refine pfC_X5_43 X I (kC_2 E) hz dX5_takeOperator_127 (fun H locs I => ?_)
    obtain ⟨σ3, eσ3, h⟩ := lt_e h
    replace I := wi_nm eσ3 I
    refine lv_iconst (v := 0) hx hb dX5_takeOperator_130 (by decide) ?_
    exact r_iret X I (Option.some.inj h).symm dX5_takeOperator_131
  · have h := ite_t h c2
    refine lv_aload_n hx hb dX5_takeOperator_108 rfl (lv_at hl 0 rfl) ?_
    refine gfC_X5_43 X I (kC_2 E) dX5_takeOperator_109 ?_
    refine lv_if_eq (tgt := 126) hx hb dX5_takeOperator_112 (by decide) (fun c4 => ?_) (fun c4 => ?_)
    · have h := ite_t h c4
      refine lv_iconst (v := 0) hx hb dX5_takeOperator_126 (by decide) ?_
      obtain ⟨hz, h⟩ := gz_some h
      refine pfC_X5_43 X I (kC_2 E) hz dX5_takeOperator_127 (fun H locs I => ?_)
      obtain ⟨σ5, eσ5, h⟩ := lt_e h
      replace I := wi_nm eσ5 I
      refine lv_iconst (v := 0) hx hb dX5_takeOperator_130 (by decide) ?_
      exact r_iret X I (Option.some.inj h).symm dX5_takeOperator_131
    · have h := ite_f h c4
      refine lv_aload_n hx hb dX5_takeOperator_115 rfl (lv_at hl 0 rfl) ?_
      refine gfC_X5_40 X I (kC_2 E) dX5_takeOperator_116 ?_
      refine lv_if_ne (tgt := 126) hx hb dX5_takeOperator_119 (by decide) (fun c6 => ?_) (fun c6 => ?_)
      · have h := ite_f h c6
        refine lv_iconst (v := 0) hx hb dX5_takeOperator_126 (by decide) ?_
        obtain ⟨hz, h⟩ := gz_some h
        refine pfC_X5_43 X I (kC_2 E) hz dX5_takeOperator_127 (fun H locs I => ?_)
        obtain ⟨σ7, eσ7, h⟩ := lt_e h
        replace I := wi_nm eσ7 I
        refine lv_iconst (v := 0) hx hb dX5_takeOperator_130 (by decide) ?_
        exact r_iret X I (Option.some.inj h).symm dX5_takeOperator_131
      · have h := ite_t h c6
        refine lv_iconst (v := 1) hx hb dX5_takeOperator_122 (by decide) ?_
        refine lv_goto (tgt := 127) hx hb dX5_takeOperator_123 (by decide) ?_
        obtain ⟨hz, h⟩ := gz_some h
        refine pfC_X5_43 X I (kC_2 E) hz dX5_takeOperator_127 (fun H locs I => ?_)
        obtain ⟨σ8, eσ8, h⟩ := lt_e h
        replace I := wi_nm eσ8 I
        refine lv_iconst (v := 0) hx hb dX5_takeOperator_130 (by decide) ?_
        exact r_iret X I (Option.some.inj h).symm dX5_takeOperator_131
set_option maxHeartbeats 4000000 in
set_option maxRecDepth 100000 in
theorem w_X5_takeOperator_64 {p : Program} {l : Launch} {e : Env} {s : State} {m : MethodId} {args : Array Value} {below : List Frame} {meth : Method} {c : Code} {A : Nat → Prop} {E : CE} {q : Int32 × Mem} (X : CX p s m meth c args cX5_takeOperator 3 RX5 (some .int)) : ∀ (σ : Mem) (x1 : Int32) (x2 : Int32) , f_X5_takeOperator_64 σ x1 x2 = some q → ∀ (H : Heap) (locs : List Loc) (ls : Array Slot), WI (vC E) A s H locs σ → lv_has ls 3 [(0, .ref (ca E 2)), (1, .int x1), (2, .int x2)] → W p l e rm_X5_takeOperator s m args below meth c H locs 0 0 (MQ below (QI (vC E) A q) args s 0 0 A) (F0 m 64 ls []) := by
  have hx := X.1
  have hb := X.2.1
  intro σ x1 x2 h H locs ls I hl
  unfold f_X5_takeOperator_64 at h
  refine lv_aload_n hx hb dX5_takeOperator_64 rfl (lv_at hl 0 rfl) ?_
  refine lv_iload_n hx hb dX5_takeOperator_65 rfl (lv_at hl 1 rfl) ?_
  obtain ⟨q1, hq1, h⟩ := bd h
  refine r_callSI (V := (vC E)) (As := [.int x1]) (rest := [.ref (ca E 2)]) X I hl (c_X5_binding  hq1) ys_X5_binding tw_284 ⟨rfl, rfl, Nat.le_of_ble_eq_true rfl, Nat.le_of_ble_eq_true rfl⟩ rfl rfl (Nat.le_of_ble_eq_true rfl) dX5_takeOperator_66 (fun H locs I => ?_)
  obtain ⟨q2, hq2, h⟩ := bd h
  refine r_callVV (V := (vC E)) (k := 2) (As := [.int q1]) (rest := []) X I hl (c_X5_release  hq2) yv_X5_release tw_326 ⟨rfl, rfl, Nat.le_of_ble_eq_true rfl, Nat.le_of_ble_eq_true rfl⟩ (kC_2 E).1 ((kC_2 E).2 (σ 2)) rfl rfl rfl (Nat.le_of_ble_eq_true rfl) dX5_takeOperator_69 (fun H locs I => ?_)
  refine lv_aload_n hx hb dX5_takeOperator_72 rfl (lv_at hl 0 rfl) ?_
  refine lv_iload_n hx hb dX5_takeOperator_73 rfl (lv_at hl 1 rfl) ?_
  obtain ⟨q3, hq3, h⟩ := bd h
  refine r_callVV (V := (vC E)) (k := 2) (As := [.int x1]) (rest := []) X I hl (c_X5_hold  hq3) yv_X5_hold tw_293 ⟨rfl, rfl, Nat.le_of_ble_eq_true rfl, Nat.le_of_ble_eq_true rfl⟩ (kC_2 E).1 ((kC_2 E).2 (q2 2)) rfl rfl rfl (Nat.le_of_ble_eq_true rfl) dX5_takeOperator_74 (fun H locs I => ?_)
  refine lv_aload_n hx hb dX5_takeOperator_77 rfl (lv_at hl 0 rfl) ?_
  refine lv_iconst (v := 1) hx hb dX5_takeOperator_78 (by decide) ?_
  obtain ⟨hz, h⟩ := gz_some h
  refine pfC_X5_37 X I (kC_2 E) hz dX5_takeOperator_79 (fun H locs I => ?_)
  obtain ⟨σ4, eσ4, h⟩ := lt_e h
  replace I := wi_nm eσ4 I
  refine lv_aload_n hx hb dX5_takeOperator_82 rfl (lv_at hl 0 rfl) ?_
  refine lv_iload_n hx hb dX5_takeOperator_83 rfl (lv_at hl 1 rfl) ?_
  refine lv_bipush (v := -21) hx hb dX5_takeOperator_84 (by decide) ?_
  refine lv_icmp_eq (tgt := 95) hx hb dX5_takeOperator_86 (by decide) (fun c5 => ?_) (fun c5 => ?_)
  · have h := ite_t h c5
    refine lv_iconst (v := 1) hx hb dX5_takeOperator_95 (by decide) ?_
    refine lv_goto (tgt := 100) hx hb dX5_takeOperator_96 (by decide) ?_
    exact w_X5_takeOperator_100 X   σ4 x2 (1 : Int32) h H locs ls I (lv_sub hl [0, 2] rfl)
  · have h := ite_f h c5
    refine lv_iload_n hx hb dX5_takeOperator_89 rfl (lv_at hl 1 rfl) ?_
    refine lv_bipush (v := -22) hx hb dX5_takeOperator_90 (by decide) ?_
    refine lv_icmp_ne (tgt := 99) hx hb dX5_takeOperator_92 (by decide) (fun c6 => ?_) (fun c6 => ?_)
    · have h := ite_f h c6
      refine lv_iconst (v := 0) hx hb dX5_takeOperator_99 (by decide) ?_
      exact w_X5_takeOperator_100 X   σ4 x2 (0 : Int32) h H locs ls I (lv_sub hl [0, 2] rfl)
    · have h := ite_t h c6
      refine lv_iconst (v := 1) hx hb dX5_takeOperator_95 (by decide) ?_
      refine lv_goto (tgt := 100) hx hb dX5_takeOperator_96 (by decide) ?_
      exact w_X5_takeOperator_100 X   σ4 x2 (1 : Int32) h H locs ls I (lv_sub hl [0, 2] rfl)
set_option maxHeartbeats 4000000 in
set_option maxRecDepth 100000 in
theorem w_X5_takeOperator_24 {p : Program} {l : Launch} {e : Env} {s : State} {m : MethodId} {args : Array Value} {below : List Frame} {meth : Method} {c : Code} {A : Nat → Prop} {E : CE} {q : Int32 × Mem} (X : CX p s m meth c args cX5_takeOperator 3 RX5 (some .int)) : ∀ (σ : Mem)  , f_X5_takeOperator_24 σ = some q → ∀ (H : Heap) (locs : List Loc) (ls : Array Slot), WI (vC E) A s H locs σ → lv_has ls 3 [(0, .ref (ca E 2))] → W p l e rm_X5_takeOperator s m args below meth c H locs 0 0 (MQ below (QI (vC E) A q) args s 0 0 A) (F0 m 24 ls []) := by
  have hx := X.1
  have hb := X.2.1
  intro σ  h H locs ls I hl
  unfold f_X5_takeOperator_24 at h
  refine lv_aload_n hx hb dX5_takeOperator_24 rfl (lv_at hl 0 rfl) ?_
  obtain ⟨q1, hq1, h⟩ := bd h
  refine r_callVI (V := (vC E)) (k := 2) (As := []) (rest := []) X I hl (c_X5_operatorOf  hq1) yv_X5_operatorOf tw_331 ⟨rfl, rfl, Nat.le_of_ble_eq_true rfl, Nat.le_of_ble_eq_true rfl⟩ (kC_2 E).1 ((kC_2 E).2 (σ 2)) rfl rfl rfl (Nat.le_of_ble_eq_true rfl) dX5_takeOperator_25 (fun H locs I => ?_)
  refine lv_istore_n (lv' := [(1, .int q1), (0, .ref (ca E 2))]) hx hb dX5_takeOperator_28 rfl hl (by decide) rfl (fun ls hl => ?_)
  refine lv_iload_n hx hb dX5_takeOperator_29 rfl (lv_at hl 0 rfl) ?_
  refine lv_bipush (v := -24) hx hb dX5_takeOperator_30 (by decide) ?_
  refine lv_icmp_eq (tgt := 41) hx hb dX5_takeOperator_32 (by decide) (fun c2 => ?_) (fun c2 => ?_)
  · have h := ite_t h c2
    refine lv_iconst (v := 1) hx hb dX5_takeOperator_41 (by decide) ?_
    refine lv_goto (tgt := 46) hx hb dX5_takeOperator_42 (by decide) ?_
    refine lv_istore_n (lv' := [(2, .int (1 : Int32)), (1, .int q1), (0, .ref (ca E 2))]) hx hb dX5_takeOperator_46 rfl hl (by decide) rfl (fun ls hl => ?_)
    refine lv_iload_n hx hb dX5_takeOperator_47 rfl (lv_at hl 1 rfl) ?_
    refine lv_if_eq (tgt := 62) hx hb dX5_takeOperator_48 (by decide) (fun c3 => ?_) (fun c3 => ?_)
    · have h := ite_t h c3
      refine lv_iconst (v := 1) hx hb dX5_takeOperator_62 (by decide) ?_
      exact r_iret X I (Option.some.inj h).symm dX5_takeOperator_63
    · have h := ite_f h c3
      refine lv_iload_n hx hb dX5_takeOperator_51 rfl (lv_at hl 0 rfl) ?_
      refine lv_if_eq (tgt := 64) hx hb dX5_takeOperator_52 (by decide) (fun c4 => ?_) (fun c4 => ?_)
      · have h := ite_t h c4
        exact w_X5_takeOperator_64 X   σ q1 (1 : Int32) h H locs ls I (lv_sub hl [2, 1, 0] rfl)
      · have h := ite_f h c4
        refine lv_aload_n hx hb dX5_takeOperator_55 rfl (lv_at hl 2 rfl) ?_
        refine gfC_X5_43 X I (kC_2 E) dX5_takeOperator_56 ?_
        refine lv_if_eq (tgt := 64) hx hb dX5_takeOperator_59 (by decide) (fun c5 => ?_) (fun c5 => ?_)
        · have h := ite_t h c5
          exact w_X5_takeOperator_64 X   σ q1 (1 : Int32) h H locs ls I (lv_sub hl [2, 1, 0] rfl)
        · have h := ite_f h c5
          refine lv_iconst (v := 1) hx hb dX5_takeOperator_62 (by decide) ?_
          exact r_iret X I (Option.some.inj h).symm dX5_takeOperator_63
  · have h := ite_f h c2
    refine lv_iload_n hx hb dX5_takeOperator_35 rfl (lv_at hl 0 rfl) ?_
    refine lv_bipush (v := -25) hx hb dX5_takeOperator_36 (by decide) ?_
    refine lv_icmp_ne (tgt := 45) hx hb dX5_takeOperator_38 (by decide) (fun c6 => ?_) (fun c6 => ?_)
    · have h := ite_f h c6
      refine lv_iconst (v := 0) hx hb dX5_takeOperator_45 (by decide) ?_
      refine lv_istore_n (lv' := [(2, .int (0 : Int32)), (1, .int q1), (0, .ref (ca E 2))]) hx hb dX5_takeOperator_46 rfl hl (by decide) rfl (fun ls hl => ?_)
      refine lv_iload_n hx hb dX5_takeOperator_47 rfl (lv_at hl 1 rfl) ?_
      refine lv_if_eq (tgt := 62) hx hb dX5_takeOperator_48 (by decide) (fun c7 => ?_) (fun c7 => ?_)
      · have h := ite_t h c7
        refine lv_iconst (v := 1) hx hb dX5_takeOperator_62 (by decide) ?_
        exact r_iret X I (Option.some.inj h).symm dX5_takeOperator_63
      · have h := ite_f h c7
        refine lv_iload_n hx hb dX5_takeOperator_51 rfl (lv_at hl 0 rfl) ?_
        refine lv_if_eq (tgt := 64) hx hb dX5_takeOperator_52 (by decide) (fun c8 => ?_) (fun c8 => ?_)
        · have h := ite_t h c8
          exact w_X5_takeOperator_64 X   σ q1 (0 : Int32) h H locs ls I (lv_sub hl [2, 1, 0] rfl)
        · have h := ite_f h c8
          refine lv_aload_n hx hb dX5_takeOperator_55 rfl (lv_at hl 2 rfl) ?_
          refine gfC_X5_43 X I (kC_2 E) dX5_takeOperator_56 ?_
          refine lv_if_eq (tgt := 64) hx hb dX5_takeOperator_59 (by decide) (fun c9 => ?_) (fun c9 => ?_)
          · have h := ite_t h c9
            exact w_X5_takeOperator_64 X   σ q1 (0 : Int32) h H locs ls I (lv_sub hl [2, 1, 0] rfl)
          · have h := ite_f h c9
            refine lv_iconst (v := 1) hx hb dX5_takeOperator_62 (by decide) ?_
            exact r_iret X I (Option.some.inj h).symm dX5_takeOperator_63
    · have h := ite_t h c6
      refine lv_iconst (v := 1) hx hb dX5_takeOperator_41 (by decide) ?_
      refine lv_goto (tgt := 46) hx hb dX5_takeOperator_42 (by decide) ?_
      refine lv_istore_n (lv' := [(2, .int (1 : Int32)), (1, .int q1), (0, .ref (ca E 2))]) hx hb dX5_takeOperator_46 rfl hl (by decide) rfl (fun ls hl => ?_)
      refine lv_iload_n hx hb dX5_takeOperator_47 rfl (lv_at hl 1 rfl) ?_
      refine lv_if_eq (tgt := 62) hx hb dX5_takeOperator_48 (by decide) (fun c10 => ?_) (fun c10 => ?_)
      · have h := ite_t h c10
        refine lv_iconst (v := 1) hx hb dX5_takeOperator_62 (by decide) ?_
        exact r_iret X I (Option.some.inj h).symm dX5_takeOperator_63
      · have h := ite_f h c10
        refine lv_iload_n hx hb dX5_takeOperator_51 rfl (lv_at hl 0 rfl) ?_
        refine lv_if_eq (tgt := 64) hx hb dX5_takeOperator_52 (by decide) (fun c11 => ?_) (fun c11 => ?_)
        · have h := ite_t h c11
          exact w_X5_takeOperator_64 X   σ q1 (1 : Int32) h H locs ls I (lv_sub hl [2, 1, 0] rfl)
        · have h := ite_f h c11
          refine lv_aload_n hx hb dX5_takeOperator_55 rfl (lv_at hl 2 rfl) ?_
          refine gfC_X5_43 X I (kC_2 E) dX5_takeOperator_56 ?_
          refine lv_if_eq (tgt := 64) hx hb dX5_takeOperator_59 (by decide) (fun c12 => ?_) (fun c12 => ?_)
          · have h := ite_t h c12
            exact w_X5_takeOperator_64 X   σ q1 (1 : Int32) h H locs ls I (lv_sub hl [2, 1, 0] rfl)
          · have h := ite_f h c12
            refine lv_iconst (v := 1) hx hb dX5_takeOperator_62 (by decide) ?_
            exact r_iret X I (Option.some.inj h).symm dX5_takeOperator_63
set_option maxHeartbeats 4000000 in
set_option maxRecDepth 100000 in
theorem w_X5_takeOperator_0 {p : Program} {l : Launch} {e : Env} {s : State} {m : MethodId} {args : Array Value} {below : List Frame} {meth : Method} {c : Code} {A : Nat → Prop} {E : CE} {q : Int32 × Mem} (X : CX p s m meth c args cX5_takeOperator 3 RX5 (some .int)) : ∀ (σ : Mem)  , m_X5_takeOperator σ = some q → ∀ (H : Heap) (locs : List Loc) (ls : Array Slot), WI (vC E) A s H locs σ → lv_has ls 3 [(0, .ref (ca E 2))] → W p l e rm_X5_takeOperator s m args below meth c H locs 0 0 (MQ below (QI (vC E) A q) args s 0 0 A) (F0 m 0 ls []) := by
  have hx := X.1
  have hb := X.2.1
  intro σ  h H locs ls I hl
  unfold m_X5_takeOperator at h
  refine lv_aload_n hx hb dX5_takeOperator_0 rfl (lv_at hl 0 rfl) ?_
  refine gfC_X5_12 X I (kC_2 E) (k' := 3) rfl dX5_takeOperator_1 ?_
  refine gfC_X5_63 X I (kC_3 E) dX5_takeOperator_4 ?_
  refine lv_bipush (v := 41) hx hb dX5_takeOperator_7 (by decide) ?_
  refine lv_icmp_ne (tgt := 24) hx hb dX5_takeOperator_9 (by decide) (fun c1 => ?_) (fun c1 => ?_)
  · have h := ite_f h c1
    exact w_X5_takeOperator_24 X   σ h H locs ls I (lv_sub hl [0] rfl)
  · have h := ite_t h c1
    refine lv_aload_n hx hb dX5_takeOperator_12 rfl (lv_at hl 0 rfl) ?_
    refine gfC_X5_46 X I (kC_2 E) dX5_takeOperator_13 ?_
    refine lv_if_le (tgt := 24) hx hb dX5_takeOperator_16 (by decide) (fun c2 => ?_) (fun c2 => ?_)
    · have h := ite_t h c2
      exact w_X5_takeOperator_24 X   σ h H locs ls I (lv_sub hl [0] rfl)
    · have h := ite_f h c2
      refine lv_aload_n hx hb dX5_takeOperator_19 rfl (lv_at hl 0 rfl) ?_
      obtain ⟨q3, hq3, h⟩ := bd h
      refine r_callVI (V := (vC E)) (k := 2) (As := []) (rest := []) X I hl (c_X5_takeClosing  hq3) yv_X5_takeClosing tw_336 ⟨rfl, rfl, Nat.le_of_ble_eq_true rfl, Nat.le_of_ble_eq_true rfl⟩ (kC_2 E).1 ((kC_2 E).2 (σ 2)) rfl rfl rfl (Nat.le_of_ble_eq_true rfl) dX5_takeOperator_20 (fun H locs I => ?_)
      exact r_iret X I (Option.some.inj h).symm dX5_takeOperator_23
theorem c_X5_takeOperator {l : Launch} {E : CE} {σ : Mem} {q : Int32 × Mem} (h : m_X5_takeOperator σ = some q) : CI l (vC E) yX5_takeOperator (.code yX5_takeOperator cX5_takeOperator 3 (some .int) :: GG) rm_X5_takeOperator [.ref (ca E 2)] σ q :=
  mk_CI (by decide +kernel) (Nat.le_of_ble_eq_true rfl) (fun p e s m args below meth c A ls X I hl => w_X5_takeOperator_0 X  σ  h s.heap [] ls I (lv_sub hl [0] rfl))

def rm_X5_read : Room := { frames := 9, cells := 0, slots := 0, locals := 234 }
def f_X5_read_79 (o1 : Nat) (k19 : Mem → Int32 → Int32 → Option (Int32 × Mem)) (σ : Mem) (x4 : Int32) : Option (Int32 × Mem) := (if (σ 2 5) = (0 : Int32) then ((m_X5_takeOperator σ).bind fun q2 => (k19 q2.2 q2.1 (x4 + 1))) else ((m_X5_takePart σ).bind fun q3 => (k19 q3.2 q3.1 (x4 + 1))))
def f_X5_read_19 (o1 : Nat) : Nat → Mem → Int32 → Int32 → Option (Int32 × Mem)
  | 0, _, _, _ => none
  | n + 1, σ, x3, x4 => (if (700 : Int32) < x4 then (some (x3, σ)) else (if x3 = (0 : Int32) then ((m_X9_next σ).bind fun q3 => (if (q3 2 5) = (0 : Int32) then (if (q3 2 8) = (0 : Int32) then (if (q3 3 5) = (59 : Int32) then ((m_X5_release q3 (1 : Int32)).bind fun q7 => ((m_X4_copyFrom o1 5 q7).bind fun q8 => (some ((0 : Int32), q8)))) else (f_X5_read_79 o1 (f_X5_read_19 o1 n) q3 x4)) else (f_X5_read_79 o1 (f_X5_read_19 o1 n) q3 x4)) else (f_X5_read_79 o1 (f_X5_read_19 o1 n) q3 x4))) else (some (x3, σ))))
def m_X5_read (o1 : Nat) (σ : Mem) (x2 : Int32) : Option (Int32 × Mem) := ((m_X4_isTold o1 σ).bind fun q1 => (if q1 = (0 : Int32) then ((m_X5_begin σ x2).bind fun q3 => (f_X5_read_19 o1 KF q3 (0 : Int32) (0 : Int32))) else (some ((5 : Int32), σ))))
set_option maxHeartbeats 4000000 in
set_option maxRecDepth 100000 in
theorem w_X5_read_79 {p : Program} {l : Launch} {e : Env} {s : State} {m : MethodId} {args : Array Value} {below : List Frame} {meth : Method} {c : Code} {A : Nat → Prop} {E : CE} {q : Int32 × Mem} (X : CX p s m meth c args cX5_read 5 RX5 (some .int)) {o1 : Nat} (ho1_0 : KCo4 E o1) (ho1_1 : KCaI E (o1 + 1) 700) (ho1_2 : KCaI E (o1 + 2) 64) {k19 : Mem → Int32 → Int32 → Option (Int32 × Mem)} (hk19 : ∀ (σ : Mem) (x3 : Int32) (x4 : Int32) , k19 σ x3 x4 = some q → ∀ (H : Heap) (locs : List Loc) (ls : Array Slot), WI (vC E) A s H locs σ → lv_has ls 5 [(0, .ref (ca E 2)), (1, .ref (ca E o1)), (3, .int x3), (4, .int x4)] → W p l e rm_X5_read s m args below meth c H locs 0 0 (MQ below (QI (vC E) A q) args s 0 0 A) (F0 m 19 ls [])) : ∀ (σ : Mem) (x4 : Int32) , f_X5_read_79 o1 k19 σ x4 = some q → ∀ (H : Heap) (locs : List Loc) (ls : Array Slot), WI (vC E) A s H locs σ → lv_has ls 5 [(0, .ref (ca E 2)), (1, .ref (ca E o1)), (4, .int x4)] → W p l e rm_X5_read s m args below meth c H locs 0 0 (MQ below (QI (vC E) A q) args s 0 0 A) (F0 m 79 ls []) := by
  have hx := X.1
  have hb := X.2.1
  intro σ x4 h H locs ls I hl
  unfold f_X5_read_79 at h
  refine lv_aload_n hx hb dX5_read_79 rfl (lv_at hl 0 rfl) ?_
  refine gfC_X5_37 X I (kC_2 E) dX5_read_80 ?_
  refine lv_if_eq (tgt := 93) hx hb dX5_read_83 (by decide) (fun c1 => ?_) (fun c1 => ?_)
  · have h := ite_t h c1
    refine lv_aload_n hx hb dX5_read_93 rfl (lv_at hl 0 rfl) ?_
    obtain ⟨q2, hq2, h⟩ := bd h
    refine r_callVI (V := (vC E)) (k := 2) (As := []) (rest := []) X I hl (c_X5_takeOperator  hq2) yv_X5_takeOperator tw_352 ⟨rfl, rfl, Nat.le_of_ble_eq_true rfl, Nat.le_of_ble_eq_true rfl⟩ (kC_2 E).1 ((kC_2 E).2 (σ 2)) rfl rfl rfl (Nat.le_of_ble_eq_true rfl) dX5_read_94 (fun H locs I => ?_)
    refine lv_istore_n (lv' := [(3, .int q2.1), (0, .ref (ca E 2)), (1, .ref (ca E o1)), (4, .int x4)]) hx hb dX5_read_97 rfl hl (by decide) rfl (fun ls hl => ?_)
    refine lv_iinc (v := (x4 + 1)) (lv' := [(4, .int (x4 + 1)), (3, .int q2.1), (0, .ref (ca E 2)), (1, .ref (ca E o1))]) hx hb dX5_read_98 hl (k := 3) rfl rfl (by decide) rfl (fun ls hl => ?_)
    refine lv_goto (tgt := 19) hx hb dX5_read_101 (by decide) ?_
    exact hk19 q2.2 q2.1 (x4 + 1) h H locs ls I (lv_sub hl [2, 3, 1, 0] rfl)
  · have h := ite_f h c1
    refine lv_aload_n hx hb dX5_read_86 rfl (lv_at hl 0 rfl) ?_
    obtain ⟨q3, hq3, h⟩ := bd h
    refine r_callVI (V := (vC E)) (k := 2) (As := []) (rest := []) X I hl (c_X5_takePart  hq3) yv_X5_takePart tw_357 ⟨rfl, rfl, Nat.le_of_ble_eq_true rfl, Nat.le_of_ble_eq_true rfl⟩ (kC_2 E).1 ((kC_2 E).2 (σ 2)) rfl rfl rfl (Nat.le_of_ble_eq_true rfl) dX5_read_87 (fun H locs I => ?_)
    refine lv_goto (tgt := 97) hx hb dX5_read_90 (by decide) ?_
    refine lv_istore_n (lv' := [(3, .int q3.1), (0, .ref (ca E 2)), (1, .ref (ca E o1)), (4, .int x4)]) hx hb dX5_read_97 rfl hl (by decide) rfl (fun ls hl => ?_)
    refine lv_iinc (v := (x4 + 1)) (lv' := [(4, .int (x4 + 1)), (3, .int q3.1), (0, .ref (ca E 2)), (1, .ref (ca E o1))]) hx hb dX5_read_98 hl (k := 3) rfl rfl (by decide) rfl (fun ls hl => ?_)
    refine lv_goto (tgt := 19) hx hb dX5_read_101 (by decide) ?_
    exact hk19 q3.2 q3.1 (x4 + 1) h H locs ls I (lv_sub hl [2, 3, 1, 0] rfl)
set_option maxHeartbeats 4000000 in
set_option maxRecDepth 100000 in
theorem w_X5_read_19 {p : Program} {l : Launch} {e : Env} {s : State} {m : MethodId} {args : Array Value} {below : List Frame} {meth : Method} {c : Code} {A : Nat → Prop} {E : CE} {q : Int32 × Mem} (X : CX p s m meth c args cX5_read 5 RX5 (some .int)) {o1 : Nat} (ho1_0 : KCo4 E o1) (ho1_1 : KCaI E (o1 + 1) 700) (ho1_2 : KCaI E (o1 + 2) 64) : ∀ (n : Nat), ∀ (σ : Mem) (x3 : Int32) (x4 : Int32) , f_X5_read_19 o1 n σ x3 x4 = some q → ∀ (H : Heap) (locs : List Loc) (ls : Array Slot), WI (vC E) A s H locs σ → lv_has ls 5 [(0, .ref (ca E 2)), (1, .ref (ca E o1)), (3, .int x3), (4, .int x4)] → W p l e rm_X5_read s m args below meth c H locs 0 0 (MQ below (QI (vC E) A q) args s 0 0 A) (F0 m 19 ls []) := by
  have hx := X.1
  have hb := X.2.1
  intro n
  induction n with
  | zero =>
    intro σ x3 x4 h
    cases h
  | succ n ih =>
    intro σ x3 x4 h H locs ls I hl
    rw [f_X5_read_19] at h
    refine lv_iload hx hb dX5_read_19 (lv_at hl 3 rfl) ?_
    refine lv_sipush (v := 700) hx hb dX5_read_21 (by decide) ?_
    refine lv_icmp_gt (tgt := 104) hx hb dX5_read_24 (by decide) (fun c1 => ?_) (fun c1 => ?_)
    · have h := ite_t h c1
      refine lv_iload_n hx hb dX5_read_104 rfl (lv_at hl 2 rfl) ?_
      exact r_iret X I (Option.some.inj h).symm dX5_read_105
    · have h := ite_f h c1
      refine lv_iload_n hx hb dX5_read_27 rfl (lv_at hl 2 rfl) ?_
      refine lv_if_ne (tgt := 104) hx hb dX5_read_28 (by decide) (fun c2 => ?_) (fun c2 => ?_)
      · have h := ite_f h c2
        refine lv_iload_n hx hb dX5_read_104 rfl (lv_at hl 2 rfl) ?_
        exact r_iret X I (Option.some.inj h).symm dX5_read_105
      · have h := ite_t h c2
        refine lv_aload_n hx hb dX5_read_31 rfl (lv_at hl 0 rfl) ?_
        refine gfC_X5_12 X I (kC_2 E) (k' := 3) rfl dX5_read_32 ?_
        obtain ⟨q3, hq3, h⟩ := bd h
        refine r_callVV (V := (vC E)) (k := 3) (As := []) (rest := []) X I hl (c_X9_next  hq3) yv_X9_next tw_347 ⟨rfl, rfl, Nat.le_of_ble_eq_true rfl, Nat.le_of_ble_eq_true rfl⟩ (kC_3 E).1 ((kC_3 E).2 (σ 3)) rfl rfl rfl (Nat.le_of_ble_eq_true rfl) dX5_read_35 (fun H locs I => ?_)
        refine lv_aload_n hx hb dX5_read_38 rfl (lv_at hl 0 rfl) ?_
        refine gfC_X5_37 X I (kC_2 E) dX5_read_39 ?_
        refine lv_if_ne (tgt := 79) hx hb dX5_read_42 (by decide) (fun c4 => ?_) (fun c4 => ?_)
        · have h := ite_f h c4
          exact w_X5_read_79 X ho1_0 ho1_1 ho1_2 (fun σ a3 a4 h H locs ls I hl => ih σ a3 a4 h H locs ls I hl) q3 x4 h H locs ls I (lv_sub hl [0, 1, 3] rfl)
        · have h := ite_t h c4
          refine lv_aload_n hx hb dX5_read_45 rfl (lv_at hl 0 rfl) ?_
          refine gfC_X5_46 X I (kC_2 E) dX5_read_46 ?_
          refine lv_if_ne (tgt := 79) hx hb dX5_read_49 (by decide) (fun c5 => ?_) (fun c5 => ?_)
          · have h := ite_f h c5
            exact w_X5_read_79 X ho1_0 ho1_1 ho1_2 (fun σ a3 a4 h H locs ls I hl => ih σ a3 a4 h H locs ls I hl) q3 x4 h H locs ls I (lv_sub hl [0, 1, 3] rfl)
          · have h := ite_t h c5
            refine lv_aload_n hx hb dX5_read_52 rfl (lv_at hl 0 rfl) ?_
            refine gfC_X5_12 X I (kC_2 E) (k' := 3) rfl dX5_read_53 ?_
            refine gfC_X5_63 X I (kC_3 E) dX5_read_56 ?_
            refine lv_bipush (v := 59) hx hb dX5_read_59 (by decide) ?_
            refine lv_icmp_ne (tgt := 79) hx hb dX5_read_61 (by decide) (fun c6 => ?_) (fun c6 => ?_)
            · have h := ite_f h c6
              exact w_X5_read_79 X ho1_0 ho1_1 ho1_2 (fun σ a3 a4 h H locs ls I hl => ih σ a3 a4 h H locs ls I hl) q3 x4 h H locs ls I (lv_sub hl [0, 1, 3] rfl)
            · have h := ite_t h c6
              refine lv_aload_n hx hb dX5_read_64 rfl (lv_at hl 0 rfl) ?_
              refine lv_iconst (v := 1) hx hb dX5_read_65 (by decide) ?_
              obtain ⟨q7, hq7, h⟩ := bd h
              refine r_callVV (V := (vC E)) (k := 2) (As := [.int (1 : Int32)]) (rest := []) X I hl (c_X5_release  hq7) yv_X5_release tw_326 ⟨rfl, rfl, Nat.le_of_ble_eq_true rfl, Nat.le_of_ble_eq_true rfl⟩ (kC_2 E).1 ((kC_2 E).2 (q3 2)) rfl rfl rfl (Nat.le_of_ble_eq_true rfl) dX5_read_66 (fun H locs I => ?_)
              refine lv_aload_n hx hb dX5_read_69 rfl (lv_at hl 1 rfl) ?_
              refine lv_aload_n hx hb dX5_read_70 rfl (lv_at hl 0 rfl) ?_
              refine gfC_X5_21 X I (kC_2 E) (k' := 5) rfl dX5_read_71 ?_
              obtain ⟨q8, hq8, h⟩ := bd h
              refine r_callVV (V := (vC E)) (k := o1) (As := [.ref (ca E 5)]) (rest := []) X I hl (c_X4_copyFrom ho1_0 ho1_1 ho1_2 (kC_5 E) (kC_6 E) (kC_7 E) hq8) yv_X4_copyFrom tw_362 ⟨rfl, rfl, Nat.le_of_ble_eq_true rfl, Nat.le_of_ble_eq_true rfl⟩ ho1_0.1 (ho1_0.2 (q7 o1)) rfl rfl rfl (Nat.le_of_ble_eq_true rfl) dX5_read_74 (fun H locs I => ?_)
              refine lv_iconst (v := 0) hx hb dX5_read_77 (by decide) ?_
              exact r_iret X I (Option.some.inj h).symm dX5_read_78
set_option maxHeartbeats 4000000 in
set_option maxRecDepth 100000 in
theorem w_X5_read_0 {p : Program} {l : Launch} {e : Env} {s : State} {m : MethodId} {args : Array Value} {below : List Frame} {meth : Method} {c : Code} {A : Nat → Prop} {E : CE} {q : Int32 × Mem} (X : CX p s m meth c args cX5_read 5 RX5 (some .int)) {o1 : Nat} (ho1_0 : KCo4 E o1) (ho1_1 : KCaI E (o1 + 1) 700) (ho1_2 : KCaI E (o1 + 2) 64) : ∀ (σ : Mem) (x2 : Int32) , m_X5_read o1 σ x2 = some q → ∀ (H : Heap) (locs : List Loc) (ls : Array Slot), WI (vC E) A s H locs σ → lv_has ls 5 [(0, .ref (ca E 2)), (1, .ref (ca E o1)), (2, .int x2)] → W p l e rm_X5_read s m args below meth c H locs 0 0 (MQ below (QI (vC E) A q) args s 0 0 A) (F0 m 0 ls []) := by
  have hx := X.1
  have hb := X.2.1
  intro σ x2 h H locs ls I hl
  unfold m_X5_read at h
  refine lv_aload_n hx hb dX5_read_0 rfl (lv_at hl 1 rfl) ?_
  obtain ⟨q1, hq1, h⟩ := bd h
  refine r_callVI (V := (vC E)) (k := o1) (As := []) (rest := []) X I hl (c_X4_isTold ho1_0 ho1_1 ho1_2 hq1) yv_X4_isTold tw_341 ⟨rfl, rfl, Nat.le_of_ble_eq_true rfl, Nat.le_of_ble_eq_true rfl⟩ ho1_0.1 (ho1_0.2 (σ o1)) rfl rfl rfl (Nat.le_of_ble_eq_true rfl) dX5_read_1 (fun H locs I => ?_)
  refine lv_if_eq (tgt := 9) hx hb dX5_read_4 (by decide) (fun c2 => ?_) (fun c2 => ?_)
  · have h := ite_t h c2
    refine lv_aload_n hx hb dX5_read_9 rfl (lv_at hl 0 rfl) ?_
    refine lv_iload_n hx hb dX5_read_10 rfl (lv_at hl 2 rfl) ?_
    obtain ⟨q3, hq3, h⟩ := bd h
    refine r_callVV (V := (vC E)) (k := 2) (As := [.int x2]) (rest := []) X I hl (c_X5_begin  hq3) yv_X5_begin tw_342 ⟨rfl, rfl, Nat.le_of_ble_eq_true rfl, Nat.le_of_ble_eq_true rfl⟩ (kC_2 E).1 ((kC_2 E).2 (σ 2)) rfl rfl rfl (Nat.le_of_ble_eq_true rfl) dX5_read_11 (fun H locs I => ?_)
    refine lv_iconst (v := 0) hx hb dX5_read_14 (by decide) ?_
    refine lv_istore_n (lv' := [(3, .int (0 : Int32)), (0, .ref (ca E 2)), (1, .ref (ca E o1)), (2, .int x2)]) hx hb dX5_read_15 rfl hl (by decide) rfl (fun ls hl => ?_)
    refine lv_iconst (v := 0) hx hb dX5_read_16 (by decide) ?_
    refine lv_istore (lv' := [(4, .int (0 : Int32)), (3, .int (0 : Int32)), (0, .ref (ca E 2)), (1, .ref (ca E o1)), (2, .int x2)]) hx hb dX5_read_17 hl (by decide) rfl (fun ls hl => ?_)
    exact w_X5_read_19 X ho1_0 ho1_1 ho1_2  KF q3 (0 : Int32) (0 : Int32) h H locs ls I (lv_sub hl [2, 3, 1, 0] rfl)
  · have h := ite_f h c2
    refine lv_iconst (v := 5) hx hb dX5_read_7 (by decide) ?_
    exact r_iret X I (Option.some.inj h).symm dX5_read_8
theorem c_X5_read {l : Launch} {E : CE} {o1 : Nat} {σ : Mem} {x2 : Int32} (ho1_0 : KCo4 E o1) (ho1_1 : KCaI E (o1 + 1) 700) (ho1_2 : KCaI E (o1 + 2) 64) {q : Int32 × Mem} (h : m_X5_read o1 σ x2 = some q) : CI l (vC E) yX5_read (.code yX5_read cX5_read 5 (some .int) :: GG) rm_X5_read [.ref (ca E 2), .ref (ca E o1), .int x2] σ q :=
  mk_CI (by decide +kernel) (Nat.le_of_ble_eq_true rfl) (fun p e s m args below meth c A ls X I hl => w_X5_read_0 X ho1_0 ho1_1 ho1_2 σ x2 h s.heap [] ls I (lv_sub hl [0, 1, 2] rfl))

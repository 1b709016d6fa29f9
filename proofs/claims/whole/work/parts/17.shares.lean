def rm_X7_begin : Room := { frames := 1, cells := 0, slots := 0, locals := 64 }
def m_X7_begin (σ : Mem) (x1 : Int32) (x2 : Int32) (x3 : Int32) : Option (Mem) := (lt (ms σ 38 4 ((1 : Int32) <<< (x1 &&& 31))) fun σ1 => (lt (ms σ1 38 3 x2) fun σ2 => (lt (ms σ2 38 5 x3) fun σ3 => (some σ3))))
set_option maxHeartbeats 4000000 in
set_option maxRecDepth 100000 in
theorem w_X7_begin_0 {p : Program} {l : Launch} {e : Env} {s : State} {m : MethodId} {args : Array Value} {below : List Frame} {meth : Method} {c : Code} {A : Nat → Prop} {E : CE} {q : Mem} (X : CX p s m meth c args cX7_begin 4 RX7 none) : ∀ (σ : Mem) (x1 : Int32) (x2 : Int32) (x3 : Int32) , m_X7_begin σ x1 x2 x3 = some q → ∀ (H : Heap) (locs : List Loc) (ls : Array Slot), WI (vC E) A s H locs σ → lv_has ls 4 [(0, .ref (ca E 38)), (1, .int x1), (2, .int x2), (3, .int x3)] → W p l e rm_X7_begin s m args below meth c H locs 0 0 (MQ below (QV (vC E) A q) args s 0 0 A) (F0 m 0 ls []) := by
  have hx := X.1
  have hb := X.2.1
  intro σ x1 x2 x3 h H locs ls I hl
  unfold m_X7_begin at h
  refine lv_aload_n hx hb dX7_begin_0 rfl (lv_at hl 0 rfl) ?_
  refine lv_iconst (v := 1) hx hb dX7_begin_1 (by decide) ?_
  refine lv_iload_n hx hb dX7_begin_2 rfl (lv_at hl 1 rfl) ?_
  refine lv_ishl hx hb dX7_begin_3 ?_
  refine pfC_X7_25 X I (kC_38 E) dX7_begin_4 (fun H locs I => ?_)
  obtain ⟨σ1, eσ1, h⟩ := lt_e h
  replace I := wi_nm eσ1 I
  refine lv_aload_n hx hb dX7_begin_7 rfl (lv_at hl 0 rfl) ?_
  refine lv_iload_n hx hb dX7_begin_8 rfl (lv_at hl 2 rfl) ?_
  refine pfC_X7_21 X I (kC_38 E) dX7_begin_9 (fun H locs I => ?_)
  obtain ⟨σ2, eσ2, h⟩ := lt_e h
  replace I := wi_nm eσ2 I
  refine lv_aload_n hx hb dX7_begin_12 rfl (lv_at hl 0 rfl) ?_
  refine lv_iload_n hx hb dX7_begin_13 rfl (lv_at hl 3 rfl) ?_
  refine pfC_X7_28 X I (kC_38 E) dX7_begin_14 (fun H locs I => ?_)
  obtain ⟨σ3, eσ3, h⟩ := lt_e h
  replace I := wi_nm eσ3 I
  exact r_vret X I (Option.some.inj h).symm dX7_begin_17
theorem c_X7_begin {l : Launch} {E : CE} {σ : Mem} {x1 : Int32} {x2 : Int32} {x3 : Int32} {q : Mem} (h : m_X7_begin σ x1 x2 x3 = some q) : CV l (vC E) yX7_begin (.code yX7_begin cX7_begin 4 none :: GG) rm_X7_begin [.ref (ca E 38), .int x1, .int x2, .int x3] σ q :=
  mk_CV (by decide +kernel) (Nat.le_of_ble_eq_true rfl) (fun p e s m args below meth c A ls X I hl => w_X7_begin_0 X  σ x1 x2 x3 h s.heap [] ls I (lv_sub hl [0, 1, 2, 3] rfl))

def rm_X7_tell : Room := { frames := 1, cells := 0, slots := 0, locals := 64 }
def m_X7_tell (σ : Mem) (x1 : Int32) (x2 : Int32) (x3 : Int32) : Option (Mem) := (gd ((x1 * (8 : Int32)) + x2) 56 (lt (ms σ 39 (Int32.toNatClampNeg ((x1 * (8 : Int32)) + x2)) (x3)) fun σ1 => (some σ1)))
set_option maxHeartbeats 4000000 in
set_option maxRecDepth 100000 in
theorem w_X7_tell_0 {p : Program} {l : Launch} {e : Env} {s : State} {m : MethodId} {args : Array Value} {below : List Frame} {meth : Method} {c : Code} {A : Nat → Prop} {E : CE} {q : Mem} (X : CX p s m meth c args cX7_tell 4 RX7 none) : ∀ (σ : Mem) (x1 : Int32) (x2 : Int32) (x3 : Int32) , m_X7_tell σ x1 x2 x3 = some q → ∀ (H : Heap) (locs : List Loc) (ls : Array Slot), WI (vC E) A s H locs σ → lv_has ls 4 [(0, .ref (ca E 38)), (1, .int x1), (2, .int x2), (3, .int x3)] → W p l e rm_X7_tell s m args below meth c H locs 0 0 (MQ below (QV (vC E) A q) args s 0 0 A) (F0 m 0 ls []) := by
  have hx := X.1
  have hb := X.2.1
  intro σ x1 x2 x3 h H locs ls I hl
  unfold m_X7_tell at h
  refine lv_aload_n hx hb dX7_tell_0 rfl (lv_at hl 0 rfl) ?_
  refine gfC_X7_9 X I (kC_38 E) (k' := 39) rfl dX7_tell_1 ?_
  refine lv_iload_n hx hb dX7_tell_4 rfl (lv_at hl 1 rfl) ?_
  refine lv_bipush (v := 8) hx hb dX7_tell_5 (by decide) ?_
  refine lv_imul hx hb dX7_tell_7 ?_
  refine lv_iload_n hx hb dX7_tell_8 rfl (lv_at hl 2 rfl) ?_
  refine lv_iadd hx hb dX7_tell_9 ?_
  refine lv_iload_n hx hb dX7_tell_10 rfl (lv_at hl 3 rfl) ?_
  obtain ⟨hin, h⟩ := gd_some h
  refine iastC X I (kC_39 E) hin dX7_tell_11 (fun H locs I => ?_)
  obtain ⟨σ1, eσ1, h⟩ := lt_e h
  replace I := wi_nm eσ1 I
  exact r_vret X I (Option.some.inj h).symm dX7_tell_12
theorem c_X7_tell {l : Launch} {E : CE} {σ : Mem} {x1 : Int32} {x2 : Int32} {x3 : Int32} {q : Mem} (h : m_X7_tell σ x1 x2 x3 = some q) : CV l (vC E) yX7_tell (.code yX7_tell cX7_tell 4 none :: GG) rm_X7_tell [.ref (ca E 38), .int x1, .int x2, .int x3] σ q :=
  mk_CV (by decide +kernel) (Nat.le_of_ble_eq_true rfl) (fun p e s m args below meth c A ls X I hl => w_X7_tell_0 X  σ x1 x2 x3 h s.heap [] ls I (lv_sub hl [0, 1, 2, 3] rfl))

def rm_X7_worthOf : Room := { frames := 2, cells := 0, slots := 0, locals := 84 }
def f_X7_worthOf_18 (x1 : Int32) (x2 : Int32) : Nat → Mem → Int32 → Int32 → Option (Int32)
  | 0, _, _, _ => none
  | n + 1, σ, x3, x4 => (if (8 : Int32) ≤ x4 then (some x3) else (if ((x2 >>> (x4 &&& 31)) &&& (1 : Int32)) = (1 : Int32) then (gd ((x1 * (8 : Int32)) + x4) 56 (lt (σ 39 (Int32.toNatClampNeg ((x1 * (8 : Int32)) + x4))) fun y3 => (if (0 : Int32) < y3 then (lt (x3 + y3) fun y5 => f_X7_worthOf_18 x1 x2 n σ y5 (x4 + 1)) else (some (-1 : Int32))))) else f_X7_worthOf_18 x1 x2 n σ x3 (x4 + 1)))
def m_X7_worthOf (σ : Mem) (x1 : Int32) (x2 : Int32) : Option (Int32) := ((m_J6_bitCount_0f7a4 σ x2).bind fun q1 => (if q1 ≤ (σ 38 5) then (f_X7_worthOf_18 x1 x2 KF σ (0 : Int32) (0 : Int32)) else (some (-1 : Int32))))
set_option maxHeartbeats 4000000 in
set_option maxRecDepth 100000 in
theorem w_X7_worthOf_18 {p : Program} {l : Launch} {e : Env} {s : State} {m : MethodId} {args : Array Value} {below : List Frame} {meth : Method} {c : Code} {A : Nat → Prop} {E : CE} {q : Int32} (X : CX p s m meth c args cX7_worthOf 6 RX7 (some .int)) {x1 : Int32} {x2 : Int32} : ∀ (n : Nat), ∀ (σ : Mem) (x3 : Int32) (x4 : Int32) , f_X7_worthOf_18 x1 x2 n σ x3 x4 = some q → ∀ (H : Heap) (locs : List Loc) (ls : Array Slot), WI (vC E) A s H locs σ → lv_has ls 6 [(0, .ref (ca E 38)), (1, .int x1), (2, .int x2), (3, .int x3), (4, .int x4)] → W p l e rm_X7_worthOf s m args below meth c H locs 0 0 (MQ below (QI (vC E) A (q, σ)) args s 0 0 A) (F0 m 18 ls []) := by
  have hx := X.1
  have hb := X.2.1
  intro n
  induction n with
  | zero =>
    intro σ x3 x4 h
    cases h
  | succ n ih =>
    intro σ x3 x4 h H locs ls I hl
    rw [f_X7_worthOf_18] at h
    refine lv_iload hx hb dX7_worthOf_18 (lv_at hl 4 rfl) ?_
    refine lv_bipush (v := 8) hx hb dX7_worthOf_20 (by decide) ?_
    refine lv_icmp_ge (tgt := 67) hx hb dX7_worthOf_22 (by decide) (fun c1 => ?_) (fun c1 => ?_)
    · have h := ite_t h c1
      refine lv_iload_n hx hb dX7_worthOf_67 rfl (lv_at hl 3 rfl) ?_
      exact r_iret X I (congrArg (fun z => (z, σ)) (Option.some.inj h).symm) dX7_worthOf_68
    · have h := ite_f h c1
      refine lv_iload_n hx hb dX7_worthOf_25 rfl (lv_at hl 2 rfl) ?_
      refine lv_iload hx hb dX7_worthOf_26 (lv_at hl 4 rfl) ?_
      refine lv_ishr hx hb dX7_worthOf_28 ?_
      refine lv_iconst (v := 1) hx hb dX7_worthOf_29 (by decide) ?_
      refine lv_iand hx hb dX7_worthOf_30 ?_
      refine lv_iconst (v := 1) hx hb dX7_worthOf_31 (by decide) ?_
      refine lv_icmp_ne (tgt := 61) hx hb dX7_worthOf_32 (by decide) (fun c2 => ?_) (fun c2 => ?_)
      · have h := ite_f h c2
        refine lv_iinc (v := (x4 + 1)) (lv' := [(4, .int (x4 + 1)), (0, .ref (ca E 38)), (1, .int x1), (2, .int x2), (3, .int x3)]) hx hb dX7_worthOf_61 hl (k := 4) rfl rfl (by decide) rfl (fun ls hl => ?_)
        refine lv_goto (tgt := 18) hx hb dX7_worthOf_64 (by decide) ?_
        exact ih σ x3 (x4 + 1) h H locs ls I (lv_sub hl [1, 2, 3, 4, 0] rfl)
      · have h := ite_t h c2
        refine lv_aload_n hx hb dX7_worthOf_35 rfl (lv_at hl 0 rfl) ?_
        refine gfC_X7_9 X I (kC_38 E) (k' := 39) rfl dX7_worthOf_36 ?_
        refine lv_iload_n hx hb dX7_worthOf_39 rfl (lv_at hl 1 rfl) ?_
        refine lv_bipush (v := 8) hx hb dX7_worthOf_40 (by decide) ?_
        refine lv_imul hx hb dX7_worthOf_42 ?_
        refine lv_iload hx hb dX7_worthOf_43 (lv_at hl 4 rfl) ?_
        refine lv_iadd hx hb dX7_worthOf_45 ?_
        obtain ⟨hin, h⟩ := gd_some h
        refine ialdC X I (kC_39 E) hin dX7_worthOf_46 ?_
        obtain ⟨y3, ey3, h⟩ := lt_e h
        refine nm_i ey3 ?_
        refine lv_istore (lv' := [(5, .int y3), (0, .ref (ca E 38)), (1, .int x1), (2, .int x2), (3, .int x3), (4, .int x4)]) hx hb dX7_worthOf_47 hl (by decide) rfl (fun ls hl => ?_)
        refine lv_iload hx hb dX7_worthOf_49 (lv_at hl 0 rfl) ?_
        refine lv_if_gt (tgt := 56) hx hb dX7_worthOf_51 (by decide) (fun c4 => ?_) (fun c4 => ?_)
        · have h := ite_t h c4
          refine lv_iload_n hx hb dX7_worthOf_56 rfl (lv_at hl 4 rfl) ?_
          refine lv_iload hx hb dX7_worthOf_57 (lv_at hl 0 rfl) ?_
          refine lv_iadd hx hb dX7_worthOf_59 ?_
          obtain ⟨y5, ey5, h⟩ := lt_e h
          refine nm_i ey5 ?_
          refine lv_istore_n (lv' := [(3, .int y5), (5, .int y3), (0, .ref (ca E 38)), (1, .int x1), (2, .int x2), (4, .int x4)]) hx hb dX7_worthOf_60 rfl hl (by decide) rfl (fun ls hl => ?_)
          refine lv_iinc (v := (x4 + 1)) (lv' := [(4, .int (x4 + 1)), (3, .int y5), (5, .int y3), (0, .ref (ca E 38)), (1, .int x1), (2, .int x2)]) hx hb dX7_worthOf_61 hl (k := 5) rfl rfl (by decide) rfl (fun ls hl => ?_)
          refine lv_goto (tgt := 18) hx hb dX7_worthOf_64 (by decide) ?_
          exact ih σ y5 (x4 + 1) h H locs ls I (lv_sub hl [3, 4, 5, 1, 0] rfl)
        · have h := ite_f h c4
          refine lv_iconst (v := -1) hx hb dX7_worthOf_54 (by decide) ?_
          exact r_iret X I (congrArg (fun z => (z, σ)) (Option.some.inj h).symm) dX7_worthOf_55
set_option maxHeartbeats 4000000 in
set_option maxRecDepth 100000 in
theorem w_X7_worthOf_0 {p : Program} {l : Launch} {e : Env} {s : State} {m : MethodId} {args : Array Value} {below : List Frame} {meth : Method} {c : Code} {A : Nat → Prop} {E : CE} {q : Int32} (X : CX p s m meth c args cX7_worthOf 6 RX7 (some .int)) : ∀ (σ : Mem) (x1 : Int32) (x2 : Int32) , m_X7_worthOf σ x1 x2 = some q → ∀ (H : Heap) (locs : List Loc) (ls : Array Slot), WI (vC E) A s H locs σ → lv_has ls 6 [(0, .ref (ca E 38)), (1, .int x1), (2, .int x2)] → W p l e rm_X7_worthOf s m args below meth c H locs 0 0 (MQ below (QI (vC E) A (q, σ)) args s 0 0 A) (F0 m 0 ls []) := by
  have hx := X.1
  have hb := X.2.1
  intro σ x1 x2 h H locs ls I hl
  unfold m_X7_worthOf at h
  refine lv_iload_n hx hb dX7_worthOf_0 rfl (lv_at hl 2 rfl) ?_
  obtain ⟨q1, hq1, h⟩ := bd h
  refine r_callSI (V := (vC E)) (As := [.int x2]) (rest := []) X I hl (c_J6_bitCount_0f7a4  hq1) ys_J6_bitCount_0f7a4 tw_159 ⟨rfl, rfl, Nat.le_of_ble_eq_true rfl, Nat.le_of_ble_eq_true rfl⟩ rfl rfl (Nat.le_of_ble_eq_true rfl) dX7_worthOf_1 (fun H locs I => ?_)
  refine lv_aload_n hx hb dX7_worthOf_4 rfl (lv_at hl 0 rfl) ?_
  refine gfC_X7_28 X I (kC_38 E) dX7_worthOf_5 ?_
  refine lv_icmp_le (tgt := 13) hx hb dX7_worthOf_8 (by decide) (fun c2 => ?_) (fun c2 => ?_)
  · have h := ite_t h c2
    refine lv_iconst (v := 0) hx hb dX7_worthOf_13 (by decide) ?_
    refine lv_istore_n (lv' := [(3, .int (0 : Int32)), (0, .ref (ca E 38)), (1, .int x1), (2, .int x2)]) hx hb dX7_worthOf_14 rfl hl (by decide) rfl (fun ls hl => ?_)
    refine lv_iconst (v := 0) hx hb dX7_worthOf_15 (by decide) ?_
    refine lv_istore (lv' := [(4, .int (0 : Int32)), (3, .int (0 : Int32)), (0, .ref (ca E 38)), (1, .int x1), (2, .int x2)]) hx hb dX7_worthOf_16 hl (by decide) rfl (fun ls hl => ?_)
    exact w_X7_worthOf_18 X   KF σ (0 : Int32) (0 : Int32) h H locs ls I (lv_sub hl [2, 3, 4, 1, 0] rfl)
  · have h := ite_f h c2
    refine lv_iconst (v := -1) hx hb dX7_worthOf_11 (by decide) ?_
    exact r_iret X I (congrArg (fun z => (z, σ)) (Option.some.inj h).symm) dX7_worthOf_12
theorem c_X7_worthOf {l : Launch} {E : CE} {σ : Mem} {x1 : Int32} {x2 : Int32} {q : Int32} (h : m_X7_worthOf σ x1 x2 = some q) : CI l (vC E) yX7_worthOf (.code yX7_worthOf cX7_worthOf 6 (some .int) :: GG) rm_X7_worthOf [.ref (ca E 38), .int x1, .int x2] σ (q, σ) :=
  mk_CI (by decide +kernel) (Nat.le_of_ble_eq_true rfl) (fun p e s m args below meth c A ls X I hl => w_X7_worthOf_0 X  σ x1 x2 h s.heap [] ls I (lv_sub hl [0, 1, 2] rfl))

def rm_X7_bestOf : Room := { frames := 2, cells := 0, slots := 0, locals := 85 }
def f_X7_bestOf_8 (x1 : Int32) (x2 : Int32) : Nat → Mem → Int32 → Int32 → Int32 → Option (Int32)
  | 0, _, _, _, _ => none
  | n + 1, σ, x3, x4, x5 => (if x2 < x5 then (some x3) else (gd x4 256 (lt (σ 40 (Int32.toNatClampNeg x4)) fun y2 => (if y2 = (-1 : Int32) then (if x4 = (0 : Int32) then (some x3) else (lt ((x4 - (1 : Int32)) &&& x2) fun y5 => f_X7_bestOf_8 x1 x2 n σ x3 y5 (x5 + 1))) else (gd (((x1 + (1 : Int32)) * (256 : Int32)) + (x2 ^^^ x4)) 2048 (lt (imax x3 (y2 + (σ 41 (Int32.toNatClampNeg (((x1 + (1 : Int32)) * (256 : Int32)) + (x2 ^^^ x4)))))) fun y6 => (if x4 = (0 : Int32) then (some y6) else (lt ((x4 - (1 : Int32)) &&& x2) fun y8 => f_X7_bestOf_8 x1 x2 n σ y6 y8 (x5 + 1)))))))))
def m_X7_bestOf (σ : Mem) (x1 : Int32) (x2 : Int32) : Option (Int32) := (f_X7_bestOf_8 x1 x2 KF σ (0 : Int32) x2 (0 : Int32))
set_option maxHeartbeats 4000000 in
set_option maxRecDepth 100000 in
theorem w_X7_bestOf_8 {p : Program} {l : Launch} {e : Env} {s : State} {m : MethodId} {args : Array Value} {below : List Frame} {meth : Method} {c : Code} {A : Nat → Prop} {E : CE} {q : Int32} (X : CX p s m meth c args cX7_bestOf 7 RX7 (some .int)) {x1 : Int32} {x2 : Int32} : ∀ (n : Nat), ∀ (σ : Mem) (x3 : Int32) (x4 : Int32) (x5 : Int32) , f_X7_bestOf_8 x1 x2 n σ x3 x4 x5 = some q → ∀ (H : Heap) (locs : List Loc) (ls : Array Slot), WI (vC E) A s H locs σ → lv_has ls 7 [(0, .ref (ca E 38)), (1, .int x1), (2, .int x2), (3, .int x3), (4, .int x4), (5, .int x5)] → W p l e rm_X7_bestOf s m args below meth c H locs 0 0 (MQ below (QI (vC E) A (q, σ)) args s 0 0 A) (F0 m 8 ls []) := by
  have hx := X.1
  have hb := X.2.1
  intro n
  induction n with
  | zero =>
    intro σ x3 x4 x5 h
    cases h
  | succ n ih =>
    intro σ x3 x4 x5 h H locs ls I hl
    rw [f_X7_bestOf_8] at h
    refine lv_iload hx hb dX7_bestOf_8 (lv_at hl 5 rfl) ?_
    refine lv_iload_n hx hb dX7_bestOf_10 rfl (lv_at hl 2 rfl) ?_
    refine lv_icmp_gt (tgt := 76) hx hb dX7_bestOf_11 (by decide) (fun c1 => ?_) (fun c1 => ?_)
    · have h := ite_t h c1
      refine lv_iload_n hx hb dX7_bestOf_76 rfl (lv_at hl 3 rfl) ?_
      exact r_iret X I (congrArg (fun z => (z, σ)) (Option.some.inj h).symm) dX7_bestOf_77
    · have h := ite_f h c1
      refine lv_aload_n hx hb dX7_bestOf_14 rfl (lv_at hl 0 rfl) ?_
      refine gfC_X7_15 X I (kC_38 E) (k' := 40) rfl dX7_bestOf_15 ?_
      refine lv_iload hx hb dX7_bestOf_18 (lv_at hl 4 rfl) ?_
      obtain ⟨hin, h⟩ := gd_some h
      refine ialdC X I (kC_40 E) hin dX7_bestOf_20 ?_
      obtain ⟨y2, ey2, h⟩ := lt_e h
      refine nm_i ey2 ?_
      refine lv_istore (lv' := [(6, .int y2), (0, .ref (ca E 38)), (1, .int x1), (2, .int x2), (3, .int x3), (4, .int x4), (5, .int x5)]) hx hb dX7_bestOf_21 hl (by decide) rfl (fun ls hl => ?_)
      refine lv_iload hx hb dX7_bestOf_23 (lv_at hl 0 rfl) ?_
      refine lv_iconst (v := -1) hx hb dX7_bestOf_25 (by decide) ?_
      refine lv_icmp_eq (tgt := 54) hx hb dX7_bestOf_26 (by decide) (fun c3 => ?_) (fun c3 => ?_)
      · have h := ite_t h c3
        refine lv_iload hx hb dX7_bestOf_54 (lv_at hl 5 rfl) ?_
        refine lv_if_ne (tgt := 62) hx hb dX7_bestOf_56 (by decide) (fun c4 => ?_) (fun c4 => ?_)
        · have h := ite_f h c4
          refine lv_iload hx hb dX7_bestOf_62 (lv_at hl 5 rfl) ?_
          refine lv_iconst (v := 1) hx hb dX7_bestOf_64 (by decide) ?_
          refine lv_isub hx hb dX7_bestOf_65 ?_
          refine lv_iload_n hx hb dX7_bestOf_66 rfl (lv_at hl 3 rfl) ?_
          refine lv_iand hx hb dX7_bestOf_67 ?_
          obtain ⟨y5, ey5, h⟩ := lt_e h
          refine nm_i ey5 ?_
          refine lv_istore (lv' := [(4, .int y5), (6, .int y2), (0, .ref (ca E 38)), (1, .int x1), (2, .int x2), (3, .int x3), (5, .int x5)]) hx hb dX7_bestOf_68 hl (by decide) rfl (fun ls hl => ?_)
          refine lv_iinc (v := (x5 + 1)) (lv' := [(5, .int (x5 + 1)), (4, .int y5), (6, .int y2), (0, .ref (ca E 38)), (1, .int x1), (2, .int x2), (3, .int x3)]) hx hb dX7_bestOf_70 hl (k := 6) rfl rfl (by decide) rfl (fun ls hl => ?_)
          refine lv_goto (tgt := 8) hx hb dX7_bestOf_73 (by decide) ?_
          exact ih σ x3 y5 (x5 + 1) h H locs ls I (lv_sub hl [3, 4, 5, 6, 1, 0] rfl)
        · have h := ite_t h c4
          refine lv_goto (tgt := 76) hx hb dX7_bestOf_59 (by decide) ?_
          refine lv_iload_n hx hb dX7_bestOf_76 rfl (lv_at hl 4 rfl) ?_
          exact r_iret X I (congrArg (fun z => (z, σ)) (Option.some.inj h).symm) dX7_bestOf_77
      · have h := ite_f h c3
        refine lv_iload_n hx hb dX7_bestOf_29 rfl (lv_at hl 4 rfl) ?_
        refine lv_iload hx hb dX7_bestOf_30 (lv_at hl 0 rfl) ?_
        refine lv_aload_n hx hb dX7_bestOf_32 rfl (lv_at hl 1 rfl) ?_
        refine gfC_X7_18 X I (kC_38 E) (k' := 41) rfl dX7_bestOf_33 ?_
        refine lv_iload_n hx hb dX7_bestOf_36 rfl (lv_at hl 2 rfl) ?_
        refine lv_iconst (v := 1) hx hb dX7_bestOf_37 (by decide) ?_
        refine lv_iadd hx hb dX7_bestOf_38 ?_
        refine lv_sipush (v := 256) hx hb dX7_bestOf_39 (by decide) ?_
        refine lv_imul hx hb dX7_bestOf_42 ?_
        refine lv_iload_n hx hb dX7_bestOf_43 rfl (lv_at hl 3 rfl) ?_
        refine lv_iload hx hb dX7_bestOf_44 (lv_at hl 5 rfl) ?_
        refine lv_ixor hx hb dX7_bestOf_46 ?_
        refine lv_iadd hx hb dX7_bestOf_47 ?_
        obtain ⟨hin, h⟩ := gd_some h
        refine ialdC X I (kC_41 E) hin dX7_bestOf_48 ?_
        refine lv_iadd hx hb dX7_bestOf_49 ?_
        refine r_max X hl tw_165 ⟨Nat.le_of_ble_eq_true rfl, Nat.le_of_ble_eq_true rfl⟩ dX7_bestOf_50 ?_
        obtain ⟨y6, ey6, h⟩ := lt_e h
        refine nm_i ey6 ?_
        refine lv_istore_n (lv' := [(3, .int y6), (6, .int y2), (0, .ref (ca E 38)), (1, .int x1), (2, .int x2), (4, .int x4), (5, .int x5)]) hx hb dX7_bestOf_53 rfl hl (by decide) rfl (fun ls hl => ?_)
        refine lv_iload hx hb dX7_bestOf_54 (lv_at hl 5 rfl) ?_
        refine lv_if_ne (tgt := 62) hx hb dX7_bestOf_56 (by decide) (fun c7 => ?_) (fun c7 => ?_)
        · have h := ite_f h c7
          refine lv_iload hx hb dX7_bestOf_62 (lv_at hl 5 rfl) ?_
          refine lv_iconst (v := 1) hx hb dX7_bestOf_64 (by decide) ?_
          refine lv_isub hx hb dX7_bestOf_65 ?_
          refine lv_iload_n hx hb dX7_bestOf_66 rfl (lv_at hl 4 rfl) ?_
          refine lv_iand hx hb dX7_bestOf_67 ?_
          obtain ⟨y8, ey8, h⟩ := lt_e h
          refine nm_i ey8 ?_
          refine lv_istore (lv' := [(4, .int y8), (3, .int y6), (6, .int y2), (0, .ref (ca E 38)), (1, .int x1), (2, .int x2), (5, .int x5)]) hx hb dX7_bestOf_68 hl (by decide) rfl (fun ls hl => ?_)
          refine lv_iinc (v := (x5 + 1)) (lv' := [(5, .int (x5 + 1)), (4, .int y8), (3, .int y6), (6, .int y2), (0, .ref (ca E 38)), (1, .int x1), (2, .int x2)]) hx hb dX7_bestOf_70 hl (k := 6) rfl rfl (by decide) rfl (fun ls hl => ?_)
          refine lv_goto (tgt := 8) hx hb dX7_bestOf_73 (by decide) ?_
          exact ih σ y6 y8 (x5 + 1) h H locs ls I (lv_sub hl [4, 5, 6, 2, 1, 0] rfl)
        · have h := ite_t h c7
          refine lv_goto (tgt := 76) hx hb dX7_bestOf_59 (by decide) ?_
          refine lv_iload_n hx hb dX7_bestOf_76 rfl (lv_at hl 0 rfl) ?_
          exact r_iret X I (congrArg (fun z => (z, σ)) (Option.some.inj h).symm) dX7_bestOf_77
set_option maxHeartbeats 4000000 in
set_option maxRecDepth 100000 in
theorem w_X7_bestOf_0 {p : Program} {l : Launch} {e : Env} {s : State} {m : MethodId} {args : Array Value} {below : List Frame} {meth : Method} {c : Code} {A : Nat → Prop} {E : CE} {q : Int32} (X : CX p s m meth c args cX7_bestOf 7 RX7 (some .int)) : ∀ (σ : Mem) (x1 : Int32) (x2 : Int32) , m_X7_bestOf σ x1 x2 = some q → ∀ (H : Heap) (locs : List Loc) (ls : Array Slot), WI (vC E) A s H locs σ → lv_has ls 7 [(0, .ref (ca E 38)), (1, .int x1), (2, .int x2)] → W p l e rm_X7_bestOf s m args below meth c H locs 0 0 (MQ below (QI (vC E) A (q, σ)) args s 0 0 A) (F0 m 0 ls []) := by
  have hx := X.1
  have hb := X.2.1
  intro σ x1 x2 h H locs ls I hl
  unfold m_X7_bestOf at h
  refine lv_iconst (v := 0) hx hb dX7_bestOf_0 (by decide) ?_
  refine lv_istore_n (lv' := [(3, .int (0 : Int32)), (0, .ref (ca E 38)), (1, .int x1), (2, .int x2)]) hx hb dX7_bestOf_1 rfl hl (by decide) rfl (fun ls hl => ?_)
  refine lv_iload_n hx hb dX7_bestOf_2 rfl (lv_at hl 3 rfl) ?_
  refine lv_istore (lv' := [(4, .int x2), (3, .int (0 : Int32)), (0, .ref (ca E 38)), (1, .int x1), (2, .int x2)]) hx hb dX7_bestOf_3 hl (by decide) rfl (fun ls hl => ?_)
  refine lv_iconst (v := 0) hx hb dX7_bestOf_5 (by decide) ?_
  refine lv_istore (lv' := [(5, .int (0 : Int32)), (4, .int x2), (3, .int (0 : Int32)), (0, .ref (ca E 38)), (1, .int x1), (2, .int x2)]) hx hb dX7_bestOf_6 hl (by decide) rfl (fun ls hl => ?_)
  exact w_X7_bestOf_8 X   KF σ (0 : Int32) x2 (0 : Int32) h H locs ls I (lv_sub hl [3, 4, 5, 2, 1, 0] rfl)
theorem c_X7_bestOf {l : Launch} {E : CE} {σ : Mem} {x1 : Int32} {x2 : Int32} {q : Int32} (h : m_X7_bestOf σ x1 x2 = some q) : CI l (vC E) yX7_bestOf (.code yX7_bestOf cX7_bestOf 7 (some .int) :: GG) rm_X7_bestOf [.ref (ca E 38), .int x1, .int x2] σ (q, σ) :=
  mk_CI (by decide +kernel) (Nat.le_of_ble_eq_true rfl) (fun p e s m args below meth c A ls X I hl => w_X7_bestOf_0 X  σ x1 x2 h s.heap [] ls I (lv_sub hl [0, 1, 2] rfl))

def rm_X7_weigh : Room := { frames := 3, cells := 0, slots := 0, locals := 111 }
def f_X7_weigh_45 (k39 : Mem → Int32 → Option (Mem)) (x1 : Int32) : Nat → Mem → Int32 → Option (Mem)
  | 0, _, _ => none
  | n + 1, σ, x2 => (if (σ 38 4) ≤ x2 then (k39 σ (x1 + (-1))) else ((m_X7_worthOf σ x1 x2).bind fun q2 => (gd x2 256 (lt (ms σ 40 (Int32.toNatClampNeg x2) (q2)) fun σ3 => ((m_X7_bestOf σ3 x1 x2).bind fun q4 => (gd ((x1 * (256 : Int32)) + x2) 2048 (lt (ms σ3 41 (Int32.toNatClampNeg ((x1 * (256 : Int32)) + x2)) (q4)) fun σ5 => f_X7_weigh_45 k39 x1 n σ5 (x2 + 1))))))))
def f_X7_weigh_39 : Nat → Mem → Int32 → Option (Mem)
  | 0, _, _ => none
  | n + 1, σ, x1 => (if x1 < (0 : Int32) then (some σ) else (f_X7_weigh_45 (f_X7_weigh_39 n) x1 KF σ (0 : Int32)))
def f_X7_weigh_2 : Nat → Mem → Int32 → Option (Mem)
  | 0, _, _ => none
  | n + 1, σ, x1 => (if (σ 38 4) ≤ x1 then (lt ((σ 38 3) - (1 : Int32)) fun y2 => (f_X7_weigh_39 KF σ y2)) else (gd (((σ 38 3) * (256 : Int32)) + x1) 2048 (lt (ms σ 41 (Int32.toNatClampNeg (((σ 38 3) * (256 : Int32)) + x1)) ((0 : Int32))) fun σ3 => f_X7_weigh_2 n σ3 (x1 + 1))))
def m_X7_weigh (σ : Mem) : Option (Mem) := (f_X7_weigh_2 KF σ (0 : Int32))
set_option maxHeartbeats 4000000 in
set_option maxRecDepth 100000 in
theorem w_X7_weigh_45 {p : Program} {l : Launch} {e : Env} {s : State} {m : MethodId} {args : Array Value} {below : List Frame} {meth : Method} {c : Code} {A : Nat → Prop} {E : CE} {q : Mem} (X : CX p s m meth c args cX7_weigh 3 RX7 none) {x1 : Int32} {k39 : Mem → Int32 → Option (Mem)} (hk39 : ∀ (σ : Mem) (x1 : Int32) , k39 σ x1 = some q → ∀ (H : Heap) (locs : List Loc) (ls : Array Slot), WI (vC E) A s H locs σ → lv_has ls 3 [(0, .ref (ca E 38)), (1, .int x1)] → W p l e rm_X7_weigh s m args below meth c H locs 0 0 (MQ below (QV (vC E) A q) args s 0 0 A) (F0 m 39 ls [])) : ∀ (n : Nat), ∀ (σ : Mem) (x2 : Int32) , f_X7_weigh_45 k39 x1 n σ x2 = some q → ∀ (H : Heap) (locs : List Loc) (ls : Array Slot), WI (vC E) A s H locs σ → lv_has ls 3 [(0, .ref (ca E 38)), (1, .int x1), (2, .int x2)] → W p l e rm_X7_weigh s m args below meth c H locs 0 0 (MQ below (QV (vC E) A q) args s 0 0 A) (F0 m 45 ls []) := by
  have hx := X.1
  have hb := X.2.1
  intro n
  induction n with
  | zero =>
    intro σ x2 h
    cases h
  | succ n ih =>
    intro σ x2 h H locs ls I hl
    rw [f_X7_weigh_45] at h
    refine lv_iload_n hx hb dX7_weigh_45 rfl (lv_at hl 2 rfl) ?_
    refine lv_aload_n hx hb dX7_weigh_46 rfl (lv_at hl 0 rfl) ?_
    refine gfC_X7_25 X I (kC_38 E) dX7_weigh_47 ?_
    refine lv_icmp_ge (tgt := 89) hx hb dX7_weigh_50 (by decide) (fun c1 => ?_) (fun c1 => ?_)
    · have h := ite_t h c1
      refine lv_iinc (v := (x1 + (-1))) (lv' := [(1, .int (x1 + (-1))), (0, .ref (ca E 38)), (2, .int x2)]) hx hb dX7_weigh_89 hl (k := 1) rfl rfl (by decide) rfl (fun ls hl => ?_)
      refine lv_goto (tgt := 39) hx hb dX7_weigh_92 (by decide) ?_
      exact hk39 σ (x1 + (-1)) h H locs ls I (lv_sub hl [1, 0] rfl)
    · have h := ite_f h c1
      refine lv_aload_n hx hb dX7_weigh_53 rfl (lv_at hl 0 rfl) ?_
      refine gfC_X7_15 X I (kC_38 E) (k' := 40) rfl dX7_weigh_54 ?_
      refine lv_iload_n hx hb dX7_weigh_57 rfl (lv_at hl 2 rfl) ?_
      refine lv_aload_n hx hb dX7_weigh_58 rfl (lv_at hl 0 rfl) ?_
      refine lv_iload_n hx hb dX7_weigh_59 rfl (lv_at hl 1 rfl) ?_
      refine lv_iload_n hx hb dX7_weigh_60 rfl (lv_at hl 2 rfl) ?_
      obtain ⟨q2, hq2, h⟩ := bd h
      refine r_callVI (V := (vC E)) (k := 38) (As := [.int x1, .int x2]) (rest := [.int x2, .ref (ca E 40)]) X I hl (c_X7_worthOf  hq2) yv_X7_worthOf tw_166 ⟨rfl, rfl, Nat.le_of_ble_eq_true rfl, Nat.le_of_ble_eq_true rfl⟩ (kC_38 E).1 ((kC_38 E).2 (σ 38)) rfl rfl rfl (Nat.le_of_ble_eq_true rfl) dX7_weigh_61 (fun H locs I => ?_)
      obtain ⟨hin, h⟩ := gd_some h
      refine iastC X I (kC_40 E) hin dX7_weigh_64 (fun H locs I => ?_)
      obtain ⟨σ3, eσ3, h⟩ := lt_e h
      replace I := wi_nm eσ3 I
      refine lv_aload_n hx hb dX7_weigh_65 rfl (lv_at hl 0 rfl) ?_
      refine gfC_X7_18 X I (kC_38 E) (k' := 41) rfl dX7_weigh_66 ?_
      refine lv_iload_n hx hb dX7_weigh_69 rfl (lv_at hl 1 rfl) ?_
      refine lv_sipush (v := 256) hx hb dX7_weigh_70 (by decide) ?_
      refine lv_imul hx hb dX7_weigh_73 ?_
      refine lv_iload_n hx hb dX7_weigh_74 rfl (lv_at hl 2 rfl) ?_
      refine lv_iadd hx hb dX7_weigh_75 ?_
      refine lv_aload_n hx hb dX7_weigh_76 rfl (lv_at hl 0 rfl) ?_
      refine lv_iload_n hx hb dX7_weigh_77 rfl (lv_at hl 1 rfl) ?_
      refine lv_iload_n hx hb dX7_weigh_78 rfl (lv_at hl 2 rfl) ?_
      obtain ⟨q4, hq4, h⟩ := bd h
      refine r_callVI (V := (vC E)) (k := 38) (As := [.int x1, .int x2]) (rest := [.int ((x1 * (256 : Int32)) + x2), .ref (ca E 41)]) X I hl (c_X7_bestOf  hq4) yv_X7_bestOf tw_171 ⟨rfl, rfl, Nat.le_of_ble_eq_true rfl, Nat.le_of_ble_eq_true rfl⟩ (kC_38 E).1 ((kC_38 E).2 (σ3 38)) rfl rfl rfl (Nat.le_of_ble_eq_true rfl) dX7_weigh_79 (fun H locs I => ?_)
      obtain ⟨hin, h⟩ := gd_some h
      refine iastC X I (kC_41 E) hin dX7_weigh_82 (fun H locs I => ?_)
      obtain ⟨σ5, eσ5, h⟩ := lt_e h
      replace I := wi_nm eσ5 I
      refine lv_iinc (v := (x2 + 1)) (lv' := [(2, .int (x2 + 1)), (0, .ref (ca E 38)), (1, .int x1)]) hx hb dX7_weigh_83 hl (k := 2) rfl rfl (by decide) rfl (fun ls hl => ?_)
      refine lv_goto (tgt := 45) hx hb dX7_weigh_86 (by decide) ?_
      exact ih σ5 (x2 + 1) h H locs ls I (lv_sub hl [1, 2, 0] rfl)
set_option maxHeartbeats 4000000 in
set_option maxRecDepth 100000 in
theorem w_X7_weigh_39 {p : Program} {l : Launch} {e : Env} {s : State} {m : MethodId} {args : Array Value} {below : List Frame} {meth : Method} {c : Code} {A : Nat → Prop} {E : CE} {q : Mem} (X : CX p s m meth c args cX7_weigh 3 RX7 none) : ∀ (n : Nat), ∀ (σ : Mem) (x1 : Int32) , f_X7_weigh_39 n σ x1 = some q → ∀ (H : Heap) (locs : List Loc) (ls : Array Slot), WI (vC E) A s H locs σ → lv_has ls 3 [(0, .ref (ca E 38)), (1, .int x1)] → W p l e rm_X7_weigh s m args below meth c H locs 0 0 (MQ below (QV (vC E) A q) args s 0 0 A) (F0 m 39 ls []) := by
  have hx := X.1
  have hb := X.2.1
  intro n
  induction n with
  | zero =>
    intro σ x1 h
    cases h
  | succ n ih =>
    intro σ x1 h H locs ls I hl
    rw [f_X7_weigh_39] at h
    refine lv_iload_n hx hb dX7_weigh_39 rfl (lv_at hl 1 rfl) ?_
    refine lv_if_lt (tgt := 95) hx hb dX7_weigh_40 (by decide) (fun c1 => ?_) (fun c1 => ?_)
    · have h := ite_t h c1
      exact r_vret X I (Option.some.inj h).symm dX7_weigh_95
    · have h := ite_f h c1
      refine lv_iconst (v := 0) hx hb dX7_weigh_43 (by decide) ?_
      refine lv_istore_n (lv' := [(2, .int (0 : Int32)), (0, .ref (ca E 38)), (1, .int x1)]) hx hb dX7_weigh_44 rfl hl (by decide) rfl (fun ls hl => ?_)
      exact w_X7_weigh_45 X  (fun σ a1 h H locs ls I hl => ih σ a1 h H locs ls I hl) KF σ (0 : Int32) h H locs ls I (lv_sub hl [1, 2, 0] rfl)
set_option maxHeartbeats 4000000 in
set_option maxRecDepth 100000 in
theorem w_X7_weigh_2 {p : Program} {l : Launch} {e : Env} {s : State} {m : MethodId} {args : Array Value} {below : List Frame} {meth : Method} {c : Code} {A : Nat → Prop} {E : CE} {q : Mem} (X : CX p s m meth c args cX7_weigh 3 RX7 none) : ∀ (n : Nat), ∀ (σ : Mem) (x1 : Int32) , f_X7_weigh_2 n σ x1 = some q → ∀ (H : Heap) (locs : List Loc) (ls : Array Slot), WI (vC E) A s H locs σ → lv_has ls 3 [(0, .ref (ca E 38)), (1, .int x1)] → W p l e rm_X7_weigh s m args below meth c H locs 0 0 (MQ below (QV (vC E) A q) args s 0 0 A) (F0 m 2 ls []) := by
  have hx := X.1
  have hb := X.2.1
  intro n
  induction n with
  | zero =>
    intro σ x1 h
    cases h
  | succ n ih =>
    intro σ x1 h H locs ls I hl
    rw [f_X7_weigh_2] at h
    refine lv_iload_n hx hb dX7_weigh_2 rfl (lv_at hl 1 rfl) ?_
    refine lv_aload_n hx hb dX7_weigh_3 rfl (lv_at hl 0 rfl) ?_
    refine gfC_X7_25 X I (kC_38 E) dX7_weigh_4 ?_
    refine lv_icmp_ge (tgt := 32) hx hb dX7_weigh_7 (by decide) (fun c1 => ?_) (fun c1 => ?_)
    · have h := ite_t h c1
      refine lv_aload_n hx hb dX7_weigh_32 rfl (lv_at hl 0 rfl) ?_
      refine gfC_X7_21 X I (kC_38 E) dX7_weigh_33 ?_
      refine lv_iconst (v := 1) hx hb dX7_weigh_36 (by decide) ?_
      refine lv_isub hx hb dX7_weigh_37 ?_
      obtain ⟨y2, ey2, h⟩ := lt_e h
      refine nm_i ey2 ?_
      refine lv_istore_n (lv' := [(1, .int y2), (0, .ref (ca E 38))]) hx hb dX7_weigh_38 rfl hl (by decide) rfl (fun ls hl => ?_)
      exact w_X7_weigh_39 X   KF σ y2 h H locs ls I (lv_sub hl [1, 0] rfl)
    · have h := ite_f h c1
      refine lv_aload_n hx hb dX7_weigh_10 rfl (lv_at hl 0 rfl) ?_
      refine gfC_X7_18 X I (kC_38 E) (k' := 41) rfl dX7_weigh_11 ?_
      refine lv_aload_n hx hb dX7_weigh_14 rfl (lv_at hl 0 rfl) ?_
      refine gfC_X7_21 X I (kC_38 E) dX7_weigh_15 ?_
      refine lv_sipush (v := 256) hx hb dX7_weigh_18 (by decide) ?_
      refine lv_imul hx hb dX7_weigh_21 ?_
      refine lv_iload_n hx hb dX7_weigh_22 rfl (lv_at hl 1 rfl) ?_
      refine lv_iadd hx hb dX7_weigh_23 ?_
      refine lv_iconst (v := 0) hx hb dX7_weigh_24 (by decide) ?_
      obtain ⟨hin, h⟩ := gd_some h
      refine iastC X I (kC_41 E) hin dX7_weigh_25 (fun H locs I => ?_)
      obtain ⟨σ3, eσ3, h⟩ := lt_e h
      replace I := wi_nm eσ3 I
      refine lv_iinc (v := (x1 + 1)) (lv' := [(1, .int (x1 + 1)), (0, .ref (ca E 38))]) hx hb dX7_weigh_26 hl (k := 1) rfl rfl (by decide) rfl (fun ls hl => ?_)
      refine lv_goto (tgt := 2) hx hb dX7_weigh_29 (by decide) ?_
      exact ih σ3 (x1 + 1) h H locs ls I (lv_sub hl [1, 0] rfl)
set_option maxHeartbeats 4000000 in
set_option maxRecDepth 100000 in
theorem w_X7_weigh_0 {p : Program} {l : Launch} {e : Env} {s : State} {m : MethodId} {args : Array Value} {below : List Frame} {meth : Method} {c : Code} {A : Nat → Prop} {E : CE} {q : Mem} (X : CX p s m meth c args cX7_weigh 3 RX7 none) : ∀ (σ : Mem)  , m_X7_weigh σ = some q → ∀ (H : Heap) (locs : List Loc) (ls : Array Slot), WI (vC E) A s H locs σ → lv_has ls 3 [(0, .ref (ca E 38))] → W p l e rm_X7_weigh s m args below meth c H locs 0 0 (MQ below (QV (vC E) A q) args s 0 0 A) (F0 m 0 ls []) := by
  have hx := X.1
  have hb := X.2.1
  intro σ  h H locs ls I hl
  unfold m_X7_weigh at h
  refine lv_iconst (v := 0) hx hb dX7_weigh_0 (by decide) ?_
  refine lv_istore_n (lv' := [(1, .int (0 : Int32)), (0, .ref (ca E 38))]) hx hb dX7_weigh_1 rfl hl (by decide) rfl (fun ls hl => ?_)
  exact w_X7_weigh_2 X   KF σ (0 : Int32) h H locs ls I (lv_sub hl [1, 0] rfl)
theorem c_X7_weigh {l : Launch} {E : CE} {σ : Mem} {q : Mem} (h : m_X7_weigh σ = some q) : CV l (vC E) yX7_weigh (.code yX7_weigh cX7_weigh 3 none :: GG) rm_X7_weigh [.ref (ca E 38)] σ q :=
  mk_CV (by decide +kernel) (Nat.le_of_ble_eq_true rfl) (fun p e s m args below meth c A ls X I hl => w_X7_weigh_0 X  σ  h s.heap [] ls I (lv_sub hl [0] rfl))

def rm_X7_howMuch : Room := { frames := 1, cells := 0, slots := 0, locals := 64 }
def m_X7_howMuch (σ : Mem) : Option (Int32) := (gd ((σ 38 4) - (1 : Int32)) 2048 (some (σ 41 (Int32.toNatClampNeg ((σ 38 4) - (1 : Int32))))))
set_option maxHeartbeats 4000000 in
set_option maxRecDepth 100000 in
theorem w_X7_howMuch_0 {p : Program} {l : Launch} {e : Env} {s : State} {m : MethodId} {args : Array Value} {below : List Frame} {meth : Method} {c : Code} {A : Nat → Prop} {E : CE} {q : Int32} (X : CX p s m meth c args cX7_howMuch 1 RX7 (some .int)) : ∀ (σ : Mem)  , m_X7_howMuch σ = some q → ∀ (H : Heap) (locs : List Loc) (ls : Array Slot), WI (vC E) A s H locs σ → lv_has ls 1 [(0, .ref (ca E 38))] → W p l e rm_X7_howMuch s m args below meth c H locs 0 0 (MQ below (QI (vC E) A (q, σ)) args s 0 0 A) (F0 m 0 ls []) := by
  have hx := X.1
  have hb := X.2.1
  intro σ  h H locs ls I hl
  unfold m_X7_howMuch at h
  refine lv_aload_n hx hb dX7_howMuch_0 rfl (lv_at hl 0 rfl) ?_
  refine gfC_X7_18 X I (kC_38 E) (k' := 41) rfl dX7_howMuch_1 ?_
  refine lv_aload_n hx hb dX7_howMuch_4 rfl (lv_at hl 0 rfl) ?_
  refine gfC_X7_25 X I (kC_38 E) dX7_howMuch_5 ?_
  refine lv_iconst (v := 1) hx hb dX7_howMuch_8 (by decide) ?_
  refine lv_isub hx hb dX7_howMuch_9 ?_
  obtain ⟨hin, h⟩ := gd_some h
  refine ialdC X I (kC_41 E) hin dX7_howMuch_10 ?_
  exact r_iret X I (congrArg (fun z => (z, σ)) (Option.some.inj h).symm) dX7_howMuch_11
theorem c_X7_howMuch {l : Launch} {E : CE} {σ : Mem} {q : Int32} (h : m_X7_howMuch σ = some q) : CI l (vC E) yX7_howMuch (.code yX7_howMuch cX7_howMuch 1 (some .int) :: GG) rm_X7_howMuch [.ref (ca E 38)] σ (q, σ) :=
  mk_CI (by decide +kernel) (Nat.le_of_ble_eq_true rfl) (fun p e s m args below meth c A ls X I hl => w_X7_howMuch_0 X  σ  h s.heap [] ls I (lv_sub hl [0] rfl))

def rm_X7_leastPart : Room := { frames := 3, cells := 0, slots := 0, locals := 109 }
def f_X7_leastPart_37 (k2 : Mem → Int32 → Option (Int32)) (x1 : Int32) (x2 : Int32) (σ : Mem) (x3 : Int32) (x4 : Int32) (z0 : Int32) : Option (Int32) := (if z0 = (0 : Int32) then (k2 σ (x3 + 1)) else (gd (((x1 + (1 : Int32)) * (256 : Int32)) + (x2 ^^^ x3)) 2048 (gd ((x1 * (256 : Int32)) + x2) 2048 (if (x4 + (σ 41 (Int32.toNatClampNeg (((x1 + (1 : Int32)) * (256 : Int32)) + (x2 ^^^ x3))))) = (σ 41 (Int32.toNatClampNeg ((x1 * (256 : Int32)) + x2))) then (some x3) else (k2 σ (x3 + 1))))))
def f_X7_leastPart_2 (x1 : Int32) (x2 : Int32) : Nat → Mem → Int32 → Option (Int32)
  | 0, _, _ => none
  | n + 1, σ, x3 => (if (σ 38 4) ≤ x3 then (some (0 : Int32)) else ((m_X7_worthOf σ x1 x3).bind fun q2 => (if (x3 &&& (x2 ^^^ (-1 : Int32))) = (0 : Int32) then (if q2 = (-1 : Int32) then (f_X7_leastPart_37 (f_X7_leastPart_2 x1 x2 n) x1 x2 σ x3 q2 (0 : Int32)) else (f_X7_leastPart_37 (f_X7_leastPart_2 x1 x2 n) x1 x2 σ x3 q2 (1 : Int32))) else (f_X7_leastPart_37 (f_X7_leastPart_2 x1 x2 n) x1 x2 σ x3 q2 (0 : Int32)))))
def m_X7_leastPart (σ : Mem) (x1 : Int32) (x2 : Int32) : Option (Int32) := (f_X7_leastPart_2 x1 x2 KF σ (0 : Int32))
set_option maxHeartbeats 4000000 in
set_option maxRecDepth 100000 in
theorem w_X7_leastPart_37 {p : Program} {l : Launch} {e : Env} {s : State} {m : MethodId} {args : Array Value} {below : List Frame} {meth : Method} {c : Code} {A : Nat → Prop} {E : CE} {q : Int32} (X : CX p s m meth c args cX7_leastPart 6 RX7 (some .int)) {x1 : Int32} {x2 : Int32} {k2 : Mem → Int32 → Option (Int32)} (hk2 : ∀ (σ : Mem) (x3 : Int32) , k2 σ x3 = some q → ∀ (H : Heap) (locs : List Loc) (ls : Array Slot), WI (vC E) A s H locs σ → lv_has ls 6 [(0, .ref (ca E 38)), (1, .int x1), (2, .int x2), (3, .int x3)] → W p l e rm_X7_leastPart s m args below meth c H locs 0 0 (MQ below (QI (vC E) A (q, σ)) args s 0 0 A) (F0 m 2 ls [])) : ∀ (σ : Mem) (x3 : Int32) (x4 : Int32) (z0 : Int32), f_X7_leastPart_37 k2 x1 x2 σ x3 x4 z0 = some q → ∀ (H : Heap) (locs : List Loc) (ls : Array Slot), WI (vC E) A s H locs σ → lv_has ls 6 [(0, .ref (ca E 38)), (1, .int x1), (2, .int x2), (3, .int x3), (4, .int x4)] → W p l e rm_X7_leastPart s m args below meth c H locs 0 0 (MQ below (QI (vC E) A (q, σ)) args s 0 0 A) (F0 m 37 ls [.int z0]) := by
  have hx := X.1
  have hb := X.2.1
  intro σ x3 x4 z0 h H locs ls I hl
  unfold f_X7_leastPart_37 at h
  refine lv_istore (lv' := [(5, .int z0), (0, .ref (ca E 38)), (1, .int x1), (2, .int x2), (3, .int x3), (4, .int x4)]) hx hb dX7_leastPart_37 hl (by decide) rfl (fun ls hl => ?_)
  refine lv_iload hx hb dX7_leastPart_39 (lv_at hl 0 rfl) ?_
  refine lv_if_eq (tgt := 80) hx hb dX7_leastPart_41 (by decide) (fun c1 => ?_) (fun c1 => ?_)
  · have h := ite_t h c1
    refine lv_iinc (v := (x3 + 1)) (lv' := [(3, .int (x3 + 1)), (5, .int z0), (0, .ref (ca E 38)), (1, .int x1), (2, .int x2), (4, .int x4)]) hx hb dX7_leastPart_80 hl (k := 4) rfl rfl (by decide) rfl (fun ls hl => ?_)
    refine lv_goto (tgt := 2) hx hb dX7_leastPart_83 (by decide) ?_
    exact hk2 σ (x3 + 1) h H locs ls I (lv_sub hl [2, 3, 4, 0] rfl)
  · have h := ite_f h c1
    refine lv_iload hx hb dX7_leastPart_44 (lv_at hl 5 rfl) ?_
    refine lv_aload_n hx hb dX7_leastPart_46 rfl (lv_at hl 1 rfl) ?_
    refine gfC_X7_18 X I (kC_38 E) (k' := 41) rfl dX7_leastPart_47 ?_
    refine lv_iload_n hx hb dX7_leastPart_50 rfl (lv_at hl 2 rfl) ?_
    refine lv_iconst (v := 1) hx hb dX7_leastPart_51 (by decide) ?_
    refine lv_iadd hx hb dX7_leastPart_52 ?_
    refine lv_sipush (v := 256) hx hb dX7_leastPart_53 (by decide) ?_
    refine lv_imul hx hb dX7_leastPart_56 ?_
    refine lv_iload_n hx hb dX7_leastPart_57 rfl (lv_at hl 3 rfl) ?_
    refine lv_iload_n hx hb dX7_leastPart_58 rfl (lv_at hl 4 rfl) ?_
    refine lv_ixor hx hb dX7_leastPart_59 ?_
    refine lv_iadd hx hb dX7_leastPart_60 ?_
    obtain ⟨hin, h⟩ := gd_some h
    refine ialdC X I (kC_41 E) hin dX7_leastPart_61 ?_
    refine lv_iadd hx hb dX7_leastPart_62 ?_
    refine lv_aload_n hx hb dX7_leastPart_63 rfl (lv_at hl 1 rfl) ?_
    refine gfC_X7_18 X I (kC_38 E) (k' := 41) rfl dX7_leastPart_64 ?_
    refine lv_iload_n hx hb dX7_leastPart_67 rfl (lv_at hl 2 rfl) ?_
    refine lv_sipush (v := 256) hx hb dX7_leastPart_68 (by decide) ?_
    refine lv_imul hx hb dX7_leastPart_71 ?_
    refine lv_iload_n hx hb dX7_leastPart_72 rfl (lv_at hl 3 rfl) ?_
    refine lv_iadd hx hb dX7_leastPart_73 ?_
    obtain ⟨hin, h⟩ := gd_some h
    refine ialdC X I (kC_41 E) hin dX7_leastPart_74 ?_
    refine lv_icmp_ne (tgt := 80) hx hb dX7_leastPart_75 (by decide) (fun c2 => ?_) (fun c2 => ?_)
    · have h := ite_f h c2
      refine lv_iinc (v := (x3 + 1)) (lv' := [(3, .int (x3 + 1)), (5, .int z0), (0, .ref (ca E 38)), (1, .int x1), (2, .int x2), (4, .int x4)]) hx hb dX7_leastPart_80 hl (k := 4) rfl rfl (by decide) rfl (fun ls hl => ?_)
      refine lv_goto (tgt := 2) hx hb dX7_leastPart_83 (by decide) ?_
      exact hk2 σ (x3 + 1) h H locs ls I (lv_sub hl [2, 3, 4, 0] rfl)
    · have h := ite_t h c2
      refine lv_iload_n hx hb dX7_leastPart_78 rfl (lv_at hl 4 rfl) ?_
      exact r_iret X I (congrArg (fun z => (z, σ)) (Option.some.inj h).symm) dX7_leastPart_79
set_option maxHeartbeats 4000000 in
set_option maxRecDepth 100000 in
theorem w_X7_leastPart_2 {p : Program} {l : Launch} {e : Env} {s : State} {m : MethodId} {args : Array Value} {below : List Frame} {meth : Method} {c : Code} {A : Nat → Prop} {E : CE} {q : Int32} (X : CX p s m meth c args cX7_leastPart 6 RX7 (some .int)) {x1 : Int32} {x2 : Int32} : ∀ (n : Nat), ∀ (σ : Mem) (x3 : Int32) , f_X7_leastPart_2 x1 x2 n σ x3 = some q → ∀ (H : Heap) (locs : List Loc) (ls : Array Slot), WI (vC E) A s H locs σ → lv_has ls 6 [(0, .ref (ca E 38)), (1, .int x1), (2, .int x2), (3, .int x3)] → W p l e rm_X7_leastPart s m args below meth c H locs 0 0 (MQ below (QI (vC E) A (q, σ)) args s 0 0 A) (F0 m 2 ls []) := by
  have hx := X.1
  have hb := X.2.1
  intro n
  induction n with
  | zero =>
    intro σ x3 h
    cases h
  | succ n ih =>
    intro σ x3 h H locs ls I hl
    rw [f_X7_leastPart_2] at h
    refine lv_iload_n hx hb dX7_leastPart_2 rfl (lv_at hl 3 rfl) ?_
    refine lv_aload_n hx hb dX7_leastPart_3 rfl (lv_at hl 0 rfl) ?_
    refine gfC_X7_25 X I (kC_38 E) dX7_leastPart_4 ?_
    refine lv_icmp_ge (tgt := 86) hx hb dX7_leastPart_7 (by decide) (fun c1 => ?_) (fun c1 => ?_)
    · have h := ite_t h c1
      refine lv_iconst (v := 0) hx hb dX7_leastPart_86 (by decide) ?_
      exact r_iret X I (congrArg (fun z => (z, σ)) (Option.some.inj h).symm) dX7_leastPart_87
    · have h := ite_f h c1
      refine lv_aload_n hx hb dX7_leastPart_10 rfl (lv_at hl 0 rfl) ?_
      refine lv_iload_n hx hb dX7_leastPart_11 rfl (lv_at hl 1 rfl) ?_
      refine lv_iload_n hx hb dX7_leastPart_12 rfl (lv_at hl 3 rfl) ?_
      obtain ⟨q2, hq2, h⟩ := bd h
      refine r_callVI (V := (vC E)) (k := 38) (As := [.int x1, .int x3]) (rest := []) X I hl (c_X7_worthOf  hq2) yv_X7_worthOf tw_166 ⟨rfl, rfl, Nat.le_of_ble_eq_true rfl, Nat.le_of_ble_eq_true rfl⟩ (kC_38 E).1 ((kC_38 E).2 (σ 38)) rfl rfl rfl (Nat.le_of_ble_eq_true rfl) dX7_leastPart_13 (fun H locs I => ?_)
      refine lv_istore (lv' := [(4, .int q2), (0, .ref (ca E 38)), (1, .int x1), (2, .int x2), (3, .int x3)]) hx hb dX7_leastPart_16 hl (by decide) rfl (fun ls hl => ?_)
      refine lv_iload_n hx hb dX7_leastPart_18 rfl (lv_at hl 4 rfl) ?_
      refine lv_iload_n hx hb dX7_leastPart_19 rfl (lv_at hl 3 rfl) ?_
      refine lv_iconst (v := -1) hx hb dX7_leastPart_20 (by decide) ?_
      refine lv_ixor hx hb dX7_leastPart_21 ?_
      refine lv_iand hx hb dX7_leastPart_22 ?_
      refine lv_if_ne (tgt := 36) hx hb dX7_leastPart_23 (by decide) (fun c3 => ?_) (fun c3 => ?_)
      · have h := ite_f h c3
        refine lv_iconst (v := 0) hx hb dX7_leastPart_36 (by decide) ?_
        exact w_X7_leastPart_37 X  (fun σ a3 h H locs ls I hl => ih σ a3 h H locs ls I hl) σ x3 q2 (0 : Int32) h H locs ls I (lv_sub hl [1, 2, 3, 4, 0] rfl)
      · have h := ite_t h c3
        refine lv_iload hx hb dX7_leastPart_26 (lv_at hl 0 rfl) ?_
        refine lv_iconst (v := -1) hx hb dX7_leastPart_28 (by decide) ?_
        refine lv_icmp_eq (tgt := 36) hx hb dX7_leastPart_29 (by decide) (fun c4 => ?_) (fun c4 => ?_)
        · have h := ite_t h c4
          refine lv_iconst (v := 0) hx hb dX7_leastPart_36 (by decide) ?_
          exact w_X7_leastPart_37 X  (fun σ a3 h H locs ls I hl => ih σ a3 h H locs ls I hl) σ x3 q2 (0 : Int32) h H locs ls I (lv_sub hl [1, 2, 3, 4, 0] rfl)
        · have h := ite_f h c4
          refine lv_iconst (v := 1) hx hb dX7_leastPart_32 (by decide) ?_
          refine lv_goto (tgt := 37) hx hb dX7_leastPart_33 (by decide) ?_
          exact w_X7_leastPart_37 X  (fun σ a3 h H locs ls I hl => ih σ a3 h H locs ls I hl) σ x3 q2 (1 : Int32) h H locs ls I (lv_sub hl [1, 2, 3, 4, 0] rfl)
set_option maxHeartbeats 4000000 in
set_option maxRecDepth 100000 in
theorem w_X7_leastPart_0 {p : Program} {l : Launch} {e : Env} {s : State} {m : MethodId} {args : Array Value} {below : List Frame} {meth : Method} {c : Code} {A : Nat → Prop} {E : CE} {q : Int32} (X : CX p s m meth c args cX7_leastPart 6 RX7 (some .int)) : ∀ (σ : Mem) (x1 : Int32) (x2 : Int32) , m_X7_leastPart σ x1 x2 = some q → ∀ (H : Heap) (locs : List Loc) (ls : Array Slot), WI (vC E) A s H locs σ → lv_has ls 6 [(0, .ref (ca E 38)), (1, .int x1), (2, .int x2)] → W p l e rm_X7_leastPart s m args below meth c H locs 0 0 (MQ below (QI (vC E) A (q, σ)) args s 0 0 A) (F0 m 0 ls []) := by
  have hx := X.1
  have hb := X.2.1
  intro σ x1 x2 h H locs ls I hl
  unfold m_X7_leastPart at h
  refine lv_iconst (v := 0) hx hb dX7_leastPart_0 (by decide) ?_
  refine lv_istore_n (lv' := [(3, .int (0 : Int32)), (0, .ref (ca E 38)), (1, .int x1), (2, .int x2)]) hx hb dX7_leastPart_1 rfl hl (by decide) rfl (fun ls hl => ?_)
  exact w_X7_leastPart_2 X   KF σ (0 : Int32) h H locs ls I (lv_sub hl [1, 2, 3, 0] rfl)
theorem c_X7_leastPart {l : Launch} {E : CE} {σ : Mem} {x1 : Int32} {x2 : Int32} {q : Int32} (h : m_X7_leastPart σ x1 x2 = some q) : CI l (vC E) yX7_leastPart (.code yX7_leastPart cX7_leastPart 6 (some .int) :: GG) rm_X7_leastPart [.ref (ca E 38), .int x1, .int x2] σ (q, σ) :=
  mk_CI (by decide +kernel) (Nat.le_of_ble_eq_true rfl) (fun p e s m args below meth c A ls X I hl => w_X7_leastPart_0 X  σ x1 x2 h s.heap [] ls I (lv_sub hl [0, 1, 2] rfl))

def rm_X7_whoHas : Room := { frames := 4, cells := 0, slots := 0, locals := 134 }
def f_X7_whoHas_9 (x1 : Int32) : Nat → Mem → Int32 → Int32 → Option (Int32)
  | 0, _, _, _ => none
  | n + 1, σ, x2, x3 => (if (σ 38 3) ≤ x3 then (some (-1 : Int32)) else ((m_X7_leastPart σ x3 x2).bind fun q2 => (if ((q2 >>> (x1 &&& 31)) &&& (1 : Int32)) = (1 : Int32) then (some x3) else (lt (x2 &&& (q2 ^^^ (-1 : Int32))) fun y4 => f_X7_whoHas_9 x1 n σ y4 (x3 + 1)))))
def m_X7_whoHas (σ : Mem) (x1 : Int32) : Option (Int32) := (lt ((σ 38 4) - (1 : Int32)) fun y1 => (f_X7_whoHas_9 x1 KF σ y1 (0 : Int32)))
set_option maxHeartbeats 4000000 in
set_option maxRecDepth 100000 in
theorem w_X7_whoHas_9 {p : Program} {l : Launch} {e : Env} {s : State} {m : MethodId} {args : Array Value} {below : List Frame} {meth : Method} {c : Code} {A : Nat → Prop} {E : CE} {q : Int32} (X : CX p s m meth c args cX7_whoHas 5 RX7 (some .int)) {x1 : Int32} : ∀ (n : Nat), ∀ (σ : Mem) (x2 : Int32) (x3 : Int32) , f_X7_whoHas_9 x1 n σ x2 x3 = some q → ∀ (H : Heap) (locs : List Loc) (ls : Array Slot), WI (vC E) A s H locs σ → lv_has ls 5 [(0, .ref (ca E 38)), (1, .int x1), (2, .int x2), (3, .int x3)] → W p l e rm_X7_whoHas s m args below meth c H locs 0 0 (MQ below (QI (vC E) A (q, σ)) args s 0 0 A) (F0 m 9 ls []) := by
  have hx := X.1
  have hb := X.2.1
  intro n
  induction n with
  | zero =>
    intro σ x2 x3 h
    cases h
  | succ n ih =>
    intro σ x2 x3 h H locs ls I hl
    rw [f_X7_whoHas_9] at h
    refine lv_iload_n hx hb dX7_whoHas_9 rfl (lv_at hl 3 rfl) ?_
    refine lv_aload_n hx hb dX7_whoHas_10 rfl (lv_at hl 0 rfl) ?_
    refine gfC_X7_21 X I (kC_38 E) dX7_whoHas_11 ?_
    refine lv_icmp_ge (tgt := 50) hx hb dX7_whoHas_14 (by decide) (fun c1 => ?_) (fun c1 => ?_)
    · have h := ite_t h c1
      refine lv_iconst (v := -1) hx hb dX7_whoHas_50 (by decide) ?_
      exact r_iret X I (congrArg (fun z => (z, σ)) (Option.some.inj h).symm) dX7_whoHas_51
    · have h := ite_f h c1
      refine lv_aload_n hx hb dX7_whoHas_17 rfl (lv_at hl 0 rfl) ?_
      refine lv_iload_n hx hb dX7_whoHas_18 rfl (lv_at hl 3 rfl) ?_
      refine lv_iload_n hx hb dX7_whoHas_19 rfl (lv_at hl 2 rfl) ?_
      obtain ⟨q2, hq2, h⟩ := bd h
      refine r_callVI (V := (vC E)) (k := 38) (As := [.int x3, .int x2]) (rest := []) X I hl (c_X7_leastPart  hq2) yv_X7_leastPart tw_176 ⟨rfl, rfl, Nat.le_of_ble_eq_true rfl, Nat.le_of_ble_eq_true rfl⟩ (kC_38 E).1 ((kC_38 E).2 (σ 38)) rfl rfl rfl (Nat.le_of_ble_eq_true rfl) dX7_whoHas_20 (fun H locs I => ?_)
      refine lv_istore (lv' := [(4, .int q2), (0, .ref (ca E 38)), (1, .int x1), (2, .int x2), (3, .int x3)]) hx hb dX7_whoHas_23 hl (by decide) rfl (fun ls hl => ?_)
      refine lv_iload hx hb dX7_whoHas_25 (lv_at hl 0 rfl) ?_
      refine lv_iload_n hx hb dX7_whoHas_27 rfl (lv_at hl 2 rfl) ?_
      refine lv_ishr hx hb dX7_whoHas_28 ?_
      refine lv_iconst (v := 1) hx hb dX7_whoHas_29 (by decide) ?_
      refine lv_iand hx hb dX7_whoHas_30 ?_
      refine lv_iconst (v := 1) hx hb dX7_whoHas_31 (by decide) ?_
      refine lv_icmp_ne (tgt := 37) hx hb dX7_whoHas_32 (by decide) (fun c3 => ?_) (fun c3 => ?_)
      · have h := ite_f h c3
        refine lv_iload_n hx hb dX7_whoHas_37 rfl (lv_at hl 3 rfl) ?_
        refine lv_iload hx hb dX7_whoHas_38 (lv_at hl 0 rfl) ?_
        refine lv_iconst (v := -1) hx hb dX7_whoHas_40 (by decide) ?_
        refine lv_ixor hx hb dX7_whoHas_41 ?_
        refine lv_iand hx hb dX7_whoHas_42 ?_
        obtain ⟨y4, ey4, h⟩ := lt_e h
        refine nm_i ey4 ?_
        refine lv_istore_n (lv' := [(2, .int y4), (4, .int q2), (0, .ref (ca E 38)), (1, .int x1), (3, .int x3)]) hx hb dX7_whoHas_43 rfl hl (by decide) rfl (fun ls hl => ?_)
        refine lv_iinc (v := (x3 + 1)) (lv' := [(3, .int (x3 + 1)), (2, .int y4), (4, .int q2), (0, .ref (ca E 38)), (1, .int x1)]) hx hb dX7_whoHas_44 hl (k := 4) rfl rfl (by decide) rfl (fun ls hl => ?_)
        refine lv_goto (tgt := 9) hx hb dX7_whoHas_47 (by decide) ?_
        exact ih σ y4 (x3 + 1) h H locs ls I (lv_sub hl [3, 4, 1, 0] rfl)
      · have h := ite_t h c3
        refine lv_iload_n hx hb dX7_whoHas_35 rfl (lv_at hl 4 rfl) ?_
        exact r_iret X I (congrArg (fun z => (z, σ)) (Option.some.inj h).symm) dX7_whoHas_36
set_option maxHeartbeats 4000000 in
set_option maxRecDepth 100000 in
theorem w_X7_whoHas_0 {p : Program} {l : Launch} {e : Env} {s : State} {m : MethodId} {args : Array Value} {below : List Frame} {meth : Method} {c : Code} {A : Nat → Prop} {E : CE} {q : Int32} (X : CX p s m meth c args cX7_whoHas 5 RX7 (some .int)) : ∀ (σ : Mem) (x1 : Int32) , m_X7_whoHas σ x1 = some q → ∀ (H : Heap) (locs : List Loc) (ls : Array Slot), WI (vC E) A s H locs σ → lv_has ls 5 [(0, .ref (ca E 38)), (1, .int x1)] → W p l e rm_X7_whoHas s m args below meth c H locs 0 0 (MQ below (QI (vC E) A (q, σ)) args s 0 0 A) (F0 m 0 ls []) := by
  have hx := X.1
  have hb := X.2.1
  intro σ x1 h H locs ls I hl
  unfold m_X7_whoHas at h
  refine lv_aload_n hx hb dX7_whoHas_0 rfl (lv_at hl 0 rfl) ?_
  refine gfC_X7_25 X I (kC_38 E) dX7_whoHas_1 ?_
  refine lv_iconst (v := 1) hx hb dX7_whoHas_4 (by decide) ?_
  refine lv_isub hx hb dX7_whoHas_5 ?_
  obtain ⟨y1, ey1, h⟩ := lt_e h
  refine nm_i ey1 ?_
  refine lv_istore_n (lv' := [(2, .int y1), (0, .ref (ca E 38)), (1, .int x1)]) hx hb dX7_whoHas_6 rfl hl (by decide) rfl (fun ls hl => ?_)
  refine lv_iconst (v := 0) hx hb dX7_whoHas_7 (by decide) ?_
  refine lv_istore_n (lv' := [(3, .int (0 : Int32)), (2, .int y1), (0, .ref (ca E 38)), (1, .int x1)]) hx hb dX7_whoHas_8 rfl hl (by decide) rfl (fun ls hl => ?_)
  exact w_X7_whoHas_9 X   KF σ y1 (0 : Int32) h H locs ls I (lv_sub hl [2, 3, 1, 0] rfl)
theorem c_X7_whoHas {l : Launch} {E : CE} {σ : Mem} {x1 : Int32} {q : Int32} (h : m_X7_whoHas σ x1 = some q) : CI l (vC E) yX7_whoHas (.code yX7_whoHas cX7_whoHas 5 (some .int) :: GG) rm_X7_whoHas [.ref (ca E 38), .int x1] σ (q, σ) :=
  mk_CI (by decide +kernel) (Nat.le_of_ble_eq_true rfl) (fun p e s m args below meth c A ls X I hl => w_X7_whoHas_0 X  σ x1 h s.heap [] ls I (lv_sub hl [0, 1] rfl))

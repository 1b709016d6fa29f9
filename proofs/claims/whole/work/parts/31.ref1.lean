def rm_X11_thrown : Room := { frames := 1, cells := 0, slots := 0, locals := 64 }
def m_X11_thrown (σ : Mem) : Option (Int32) := (some (σ 0 5))
set_option maxHeartbeats 4000000 in
set_option maxRecDepth 100000 in
theorem w_X11_thrown_0 {p : Program} {l : Launch} {e : Env} {s : State} {m : MethodId} {args : Array Value} {below : List Frame} {meth : Method} {c : Code} {A : Nat → Prop} {E : RE} {q : Int32} (X : CX p s m meth c args cX11_thrown 1 RX11 (some .int)) : ∀ (σ : Mem)  , m_X11_thrown σ = some q → ∀ (H : Heap) (locs : List Loc) (ls : Array Slot), WI (vR E) A s H locs σ → lv_has ls 1 [(0, .ref (ra E 0))] → W p l e rm_X11_thrown s m args below meth c H locs 0 0 (MQ below (QI (vR E) A (q, σ)) args s 0 0 A) (F0 m 0 ls []) := by
  have hx := X.1
  have hb := X.2.1
  intro σ  h H locs ls I hl
  unfold m_X11_thrown at h
  refine lv_aload_n hx hb dX11_thrown_0 rfl (lv_at hl 0 rfl) ?_
  refine gfR_X11_195 X I dX11_thrown_1 ?_
  exact r_iret X I (congrArg (fun z => (z, σ)) (Option.some.inj h).symm) dX11_thrown_4
theorem c_X11_thrown {l : Launch} {E : RE} {σ : Mem} {q : Int32} (h : m_X11_thrown σ = some q) : CI l (vR E) yX11_thrown (.code yX11_thrown cX11_thrown 1 (some .int) :: GG) rm_X11_thrown [.ref (ra E 0)] σ (q, σ) :=
  mk_CI (by decide +kernel) (Nat.le_of_ble_eq_true rfl) (fun p e s m args below meth c A ls X I hl => w_X11_thrown_0 X  σ  h s.heap [] ls I (lv_sub hl [0] rfl))

def rm_X11_fail : Room := { frames := 1, cells := 0, slots := 0, locals := 64 }
def m_X11_fail (σ : Mem) (x1 : Int32) : Option (Int32 × Mem) := (lt (ms σ 0 5 x1) fun σ1 => (some ((0 : Int32), σ1)))
set_option maxHeartbeats 4000000 in
set_option maxRecDepth 100000 in
theorem w_X11_fail_0 {p : Program} {l : Launch} {e : Env} {s : State} {m : MethodId} {args : Array Value} {below : List Frame} {meth : Method} {c : Code} {A : Nat → Prop} {E : RE} {q : Int32 × Mem} (X : CX p s m meth c args cX11_fail 2 RX11 (some .int)) : ∀ (σ : Mem) (x1 : Int32) , m_X11_fail σ x1 = some q → ∀ (H : Heap) (locs : List Loc) (ls : Array Slot), WI (vR E) A s H locs σ → lv_has ls 2 [(0, .ref (ra E 0)), (1, .int x1)] → W p l e rm_X11_fail s m args below meth c H locs 0 0 (MQ below (QI (vR E) A q) args s 0 0 A) (F0 m 0 ls []) := by
  have hx := X.1
  have hb := X.2.1
  intro σ x1 h H locs ls I hl
  unfold m_X11_fail at h
  refine lv_aload_n hx hb dX11_fail_0 rfl (lv_at hl 0 rfl) ?_
  refine lv_iload_n hx hb dX11_fail_1 rfl (lv_at hl 1 rfl) ?_
  refine pfR_X11_195 X I  dX11_fail_2 (fun H locs I => ?_)
  obtain ⟨σ1, eσ1, h⟩ := lt_e h
  replace I := wi_nm eσ1 I
  refine lv_iconst (v := 0) hx hb dX11_fail_5 (by decide) ?_
  exact r_iret X I (Option.some.inj h).symm dX11_fail_6
theorem c_X11_fail {l : Launch} {E : RE} {σ : Mem} {x1 : Int32} {q : Int32 × Mem} (h : m_X11_fail σ x1 = some q) : CI l (vR E) yX11_fail (.code yX11_fail cX11_fail 2 (some .int) :: GG) rm_X11_fail [.ref (ra E 0), .int x1] σ q :=
  mk_CI (by decide +kernel) (Nat.le_of_ble_eq_true rfl) (fun p e s m args below meth c A ls X I hl => w_X11_fail_0 X  σ x1 h s.heap [] ls I (lv_sub hl [0, 1] rfl))

def rm_X11_failing : Room := { frames := 1, cells := 0, slots := 0, locals := 64 }
def m_X11_failing (σ : Mem) (x1 : Int32) : Option (Int32 × Mem) := (lt (ms σ 0 5 x1) fun σ1 => (some ((0 : Int32), σ1)))
set_option maxHeartbeats 4000000 in
set_option maxRecDepth 100000 in
theorem w_X11_failing_0 {p : Program} {l : Launch} {e : Env} {s : State} {m : MethodId} {args : Array Value} {below : List Frame} {meth : Method} {c : Code} {A : Nat → Prop} {E : RE} {q : Int32 × Mem} (X : CX p s m meth c args cX11_failing 2 RX11 (some .boolean)) : ∀ (σ : Mem) (x1 : Int32) , m_X11_failing σ x1 = some q → ∀ (H : Heap) (locs : List Loc) (ls : Array Slot), WI (vR E) A s H locs σ → lv_has ls 2 [(0, .ref (ra E 0)), (1, .int x1)] → W p l e rm_X11_failing s m args below meth c H locs 0 0 (MQ below (QI (vR E) A q) args s 0 0 A) (F0 m 0 ls []) := by
  have hx := X.1
  have hb := X.2.1
  intro σ x1 h H locs ls I hl
  unfold m_X11_failing at h
  refine lv_aload_n hx hb dX11_failing_0 rfl (lv_at hl 0 rfl) ?_
  refine lv_iload_n hx hb dX11_failing_1 rfl (lv_at hl 1 rfl) ?_
  refine pfR_X11_195 X I  dX11_failing_2 (fun H locs I => ?_)
  obtain ⟨σ1, eσ1, h⟩ := lt_e h
  replace I := wi_nm eσ1 I
  refine lv_iconst (v := 0) hx hb dX11_failing_5 (by decide) ?_
  exact r_zret X I (Option.some.inj h).symm rfl dX11_failing_6
theorem c_X11_failing {l : Launch} {E : RE} {σ : Mem} {x1 : Int32} {q : Int32 × Mem} (h : m_X11_failing σ x1 = some q) : CI l (vR E) yX11_failing (.code yX11_failing cX11_failing 2 (some .boolean) :: GG) rm_X11_failing [.ref (ra E 0), .int x1] σ q :=
  mk_CI (by decide +kernel) (Nat.le_of_ble_eq_true rfl) (fun p e s m args below meth c A ls X I hl => w_X11_failing_0 X  σ x1 h s.heap [] ls I (lv_sub hl [0, 1] rfl))

def rm_X11_isIn : Room := { frames := 1, cells := 0, slots := 0, locals := 64 }
def m_X11_isIn (σ : Mem) (x0 : Int64) (x2 : Int64) (x4 : Int64) : Option (Int32) := (if (lg_cmp x0 x2) < (0 : Int32) then (some (0 : Int32)) else (if (0 : Int32) < (lg_cmp x0 x4) then (some (0 : Int32)) else (some (1 : Int32))))
set_option maxHeartbeats 4000000 in
set_option maxRecDepth 100000 in
theorem w_X11_isIn_0 {p : Program} {l : Launch} {e : Env} {s : State} {m : MethodId} {args : Array Value} {below : List Frame} {meth : Method} {c : Code} {A : Nat → Prop} {E : RE} {q : Int32} (X : CX p s m meth c args cX11_isIn 6 RX11 (some .boolean)) : ∀ (σ : Mem) (x0 : Int64) (x2 : Int64) (x4 : Int64) , m_X11_isIn σ x0 x2 x4 = some q → ∀ (H : Heap) (locs : List Loc) (ls : Array Slot), WI (vR E) A s H locs σ → lv_has ls 6 [(0, .long x0), (2, .long x2), (4, .long x4)] → W p l e rm_X11_isIn s m args below meth c H locs 0 0 (MQ below (QI (vR E) A (q, σ)) args s 0 0 A) (F0 m 0 ls []) := by
  have hx := X.1
  have hb := X.2.1
  intro σ x0 x2 x4 h H locs ls I hl
  unfold m_X11_isIn at h
  refine lv_lload_n hx hb dX11_isIn_0 rfl (lv_at hl 0 rfl) ?_
  refine lv_lload_n hx hb dX11_isIn_1 rfl (lv_at hl 1 rfl) ?_
  refine W.lcmp hx hb dX11_isIn_2 ?_
  refine lv_if_lt (tgt := 17) hx hb dX11_isIn_3 (by decide) (fun c1 => ?_) (fun c1 => ?_)
  · have h := ite_t h c1
    refine lv_iconst (v := 0) hx hb dX11_isIn_17 (by decide) ?_
    exact r_zret X I (congrArg (fun z => (z, σ)) (Option.some.inj h).symm) rfl dX11_isIn_18
  · have h := ite_f h c1
    refine lv_lload_n hx hb dX11_isIn_6 rfl (lv_at hl 0 rfl) ?_
    refine lv_lload hx hb dX11_isIn_7 (lv_at hl 2 rfl) ?_
    refine W.lcmp hx hb dX11_isIn_9 ?_
    refine lv_if_gt (tgt := 17) hx hb dX11_isIn_10 (by decide) (fun c2 => ?_) (fun c2 => ?_)
    · have h := ite_t h c2
      refine lv_iconst (v := 0) hx hb dX11_isIn_17 (by decide) ?_
      exact r_zret X I (congrArg (fun z => (z, σ)) (Option.some.inj h).symm) rfl dX11_isIn_18
    · have h := ite_f h c2
      refine lv_iconst (v := 1) hx hb dX11_isIn_13 (by decide) ?_
      refine lv_goto (tgt := 18) hx hb dX11_isIn_14 (by decide) ?_
      exact r_zret X I (congrArg (fun z => (z, σ)) (Option.some.inj h).symm) rfl dX11_isIn_18
theorem c_X11_isIn {l : Launch} {E : RE} {σ : Mem} {x0 : Int64} {x2 : Int64} {x4 : Int64} {q : Int32} (h : m_X11_isIn σ x0 x2 x4 = some q) : CI l (vR E) yX11_isIn (.code yX11_isIn cX11_isIn 6 (some .boolean) :: GG) rm_X11_isIn [.long x0, .long x2, .long x4] σ (q, σ) :=
  mk_CI (by decide +kernel) (Nat.le_of_ble_eq_true rfl) (fun p e s m args below meth c A ls X I hl => w_X11_isIn_0 X  σ x0 x2 x4 h s.heap [] ls I (lv_sub hl [0, 1, 2] rfl))

def rm_X11_isOf : Room := { frames := 1, cells := 0, slots := 0, locals := 64 }
def m_X11_isOf (σ : Mem) (x0 : Int32) (x1 : Int32) : Option (Int32) := (if ((x0 >>> (x1 &&& 31)) &&& (1 : Int32)) = (1 : Int32) then (some (1 : Int32)) else (some (0 : Int32)))
set_option maxHeartbeats 4000000 in
set_option maxRecDepth 100000 in
theorem w_X11_isOf_0 {p : Program} {l : Launch} {e : Env} {s : State} {m : MethodId} {args : Array Value} {below : List Frame} {meth : Method} {c : Code} {A : Nat → Prop} {E : RE} {q : Int32} (X : CX p s m meth c args cX11_isOf 2 RX11 (some .boolean)) : ∀ (σ : Mem) (x0 : Int32) (x1 : Int32) , m_X11_isOf σ x0 x1 = some q → ∀ (H : Heap) (locs : List Loc) (ls : Array Slot), WI (vR E) A s H locs σ → lv_has ls 2 [(0, .int x0), (1, .int x1)] → W p l e rm_X11_isOf s m args below meth c H locs 0 0 (MQ below (QI (vR E) A (q, σ)) args s 0 0 A) (F0 m 0 ls []) := by
  have hx := X.1
  have hb := X.2.1
  intro σ x0 x1 h H locs ls I hl
  unfold m_X11_isOf at h
  refine lv_iload_n hx hb dX11_isOf_0 rfl (lv_at hl 0 rfl) ?_
  refine lv_iload_n hx hb dX11_isOf_1 rfl (lv_at hl 1 rfl) ?_
  refine lv_ishr hx hb dX11_isOf_2 ?_
  refine lv_iconst (v := 1) hx hb dX11_isOf_3 (by decide) ?_
  refine lv_iand hx hb dX11_isOf_4 ?_
  refine lv_iconst (v := 1) hx hb dX11_isOf_5 (by decide) ?_
  refine lv_icmp_ne (tgt := 13) hx hb dX11_isOf_6 (by decide) (fun c1 => ?_) (fun c1 => ?_)
  · have h := ite_f h c1
    refine lv_iconst (v := 0) hx hb dX11_isOf_13 (by decide) ?_
    exact r_zret X I (congrArg (fun z => (z, σ)) (Option.some.inj h).symm) rfl dX11_isOf_14
  · have h := ite_t h c1
    refine lv_iconst (v := 1) hx hb dX11_isOf_9 (by decide) ?_
    refine lv_goto (tgt := 14) hx hb dX11_isOf_10 (by decide) ?_
    exact r_zret X I (congrArg (fun z => (z, σ)) (Option.some.inj h).symm) rfl dX11_isOf_14
theorem c_X11_isOf {l : Launch} {E : RE} {σ : Mem} {x0 : Int32} {x1 : Int32} {q : Int32} (h : m_X11_isOf σ x0 x1 = some q) : CI l (vR E) yX11_isOf (.code yX11_isOf cX11_isOf 2 (some .boolean) :: GG) rm_X11_isOf [.int x0, .int x1] σ (q, σ) :=
  mk_CI (by decide +kernel) (Nat.le_of_ble_eq_true rfl) (fun p e s m args below meth c A ls X I hl => w_X11_isOf_0 X  σ x0 x1 h s.heap [] ls I (lv_sub hl [0, 1] rfl))

def rm_X11_bitsOf : Room := { frames := 1, cells := 0, slots := 0, locals := 64 }
def f_X11_bitsOf_4 : Nat → Mem → Int32 → Int32 → Option (Int32)
  | 0, _, _, _ => none
  | n + 1, σ, x1, x2 => (if x2 = (0 : Int32) then (some x1) else (lt (x2 &&& (x2 - (1 : Int32))) fun y2 => f_X11_bitsOf_4 n σ (x1 + 1) y2))
def m_X11_bitsOf (σ : Mem) (x0 : Int32) : Option (Int32) := (f_X11_bitsOf_4 KF σ (0 : Int32) x0)
set_option maxHeartbeats 4000000 in
set_option maxRecDepth 100000 in
theorem w_X11_bitsOf_4 {p : Program} {l : Launch} {e : Env} {s : State} {m : MethodId} {args : Array Value} {below : List Frame} {meth : Method} {c : Code} {A : Nat → Prop} {E : RE} {q : Int32} (X : CX p s m meth c args cX11_bitsOf 3 RX11 (some .int)) : ∀ (n : Nat), ∀ (σ : Mem) (x1 : Int32) (x2 : Int32) , f_X11_bitsOf_4 n σ x1 x2 = some q → ∀ (H : Heap) (locs : List Loc) (ls : Array Slot), WI (vR E) A s H locs σ → lv_has ls 3 [(1, .int x1), (2, .int x2)] → W p l e rm_X11_bitsOf s m args below meth c H locs 0 0 (MQ below (QI (vR E) A (q, σ)) args s 0 0 A) (F0 m 4 ls []) := by
  have hx := X.1
  have hb := X.2.1
  intro n
  induction n with
  | zero =>
    intro σ x1 x2 h
    cases h
  | succ n ih =>
    intro σ x1 x2 h H locs ls I hl
    rw [f_X11_bitsOf_4] at h
    refine lv_iload_n hx hb dX11_bitsOf_4 rfl (lv_at hl 1 rfl) ?_
    refine lv_if_eq (tgt := 20) hx hb dX11_bitsOf_5 (by decide) (fun c1 => ?_) (fun c1 => ?_)
    · have h := ite_t h c1
      refine lv_iload_n hx hb dX11_bitsOf_20 rfl (lv_at hl 0 rfl) ?_
      exact r_iret X I (congrArg (fun z => (z, σ)) (Option.some.inj h).symm) dX11_bitsOf_21
    · have h := ite_f h c1
      refine lv_iinc (v := (x1 + 1)) (lv' := [(1, .int (x1 + 1)), (2, .int x2)]) hx hb dX11_bitsOf_8 hl (k := 0) rfl rfl (by decide) rfl (fun ls hl => ?_)
      refine lv_iload_n hx hb dX11_bitsOf_11 rfl (lv_at hl 1 rfl) ?_
      refine lv_iload_n hx hb dX11_bitsOf_12 rfl (lv_at hl 1 rfl) ?_
      refine lv_iconst (v := 1) hx hb dX11_bitsOf_13 (by decide) ?_
      refine lv_isub hx hb dX11_bitsOf_14 ?_
      refine lv_iand hx hb dX11_bitsOf_15 ?_
      obtain ⟨y2, ey2, h⟩ := lt_e h
      refine nm_i ey2 ?_
      refine lv_istore_n (lv' := [(2, .int y2), (1, .int (x1 + 1))]) hx hb dX11_bitsOf_16 rfl hl (by decide) rfl (fun ls hl => ?_)
      refine lv_goto (tgt := 4) hx hb dX11_bitsOf_17 (by decide) ?_
      exact ih σ (x1 + 1) y2 h H locs ls I (lv_sub hl [1, 0] rfl)
set_option maxHeartbeats 4000000 in
set_option maxRecDepth 100000 in
theorem w_X11_bitsOf_0 {p : Program} {l : Launch} {e : Env} {s : State} {m : MethodId} {args : Array Value} {below : List Frame} {meth : Method} {c : Code} {A : Nat → Prop} {E : RE} {q : Int32} (X : CX p s m meth c args cX11_bitsOf 3 RX11 (some .int)) : ∀ (σ : Mem) (x0 : Int32) , m_X11_bitsOf σ x0 = some q → ∀ (H : Heap) (locs : List Loc) (ls : Array Slot), WI (vR E) A s H locs σ → lv_has ls 3 [(0, .int x0)] → W p l e rm_X11_bitsOf s m args below meth c H locs 0 0 (MQ below (QI (vR E) A (q, σ)) args s 0 0 A) (F0 m 0 ls []) := by
  have hx := X.1
  have hb := X.2.1
  intro σ x0 h H locs ls I hl
  unfold m_X11_bitsOf at h
  refine lv_iconst (v := 0) hx hb dX11_bitsOf_0 (by decide) ?_
  refine lv_istore_n (lv' := [(1, .int (0 : Int32)), (0, .int x0)]) hx hb dX11_bitsOf_1 rfl hl (by decide) rfl (fun ls hl => ?_)
  refine lv_iload_n hx hb dX11_bitsOf_2 rfl (lv_at hl 1 rfl) ?_
  refine lv_istore_n (lv' := [(2, .int x0), (1, .int (0 : Int32)), (0, .int x0)]) hx hb dX11_bitsOf_3 rfl hl (by decide) rfl (fun ls hl => ?_)
  exact w_X11_bitsOf_4 X   KF σ (0 : Int32) x0 h H locs ls I (lv_sub hl [1, 0] rfl)
theorem c_X11_bitsOf {l : Launch} {E : RE} {σ : Mem} {x0 : Int32} {q : Int32} (h : m_X11_bitsOf σ x0 = some q) : CI l (vR E) yX11_bitsOf (.code yX11_bitsOf cX11_bitsOf 3 (some .int) :: GG) rm_X11_bitsOf [.int x0] σ (q, σ) :=
  mk_CI (by decide +kernel) (Nat.le_of_ble_eq_true rfl) (fun p e s m args below meth c A ls X I hl => w_X11_bitsOf_0 X  σ x0 h s.heap [] ls I (lv_sub hl [0] rfl))

def rm_X11_isHouse : Room := { frames := 2, cells := 0, slots := 0, locals := 89 }
def m_X11_isHouse (σ : Mem) (x1 : Int32) : Option (Int32) := (gd (0 : Int32) 10 ((m_X11_isIn σ (Int32.toInt64 x1) (0 : Int64) (Int32.toInt64 ((σ 5 (Int32.toNatClampNeg (0 : Int32))) - (1 : Int32)))).bind fun q1 => (gz q1 (some q1))))
set_option maxHeartbeats 4000000 in
set_option maxRecDepth 100000 in
theorem w_X11_isHouse_0 {p : Program} {l : Launch} {e : Env} {s : State} {m : MethodId} {args : Array Value} {below : List Frame} {meth : Method} {c : Code} {A : Nat → Prop} {E : RE} {q : Int32} (X : CX p s m meth c args cX11_isHouse 2 RX11 (some .boolean)) : ∀ (σ : Mem) (x1 : Int32) , m_X11_isHouse σ x1 = some q → ∀ (H : Heap) (locs : List Loc) (ls : Array Slot), WI (vR E) A s H locs σ → lv_has ls 2 [(0, .ref (ra E 0)), (1, .int x1)] → W p l e rm_X11_isHouse s m args below meth c H locs 0 0 (MQ below (QI (vR E) A (q, σ)) args s 0 0 A) (F0 m 0 ls []) := by
  have hx := X.1
  have hb := X.2.1
  intro σ x1 h H locs ls I hl
  unfold m_X11_isHouse at h
  refine lv_iload_n hx hb dX11_isHouse_0 rfl (lv_at hl 1 rfl) ?_
  refine lv_i2l hx hb dX11_isHouse_1 rfl ?_
  refine lv_lconst (v := 0) hx hb dX11_isHouse_2 (by decide) ?_
  refine lv_aload_n hx hb dX11_isHouse_3 rfl (lv_at hl 0 rfl) ?_
  refine gfR_X11_55 X I dX11_isHouse_4 ?_
  refine lv_iconst (v := 0) hx hb dX11_isHouse_7 (by decide) ?_
  obtain ⟨hin, h⟩ := gd_some h
  refine ialdR X I (kR_5 E) hin dX11_isHouse_8 ?_
  refine lv_iconst (v := 1) hx hb dX11_isHouse_9 (by decide) ?_
  refine lv_isub hx hb dX11_isHouse_10 ?_
  refine lv_i2l hx hb dX11_isHouse_11 rfl ?_
  obtain ⟨q1, hq1, h⟩ := bd h
  refine r_callSI (V := (vR E)) (As := [.long (Int32.toInt64 x1), .long (0 : Int64), .long (Int32.toInt64 ((σ 5 (Int32.toNatClampNeg (0 : Int32))) - (1 : Int32)))]) (rest := []) X I hl (c_X11_isIn  hq1) ys_X11_isIn tw_801 ⟨rfl, rfl, Nat.le_of_ble_eq_true rfl, Nat.le_of_ble_eq_true rfl⟩ rfl rfl (Nat.le_of_ble_eq_true rfl) dX11_isHouse_12 (fun H locs I => ?_)
  obtain ⟨hz, h⟩ := gz_some h
  exact r_zret X I (congrArg (fun z => (z, σ)) (Option.some.inj h).symm) hz.1 dX11_isHouse_15
theorem c_X11_isHouse {l : Launch} {E : RE} {σ : Mem} {x1 : Int32} {q : Int32} (h : m_X11_isHouse σ x1 = some q) : CI l (vR E) yX11_isHouse (.code yX11_isHouse cX11_isHouse 2 (some .boolean) :: GG) rm_X11_isHouse [.ref (ra E 0), .int x1] σ (q, σ) :=
  mk_CI (by decide +kernel) (Nat.le_of_ble_eq_true rfl) (fun p e s m args below meth c A ls X I hl => w_X11_isHouse_0 X  σ x1 h s.heap [] ls I (lv_sub hl [0, 1] rfl))

def rm_X11_isTenant : Room := { frames := 2, cells := 0, slots := 0, locals := 89 }
def m_X11_isTenant (σ : Mem) (x1 : Int32) : Option (Int32) := (gd (1 : Int32) 10 ((m_X11_isIn σ (Int32.toInt64 x1) (0 : Int64) (Int32.toInt64 ((σ 5 (Int32.toNatClampNeg (1 : Int32))) - (1 : Int32)))).bind fun q1 => (gz q1 (some q1))))
set_option maxHeartbeats 4000000 in
set_option maxRecDepth 100000 in
theorem w_X11_isTenant_0 {p : Program} {l : Launch} {e : Env} {s : State} {m : MethodId} {args : Array Value} {below : List Frame} {meth : Method} {c : Code} {A : Nat → Prop} {E : RE} {q : Int32} (X : CX p s m meth c args cX11_isTenant 2 RX11 (some .boolean)) : ∀ (σ : Mem) (x1 : Int32) , m_X11_isTenant σ x1 = some q → ∀ (H : Heap) (locs : List Loc) (ls : Array Slot), WI (vR E) A s H locs σ → lv_has ls 2 [(0, .ref (ra E 0)), (1, .int x1)] → W p l e rm_X11_isTenant s m args below meth c H locs 0 0 (MQ below (QI (vR E) A (q, σ)) args s 0 0 A) (F0 m 0 ls []) := by
  have hx := X.1
  have hb := X.2.1
  intro σ x1 h H locs ls I hl
  unfold m_X11_isTenant at h
  refine lv_iload_n hx hb dX11_isTenant_0 rfl (lv_at hl 1 rfl) ?_
  refine lv_i2l hx hb dX11_isTenant_1 rfl ?_
  refine lv_lconst (v := 0) hx hb dX11_isTenant_2 (by decide) ?_
  refine lv_aload_n hx hb dX11_isTenant_3 rfl (lv_at hl 0 rfl) ?_
  refine gfR_X11_55 X I dX11_isTenant_4 ?_
  refine lv_iconst (v := 1) hx hb dX11_isTenant_7 (by decide) ?_
  obtain ⟨hin, h⟩ := gd_some h
  refine ialdR X I (kR_5 E) hin dX11_isTenant_8 ?_
  refine lv_iconst (v := 1) hx hb dX11_isTenant_9 (by decide) ?_
  refine lv_isub hx hb dX11_isTenant_10 ?_
  refine lv_i2l hx hb dX11_isTenant_11 rfl ?_
  obtain ⟨q1, hq1, h⟩ := bd h
  refine r_callSI (V := (vR E)) (As := [.long (Int32.toInt64 x1), .long (0 : Int64), .long (Int32.toInt64 ((σ 5 (Int32.toNatClampNeg (1 : Int32))) - (1 : Int32)))]) (rest := []) X I hl (c_X11_isIn  hq1) ys_X11_isIn tw_801 ⟨rfl, rfl, Nat.le_of_ble_eq_true rfl, Nat.le_of_ble_eq_true rfl⟩ rfl rfl (Nat.le_of_ble_eq_true rfl) dX11_isTenant_12 (fun H locs I => ?_)
  obtain ⟨hz, h⟩ := gz_some h
  exact r_zret X I (congrArg (fun z => (z, σ)) (Option.some.inj h).symm) hz.1 dX11_isTenant_15
theorem c_X11_isTenant {l : Launch} {E : RE} {σ : Mem} {x1 : Int32} {q : Int32} (h : m_X11_isTenant σ x1 = some q) : CI l (vR E) yX11_isTenant (.code yX11_isTenant cX11_isTenant 2 (some .boolean) :: GG) rm_X11_isTenant [.ref (ra E 0), .int x1] σ (q, σ) :=
  mk_CI (by decide +kernel) (Nat.le_of_ble_eq_true rfl) (fun p e s m args below meth c A ls X I hl => w_X11_isTenant_0 X  σ x1 h s.heap [] ls I (lv_sub hl [0, 1] rfl))

def rm_X11_feed : Room := { frames := 1, cells := 0, slots := 0, locals := 64 }
def f_X11_feed_76 (k23 : Mem → Int32 → Option (Int32 × Mem)) (x1 : Int32) (x2 : Int32) (x3 : Int32) (x4 : Int32) (x5 : Int32) (σ : Mem) (x6 : Int32) (z0 : Int32) : Option (Int32 × Mem) := (gnz (4 : Int32) (gd (σ 0 21) 700 (lt (ms σ 19 (Int32.toNatClampNeg (σ 0 21)) (((z0 >>> (((24 : Int32) - ((8 : Int32) * (x6 - x6 / (4 : Int32) * (4 : Int32)))) &&& 31)) &&& (255 : Int32)))) fun σ1 => (lt (ms σ1 0 21 ((σ1 0 21) + (1 : Int32))) fun σ2 => (k23 σ2 (x6 + 1))))))
def f_X11_feed_23 (x1 : Int32) (x2 : Int32) (x3 : Int32) (x4 : Int32) (x5 : Int32) : Nat → Mem → Int32 → Option (Int32 × Mem)
  | 0, _, _ => none
  | n + 1, σ, x6 => (if (20 : Int32) ≤ x6 then (some ((σ 0 21), σ)) else (if (4 : Int32) ≤ x6 then (if (8 : Int32) ≤ x6 then (if (12 : Int32) ≤ x6 then (if (16 : Int32) ≤ x6 then (f_X11_feed_76 (f_X11_feed_23 x1 x2 x3 x4 x5 n) x1 x2 x3 x4 x5 σ x6 x5) else (f_X11_feed_76 (f_X11_feed_23 x1 x2 x3 x4 x5 n) x1 x2 x3 x4 x5 σ x6 x4)) else (f_X11_feed_76 (f_X11_feed_23 x1 x2 x3 x4 x5 n) x1 x2 x3 x4 x5 σ x6 x3)) else (f_X11_feed_76 (f_X11_feed_23 x1 x2 x3 x4 x5 n) x1 x2 x3 x4 x5 σ x6 x2)) else (f_X11_feed_76 (f_X11_feed_23 x1 x2 x3 x4 x5 n) x1 x2 x3 x4 x5 σ x6 x1)))
def m_X11_feed (σ : Mem) (x1 : Int32) (x2 : Int32) (x3 : Int32) (x4 : Int32) (x5 : Int32) : Option (Int32 × Mem) := (lt (ms σ 0 5 (0 : Int32)) fun σ1 => (if ((σ1 0 21) + (20 : Int32)) ≤ (700 : Int32) then (f_X11_feed_23 x1 x2 x3 x4 x5 KF σ1 (0 : Int32)) else (some ((-1 : Int32), σ1))))
set_option maxHeartbeats 4000000 in
set_option maxRecDepth 100000 in
theorem w_X11_feed_76 {p : Program} {l : Launch} {e : Env} {s : State} {m : MethodId} {args : Array Value} {below : List Frame} {meth : Method} {c : Code} {A : Nat → Prop} {E : RE} {q : Int32 × Mem} (X : CX p s m meth c args cX11_feed 8 RX11 (some .int)) {x1 : Int32} {x2 : Int32} {x3 : Int32} {x4 : Int32} {x5 : Int32} {k23 : Mem → Int32 → Option (Int32 × Mem)} (hk23 : ∀ (σ : Mem) (x6 : Int32) , k23 σ x6 = some q → ∀ (H : Heap) (locs : List Loc) (ls : Array Slot), WI (vR E) A s H locs σ → lv_has ls 8 [(0, .ref (ra E 0)), (1, .int x1), (2, .int x2), (3, .int x3), (4, .int x4), (5, .int x5), (6, .int x6)] → W p l e rm_X11_feed s m args below meth c H locs 0 0 (MQ below (QI (vR E) A q) args s 0 0 A) (F0 m 23 ls [])) : ∀ (σ : Mem) (x6 : Int32) (z0 : Int32), f_X11_feed_76 k23 x1 x2 x3 x4 x5 σ x6 z0 = some q → ∀ (H : Heap) (locs : List Loc) (ls : Array Slot), WI (vR E) A s H locs σ → lv_has ls 8 [(0, .ref (ra E 0)), (1, .int x1), (2, .int x2), (3, .int x3), (4, .int x4), (5, .int x5), (6, .int x6)] → W p l e rm_X11_feed s m args below meth c H locs 0 0 (MQ below (QI (vR E) A q) args s 0 0 A) (F0 m 76 ls [.int z0]) := by
  have hx := X.1
  have hb := X.2.1
  intro σ x6 z0 h H locs ls I hl
  unfold f_X11_feed_76 at h
  refine lv_istore (lv' := [(7, .int z0), (0, .ref (ra E 0)), (1, .int x1), (2, .int x2), (3, .int x3), (4, .int x4), (5, .int x5), (6, .int x6)]) hx hb dX11_feed_76 hl (by decide) rfl (fun ls hl => ?_)
  refine lv_aload_n hx hb dX11_feed_78 rfl (lv_at hl 1 rfl) ?_
  refine gfR_X11_95 X I dX11_feed_79 ?_
  refine lv_aload_n hx hb dX11_feed_82 rfl (lv_at hl 1 rfl) ?_
  refine gfR_X11_202 X I dX11_feed_83 ?_
  refine lv_iload hx hb dX11_feed_86 (lv_at hl 0 rfl) ?_
  refine lv_bipush (v := 24) hx hb dX11_feed_88 (by decide) ?_
  refine lv_bipush (v := 8) hx hb dX11_feed_90 (by decide) ?_
  refine lv_iload hx hb dX11_feed_92 (lv_at hl 7 rfl) ?_
  refine lv_iconst (v := 4) hx hb dX11_feed_94 (by decide) ?_
  obtain ⟨hnz, h⟩ := gnz_some h
  refine lv_irem hx hb dX11_feed_95 hnz ?_
  refine lv_imul hx hb dX11_feed_96 ?_
  refine lv_isub hx hb dX11_feed_97 ?_
  refine lv_ishr hx hb dX11_feed_98 ?_
  refine lv_sipush (v := 255) hx hb dX11_feed_99 (by decide) ?_
  refine lv_iand hx hb dX11_feed_102 ?_
  obtain ⟨hin, h⟩ := gd_some h
  refine iastR X I (kR_19 E) hin dX11_feed_103 (fun H locs I => ?_)
  obtain ⟨σ1, eσ1, h⟩ := lt_e h
  replace I := wi_nm eσ1 I
  refine lv_aload_n hx hb dX11_feed_104 rfl (lv_at hl 1 rfl) ?_
  refine lv_dup hx hb dX11_feed_105 rfl ?_
  refine gfR_X11_202 X I dX11_feed_106 ?_
  refine lv_iconst (v := 1) hx hb dX11_feed_109 (by decide) ?_
  refine lv_iadd hx hb dX11_feed_110 ?_
  refine pfR_X11_202 X I  dX11_feed_111 (fun H locs I => ?_)
  obtain ⟨σ2, eσ2, h⟩ := lt_e h
  replace I := wi_nm eσ2 I
  refine lv_iinc (v := (x6 + 1)) (lv' := [(6, .int (x6 + 1)), (7, .int z0), (0, .ref (ra E 0)), (1, .int x1), (2, .int x2), (3, .int x3), (4, .int x4), (5, .int x5)]) hx hb dX11_feed_114 hl (k := 7) rfl rfl (by decide) rfl (fun ls hl => ?_)
  refine lv_goto (tgt := 23) hx hb dX11_feed_117 (by decide) ?_
  exact hk23 σ2 (x6 + 1) h H locs ls I (lv_sub hl [2, 3, 4, 5, 6, 7, 0] rfl)
set_option maxHeartbeats 4000000 in
set_option maxRecDepth 100000 in
theorem w_X11_feed_23 {p : Program} {l : Launch} {e : Env} {s : State} {m : MethodId} {args : Array Value} {below : List Frame} {meth : Method} {c : Code} {A : Nat → Prop} {E : RE} {q : Int32 × Mem} (X : CX p s m meth c args cX11_feed 8 RX11 (some .int)) {x1 : Int32} {x2 : Int32} {x3 : Int32} {x4 : Int32} {x5 : Int32} : ∀ (n : Nat), ∀ (σ : Mem) (x6 : Int32) , f_X11_feed_23 x1 x2 x3 x4 x5 n σ x6 = some q → ∀ (H : Heap) (locs : List Loc) (ls : Array Slot), WI (vR E) A s H locs σ → lv_has ls 8 [(0, .ref (ra E 0)), (1, .int x1), (2, .int x2), (3, .int x3), (4, .int x4), (5, .int x5), (6, .int x6)] → W p l e rm_X11_feed s m args below meth c H locs 0 0 (MQ below (QI (vR E) A q) args s 0 0 A) (F0 m 23 ls []) := by
  have hx := X.1
  have hb := X.2.1
  intro n
  induction n with
  | zero =>
    intro σ x6 h
    cases h
  | succ n ih =>
    intro σ x6 h H locs ls I hl
    rw [f_X11_feed_23] at h
    refine lv_iload hx hb dX11_feed_23 (lv_at hl 6 rfl) ?_
    refine lv_bipush (v := 20) hx hb dX11_feed_25 (by decide) ?_
    refine lv_icmp_ge (tgt := 120) hx hb dX11_feed_27 (by decide) (fun c1 => ?_) (fun c1 => ?_)
    · have h := ite_t h c1
      refine lv_aload_n hx hb dX11_feed_120 rfl (lv_at hl 0 rfl) ?_
      refine gfR_X11_202 X I dX11_feed_121 ?_
      exact r_iret X I (Option.some.inj h).symm dX11_feed_124
    · have h := ite_f h c1
      refine lv_iload hx hb dX11_feed_30 (lv_at hl 6 rfl) ?_
      refine lv_iconst (v := 4) hx hb dX11_feed_32 (by decide) ?_
      refine lv_icmp_ge (tgt := 40) hx hb dX11_feed_33 (by decide) (fun c2 => ?_) (fun c2 => ?_)
      · have h := ite_t h c2
        refine lv_iload hx hb dX11_feed_40 (lv_at hl 6 rfl) ?_
        refine lv_bipush (v := 8) hx hb dX11_feed_42 (by decide) ?_
        refine lv_icmp_ge (tgt := 51) hx hb dX11_feed_44 (by decide) (fun c3 => ?_) (fun c3 => ?_)
        · have h := ite_t h c3
          refine lv_iload hx hb dX11_feed_51 (lv_at hl 6 rfl) ?_
          refine lv_bipush (v := 12) hx hb dX11_feed_53 (by decide) ?_
          refine lv_icmp_ge (tgt := 62) hx hb dX11_feed_55 (by decide) (fun c4 => ?_) (fun c4 => ?_)
          · have h := ite_t h c4
            refine lv_iload hx hb dX11_feed_62 (lv_at hl 6 rfl) ?_
            refine lv_bipush (v := 16) hx hb dX11_feed_64 (by decide) ?_
            refine lv_icmp_ge (tgt := 74) hx hb dX11_feed_66 (by decide) (fun c5 => ?_) (fun c5 => ?_)
            · have h := ite_t h c5
              refine lv_iload hx hb dX11_feed_74 (lv_at hl 5 rfl) ?_
              exact w_X11_feed_76 X  (fun σ a6 h H locs ls I hl => ih σ a6 h H locs ls I hl) σ x6 x5 h H locs ls I (lv_sub hl [0, 1, 2, 3, 4, 5, 6] rfl)
            · have h := ite_f h c5
              refine lv_iload hx hb dX11_feed_69 (lv_at hl 4 rfl) ?_
              refine lv_goto (tgt := 76) hx hb dX11_feed_71 (by decide) ?_
              exact w_X11_feed_76 X  (fun σ a6 h H locs ls I hl => ih σ a6 h H locs ls I hl) σ x6 x4 h H locs ls I (lv_sub hl [0, 1, 2, 3, 4, 5, 6] rfl)
          · have h := ite_f h c4
            refine lv_iload_n hx hb dX11_feed_58 rfl (lv_at hl 3 rfl) ?_
            refine lv_goto (tgt := 76) hx hb dX11_feed_59 (by decide) ?_
            exact w_X11_feed_76 X  (fun σ a6 h H locs ls I hl => ih σ a6 h H locs ls I hl) σ x6 x3 h H locs ls I (lv_sub hl [0, 1, 2, 3, 4, 5, 6] rfl)
        · have h := ite_f h c3
          refine lv_iload_n hx hb dX11_feed_47 rfl (lv_at hl 2 rfl) ?_
          refine lv_goto (tgt := 76) hx hb dX11_feed_48 (by decide) ?_
          exact w_X11_feed_76 X  (fun σ a6 h H locs ls I hl => ih σ a6 h H locs ls I hl) σ x6 x2 h H locs ls I (lv_sub hl [0, 1, 2, 3, 4, 5, 6] rfl)
      · have h := ite_f h c2
        refine lv_iload_n hx hb dX11_feed_36 rfl (lv_at hl 1 rfl) ?_
        refine lv_goto (tgt := 76) hx hb dX11_feed_37 (by decide) ?_
        exact w_X11_feed_76 X  (fun σ a6 h H locs ls I hl => ih σ a6 h H locs ls I hl) σ x6 x1 h H locs ls I (lv_sub hl [0, 1, 2, 3, 4, 5, 6] rfl)
set_option maxHeartbeats 4000000 in
set_option maxRecDepth 100000 in
theorem w_X11_feed_0 {p : Program} {l : Launch} {e : Env} {s : State} {m : MethodId} {args : Array Value} {below : List Frame} {meth : Method} {c : Code} {A : Nat → Prop} {E : RE} {q : Int32 × Mem} (X : CX p s m meth c args cX11_feed 8 RX11 (some .int)) : ∀ (σ : Mem) (x1 : Int32) (x2 : Int32) (x3 : Int32) (x4 : Int32) (x5 : Int32) , m_X11_feed σ x1 x2 x3 x4 x5 = some q → ∀ (H : Heap) (locs : List Loc) (ls : Array Slot), WI (vR E) A s H locs σ → lv_has ls 8 [(0, .ref (ra E 0)), (1, .int x1), (2, .int x2), (3, .int x3), (4, .int x4), (5, .int x5)] → W p l e rm_X11_feed s m args below meth c H locs 0 0 (MQ below (QI (vR E) A q) args s 0 0 A) (F0 m 0 ls []) := by
  have hx := X.1
  have hb := X.2.1
  intro σ x1 x2 x3 x4 x5 h H locs ls I hl
  unfold m_X11_feed at h
  refine lv_aload_n hx hb dX11_feed_0 rfl (lv_at hl 0 rfl) ?_
  refine lv_iconst (v := 0) hx hb dX11_feed_1 (by decide) ?_
  refine pfR_X11_195 X I  dX11_feed_2 (fun H locs I => ?_)
  obtain ⟨σ1, eσ1, h⟩ := lt_e h
  replace I := wi_nm eσ1 I
  refine lv_aload_n hx hb dX11_feed_5 rfl (lv_at hl 0 rfl) ?_
  refine gfR_X11_202 X I dX11_feed_6 ?_
  refine lv_bipush (v := 20) hx hb dX11_feed_9 (by decide) ?_
  refine lv_iadd hx hb dX11_feed_11 ?_
  refine lv_sipush (v := 700) hx hb dX11_feed_12 (by decide) ?_
  refine lv_icmp_le (tgt := 20) hx hb dX11_feed_15 (by decide) (fun c2 => ?_) (fun c2 => ?_)
  · have h := ite_t h c2
    refine lv_iconst (v := 0) hx hb dX11_feed_20 (by decide) ?_
    refine lv_istore (lv' := [(6, .int (0 : Int32)), (0, .ref (ra E 0)), (1, .int x1), (2, .int x2), (3, .int x3), (4, .int x4), (5, .int x5)]) hx hb dX11_feed_21 hl (by decide) rfl (fun ls hl => ?_)
    exact w_X11_feed_23 X   KF σ1 (0 : Int32) h H locs ls I (lv_sub hl [1, 2, 3, 4, 5, 6, 0] rfl)
  · have h := ite_f h c2
    refine lv_iconst (v := -1) hx hb dX11_feed_18 (by decide) ?_
    exact r_iret X I (Option.some.inj h).symm dX11_feed_19
theorem c_X11_feed {l : Launch} {E : RE} {σ : Mem} {x1 : Int32} {x2 : Int32} {x3 : Int32} {x4 : Int32} {x5 : Int32} {q : Int32 × Mem} (h : m_X11_feed σ x1 x2 x3 x4 x5 = some q) : CI l (vR E) yX11_feed (.code yX11_feed cX11_feed 8 (some .int) :: GG) rm_X11_feed [.ref (ra E 0), .int x1, .int x2, .int x3, .int x4, .int x5] σ q :=
  mk_CI (by decide +kernel) (Nat.le_of_ble_eq_true rfl) (fun p e s m args below meth c A ls X I hl => w_X11_feed_0 X  σ x1 x2 x3 x4 x5 h s.heap [] ls I (lv_sub hl [0, 1, 2, 3, 4, 5] rfl))

def rm_X11_byteAt : Room := { frames := 1, cells := 0, slots := 0, locals := 64 }
def m_X11_byteAt (σ : Mem) (x1 : Int32) : Option (Int32) := (if (σ 0 23) ≤ x1 then (some (-1 : Int32)) else (gd x1 700 (some (σ 19 (Int32.toNatClampNeg x1)))))
set_option maxHeartbeats 4000000 in
set_option maxRecDepth 100000 in
theorem w_X11_byteAt_0 {p : Program} {l : Launch} {e : Env} {s : State} {m : MethodId} {args : Array Value} {below : List Frame} {meth : Method} {c : Code} {A : Nat → Prop} {E : RE} {q : Int32} (X : CX p s m meth c args cX11_byteAt 2 RX11 (some .int)) : ∀ (σ : Mem) (x1 : Int32) , m_X11_byteAt σ x1 = some q → ∀ (H : Heap) (locs : List Loc) (ls : Array Slot), WI (vR E) A s H locs σ → lv_has ls 2 [(0, .ref (ra E 0)), (1, .int x1)] → W p l e rm_X11_byteAt s m args below meth c H locs 0 0 (MQ below (QI (vR E) A (q, σ)) args s 0 0 A) (F0 m 0 ls []) := by
  have hx := X.1
  have hb := X.2.1
  intro σ x1 h H locs ls I hl
  unfold m_X11_byteAt at h
  refine lv_iload_n hx hb dX11_byteAt_0 rfl (lv_at hl 1 rfl) ?_
  refine lv_aload_n hx hb dX11_byteAt_1 rfl (lv_at hl 0 rfl) ?_
  refine gfR_X11_205 X I dX11_byteAt_2 ?_
  refine lv_icmp_ge (tgt := 17) hx hb dX11_byteAt_5 (by decide) (fun c1 => ?_) (fun c1 => ?_)
  · have h := ite_t h c1
    refine lv_iconst (v := -1) hx hb dX11_byteAt_17 (by decide) ?_
    exact r_iret X I (congrArg (fun z => (z, σ)) (Option.some.inj h).symm) dX11_byteAt_18
  · have h := ite_f h c1
    refine lv_aload_n hx hb dX11_byteAt_8 rfl (lv_at hl 0 rfl) ?_
    refine gfR_X11_95 X I dX11_byteAt_9 ?_
    refine lv_iload_n hx hb dX11_byteAt_12 rfl (lv_at hl 1 rfl) ?_
    obtain ⟨hin, h⟩ := gd_some h
    refine ialdR X I (kR_19 E) hin dX11_byteAt_13 ?_
    refine lv_goto (tgt := 18) hx hb dX11_byteAt_14 (by decide) ?_
    exact r_iret X I (congrArg (fun z => (z, σ)) (Option.some.inj h).symm) dX11_byteAt_18
theorem c_X11_byteAt {l : Launch} {E : RE} {σ : Mem} {x1 : Int32} {q : Int32} (h : m_X11_byteAt σ x1 = some q) : CI l (vR E) yX11_byteAt (.code yX11_byteAt cX11_byteAt 2 (some .int) :: GG) rm_X11_byteAt [.ref (ra E 0), .int x1] σ (q, σ) :=
  mk_CI (by decide +kernel) (Nat.le_of_ble_eq_true rfl) (fun p e s m args below meth c A ls X I hl => w_X11_byteAt_0 X  σ x1 h s.heap [] ls I (lv_sub hl [0, 1] rfl))

def rm_X11_isLetter : Room := { frames := 1, cells := 0, slots := 0, locals := 64 }
def m_X11_isLetter (σ : Mem) (x0 : Int32) : Option (Int32) := (if x0 < (97 : Int32) then (some (0 : Int32)) else (if (122 : Int32) < x0 then (some (0 : Int32)) else (some (1 : Int32))))
set_option maxHeartbeats 4000000 in
set_option maxRecDepth 100000 in
theorem w_X11_isLetter_0 {p : Program} {l : Launch} {e : Env} {s : State} {m : MethodId} {args : Array Value} {below : List Frame} {meth : Method} {c : Code} {A : Nat → Prop} {E : RE} {q : Int32} (X : CX p s m meth c args cX11_isLetter 1 RX11 (some .boolean)) : ∀ (σ : Mem) (x0 : Int32) , m_X11_isLetter σ x0 = some q → ∀ (H : Heap) (locs : List Loc) (ls : Array Slot), WI (vR E) A s H locs σ → lv_has ls 1 [(0, .int x0)] → W p l e rm_X11_isLetter s m args below meth c H locs 0 0 (MQ below (QI (vR E) A (q, σ)) args s 0 0 A) (F0 m 0 ls []) := by
  have hx := X.1
  have hb := X.2.1
  intro σ x0 h H locs ls I hl
  unfold m_X11_isLetter at h
  refine lv_iload_n hx hb dX11_isLetter_0 rfl (lv_at hl 0 rfl) ?_
  refine lv_bipush (v := 97) hx hb dX11_isLetter_1 (by decide) ?_
  refine lv_icmp_lt (tgt := 16) hx hb dX11_isLetter_3 (by decide) (fun c1 => ?_) (fun c1 => ?_)
  · have h := ite_t h c1
    refine lv_iconst (v := 0) hx hb dX11_isLetter_16 (by decide) ?_
    exact r_zret X I (congrArg (fun z => (z, σ)) (Option.some.inj h).symm) rfl dX11_isLetter_17
  · have h := ite_f h c1
    refine lv_iload_n hx hb dX11_isLetter_6 rfl (lv_at hl 0 rfl) ?_
    refine lv_bipush (v := 122) hx hb dX11_isLetter_7 (by decide) ?_
    refine lv_icmp_gt (tgt := 16) hx hb dX11_isLetter_9 (by decide) (fun c2 => ?_) (fun c2 => ?_)
    · have h := ite_t h c2
      refine lv_iconst (v := 0) hx hb dX11_isLetter_16 (by decide) ?_
      exact r_zret X I (congrArg (fun z => (z, σ)) (Option.some.inj h).symm) rfl dX11_isLetter_17
    · have h := ite_f h c2
      refine lv_iconst (v := 1) hx hb dX11_isLetter_12 (by decide) ?_
      refine lv_goto (tgt := 17) hx hb dX11_isLetter_13 (by decide) ?_
      exact r_zret X I (congrArg (fun z => (z, σ)) (Option.some.inj h).symm) rfl dX11_isLetter_17
theorem c_X11_isLetter {l : Launch} {E : RE} {σ : Mem} {x0 : Int32} {q : Int32} (h : m_X11_isLetter σ x0 = some q) : CI l (vR E) yX11_isLetter (.code yX11_isLetter cX11_isLetter 1 (some .boolean) :: GG) rm_X11_isLetter [.int x0] σ (q, σ) :=
  mk_CI (by decide +kernel) (Nat.le_of_ble_eq_true rfl) (fun p e s m args below meth c A ls X I hl => w_X11_isLetter_0 X  σ x0 h s.heap [] ls I (lv_sub hl [0] rfl))

def rm_X11_isDigit : Room := { frames := 1, cells := 0, slots := 0, locals := 64 }
def m_X11_isDigit (σ : Mem) (x0 : Int32) : Option (Int32) := (if x0 < (48 : Int32) then (some (0 : Int32)) else (if (57 : Int32) < x0 then (some (0 : Int32)) else (some (1 : Int32))))
set_option maxHeartbeats 4000000 in
set_option maxRecDepth 100000 in
theorem w_X11_isDigit_0 {p : Program} {l : Launch} {e : Env} {s : State} {m : MethodId} {args : Array Value} {below : List Frame} {meth : Method} {c : Code} {A : Nat → Prop} {E : RE} {q : Int32} (X : CX p s m meth c args cX11_isDigit 1 RX11 (some .boolean)) : ∀ (σ : Mem) (x0 : Int32) , m_X11_isDigit σ x0 = some q → ∀ (H : Heap) (locs : List Loc) (ls : Array Slot), WI (vR E) A s H locs σ → lv_has ls 1 [(0, .int x0)] → W p l e rm_X11_isDigit s m args below meth c H locs 0 0 (MQ below (QI (vR E) A (q, σ)) args s 0 0 A) (F0 m 0 ls []) := by
  have hx := X.1
  have hb := X.2.1
  intro σ x0 h H locs ls I hl
  unfold m_X11_isDigit at h
  refine lv_iload_n hx hb dX11_isDigit_0 rfl (lv_at hl 0 rfl) ?_
  refine lv_bipush (v := 48) hx hb dX11_isDigit_1 (by decide) ?_
  refine lv_icmp_lt (tgt := 16) hx hb dX11_isDigit_3 (by decide) (fun c1 => ?_) (fun c1 => ?_)
  · have h := ite_t h c1
    refine lv_iconst (v := 0) hx hb dX11_isDigit_16 (by decide) ?_
    exact r_zret X I (congrArg (fun z => (z, σ)) (Option.some.inj h).symm) rfl dX11_isDigit_17
  · have h := ite_f h c1
    refine lv_iload_n hx hb dX11_isDigit_6 rfl (lv_at hl 0 rfl) ?_
    refine lv_bipush (v := 57) hx hb dX11_isDigit_7 (by decide) ?_
    refine lv_icmp_gt (tgt := 16) hx hb dX11_isDigit_9 (by decide) (fun c2 => ?_) (fun c2 => ?_)
    · have h := ite_t h c2
      refine lv_iconst (v := 0) hx hb dX11_isDigit_16 (by decide) ?_
      exact r_zret X I (congrArg (fun z => (z, σ)) (Option.some.inj h).symm) rfl dX11_isDigit_17
    · have h := ite_f h c2
      refine lv_iconst (v := 1) hx hb dX11_isDigit_12 (by decide) ?_
      refine lv_goto (tgt := 17) hx hb dX11_isDigit_13 (by decide) ?_
      exact r_zret X I (congrArg (fun z => (z, σ)) (Option.some.inj h).symm) rfl dX11_isDigit_17
theorem c_X11_isDigit {l : Launch} {E : RE} {σ : Mem} {x0 : Int32} {q : Int32} (h : m_X11_isDigit σ x0 = some q) : CI l (vR E) yX11_isDigit (.code yX11_isDigit cX11_isDigit 1 (some .boolean) :: GG) rm_X11_isDigit [.int x0] σ (q, σ) :=
  mk_CI (by decide +kernel) (Nat.le_of_ble_eq_true rfl) (fun p e s m args below meth c A ls X I hl => w_X11_isDigit_0 X  σ x0 h s.heap [] ls I (lv_sub hl [0] rfl))

def rm_X11_isMark : Room := { frames := 1, cells := 0, slots := 0, locals := 64 }
def f_X11_isMark_54 (σ : Mem) : Option (Int32) := (some (1 : Int32))
def m_X11_isMark (σ : Mem) (x0 : Int32) : Option (Int32) := (if x0 = (59 : Int32) then (f_X11_isMark_54 σ) else (if x0 = (40 : Int32) then (f_X11_isMark_54 σ) else (if x0 = (41 : Int32) then (f_X11_isMark_54 σ) else (if x0 = (43 : Int32) then (f_X11_isMark_54 σ) else (if x0 = (45 : Int32) then (f_X11_isMark_54 σ) else (if x0 = (42 : Int32) then (f_X11_isMark_54 σ) else (if x0 = (47 : Int32) then (f_X11_isMark_54 σ) else (if x0 = (60 : Int32) then (f_X11_isMark_54 σ) else (if x0 = (61 : Int32) then (f_X11_isMark_54 σ) else (some (0 : Int32)))))))))))
set_option maxHeartbeats 4000000 in
set_option maxRecDepth 100000 in
theorem w_X11_isMark_54 {p : Program} {l : Launch} {e : Env} {s : State} {m : MethodId} {args : Array Value} {below : List Frame} {meth : Method} {c : Code} {A : Nat → Prop} {E : RE} {q : Int32} (X : CX p s m meth c args cX11_isMark 1 RX11 (some .boolean)) : ∀ (σ : Mem)  , f_X11_isMark_54 σ = some q → ∀ (H : Heap) (locs : List Loc) (ls : Array Slot), WI (vR E) A s H locs σ → lv_has ls 1 [] → W p l e rm_X11_isMark s m args below meth c H locs 0 0 (MQ below (QI (vR E) A (q, σ)) args s 0 0 A) (F0 m 54 ls []) := by
  have hx := X.1
  have hb := X.2.1
  intro σ  h H locs ls I hl
  unfold f_X11_isMark_54 at h
  refine lv_iconst (v := 1) hx hb dX11_isMark_54 (by decide) ?_
  refine lv_goto (tgt := 59) hx hb dX11_isMark_55 (by decide) ?_
  exact r_zret X I (congrArg (fun z => (z, σ)) (Option.some.inj h).symm) rfl dX11_isMark_59
set_option maxHeartbeats 4000000 in
set_option maxRecDepth 100000 in
theorem w_X11_isMark_0 {p : Program} {l : Launch} {e : Env} {s : State} {m : MethodId} {args : Array Value} {below : List Frame} {meth : Method} {c : Code} {A : Nat → Prop} {E : RE} {q : Int32} (X : CX p s m meth c args cX11_isMark 1 RX11 (some .boolean)) : ∀ (σ : Mem) (x0 : Int32) , m_X11_isMark σ x0 = some q → ∀ (H : Heap) (locs : List Loc) (ls : Array Slot), WI (vR E) A s H locs σ → lv_has ls 1 [(0, .int x0)] → W p l e rm_X11_isMark s m args below meth c H locs 0 0 (MQ below (QI (vR E) A (q, σ)) args s 0 0 A) (F0 m 0 ls []) := by
  have hx := X.1
  have hb := X.2.1
  intro σ x0 h H locs ls I hl
  unfold m_X11_isMark at h
  refine lv_iload_n hx hb dX11_isMark_0 rfl (lv_at hl 0 rfl) ?_
  refine lv_bipush (v := 59) hx hb dX11_isMark_1 (by decide) ?_
  refine lv_icmp_eq (tgt := 54) hx hb dX11_isMark_3 (by decide) (fun c1 => ?_) (fun c1 => ?_)
  · have h := ite_t h c1
    exact w_X11_isMark_54 X   σ h H locs ls I (lv_sub hl [] rfl)
  · have h := ite_f h c1
    refine lv_iload_n hx hb dX11_isMark_6 rfl (lv_at hl 0 rfl) ?_
    refine lv_bipush (v := 40) hx hb dX11_isMark_7 (by decide) ?_
    refine lv_icmp_eq (tgt := 54) hx hb dX11_isMark_9 (by decide) (fun c2 => ?_) (fun c2 => ?_)
    · have h := ite_t h c2
      exact w_X11_isMark_54 X   σ h H locs ls I (lv_sub hl [] rfl)
    · have h := ite_f h c2
      refine lv_iload_n hx hb dX11_isMark_12 rfl (lv_at hl 0 rfl) ?_
      refine lv_bipush (v := 41) hx hb dX11_isMark_13 (by decide) ?_
      refine lv_icmp_eq (tgt := 54) hx hb dX11_isMark_15 (by decide) (fun c3 => ?_) (fun c3 => ?_)
      · have h := ite_t h c3
        exact w_X11_isMark_54 X   σ h H locs ls I (lv_sub hl [] rfl)
      · have h := ite_f h c3
        refine lv_iload_n hx hb dX11_isMark_18 rfl (lv_at hl 0 rfl) ?_
        refine lv_bipush (v := 43) hx hb dX11_isMark_19 (by decide) ?_
        refine lv_icmp_eq (tgt := 54) hx hb dX11_isMark_21 (by decide) (fun c4 => ?_) (fun c4 => ?_)
        · have h := ite_t h c4
          exact w_X11_isMark_54 X   σ h H locs ls I (lv_sub hl [] rfl)
        · have h := ite_f h c4
          refine lv_iload_n hx hb dX11_isMark_24 rfl (lv_at hl 0 rfl) ?_
          refine lv_bipush (v := 45) hx hb dX11_isMark_25 (by decide) ?_
          refine lv_icmp_eq (tgt := 54) hx hb dX11_isMark_27 (by decide) (fun c5 => ?_) (fun c5 => ?_)
          · have h := ite_t h c5
            exact w_X11_isMark_54 X   σ h H locs ls I (lv_sub hl [] rfl)
          · have h := ite_f h c5
            refine lv_iload_n hx hb dX11_isMark_30 rfl (lv_at hl 0 rfl) ?_
            refine lv_bipush (v := 42) hx hb dX11_isMark_31 (by decide) ?_
            refine lv_icmp_eq (tgt := 54) hx hb dX11_isMark_33 (by decide) (fun c6 => ?_) (fun c6 => ?_)
            · have h := ite_t h c6
              exact w_X11_isMark_54 X   σ h H locs ls I (lv_sub hl [] rfl)
            · have h := ite_f h c6
              refine lv_iload_n hx hb dX11_isMark_36 rfl (lv_at hl 0 rfl) ?_
              refine lv_bipush (v := 47) hx hb dX11_isMark_37 (by decide) ?_
              refine lv_icmp_eq (tgt := 54) hx hb dX11_isMark_39 (by decide) (fun c7 => ?_) (fun c7 => ?_)
              · have h := ite_t h c7
                exact w_X11_isMark_54 X   σ h H locs ls I (lv_sub hl [] rfl)
              · have h := ite_f h c7
                refine lv_iload_n hx hb dX11_isMark_42 rfl (lv_at hl 0 rfl) ?_
                refine lv_bipush (v := 60) hx hb dX11_isMark_43 (by decide) ?_
                refine lv_icmp_eq (tgt := 54) hx hb dX11_isMark_45 (by decide) (fun c8 => ?_) (fun c8 => ?_)
                · have h := ite_t h c8
                  exact w_X11_isMark_54 X   σ h H locs ls I (lv_sub hl [] rfl)
                · have h := ite_f h c8
                  refine lv_iload_n hx hb dX11_isMark_48 rfl (lv_at hl 0 rfl) ?_
                  refine lv_bipush (v := 61) hx hb dX11_isMark_49 (by decide) ?_
                  refine lv_icmp_ne (tgt := 58) hx hb dX11_isMark_51 (by decide) (fun c9 => ?_) (fun c9 => ?_)
                  · have h := ite_f h c9
                    refine lv_iconst (v := 0) hx hb dX11_isMark_58 (by decide) ?_
                    exact r_zret X I (congrArg (fun z => (z, σ)) (Option.some.inj h).symm) rfl dX11_isMark_59
                  · have h := ite_t h c9
                    exact w_X11_isMark_54 X   σ h H locs ls I (lv_sub hl [] rfl)
theorem c_X11_isMark {l : Launch} {E : RE} {σ : Mem} {x0 : Int32} {q : Int32} (h : m_X11_isMark σ x0 = some q) : CI l (vR E) yX11_isMark (.code yX11_isMark cX11_isMark 1 (some .boolean) :: GG) rm_X11_isMark [.int x0] σ (q, σ) :=
  mk_CI (by decide +kernel) (Nat.le_of_ble_eq_true rfl) (fun p e s m args below meth c A ls X I hl => w_X11_isMark_0 X  σ x0 h s.heap [] ls I (lv_sub hl [0] rfl))

def rm_X11_stepOn : Room := { frames := 2, cells := 0, slots := 0, locals := 85 }
def f_X11_stepOn_123 : Nat → Mem → Option (Mem)
  | 0, _ => none
  | n + 1, σ => ((m_X11_byteAt σ (σ 0 22)).bind fun q1 => ((m_X11_isDigit σ q1).bind fun q2 => (if q2 = (0 : Int32) then (lt (ms σ 0 24 (2 : Int32)) fun σ4 => (lt (ms σ4 0 27 (σ4 0 22)) fun σ5 => (some σ5))) else ((m_X11_byteAt σ (σ 0 22)).bind fun q6 => (lt (ms σ 0 25 (imin (100000 : Int32) ((((10 : Int32) * (σ 0 25)) + q6) - (48 : Int32)))) fun σ7 => (lt (ms σ7 0 22 ((σ7 0 22) + (1 : Int32))) fun σ8 => f_X11_stepOn_123 n σ8))))))
def f_X11_stepOn_76 : Nat → Mem → Option (Mem)
  | 0, _ => none
  | n + 1, σ => ((m_X11_byteAt σ (σ 0 22)).bind fun q1 => ((m_X11_isLetter σ q1).bind fun q2 => (if q2 = (0 : Int32) then (lt (ms σ 0 24 (1 : Int32)) fun σ4 => (lt (ms σ4 0 27 (σ4 0 22)) fun σ5 => (some σ5))) else (lt (ms σ 0 22 ((σ 0 22) + (1 : Int32))) fun σ6 => f_X11_stepOn_76 n σ6))))
def f_X11_stepOn_0 : Nat → Mem → Option (Mem)
  | 0, _ => none
  | n + 1, σ => ((m_X11_byteAt σ (σ 0 22)).bind fun q1 => (if q1 = (32 : Int32) then (lt (ms σ 0 22 ((σ 0 22) + (1 : Int32))) fun σ3 => f_X11_stepOn_0 n σ3) else ((m_X11_byteAt σ (σ 0 22)).bind fun q4 => (if q4 = (10 : Int32) then (lt (ms σ 0 22 ((σ 0 22) + (1 : Int32))) fun σ23 => f_X11_stepOn_0 n σ23) else (lt (ms σ 0 26 (σ 0 22)) fun σ6 => ((m_X11_byteAt σ6 (σ6 0 22)).bind fun q7 => (if q7 = (-1 : Int32) then (lt (ms σ6 0 24 (0 : Int32)) fun σ21 => (lt (ms σ21 0 27 (σ21 0 22)) fun σ22 => (some σ22))) else ((m_X11_isLetter σ6 q7).bind fun q9 => (if q9 = (0 : Int32) then ((m_X11_isDigit σ6 q7).bind fun q11 => (if q11 = (0 : Int32) then (lt (ms σ6 0 22 ((σ6 0 22) + (1 : Int32))) fun σ13 => ((m_X11_isMark σ13 q7).bind fun q14 => (if q14 = (0 : Int32) then (lt (ms σ13 0 24 (4 : Int32)) fun σ16 => (lt (ms σ16 0 27 (σ16 0 22)) fun σ17 => (some σ17))) else (lt (ms σ13 0 24 (3 : Int32)) fun σ18 => (lt (ms σ18 0 27 (σ18 0 22)) fun σ19 => (some σ19)))))) else (lt (ms σ6 0 25 (0 : Int32)) fun σ20 => (f_X11_stepOn_123 KF σ20)))) else (f_X11_stepOn_76 KF σ6))))))))))
def m_X11_stepOn (σ : Mem) : Option (Mem) := f_X11_stepOn_0 KF σ
set_option maxHeartbeats 4000000 in
set_option maxRecDepth 100000 in
theorem w_X11_stepOn_123 {p : Program} {l : Launch} {e : Env} {s : State} {m : MethodId} {args : Array Value} {below : List Frame} {meth : Method} {c : Code} {A : Nat → Prop} {E : RE} {q : Mem} (X : CX p s m meth c args cX11_stepOn 2 RX11 none) : ∀ (n : Nat), ∀ (σ : Mem)  , f_X11_stepOn_123 n σ = some q → ∀ (H : Heap) (locs : List Loc) (ls : Array Slot), WI (vR E) A s H locs σ → lv_has ls 2 [(0, .ref (ra E 0))] → W p l e rm_X11_stepOn s m args below meth c H locs 0 0 (MQ below (QV (vR E) A q) args s 0 0 A) (F0 m 123 ls []) := by
  have hx := X.1
  have hb := X.2.1
  intro n
  induction n with
  | zero =>
    intro σ  h
    cases h
  | succ n ih =>
    intro σ  h H locs ls I hl
    rw [f_X11_stepOn_123] at h
    refine lv_aload_n hx hb dX11_stepOn_123 rfl (lv_at hl 0 rfl) ?_
    refine lv_aload_n hx hb dX11_stepOn_124 rfl (lv_at hl 0 rfl) ?_
    refine gfR_X11_208 X I dX11_stepOn_125 ?_
    obtain ⟨q1, hq1, h⟩ := bd h
    refine r_callVI (V := (vR E)) (k := 0) (As := [.int (σ 0 22)]) (rest := []) X I hl (c_X11_byteAt  hq1) yv_X11_byteAt tw_809 ⟨rfl, rfl, Nat.le_of_ble_eq_true rfl, Nat.le_of_ble_eq_true rfl⟩ (Nat.le_of_ble_eq_true rfl) rfl rfl rfl rfl (Nat.le_of_ble_eq_true rfl) dX11_stepOn_128 (fun H locs I => ?_)
    obtain ⟨q2, hq2, h⟩ := bd h
    refine r_callSI (V := (vR E)) (As := [.int q1]) (rest := []) X I hl (c_X11_isDigit  hq2) ys_X11_isDigit tw_819 ⟨rfl, rfl, Nat.le_of_ble_eq_true rfl, Nat.le_of_ble_eq_true rfl⟩ rfl rfl (Nat.le_of_ble_eq_true rfl) dX11_stepOn_131 (fun H locs I => ?_)
    refine lv_if_eq (tgt := 178) hx hb dX11_stepOn_134 (by decide) (fun c3 => ?_) (fun c3 => ?_)
    · have h := ite_t h c3
      refine lv_aload_n hx hb dX11_stepOn_178 rfl (lv_at hl 0 rfl) ?_
      refine lv_iconst (v := 2) hx hb dX11_stepOn_179 (by decide) ?_
      refine pfR_X11_218 X I  dX11_stepOn_180 (fun H locs I => ?_)
      obtain ⟨σ4, eσ4, h⟩ := lt_e h
      replace I := wi_nm eσ4 I
      refine lv_goto (tgt := 212) hx hb dX11_stepOn_183 (by decide) ?_
      refine lv_aload_n hx hb dX11_stepOn_212 rfl (lv_at hl 0 rfl) ?_
      refine lv_aload_n hx hb dX11_stepOn_213 rfl (lv_at hl 0 rfl) ?_
      refine gfR_X11_208 X I dX11_stepOn_214 ?_
      refine pfR_X11_241 X I  dX11_stepOn_217 (fun H locs I => ?_)
      obtain ⟨σ5, eσ5, h⟩ := lt_e h
      replace I := wi_nm eσ5 I
      exact r_vret X I (Option.some.inj h).symm dX11_stepOn_220
    · have h := ite_f h c3
      refine lv_aload_n hx hb dX11_stepOn_137 rfl (lv_at hl 0 rfl) ?_
      refine lv_ldc hx hb X.2.2.2.1 (X.2.2.2.2.1 _ tw_830) dX11_stepOn_138 ?_
      refine lv_bipush (v := 10) hx hb dX11_stepOn_140 (by decide) ?_
      refine lv_aload_n hx hb dX11_stepOn_142 rfl (lv_at hl 0 rfl) ?_
      refine gfR_X11_228 X I dX11_stepOn_143 ?_
      refine lv_imul hx hb dX11_stepOn_146 ?_
      refine lv_aload_n hx hb dX11_stepOn_147 rfl (lv_at hl 0 rfl) ?_
      refine lv_aload_n hx hb dX11_stepOn_148 rfl (lv_at hl 0 rfl) ?_
      refine gfR_X11_208 X I dX11_stepOn_149 ?_
      obtain ⟨q6, hq6, h⟩ := bd h
      refine r_callVI (V := (vR E)) (k := 0) (As := [.int (σ 0 22)]) (rest := [.int ((10 : Int32) * (σ 0 25)), .int (100000 : Int32), .ref (ra E 0)]) X I hl (c_X11_byteAt  hq6) yv_X11_byteAt tw_809 ⟨rfl, rfl, Nat.le_of_ble_eq_true rfl, Nat.le_of_ble_eq_true rfl⟩ (Nat.le_of_ble_eq_true rfl) rfl rfl rfl rfl (Nat.le_of_ble_eq_true rfl) dX11_stepOn_152 (fun H locs I => ?_)
      refine lv_iadd hx hb dX11_stepOn_155 ?_
      refine lv_bipush (v := 48) hx hb dX11_stepOn_156 (by decide) ?_
      refine lv_isub hx hb dX11_stepOn_158 ?_
      refine r_min X hl tw_831 ⟨Nat.le_of_ble_eq_true rfl, Nat.le_of_ble_eq_true rfl⟩ dX11_stepOn_159 ?_
      refine pfR_X11_228 X I  dX11_stepOn_162 (fun H locs I => ?_)
      obtain ⟨σ7, eσ7, h⟩ := lt_e h
      replace I := wi_nm eσ7 I
      refine lv_aload_n hx hb dX11_stepOn_165 rfl (lv_at hl 0 rfl) ?_
      refine lv_dup hx hb dX11_stepOn_166 rfl ?_
      refine gfR_X11_208 X I dX11_stepOn_167 ?_
      refine lv_iconst (v := 1) hx hb dX11_stepOn_170 (by decide) ?_
      refine lv_iadd hx hb dX11_stepOn_171 ?_
      refine pfR_X11_208 X I  dX11_stepOn_172 (fun H locs I => ?_)
      obtain ⟨σ8, eσ8, h⟩ := lt_e h
      replace I := wi_nm eσ8 I
      refine lv_goto (tgt := 123) hx hb dX11_stepOn_175 (by decide) ?_
      exact ih σ8 h H locs ls I (lv_sub hl [0] rfl)
set_option maxHeartbeats 4000000 in
set_option maxRecDepth 100000 in
theorem w_X11_stepOn_76 {p : Program} {l : Launch} {e : Env} {s : State} {m : MethodId} {args : Array Value} {below : List Frame} {meth : Method} {c : Code} {A : Nat → Prop} {E : RE} {q : Mem} (X : CX p s m meth c args cX11_stepOn 2 RX11 none) : ∀ (n : Nat), ∀ (σ : Mem)  , f_X11_stepOn_76 n σ = some q → ∀ (H : Heap) (locs : List Loc) (ls : Array Slot), WI (vR E) A s H locs σ → lv_has ls 2 [(0, .ref (ra E 0))] → W p l e rm_X11_stepOn s m args below meth c H locs 0 0 (MQ below (QV (vR E) A q) args s 0 0 A) (F0 m 76 ls []) := by
  have hx := X.1
  have hb := X.2.1
  intro n
  induction n with
  | zero =>
    intro σ  h
    cases h
  | succ n ih =>
    intro σ  h H locs ls I hl
    rw [f_X11_stepOn_76] at h
    refine lv_aload_n hx hb dX11_stepOn_76 rfl (lv_at hl 0 rfl) ?_
    refine lv_aload_n hx hb dX11_stepOn_77 rfl (lv_at hl 0 rfl) ?_
    refine gfR_X11_208 X I dX11_stepOn_78 ?_
    obtain ⟨q1, hq1, h⟩ := bd h
    refine r_callVI (V := (vR E)) (k := 0) (As := [.int (σ 0 22)]) (rest := []) X I hl (c_X11_byteAt  hq1) yv_X11_byteAt tw_809 ⟨rfl, rfl, Nat.le_of_ble_eq_true rfl, Nat.le_of_ble_eq_true rfl⟩ (Nat.le_of_ble_eq_true rfl) rfl rfl rfl rfl (Nat.le_of_ble_eq_true rfl) dX11_stepOn_81 (fun H locs I => ?_)
    obtain ⟨q2, hq2, h⟩ := bd h
    refine r_callSI (V := (vR E)) (As := [.int q1]) (rest := []) X I hl (c_X11_isLetter  hq2) ys_X11_isLetter tw_815 ⟨rfl, rfl, Nat.le_of_ble_eq_true rfl, Nat.le_of_ble_eq_true rfl⟩ rfl rfl (Nat.le_of_ble_eq_true rfl) dX11_stepOn_84 (fun H locs I => ?_)
    refine lv_if_eq (tgt := 103) hx hb dX11_stepOn_87 (by decide) (fun c3 => ?_) (fun c3 => ?_)
    · have h := ite_t h c3
      refine lv_aload_n hx hb dX11_stepOn_103 rfl (lv_at hl 0 rfl) ?_
      refine lv_iconst (v := 1) hx hb dX11_stepOn_104 (by decide) ?_
      refine pfR_X11_218 X I  dX11_stepOn_105 (fun H locs I => ?_)
      obtain ⟨σ4, eσ4, h⟩ := lt_e h
      replace I := wi_nm eσ4 I
      refine lv_goto (tgt := 212) hx hb dX11_stepOn_108 (by decide) ?_
      refine lv_aload_n hx hb dX11_stepOn_212 rfl (lv_at hl 0 rfl) ?_
      refine lv_aload_n hx hb dX11_stepOn_213 rfl (lv_at hl 0 rfl) ?_
      refine gfR_X11_208 X I dX11_stepOn_214 ?_
      refine pfR_X11_241 X I  dX11_stepOn_217 (fun H locs I => ?_)
      obtain ⟨σ5, eσ5, h⟩ := lt_e h
      replace I := wi_nm eσ5 I
      exact r_vret X I (Option.some.inj h).symm dX11_stepOn_220
    · have h := ite_f h c3
      refine lv_aload_n hx hb dX11_stepOn_90 rfl (lv_at hl 0 rfl) ?_
      refine lv_dup hx hb dX11_stepOn_91 rfl ?_
      refine gfR_X11_208 X I dX11_stepOn_92 ?_
      refine lv_iconst (v := 1) hx hb dX11_stepOn_95 (by decide) ?_
      refine lv_iadd hx hb dX11_stepOn_96 ?_
      refine pfR_X11_208 X I  dX11_stepOn_97 (fun H locs I => ?_)
      obtain ⟨σ6, eσ6, h⟩ := lt_e h
      replace I := wi_nm eσ6 I
      refine lv_goto (tgt := 76) hx hb dX11_stepOn_100 (by decide) ?_
      exact ih σ6 h H locs ls I (lv_sub hl [0] rfl)
set_option maxHeartbeats 4000000 in
set_option maxRecDepth 100000 in
theorem w_X11_stepOn_0 {p : Program} {l : Launch} {e : Env} {s : State} {m : MethodId} {args : Array Value} {below : List Frame} {meth : Method} {c : Code} {A : Nat → Prop} {E : RE} {q : Mem} (X : CX p s m meth c args cX11_stepOn 2 RX11 none) : ∀ (n : Nat), ∀ (σ : Mem)  , f_X11_stepOn_0 n σ = some q → ∀ (H : Heap) (locs : List Loc) (ls : Array Slot), WI (vR E) A s H locs σ → lv_has ls 2 [(0, .ref (ra E 0))] → W p l e rm_X11_stepOn s m args below meth c H locs 0 0 (MQ below (QV (vR E) A q) args s 0 0 A) (F0 m 0 ls []) := by
  have hx := X.1
  have hb := X.2.1
  intro n
  induction n with
  | zero =>
    intro σ  h
    cases h
  | succ n ih =>
    intro σ  h H locs ls I hl
    rw [f_X11_stepOn_0] at h
    refine lv_aload_n hx hb dX11_stepOn_0 rfl (lv_at hl 0 rfl) ?_
    refine lv_aload_n hx hb dX11_stepOn_1 rfl (lv_at hl 0 rfl) ?_
    refine gfR_X11_208 X I dX11_stepOn_2 ?_
    obtain ⟨q1, hq1, h⟩ := bd h
    refine r_callVI (V := (vR E)) (k := 0) (As := [.int (σ 0 22)]) (rest := []) X I hl (c_X11_byteAt  hq1) yv_X11_byteAt tw_809 ⟨rfl, rfl, Nat.le_of_ble_eq_true rfl, Nat.le_of_ble_eq_true rfl⟩ (Nat.le_of_ble_eq_true rfl) rfl rfl rfl rfl (Nat.le_of_ble_eq_true rfl) dX11_stepOn_5 (fun H locs I => ?_)
    refine lv_bipush (v := 32) hx hb dX11_stepOn_8 (by decide) ?_
    refine lv_icmp_eq (tgt := 26) hx hb dX11_stepOn_10 (by decide) (fun c2 => ?_) (fun c2 => ?_)
    · have h := ite_t h c2
      refine lv_aload_n hx hb dX11_stepOn_26 rfl (lv_at hl 0 rfl) ?_
      refine lv_dup hx hb dX11_stepOn_27 rfl ?_
      refine gfR_X11_208 X I dX11_stepOn_28 ?_
      refine lv_iconst (v := 1) hx hb dX11_stepOn_31 (by decide) ?_
      refine lv_iadd hx hb dX11_stepOn_32 ?_
      refine pfR_X11_208 X I  dX11_stepOn_33 (fun H locs I => ?_)
      obtain ⟨σ3, eσ3, h⟩ := lt_e h
      replace I := wi_nm eσ3 I
      refine lv_goto (tgt := 0) hx hb dX11_stepOn_36 (by decide) ?_
      exact ih σ3 h H locs ls I (lv_sub hl [0] rfl)
    · have h := ite_f h c2
      refine lv_aload_n hx hb dX11_stepOn_13 rfl (lv_at hl 0 rfl) ?_
      refine lv_aload_n hx hb dX11_stepOn_14 rfl (lv_at hl 0 rfl) ?_
      refine gfR_X11_208 X I dX11_stepOn_15 ?_
      obtain ⟨q4, hq4, h⟩ := bd h
      refine r_callVI (V := (vR E)) (k := 0) (As := [.int (σ 0 22)]) (rest := []) X I hl (c_X11_byteAt  hq4) yv_X11_byteAt tw_809 ⟨rfl, rfl, Nat.le_of_ble_eq_true rfl, Nat.le_of_ble_eq_true rfl⟩ (Nat.le_of_ble_eq_true rfl) rfl rfl rfl rfl (Nat.le_of_ble_eq_true rfl) dX11_stepOn_18 (fun H locs I => ?_)
      refine lv_bipush (v := 10) hx hb dX11_stepOn_21 (by decide) ?_
      refine lv_icmp_ne (tgt := 39) hx hb dX11_stepOn_23 (by decide) (fun c5 => ?_) (fun c5 => ?_)
      · have h := ite_f h c5
        refine lv_aload_n hx hb dX11_stepOn_39 rfl (lv_at hl 0 rfl) ?_
        refine lv_aload_n hx hb dX11_stepOn_40 rfl (lv_at hl 0 rfl) ?_
        refine gfR_X11_208 X I dX11_stepOn_41 ?_
        refine pfR_X11_215 X I  dX11_stepOn_44 (fun H locs I => ?_)
        obtain ⟨σ6, eσ6, h⟩ := lt_e h
        replace I := wi_nm eσ6 I
        refine lv_aload_n hx hb dX11_stepOn_47 rfl (lv_at hl 0 rfl) ?_
        refine lv_aload_n hx hb dX11_stepOn_48 rfl (lv_at hl 0 rfl) ?_
        refine gfR_X11_208 X I dX11_stepOn_49 ?_
        obtain ⟨q7, hq7, h⟩ := bd h
        refine r_callVI (V := (vR E)) (k := 0) (As := [.int (σ6 0 22)]) (rest := []) X I hl (c_X11_byteAt  hq7) yv_X11_byteAt tw_809 ⟨rfl, rfl, Nat.le_of_ble_eq_true rfl, Nat.le_of_ble_eq_true rfl⟩ (Nat.le_of_ble_eq_true rfl) rfl rfl rfl rfl (Nat.le_of_ble_eq_true rfl) dX11_stepOn_52 (fun H locs I => ?_)
        refine lv_istore_n (lv' := [(1, .int q7), (0, .ref (ra E 0))]) hx hb dX11_stepOn_55 rfl hl (by decide) rfl (fun ls hl => ?_)
        refine lv_iload_n hx hb dX11_stepOn_56 rfl (lv_at hl 0 rfl) ?_
        refine lv_iconst (v := -1) hx hb dX11_stepOn_57 (by decide) ?_
        refine lv_icmp_ne (tgt := 69) hx hb dX11_stepOn_58 (by decide) (fun c8 => ?_) (fun c8 => ?_)
        · have h := ite_f h c8
          refine lv_iload_n hx hb dX11_stepOn_69 rfl (lv_at hl 0 rfl) ?_
          obtain ⟨q9, hq9, h⟩ := bd h
          refine r_callSI (V := (vR E)) (As := [.int q7]) (rest := []) X I hl (c_X11_isLetter  hq9) ys_X11_isLetter tw_815 ⟨rfl, rfl, Nat.le_of_ble_eq_true rfl, Nat.le_of_ble_eq_true rfl⟩ rfl rfl (Nat.le_of_ble_eq_true rfl) dX11_stepOn_70 (fun H locs I => ?_)
          refine lv_if_eq (tgt := 111) hx hb dX11_stepOn_73 (by decide) (fun c10 => ?_) (fun c10 => ?_)
          · have h := ite_t h c10
            refine lv_iload_n hx hb dX11_stepOn_111 rfl (lv_at hl 0 rfl) ?_
            obtain ⟨q11, hq11, h⟩ := bd h
            refine r_callSI (V := (vR E)) (As := [.int q7]) (rest := []) X I hl (c_X11_isDigit  hq11) ys_X11_isDigit tw_819 ⟨rfl, rfl, Nat.le_of_ble_eq_true rfl, Nat.le_of_ble_eq_true rfl⟩ rfl rfl (Nat.le_of_ble_eq_true rfl) dX11_stepOn_112 (fun H locs I => ?_)
            refine lv_if_eq (tgt := 186) hx hb dX11_stepOn_115 (by decide) (fun c12 => ?_) (fun c12 => ?_)
            · have h := ite_t h c12
              refine lv_aload_n hx hb dX11_stepOn_186 rfl (lv_at hl 1 rfl) ?_
              refine lv_dup hx hb dX11_stepOn_187 rfl ?_
              refine gfR_X11_208 X I dX11_stepOn_188 ?_
              refine lv_iconst (v := 1) hx hb dX11_stepOn_191 (by decide) ?_
              refine lv_iadd hx hb dX11_stepOn_192 ?_
              refine pfR_X11_208 X I  dX11_stepOn_193 (fun H locs I => ?_)
              obtain ⟨σ13, eσ13, h⟩ := lt_e h
              replace I := wi_nm eσ13 I
              refine lv_aload_n hx hb dX11_stepOn_196 rfl (lv_at hl 1 rfl) ?_
              refine lv_iload_n hx hb dX11_stepOn_197 rfl (lv_at hl 0 rfl) ?_
              obtain ⟨q14, hq14, h⟩ := bd h
              refine r_callSI (V := (vR E)) (As := [.int q7]) (rest := [.ref (ra E 0)]) X I hl (c_X11_isMark  hq14) ys_X11_isMark tw_823 ⟨rfl, rfl, Nat.le_of_ble_eq_true rfl, Nat.le_of_ble_eq_true rfl⟩ rfl rfl (Nat.le_of_ble_eq_true rfl) dX11_stepOn_198 (fun H locs I => ?_)
              refine lv_if_eq (tgt := 208) hx hb dX11_stepOn_201 (by decide) (fun c15 => ?_) (fun c15 => ?_)
              · have h := ite_t h c15
                refine lv_iconst (v := 4) hx hb dX11_stepOn_208 (by decide) ?_
                refine pfR_X11_218 X I  dX11_stepOn_209 (fun H locs I => ?_)
                obtain ⟨σ16, eσ16, h⟩ := lt_e h
                replace I := wi_nm eσ16 I
                refine lv_aload_n hx hb dX11_stepOn_212 rfl (lv_at hl 1 rfl) ?_
                refine lv_aload_n hx hb dX11_stepOn_213 rfl (lv_at hl 1 rfl) ?_
                refine gfR_X11_208 X I dX11_stepOn_214 ?_
                refine pfR_X11_241 X I  dX11_stepOn_217 (fun H locs I => ?_)
                obtain ⟨σ17, eσ17, h⟩ := lt_e h
                replace I := wi_nm eσ17 I
                exact r_vret X I (Option.some.inj h).symm dX11_stepOn_220
              · have h := ite_f h c15
                refine lv_iconst (v := 3) hx hb dX11_stepOn_204 (by decide) ?_
                refine lv_goto (tgt := 209) hx hb dX11_stepOn_205 (by decide) ?_
                refine pfR_X11_218 X I  dX11_stepOn_209 (fun H locs I => ?_)
                obtain ⟨σ18, eσ18, h⟩ := lt_e h
                replace I := wi_nm eσ18 I
                refine lv_aload_n hx hb dX11_stepOn_212 rfl (lv_at hl 1 rfl) ?_
                refine lv_aload_n hx hb dX11_stepOn_213 rfl (lv_at hl 1 rfl) ?_
                refine gfR_X11_208 X I dX11_stepOn_214 ?_
                refine pfR_X11_241 X I  dX11_stepOn_217 (fun H locs I => ?_)
                obtain ⟨σ19, eσ19, h⟩ := lt_e h
                replace I := wi_nm eσ19 I
                exact r_vret X I (Option.some.inj h).symm dX11_stepOn_220
            · have h := ite_f h c12
              refine lv_aload_n hx hb dX11_stepOn_118 rfl (lv_at hl 1 rfl) ?_
              refine lv_iconst (v := 0) hx hb dX11_stepOn_119 (by decide) ?_
              refine pfR_X11_228 X I  dX11_stepOn_120 (fun H locs I => ?_)
              obtain ⟨σ20, eσ20, h⟩ := lt_e h
              replace I := wi_nm eσ20 I
              exact w_X11_stepOn_123 X   KF σ20 h H locs ls I (lv_sub hl [1] rfl)
          · have h := ite_f h c10
            exact w_X11_stepOn_76 X   KF σ6 h H locs ls I (lv_sub hl [1] rfl)
        · have h := ite_t h c8
          refine lv_aload_n hx hb dX11_stepOn_61 rfl (lv_at hl 1 rfl) ?_
          refine lv_iconst (v := 0) hx hb dX11_stepOn_62 (by decide) ?_
          refine pfR_X11_218 X I  dX11_stepOn_63 (fun H locs I => ?_)
          obtain ⟨σ21, eσ21, h⟩ := lt_e h
          replace I := wi_nm eσ21 I
          refine lv_goto (tgt := 212) hx hb dX11_stepOn_66 (by decide) ?_
          refine lv_aload_n hx hb dX11_stepOn_212 rfl (lv_at hl 1 rfl) ?_
          refine lv_aload_n hx hb dX11_stepOn_213 rfl (lv_at hl 1 rfl) ?_
          refine gfR_X11_208 X I dX11_stepOn_214 ?_
          refine pfR_X11_241 X I  dX11_stepOn_217 (fun H locs I => ?_)
          obtain ⟨σ22, eσ22, h⟩ := lt_e h
          replace I := wi_nm eσ22 I
          exact r_vret X I (Option.some.inj h).symm dX11_stepOn_220
      · have h := ite_t h c5
        refine lv_aload_n hx hb dX11_stepOn_26 rfl (lv_at hl 0 rfl) ?_
        refine lv_dup hx hb dX11_stepOn_27 rfl ?_
        refine gfR_X11_208 X I dX11_stepOn_28 ?_
        refine lv_iconst (v := 1) hx hb dX11_stepOn_31 (by decide) ?_
        refine lv_iadd hx hb dX11_stepOn_32 ?_
        refine pfR_X11_208 X I  dX11_stepOn_33 (fun H locs I => ?_)
        obtain ⟨σ23, eσ23, h⟩ := lt_e h
        replace I := wi_nm eσ23 I
        refine lv_goto (tgt := 0) hx hb dX11_stepOn_36 (by decide) ?_
        exact ih σ23 h H locs ls I (lv_sub hl [0] rfl)
theorem c_X11_stepOn {l : Launch} {E : RE} {σ : Mem} {q : Mem} (h : m_X11_stepOn σ = some q) : CV l (vR E) yX11_stepOn (.code yX11_stepOn cX11_stepOn 2 none :: GG) rm_X11_stepOn [.ref (ra E 0)] σ q :=
  mk_CV (by decide +kernel) (Nat.le_of_ble_eq_true rfl) (fun p e s m args below meth c A ls X I hl => w_X11_stepOn_0 X  KF σ  h s.heap [] ls I (lv_sub hl [0] rfl))

def rm_X11_wrong : Room := { frames := 1, cells := 0, slots := 0, locals := 64 }
def m_X11_wrong (σ : Mem) (x1 : Int32) : Option (Mem) := (if (σ 0 28) = (0 : Int32) then (lt (ms σ 0 28 x1) fun σ2 => (lt (ms σ2 0 29 (σ2 0 26)) fun σ3 => (some σ3))) else (some σ))
set_option maxHeartbeats 4000000 in
set_option maxRecDepth 100000 in
theorem w_X11_wrong_0 {p : Program} {l : Launch} {e : Env} {s : State} {m : MethodId} {args : Array Value} {below : List Frame} {meth : Method} {c : Code} {A : Nat → Prop} {E : RE} {q : Mem} (X : CX p s m meth c args cX11_wrong 2 RX11 none) : ∀ (σ : Mem) (x1 : Int32) , m_X11_wrong σ x1 = some q → ∀ (H : Heap) (locs : List Loc) (ls : Array Slot), WI (vR E) A s H locs σ → lv_has ls 2 [(0, .ref (ra E 0)), (1, .int x1)] → W p l e rm_X11_wrong s m args below meth c H locs 0 0 (MQ below (QV (vR E) A q) args s 0 0 A) (F0 m 0 ls []) := by
  have hx := X.1
  have hb := X.2.1
  intro σ x1 h H locs ls I hl
  unfold m_X11_wrong at h
  refine lv_aload_n hx hb dX11_wrong_0 rfl (lv_at hl 0 rfl) ?_
  refine gfR_X11_244 X I dX11_wrong_1 ?_
  refine lv_if_eq (tgt := 8) hx hb dX11_wrong_4 (by decide) (fun c1 => ?_) (fun c1 => ?_)
  · have h := ite_t h c1
    refine lv_aload_n hx hb dX11_wrong_8 rfl (lv_at hl 0 rfl) ?_
    refine lv_iload_n hx hb dX11_wrong_9 rfl (lv_at hl 1 rfl) ?_
    refine pfR_X11_244 X I  dX11_wrong_10 (fun H locs I => ?_)
    obtain ⟨σ2, eσ2, h⟩ := lt_e h
    replace I := wi_nm eσ2 I
    refine lv_aload_n hx hb dX11_wrong_13 rfl (lv_at hl 0 rfl) ?_
    refine lv_aload_n hx hb dX11_wrong_14 rfl (lv_at hl 0 rfl) ?_
    refine gfR_X11_215 X I dX11_wrong_15 ?_
    refine pfR_X11_247 X I  dX11_wrong_18 (fun H locs I => ?_)
    obtain ⟨σ3, eσ3, h⟩ := lt_e h
    replace I := wi_nm eσ3 I
    exact r_vret X I (Option.some.inj h).symm dX11_wrong_21
  · have h := ite_f h c1
    exact r_vret X I (Option.some.inj h).symm dX11_wrong_7
theorem c_X11_wrong {l : Launch} {E : RE} {σ : Mem} {x1 : Int32} {q : Mem} (h : m_X11_wrong σ x1 = some q) : CV l (vR E) yX11_wrong (.code yX11_wrong cX11_wrong 2 none :: GG) rm_X11_wrong [.ref (ra E 0), .int x1] σ q :=
  mk_CV (by decide +kernel) (Nat.le_of_ble_eq_true rfl) (fun p e s m args below meth c A ls X I hl => w_X11_wrong_0 X  σ x1 h s.heap [] ls I (lv_sub hl [0, 1] rfl))

def rm_X11_is : Room := { frames := 6, cells := 0, slots := 0, locals := 170 }
def f_X11_is_39 (w1 : Nat) : Nat → Mem → Int32 → Int32 → Option (Int32)
  | 0, _, _, _ => none
  | n + 1, σ, x2, x3 => (if x2 = (0 : Int32) then (gz x2 (some x2)) else (if (sLen w1) ≤ x3 then (gz x2 (some x2)) else (gd x3 (sNum w1) (gd ((σ 0 26) + x3) 700 (if (sch w1 (Int32.toNatClampNeg x3)) = (σ 19 (Int32.toNatClampNeg ((σ 0 26) + x3))) then f_X11_is_39 w1 n σ (1 : Int32) (x3 + 1) else f_X11_is_39 w1 n σ (0 : Int32) (x3 + 1))))))
def m_X11_is (w1 : Nat) (σ : Mem) : Option (Int32) := (if (σ 0 28) = (0 : Int32) then (if (σ 0 24) = (1 : Int32) then (if (sLen w1) = ((σ 0 27) - (σ 0 26)) then (f_X11_is_39 w1 KF σ (1 : Int32) (0 : Int32)) else (f_X11_is_39 w1 KF σ (0 : Int32) (0 : Int32))) else (f_X11_is_39 w1 KF σ (0 : Int32) (0 : Int32))) else (f_X11_is_39 w1 KF σ (0 : Int32) (0 : Int32)))
set_option maxHeartbeats 4000000 in
set_option maxRecDepth 100000 in
theorem w_X11_is_39 {p : Program} {l : Launch} {e : Env} {s : State} {m : MethodId} {args : Array Value} {below : List Frame} {meth : Method} {c : Code} {A : Nat → Prop} {E : RE} {q : Int32} (X : CX p s m meth c args cX11_is 4 RX11 (some .boolean)) {w1 : Nat} (hw1 : w1 < 50) : ∀ (n : Nat), ∀ (σ : Mem) (x2 : Int32) (x3 : Int32) , f_X11_is_39 w1 n σ x2 x3 = some q → ∀ (H : Heap) (locs : List Loc) (ls : Array Slot), WI (vR E) A s H locs σ → lv_has ls 4 [(0, .ref (ra E 0)), (1, .ref (saR E w1)), (2, .int x2), (3, .int x3)] → W p l e rm_X11_is s m args below meth c H locs 0 0 (MQ below (QI (vR E) A (q, σ)) args s 0 0 A) (F0 m 39 ls []) := by
  have hx := X.1
  have hb := X.2.1
  intro n
  induction n with
  | zero =>
    intro σ x2 x3 h
    cases h
  | succ n ih =>
    intro σ x2 x3 h H locs ls I hl
    rw [f_X11_is_39] at h
    refine lv_iload_n hx hb dX11_is_39 rfl (lv_at hl 2 rfl) ?_
    refine lv_if_eq (tgt := 82) hx hb dX11_is_40 (by decide) (fun c1 => ?_) (fun c1 => ?_)
    · have h := ite_t h c1
      refine lv_iload_n hx hb dX11_is_82 rfl (lv_at hl 2 rfl) ?_
      obtain ⟨hz, h⟩ := gz_some h
      exact r_zret X I (congrArg (fun z => (z, σ)) (Option.some.inj h).symm) hz.1 dX11_is_83
    · have h := ite_f h c1
      refine lv_iload_n hx hb dX11_is_43 rfl (lv_at hl 3 rfl) ?_
      refine lv_aload_n hx hb dX11_is_44 rfl (lv_at hl 1 rfl) ?_
      refine slenR X I hl hw1 tw_834 ⟨Nat.le_of_ble_eq_true rfl, Nat.le_of_ble_eq_true rfl⟩ (Nat.le_of_ble_eq_true rfl) dX11_is_45 (fun H locs I => ?_)
      refine lv_icmp_ge (tgt := 82) hx hb dX11_is_48 (by decide) (fun c2 => ?_) (fun c2 => ?_)
      · have h := ite_t h c2
        refine lv_iload_n hx hb dX11_is_82 rfl (lv_at hl 2 rfl) ?_
        obtain ⟨hz, h⟩ := gz_some h
        exact r_zret X I (congrArg (fun z => (z, σ)) (Option.some.inj h).symm) hz.1 dX11_is_83
      · have h := ite_f h c2
        refine lv_aload_n hx hb dX11_is_51 rfl (lv_at hl 1 rfl) ?_
        refine lv_iload_n hx hb dX11_is_52 rfl (lv_at hl 3 rfl) ?_
        obtain ⟨hin, h⟩ := gd_some h
        refine schrR X I hl hw1 hin tw_835 ⟨Nat.le_of_ble_eq_true rfl, Nat.le_of_ble_eq_true rfl⟩ (Nat.le_of_ble_eq_true rfl) dX11_is_53 (fun H locs I => ?_)
        refine lv_aload_n hx hb dX11_is_56 rfl (lv_at hl 0 rfl) ?_
        refine gfR_X11_95 X I dX11_is_57 ?_
        refine lv_aload_n hx hb dX11_is_60 rfl (lv_at hl 0 rfl) ?_
        refine gfR_X11_215 X I dX11_is_61 ?_
        refine lv_iload_n hx hb dX11_is_64 rfl (lv_at hl 3 rfl) ?_
        refine lv_iadd hx hb dX11_is_65 ?_
        obtain ⟨hin, h⟩ := gd_some h
        refine ialdR X I (kR_19 E) hin dX11_is_66 ?_
        refine lv_icmp_ne (tgt := 74) hx hb dX11_is_67 (by decide) (fun c3 => ?_) (fun c3 => ?_)
        · have h := ite_f h c3
          refine lv_iconst (v := 0) hx hb dX11_is_74 (by decide) ?_
          refine lv_istore_n (lv' := [(2, .int (0 : Int32)), (0, .ref (ra E 0)), (1, .ref (saR E w1)), (3, .int x3)]) hx hb dX11_is_75 rfl hl (by decide) rfl (fun ls hl => ?_)
          refine lv_iinc (v := (x3 + 1)) (lv' := [(3, .int (x3 + 1)), (2, .int (0 : Int32)), (0, .ref (ra E 0)), (1, .ref (saR E w1))]) hx hb dX11_is_76 hl (k := 3) rfl rfl (by decide) rfl (fun ls hl => ?_)
          refine lv_goto (tgt := 39) hx hb dX11_is_79 (by decide) ?_
          exact ih σ (0 : Int32) (x3 + 1) h H locs ls I (lv_sub hl [2, 3, 1, 0] rfl)
        · have h := ite_t h c3
          refine lv_iconst (v := 1) hx hb dX11_is_70 (by decide) ?_
          refine lv_goto (tgt := 75) hx hb dX11_is_71 (by decide) ?_
          refine lv_istore_n (lv' := [(2, .int (1 : Int32)), (0, .ref (ra E 0)), (1, .ref (saR E w1)), (3, .int x3)]) hx hb dX11_is_75 rfl hl (by decide) rfl (fun ls hl => ?_)
          refine lv_iinc (v := (x3 + 1)) (lv' := [(3, .int (x3 + 1)), (2, .int (1 : Int32)), (0, .ref (ra E 0)), (1, .ref (saR E w1))]) hx hb dX11_is_76 hl (k := 3) rfl rfl (by decide) rfl (fun ls hl => ?_)
          refine lv_goto (tgt := 39) hx hb dX11_is_79 (by decide) ?_
          exact ih σ (1 : Int32) (x3 + 1) h H locs ls I (lv_sub hl [2, 3, 1, 0] rfl)
set_option maxHeartbeats 4000000 in
set_option maxRecDepth 100000 in
theorem w_X11_is_0 {p : Program} {l : Launch} {e : Env} {s : State} {m : MethodId} {args : Array Value} {below : List Frame} {meth : Method} {c : Code} {A : Nat → Prop} {E : RE} {q : Int32} (X : CX p s m meth c args cX11_is 4 RX11 (some .boolean)) {w1 : Nat} (hw1 : w1 < 50) : ∀ (σ : Mem)  , m_X11_is w1 σ = some q → ∀ (H : Heap) (locs : List Loc) (ls : Array Slot), WI (vR E) A s H locs σ → lv_has ls 4 [(0, .ref (ra E 0)), (1, .ref (saR E w1))] → W p l e rm_X11_is s m args below meth c H locs 0 0 (MQ below (QI (vR E) A (q, σ)) args s 0 0 A) (F0 m 0 ls []) := by
  have hx := X.1
  have hb := X.2.1
  intro σ  h H locs ls I hl
  unfold m_X11_is at h
  refine lv_aload_n hx hb dX11_is_0 rfl (lv_at hl 0 rfl) ?_
  refine gfR_X11_244 X I dX11_is_1 ?_
  refine lv_if_ne (tgt := 35) hx hb dX11_is_4 (by decide) (fun c1 => ?_) (fun c1 => ?_)
  · have h := ite_f h c1
    refine lv_iconst (v := 0) hx hb dX11_is_35 (by decide) ?_
    refine lv_istore_n (lv' := [(2, .int (0 : Int32)), (0, .ref (ra E 0)), (1, .ref (saR E w1))]) hx hb dX11_is_36 rfl hl (by decide) rfl (fun ls hl => ?_)
    refine lv_iconst (v := 0) hx hb dX11_is_37 (by decide) ?_
    refine lv_istore_n (lv' := [(3, .int (0 : Int32)), (2, .int (0 : Int32)), (0, .ref (ra E 0)), (1, .ref (saR E w1))]) hx hb dX11_is_38 rfl hl (by decide) rfl (fun ls hl => ?_)
    exact w_X11_is_39 X hw1  KF σ (0 : Int32) (0 : Int32) h H locs ls I (lv_sub hl [2, 3, 1, 0] rfl)
  · have h := ite_t h c1
    refine lv_aload_n hx hb dX11_is_7 rfl (lv_at hl 0 rfl) ?_
    refine gfR_X11_218 X I dX11_is_8 ?_
    refine lv_iconst (v := 1) hx hb dX11_is_11 (by decide) ?_
    refine lv_icmp_ne (tgt := 35) hx hb dX11_is_12 (by decide) (fun c2 => ?_) (fun c2 => ?_)
    · have h := ite_f h c2
      refine lv_iconst (v := 0) hx hb dX11_is_35 (by decide) ?_
      refine lv_istore_n (lv' := [(2, .int (0 : Int32)), (0, .ref (ra E 0)), (1, .ref (saR E w1))]) hx hb dX11_is_36 rfl hl (by decide) rfl (fun ls hl => ?_)
      refine lv_iconst (v := 0) hx hb dX11_is_37 (by decide) ?_
      refine lv_istore_n (lv' := [(3, .int (0 : Int32)), (2, .int (0 : Int32)), (0, .ref (ra E 0)), (1, .ref (saR E w1))]) hx hb dX11_is_38 rfl hl (by decide) rfl (fun ls hl => ?_)
      exact w_X11_is_39 X hw1  KF σ (0 : Int32) (0 : Int32) h H locs ls I (lv_sub hl [2, 3, 1, 0] rfl)
    · have h := ite_t h c2
      refine lv_aload_n hx hb dX11_is_15 rfl (lv_at hl 1 rfl) ?_
      refine slenR X I hl hw1 tw_834 ⟨Nat.le_of_ble_eq_true rfl, Nat.le_of_ble_eq_true rfl⟩ (Nat.le_of_ble_eq_true rfl) dX11_is_16 (fun H locs I => ?_)
      refine lv_aload_n hx hb dX11_is_19 rfl (lv_at hl 0 rfl) ?_
      refine gfR_X11_241 X I dX11_is_20 ?_
      refine lv_aload_n hx hb dX11_is_23 rfl (lv_at hl 0 rfl) ?_
      refine gfR_X11_215 X I dX11_is_24 ?_
      refine lv_isub hx hb dX11_is_27 ?_
      refine lv_icmp_ne (tgt := 35) hx hb dX11_is_28 (by decide) (fun c3 => ?_) (fun c3 => ?_)
      · have h := ite_f h c3
        refine lv_iconst (v := 0) hx hb dX11_is_35 (by decide) ?_
        refine lv_istore_n (lv' := [(2, .int (0 : Int32)), (0, .ref (ra E 0)), (1, .ref (saR E w1))]) hx hb dX11_is_36 rfl hl (by decide) rfl (fun ls hl => ?_)
        refine lv_iconst (v := 0) hx hb dX11_is_37 (by decide) ?_
        refine lv_istore_n (lv' := [(3, .int (0 : Int32)), (2, .int (0 : Int32)), (0, .ref (ra E 0)), (1, .ref (saR E w1))]) hx hb dX11_is_38 rfl hl (by decide) rfl (fun ls hl => ?_)
        exact w_X11_is_39 X hw1  KF σ (0 : Int32) (0 : Int32) h H locs ls I (lv_sub hl [2, 3, 1, 0] rfl)
      · have h := ite_t h c3
        refine lv_iconst (v := 1) hx hb dX11_is_31 (by decide) ?_
        refine lv_goto (tgt := 36) hx hb dX11_is_32 (by decide) ?_
        refine lv_istore_n (lv' := [(2, .int (1 : Int32)), (0, .ref (ra E 0)), (1, .ref (saR E w1))]) hx hb dX11_is_36 rfl hl (by decide) rfl (fun ls hl => ?_)
        refine lv_iconst (v := 0) hx hb dX11_is_37 (by decide) ?_
        refine lv_istore_n (lv' := [(3, .int (0 : Int32)), (2, .int (1 : Int32)), (0, .ref (ra E 0)), (1, .ref (saR E w1))]) hx hb dX11_is_38 rfl hl (by decide) rfl (fun ls hl => ?_)
        exact w_X11_is_39 X hw1  KF σ (1 : Int32) (0 : Int32) h H locs ls I (lv_sub hl [2, 3, 1, 0] rfl)
theorem c_X11_is {l : Launch} {E : RE} {w1 : Nat} {σ : Mem} (hw1 : w1 < 50) {q : Int32} (h : m_X11_is w1 σ = some q) : CI l (vR E) yX11_is (.code yX11_is cX11_is 4 (some .boolean) :: GG) rm_X11_is [.ref (ra E 0), .ref (saR E w1)] σ (q, σ) :=
  mk_CI (by decide +kernel) (Nat.le_of_ble_eq_true rfl) (fun p e s m args below meth c A ls X I hl => w_X11_is_0 X hw1 σ  h s.heap [] ls I (lv_sub hl [0, 1] rfl))

def rm_X11_which : Room := { frames := 7, cells := 0, slots := 0, locals := 193 }
def f_X11_which_2 (r1 : Nat) : Nat → Mem → Int32 → Option (Int32)
  | 0, _, _ => none
  | n + 1, σ, x2 => (if (wl r1) ≤ x2 then (some (-1 : Int32)) else (gd x2 (wn r1) ((m_X11_is (wd r1 (Int32.toNatClampNeg x2)) σ).bind fun q2 => (if q2 = (0 : Int32) then f_X11_which_2 r1 n σ (x2 + 1) else (some x2)))))
def m_X11_which (r1 : Nat) (σ : Mem) : Option (Int32) := (f_X11_which_2 r1 KF σ (0 : Int32))
set_option maxHeartbeats 4000000 in
set_option maxRecDepth 100000 in
theorem w_X11_which_2 {p : Program} {l : Launch} {e : Env} {s : State} {m : MethodId} {args : Array Value} {below : List Frame} {meth : Method} {c : Code} {A : Nat → Prop} {E : RE} {q : Int32} (X : CX p s m meth c args cX11_which 3 RX11 (some .int)) {r1 : Nat} (hr1 : KRs E r1) : ∀ (n : Nat), ∀ (σ : Mem) (x2 : Int32) , f_X11_which_2 r1 n σ x2 = some q → ∀ (H : Heap) (locs : List Loc) (ls : Array Slot), WI (vR E) A s H locs σ → lv_has ls 3 [(0, .ref (ra E 0)), (1, .ref (ra E r1)), (2, .int x2)] → W p l e rm_X11_which s m args below meth c H locs 0 0 (MQ below (QI (vR E) A (q, σ)) args s 0 0 A) (F0 m 2 ls []) := by
  have hx := X.1
  have hb := X.2.1
  intro n
  induction n with
  | zero =>
    intro σ x2 h
    cases h
  | succ n ih =>
    intro σ x2 h H locs ls I hl
    rw [f_X11_which_2] at h
    refine lv_iload_n hx hb dX11_which_2 rfl (lv_at hl 2 rfl) ?_
    refine lv_aload_n hx hb dX11_which_3 rfl (lv_at hl 1 rfl) ?_
    refine alenSR X I hr1 dX11_which_4 ?_
    refine lv_icmp_ge (tgt := 26) hx hb dX11_which_5 (by decide) (fun c1 => ?_) (fun c1 => ?_)
    · have h := ite_t h c1
      refine lv_iconst (v := -1) hx hb dX11_which_26 (by decide) ?_
      exact r_iret X I (congrArg (fun z => (z, σ)) (Option.some.inj h).symm) dX11_which_27
    · have h := ite_f h c1
      refine lv_aload_n hx hb dX11_which_8 rfl (lv_at hl 0 rfl) ?_
      refine lv_aload_n hx hb dX11_which_9 rfl (lv_at hl 1 rfl) ?_
      refine lv_iload_n hx hb dX11_which_10 rfl (lv_at hl 2 rfl) ?_
      obtain ⟨hin, h⟩ := gd_some h
      refine aaldR X I hr1 hin dX11_which_11 ?_
      obtain ⟨q2, hq2, h⟩ := bd h
      refine r_callVI (V := (vR E)) (k := 0) (As := [.ref (saR E (wd r1 (Int32.toNatClampNeg x2)))]) (rest := []) X I hl (c_X11_is (wd_lt _ _) hq2) yv_X11_is tw_836 ⟨rfl, rfl, Nat.le_of_ble_eq_true rfl, Nat.le_of_ble_eq_true rfl⟩ (Nat.le_of_ble_eq_true rfl) rfl rfl rfl rfl (Nat.le_of_ble_eq_true rfl) dX11_which_12 (fun H locs I => ?_)
      refine lv_if_eq (tgt := 20) hx hb dX11_which_15 (by decide) (fun c3 => ?_) (fun c3 => ?_)
      · have h := ite_t h c3
        refine lv_iinc (v := (x2 + 1)) (lv' := [(2, .int (x2 + 1)), (0, .ref (ra E 0)), (1, .ref (ra E r1))]) hx hb dX11_which_20 hl (k := 2) rfl rfl (by decide) rfl (fun ls hl => ?_)
        refine lv_goto (tgt := 2) hx hb dX11_which_23 (by decide) ?_
        exact ih σ (x2 + 1) h H locs ls I (lv_sub hl [1, 2, 0] rfl)
      · have h := ite_f h c3
        refine lv_iload_n hx hb dX11_which_18 rfl (lv_at hl 2 rfl) ?_
        exact r_iret X I (congrArg (fun z => (z, σ)) (Option.some.inj h).symm) dX11_which_19
set_option maxHeartbeats 4000000 in
set_option maxRecDepth 100000 in
theorem w_X11_which_0 {p : Program} {l : Launch} {e : Env} {s : State} {m : MethodId} {args : Array Value} {below : List Frame} {meth : Method} {c : Code} {A : Nat → Prop} {E : RE} {q : Int32} (X : CX p s m meth c args cX11_which 3 RX11 (some .int)) {r1 : Nat} (hr1 : KRs E r1) : ∀ (σ : Mem)  , m_X11_which r1 σ = some q → ∀ (H : Heap) (locs : List Loc) (ls : Array Slot), WI (vR E) A s H locs σ → lv_has ls 3 [(0, .ref (ra E 0)), (1, .ref (ra E r1))] → W p l e rm_X11_which s m args below meth c H locs 0 0 (MQ below (QI (vR E) A (q, σ)) args s 0 0 A) (F0 m 0 ls []) := by
  have hx := X.1
  have hb := X.2.1
  intro σ  h H locs ls I hl
  unfold m_X11_which at h
  refine lv_iconst (v := 0) hx hb dX11_which_0 (by decide) ?_
  refine lv_istore_n (lv' := [(2, .int (0 : Int32)), (0, .ref (ra E 0)), (1, .ref (ra E r1))]) hx hb dX11_which_1 rfl hl (by decide) rfl (fun ls hl => ?_)
  exact w_X11_which_2 X hr1  KF σ (0 : Int32) h H locs ls I (lv_sub hl [1, 2, 0] rfl)
theorem c_X11_which {l : Launch} {E : RE} {r1 : Nat} {σ : Mem} (hr1 : KRs E r1) {q : Int32} (h : m_X11_which r1 σ = some q) : CI l (vR E) yX11_which (.code yX11_which cX11_which 3 (some .int) :: GG) rm_X11_which [.ref (ra E 0), .ref (ra E r1)] σ (q, σ) :=
  mk_CI (by decide +kernel) (Nat.le_of_ble_eq_true rfl) (fun p e s m args below meth c A ls X I hl => w_X11_which_0 X hr1 σ  h s.heap [] ls I (lv_sub hl [0, 1] rfl))

def rm_X11_isMarked : Room := { frames := 1, cells := 0, slots := 0, locals := 64 }
def m_X11_isMarked (σ : Mem) (x1 : Int32) : Option (Int32) := (if (σ 0 28) = (0 : Int32) then (if (σ 0 24) = (3 : Int32) then (gd (σ 0 26) 700 (if (σ 19 (Int32.toNatClampNeg (σ 0 26))) = x1 then (some (1 : Int32)) else (some (0 : Int32)))) else (some (0 : Int32))) else (some (0 : Int32)))
set_option maxHeartbeats 4000000 in
set_option maxRecDepth 100000 in
theorem w_X11_isMarked_0 {p : Program} {l : Launch} {e : Env} {s : State} {m : MethodId} {args : Array Value} {below : List Frame} {meth : Method} {c : Code} {A : Nat → Prop} {E : RE} {q : Int32} (X : CX p s m meth c args cX11_isMarked 2 RX11 (some .boolean)) : ∀ (σ : Mem) (x1 : Int32) , m_X11_isMarked σ x1 = some q → ∀ (H : Heap) (locs : List Loc) (ls : Array Slot), WI (vR E) A s H locs σ → lv_has ls 2 [(0, .ref (ra E 0)), (1, .int x1)] → W p l e rm_X11_isMarked s m args below meth c H locs 0 0 (MQ below (QI (vR E) A (q, σ)) args s 0 0 A) (F0 m 0 ls []) := by
  have hx := X.1
  have hb := X.2.1
  intro σ x1 h H locs ls I hl
  unfold m_X11_isMarked at h
  refine lv_aload_n hx hb dX11_isMarked_0 rfl (lv_at hl 0 rfl) ?_
  refine gfR_X11_244 X I dX11_isMarked_1 ?_
  refine lv_if_ne (tgt := 32) hx hb dX11_isMarked_4 (by decide) (fun c1 => ?_) (fun c1 => ?_)
  · have h := ite_f h c1
    refine lv_iconst (v := 0) hx hb dX11_isMarked_32 (by decide) ?_
    exact r_zret X I (congrArg (fun z => (z, σ)) (Option.some.inj h).symm) rfl dX11_isMarked_33
  · have h := ite_t h c1
    refine lv_aload_n hx hb dX11_isMarked_7 rfl (lv_at hl 0 rfl) ?_
    refine gfR_X11_218 X I dX11_isMarked_8 ?_
    refine lv_iconst (v := 3) hx hb dX11_isMarked_11 (by decide) ?_
    refine lv_icmp_ne (tgt := 32) hx hb dX11_isMarked_12 (by decide) (fun c2 => ?_) (fun c2 => ?_)
    · have h := ite_f h c2
      refine lv_iconst (v := 0) hx hb dX11_isMarked_32 (by decide) ?_
      exact r_zret X I (congrArg (fun z => (z, σ)) (Option.some.inj h).symm) rfl dX11_isMarked_33
    · have h := ite_t h c2
      refine lv_aload_n hx hb dX11_isMarked_15 rfl (lv_at hl 0 rfl) ?_
      refine gfR_X11_95 X I dX11_isMarked_16 ?_
      refine lv_aload_n hx hb dX11_isMarked_19 rfl (lv_at hl 0 rfl) ?_
      refine gfR_X11_215 X I dX11_isMarked_20 ?_
      obtain ⟨hin, h⟩ := gd_some h
      refine ialdR X I (kR_19 E) hin dX11_isMarked_23 ?_
      refine lv_iload_n hx hb dX11_isMarked_24 rfl (lv_at hl 1 rfl) ?_
      refine lv_icmp_ne (tgt := 32) hx hb dX11_isMarked_25 (by decide) (fun c3 => ?_) (fun c3 => ?_)
      · have h := ite_f h c3
        refine lv_iconst (v := 0) hx hb dX11_isMarked_32 (by decide) ?_
        exact r_zret X I (congrArg (fun z => (z, σ)) (Option.some.inj h).symm) rfl dX11_isMarked_33
      · have h := ite_t h c3
        refine lv_iconst (v := 1) hx hb dX11_isMarked_28 (by decide) ?_
        refine lv_goto (tgt := 33) hx hb dX11_isMarked_29 (by decide) ?_
        exact r_zret X I (congrArg (fun z => (z, σ)) (Option.some.inj h).symm) rfl dX11_isMarked_33
theorem c_X11_isMarked {l : Launch} {E : RE} {σ : Mem} {x1 : Int32} {q : Int32} (h : m_X11_isMarked σ x1 = some q) : CI l (vR E) yX11_isMarked (.code yX11_isMarked cX11_isMarked 2 (some .boolean) :: GG) rm_X11_isMarked [.ref (ra E 0), .int x1] σ (q, σ) :=
  mk_CI (by decide +kernel) (Nat.le_of_ble_eq_true rfl) (fun p e s m args below meth c A ls X I hl => w_X11_isMarked_0 X  σ x1 h s.heap [] ls I (lv_sub hl [0, 1] rfl))

def rm_X11_mark : Room := { frames := 3, cells := 0, slots := 0, locals := 106 }
def m_X11_mark (σ : Mem) (x1 : Int32) : Option (Mem) := (if (σ 0 28) = (0 : Int32) then ((m_X11_isMarked σ x1).bind fun q4 => (if q4 = (0 : Int32) then ((m_X11_wrong σ (1 : Int32)).bind fun q8 => (if (q8 0 28) = (0 : Int32) then ((m_X11_stepOn q8).bind fun q10 => (some q10)) else (some q8))) else (if (σ 0 28) = (0 : Int32) then ((m_X11_stepOn σ).bind fun q7 => (some q7)) else (some σ)))) else (if (σ 0 28) = (0 : Int32) then ((m_X11_stepOn σ).bind fun q3 => (some q3)) else (some σ)))
set_option maxHeartbeats 4000000 in
set_option maxRecDepth 100000 in
theorem w_X11_mark_0 {p : Program} {l : Launch} {e : Env} {s : State} {m : MethodId} {args : Array Value} {below : List Frame} {meth : Method} {c : Code} {A : Nat → Prop} {E : RE} {q : Mem} (X : CX p s m meth c args cX11_mark 2 RX11 none) : ∀ (σ : Mem) (x1 : Int32) , m_X11_mark σ x1 = some q → ∀ (H : Heap) (locs : List Loc) (ls : Array Slot), WI (vR E) A s H locs σ → lv_has ls 2 [(0, .ref (ra E 0)), (1, .int x1)] → W p l e rm_X11_mark s m args below meth c H locs 0 0 (MQ below (QV (vR E) A q) args s 0 0 A) (F0 m 0 ls []) := by
  have hx := X.1
  have hb := X.2.1
  intro σ x1 h H locs ls I hl
  unfold m_X11_mark at h
  refine lv_aload_n hx hb dX11_mark_0 rfl (lv_at hl 0 rfl) ?_
  refine gfR_X11_244 X I dX11_mark_1 ?_
  refine lv_if_ne (tgt := 20) hx hb dX11_mark_4 (by decide) (fun c1 => ?_) (fun c1 => ?_)
  · have h := ite_f h c1
    refine lv_aload_n hx hb dX11_mark_20 rfl (lv_at hl 0 rfl) ?_
    refine gfR_X11_244 X I dX11_mark_21 ?_
    refine lv_if_ne (tgt := 31) hx hb dX11_mark_24 (by decide) (fun c2 => ?_) (fun c2 => ?_)
    · have h := ite_f h c2
      exact r_vret X I (Option.some.inj h).symm dX11_mark_31
    · have h := ite_t h c2
      refine lv_aload_n hx hb dX11_mark_27 rfl (lv_at hl 0 rfl) ?_
      obtain ⟨q3, hq3, h⟩ := bd h
      refine r_callVV (V := (vR E)) (k := 0) (As := []) (rest := []) X I hl (c_X11_stepOn  hq3) yv_X11_stepOn tw_841 ⟨rfl, rfl, Nat.le_of_ble_eq_true rfl, Nat.le_of_ble_eq_true rfl⟩ (Nat.le_of_ble_eq_true rfl) rfl rfl rfl rfl (Nat.le_of_ble_eq_true rfl) dX11_mark_28 (fun H locs I => ?_)
      exact r_vret X I (Option.some.inj h).symm dX11_mark_31
  · have h := ite_t h c1
    refine lv_aload_n hx hb dX11_mark_7 rfl (lv_at hl 0 rfl) ?_
    refine lv_iload_n hx hb dX11_mark_8 rfl (lv_at hl 1 rfl) ?_
    obtain ⟨q4, hq4, h⟩ := bd h
    refine r_callVI (V := (vR E)) (k := 0) (As := [.int x1]) (rest := []) X I hl (c_X11_isMarked  hq4) yv_X11_isMarked tw_846 ⟨rfl, rfl, Nat.le_of_ble_eq_true rfl, Nat.le_of_ble_eq_true rfl⟩ (Nat.le_of_ble_eq_true rfl) rfl rfl rfl rfl (Nat.le_of_ble_eq_true rfl) dX11_mark_9 (fun H locs I => ?_)
    refine lv_if_ne (tgt := 20) hx hb dX11_mark_12 (by decide) (fun c5 => ?_) (fun c5 => ?_)
    · have h := ite_f h c5
      refine lv_aload_n hx hb dX11_mark_20 rfl (lv_at hl 0 rfl) ?_
      refine gfR_X11_244 X I dX11_mark_21 ?_
      refine lv_if_ne (tgt := 31) hx hb dX11_mark_24 (by decide) (fun c6 => ?_) (fun c6 => ?_)
      · have h := ite_f h c6
        exact r_vret X I (Option.some.inj h).symm dX11_mark_31
      · have h := ite_t h c6
        refine lv_aload_n hx hb dX11_mark_27 rfl (lv_at hl 0 rfl) ?_
        obtain ⟨q7, hq7, h⟩ := bd h
        refine r_callVV (V := (vR E)) (k := 0) (As := []) (rest := []) X I hl (c_X11_stepOn  hq7) yv_X11_stepOn tw_841 ⟨rfl, rfl, Nat.le_of_ble_eq_true rfl, Nat.le_of_ble_eq_true rfl⟩ (Nat.le_of_ble_eq_true rfl) rfl rfl rfl rfl (Nat.le_of_ble_eq_true rfl) dX11_mark_28 (fun H locs I => ?_)
        exact r_vret X I (Option.some.inj h).symm dX11_mark_31
    · have h := ite_t h c5
      refine lv_aload_n hx hb dX11_mark_15 rfl (lv_at hl 0 rfl) ?_
      refine lv_iconst (v := 1) hx hb dX11_mark_16 (by decide) ?_
      obtain ⟨q8, hq8, h⟩ := bd h
      refine r_callVV (V := (vR E)) (k := 0) (As := [.int (1 : Int32)]) (rest := []) X I hl (c_X11_wrong  hq8) yv_X11_wrong tw_851 ⟨rfl, rfl, Nat.le_of_ble_eq_true rfl, Nat.le_of_ble_eq_true rfl⟩ (Nat.le_of_ble_eq_true rfl) rfl rfl rfl rfl (Nat.le_of_ble_eq_true rfl) dX11_mark_17 (fun H locs I => ?_)
      refine lv_aload_n hx hb dX11_mark_20 rfl (lv_at hl 0 rfl) ?_
      refine gfR_X11_244 X I dX11_mark_21 ?_
      refine lv_if_ne (tgt := 31) hx hb dX11_mark_24 (by decide) (fun c9 => ?_) (fun c9 => ?_)
      · have h := ite_f h c9
        exact r_vret X I (Option.some.inj h).symm dX11_mark_31
      · have h := ite_t h c9
        refine lv_aload_n hx hb dX11_mark_27 rfl (lv_at hl 0 rfl) ?_
        obtain ⟨q10, hq10, h⟩ := bd h
        refine r_callVV (V := (vR E)) (k := 0) (As := []) (rest := []) X I hl (c_X11_stepOn  hq10) yv_X11_stepOn tw_841 ⟨rfl, rfl, Nat.le_of_ble_eq_true rfl, Nat.le_of_ble_eq_true rfl⟩ (Nat.le_of_ble_eq_true rfl) rfl rfl rfl rfl (Nat.le_of_ble_eq_true rfl) dX11_mark_28 (fun H locs I => ?_)
        exact r_vret X I (Option.some.inj h).symm dX11_mark_31
theorem c_X11_mark {l : Launch} {E : RE} {σ : Mem} {x1 : Int32} {q : Mem} (h : m_X11_mark σ x1 = some q) : CV l (vR E) yX11_mark (.code yX11_mark cX11_mark 2 none :: GG) rm_X11_mark [.ref (ra E 0), .int x1] σ q :=
  mk_CV (by decide +kernel) (Nat.le_of_ble_eq_true rfl) (fun p e s m args below meth c A ls X I hl => w_X11_mark_0 X  σ x1 h s.heap [] ls I (lv_sub hl [0, 1] rfl))

def rm_X11_readNumber : Room := { frames := 3, cells := 0, slots := 0, locals := 106 }
def f_X11_readNumber_59 (σ : Mem) : Option (Int32 × Mem) := (if (σ 0 28) = (0 : Int32) then (lt (σ 0 25) fun y4 => (if (σ 0 28) = (0 : Int32) then ((m_X11_stepOn σ).bind fun q6 => (some (y4, q6))) else (some (y4, σ)))) else (if (σ 0 28) = (0 : Int32) then ((m_X11_stepOn σ).bind fun q3 => (some ((0 : Int32), q3))) else (some ((0 : Int32), σ))))
def m_X11_readNumber (σ : Mem) (x1 : Int32) (x2 : Int32) : Option (Int32 × Mem) := (if (σ 0 28) = (0 : Int32) then (if (σ 0 24) = (2 : Int32) then (if (4 : Int32) < ((σ 0 27) - (σ 0 26)) then ((m_X11_wrong σ (2 : Int32)).bind fun q4 => (f_X11_readNumber_59 q4)) else (if (σ 0 25) < x1 then ((m_X11_wrong σ (2 : Int32)).bind fun q6 => (f_X11_readNumber_59 q6)) else (if (σ 0 25) ≤ x2 then (f_X11_readNumber_59 σ) else ((m_X11_wrong σ (2 : Int32)).bind fun q8 => (f_X11_readNumber_59 q8))))) else ((m_X11_wrong σ (1 : Int32)).bind fun q9 => (f_X11_readNumber_59 q9))) else (some ((0 : Int32), σ)))
set_option maxHeartbeats 4000000 in
set_option maxRecDepth 100000 in
theorem w_X11_readNumber_59 {p : Program} {l : Launch} {e : Env} {s : State} {m : MethodId} {args : Array Value} {below : List Frame} {meth : Method} {c : Code} {A : Nat → Prop} {E : RE} {q : Int32 × Mem} (X : CX p s m meth c args cX11_readNumber 4 RX11 (some .int)) : ∀ (σ : Mem)  , f_X11_readNumber_59 σ = some q → ∀ (H : Heap) (locs : List Loc) (ls : Array Slot), WI (vR E) A s H locs σ → lv_has ls 4 [(0, .ref (ra E 0))] → W p l e rm_X11_readNumber s m args below meth c H locs 0 0 (MQ below (QI (vR E) A q) args s 0 0 A) (F0 m 59 ls []) := by
  have hx := X.1
  have hb := X.2.1
  intro σ  h H locs ls I hl
  unfold f_X11_readNumber_59 at h
  refine lv_aload_n hx hb dX11_readNumber_59 rfl (lv_at hl 0 rfl) ?_
  refine gfR_X11_244 X I dX11_readNumber_60 ?_
  refine lv_if_ne (tgt := 73) hx hb dX11_readNumber_63 (by decide) (fun c1 => ?_) (fun c1 => ?_)
  · have h := ite_f h c1
    refine lv_iconst (v := 0) hx hb dX11_readNumber_73 (by decide) ?_
    refine lv_istore_n (lv' := [(3, .int (0 : Int32)), (0, .ref (ra E 0))]) hx hb dX11_readNumber_74 rfl hl (by decide) rfl (fun ls hl => ?_)
    refine lv_aload_n hx hb dX11_readNumber_75 rfl (lv_at hl 1 rfl) ?_
    refine gfR_X11_244 X I dX11_readNumber_76 ?_
    refine lv_if_ne (tgt := 86) hx hb dX11_readNumber_79 (by decide) (fun c2 => ?_) (fun c2 => ?_)
    · have h := ite_f h c2
      refine lv_iload_n hx hb dX11_readNumber_86 rfl (lv_at hl 0 rfl) ?_
      exact r_iret X I (Option.some.inj h).symm dX11_readNumber_87
    · have h := ite_t h c2
      refine lv_aload_n hx hb dX11_readNumber_82 rfl (lv_at hl 1 rfl) ?_
      obtain ⟨q3, hq3, h⟩ := bd h
      refine r_callVV (V := (vR E)) (k := 0) (As := []) (rest := []) X I hl (c_X11_stepOn  hq3) yv_X11_stepOn tw_841 ⟨rfl, rfl, Nat.le_of_ble_eq_true rfl, Nat.le_of_ble_eq_true rfl⟩ (Nat.le_of_ble_eq_true rfl) rfl rfl rfl rfl (Nat.le_of_ble_eq_true rfl) dX11_readNumber_83 (fun H locs I => ?_)
      refine lv_iload_n hx hb dX11_readNumber_86 rfl (lv_at hl 0 rfl) ?_
      exact r_iret X I (Option.some.inj h).symm dX11_readNumber_87
  · have h := ite_t h c1
    refine lv_aload_n hx hb dX11_readNumber_66 rfl (lv_at hl 0 rfl) ?_
    refine gfR_X11_228 X I dX11_readNumber_67 ?_
    refine lv_goto (tgt := 74) hx hb dX11_readNumber_70 (by decide) ?_
    obtain ⟨y4, ey4, h⟩ := lt_e h
    refine nm_i ey4 ?_
    refine lv_istore_n (lv' := [(3, .int y4), (0, .ref (ra E 0))]) hx hb dX11_readNumber_74 rfl hl (by decide) rfl (fun ls hl => ?_)
    refine lv_aload_n hx hb dX11_readNumber_75 rfl (lv_at hl 1 rfl) ?_
    refine gfR_X11_244 X I dX11_readNumber_76 ?_
    refine lv_if_ne (tgt := 86) hx hb dX11_readNumber_79 (by decide) (fun c5 => ?_) (fun c5 => ?_)
    · have h := ite_f h c5
      refine lv_iload_n hx hb dX11_readNumber_86 rfl (lv_at hl 0 rfl) ?_
      exact r_iret X I (Option.some.inj h).symm dX11_readNumber_87
    · have h := ite_t h c5
      refine lv_aload_n hx hb dX11_readNumber_82 rfl (lv_at hl 1 rfl) ?_
      obtain ⟨q6, hq6, h⟩ := bd h
      refine r_callVV (V := (vR E)) (k := 0) (As := []) (rest := []) X I hl (c_X11_stepOn  hq6) yv_X11_stepOn tw_841 ⟨rfl, rfl, Nat.le_of_ble_eq_true rfl, Nat.le_of_ble_eq_true rfl⟩ (Nat.le_of_ble_eq_true rfl) rfl rfl rfl rfl (Nat.le_of_ble_eq_true rfl) dX11_readNumber_83 (fun H locs I => ?_)
      refine lv_iload_n hx hb dX11_readNumber_86 rfl (lv_at hl 0 rfl) ?_
      exact r_iret X I (Option.some.inj h).symm dX11_readNumber_87
set_option maxHeartbeats 4000000 in
set_option maxRecDepth 100000 in
theorem w_X11_readNumber_0 {p : Program} {l : Launch} {e : Env} {s : State} {m : MethodId} {args : Array Value} {below : List Frame} {meth : Method} {c : Code} {A : Nat → Prop} {E : RE} {q : Int32 × Mem} (X : CX p s m meth c args cX11_readNumber 4 RX11 (some .int)) : ∀ (σ : Mem) (x1 : Int32) (x2 : Int32) , m_X11_readNumber σ x1 x2 = some q → ∀ (H : Heap) (locs : List Loc) (ls : Array Slot), WI (vR E) A s H locs σ → lv_has ls 4 [(0, .ref (ra E 0)), (1, .int x1), (2, .int x2)] → W p l e rm_X11_readNumber s m args below meth c H locs 0 0 (MQ below (QI (vR E) A q) args s 0 0 A) (F0 m 0 ls []) := by
  have hx := X.1
  have hb := X.2.1
  intro σ x1 x2 h H locs ls I hl
  unfold m_X11_readNumber at h
  refine lv_aload_n hx hb dX11_readNumber_0 rfl (lv_at hl 0 rfl) ?_
  refine gfR_X11_244 X I dX11_readNumber_1 ?_
  refine lv_if_eq (tgt := 9) hx hb dX11_readNumber_4 (by decide) (fun c1 => ?_) (fun c1 => ?_)
  · have h := ite_t h c1
    refine lv_aload_n hx hb dX11_readNumber_9 rfl (lv_at hl 0 rfl) ?_
    refine gfR_X11_218 X I dX11_readNumber_10 ?_
    refine lv_iconst (v := 2) hx hb dX11_readNumber_13 (by decide) ?_
    refine lv_icmp_eq (tgt := 25) hx hb dX11_readNumber_14 (by decide) (fun c2 => ?_) (fun c2 => ?_)
    · have h := ite_t h c2
      refine lv_aload_n hx hb dX11_readNumber_25 rfl (lv_at hl 0 rfl) ?_
      refine gfR_X11_241 X I dX11_readNumber_26 ?_
      refine lv_aload_n hx hb dX11_readNumber_29 rfl (lv_at hl 0 rfl) ?_
      refine gfR_X11_215 X I dX11_readNumber_30 ?_
      refine lv_isub hx hb dX11_readNumber_33 ?_
      refine lv_iconst (v := 4) hx hb dX11_readNumber_34 (by decide) ?_
      refine lv_icmp_gt (tgt := 54) hx hb dX11_readNumber_35 (by decide) (fun c3 => ?_) (fun c3 => ?_)
      · have h := ite_t h c3
        refine lv_aload_n hx hb dX11_readNumber_54 rfl (lv_at hl 0 rfl) ?_
        refine lv_iconst (v := 2) hx hb dX11_readNumber_55 (by decide) ?_
        obtain ⟨q4, hq4, h⟩ := bd h
        refine r_callVV (V := (vR E)) (k := 0) (As := [.int (2 : Int32)]) (rest := []) X I hl (c_X11_wrong  hq4) yv_X11_wrong tw_851 ⟨rfl, rfl, Nat.le_of_ble_eq_true rfl, Nat.le_of_ble_eq_true rfl⟩ (Nat.le_of_ble_eq_true rfl) rfl rfl rfl rfl (Nat.le_of_ble_eq_true rfl) dX11_readNumber_56 (fun H locs I => ?_)
        exact w_X11_readNumber_59 X   q4 h H locs ls I (lv_sub hl [0] rfl)
      · have h := ite_f h c3
        refine lv_aload_n hx hb dX11_readNumber_38 rfl (lv_at hl 0 rfl) ?_
        refine gfR_X11_228 X I dX11_readNumber_39 ?_
        refine lv_iload_n hx hb dX11_readNumber_42 rfl (lv_at hl 1 rfl) ?_
        refine lv_icmp_lt (tgt := 54) hx hb dX11_readNumber_43 (by decide) (fun c5 => ?_) (fun c5 => ?_)
        · have h := ite_t h c5
          refine lv_aload_n hx hb dX11_readNumber_54 rfl (lv_at hl 0 rfl) ?_
          refine lv_iconst (v := 2) hx hb dX11_readNumber_55 (by decide) ?_
          obtain ⟨q6, hq6, h⟩ := bd h
          refine r_callVV (V := (vR E)) (k := 0) (As := [.int (2 : Int32)]) (rest := []) X I hl (c_X11_wrong  hq6) yv_X11_wrong tw_851 ⟨rfl, rfl, Nat.le_of_ble_eq_true rfl, Nat.le_of_ble_eq_true rfl⟩ (Nat.le_of_ble_eq_true rfl) rfl rfl rfl rfl (Nat.le_of_ble_eq_true rfl) dX11_readNumber_56 (fun H locs I => ?_)
          exact w_X11_readNumber_59 X   q6 h H locs ls I (lv_sub hl [0] rfl)
        · have h := ite_f h c5
          refine lv_aload_n hx hb dX11_readNumber_46 rfl (lv_at hl 0 rfl) ?_
          refine gfR_X11_228 X I dX11_readNumber_47 ?_
          refine lv_iload_n hx hb dX11_readNumber_50 rfl (lv_at hl 2 rfl) ?_
          refine lv_icmp_le (tgt := 59) hx hb dX11_readNumber_51 (by decide) (fun c7 => ?_) (fun c7 => ?_)
          · have h := ite_t h c7
            exact w_X11_readNumber_59 X   σ h H locs ls I (lv_sub hl [0] rfl)
          · have h := ite_f h c7
            refine lv_aload_n hx hb dX11_readNumber_54 rfl (lv_at hl 0 rfl) ?_
            refine lv_iconst (v := 2) hx hb dX11_readNumber_55 (by decide) ?_
            obtain ⟨q8, hq8, h⟩ := bd h
            refine r_callVV (V := (vR E)) (k := 0) (As := [.int (2 : Int32)]) (rest := []) X I hl (c_X11_wrong  hq8) yv_X11_wrong tw_851 ⟨rfl, rfl, Nat.le_of_ble_eq_true rfl, Nat.le_of_ble_eq_true rfl⟩ (Nat.le_of_ble_eq_true rfl) rfl rfl rfl rfl (Nat.le_of_ble_eq_true rfl) dX11_readNumber_56 (fun H locs I => ?_)
            exact w_X11_readNumber_59 X   q8 h H locs ls I (lv_sub hl [0] rfl)
    · have h := ite_f h c2
      refine lv_aload_n hx hb dX11_readNumber_17 rfl (lv_at hl 0 rfl) ?_
      refine lv_iconst (v := 1) hx hb dX11_readNumber_18 (by decide) ?_
      obtain ⟨q9, hq9, h⟩ := bd h
      refine r_callVV (V := (vR E)) (k := 0) (As := [.int (1 : Int32)]) (rest := []) X I hl (c_X11_wrong  hq9) yv_X11_wrong tw_851 ⟨rfl, rfl, Nat.le_of_ble_eq_true rfl, Nat.le_of_ble_eq_true rfl⟩ (Nat.le_of_ble_eq_true rfl) rfl rfl rfl rfl (Nat.le_of_ble_eq_true rfl) dX11_readNumber_19 (fun H locs I => ?_)
      refine lv_goto (tgt := 59) hx hb dX11_readNumber_22 (by decide) ?_
      exact w_X11_readNumber_59 X   q9 h H locs ls I (lv_sub hl [0] rfl)
  · have h := ite_f h c1
    refine lv_iconst (v := 0) hx hb dX11_readNumber_7 (by decide) ?_
    exact r_iret X I (Option.some.inj h).symm dX11_readNumber_8
theorem c_X11_readNumber {l : Launch} {E : RE} {σ : Mem} {x1 : Int32} {x2 : Int32} {q : Int32 × Mem} (h : m_X11_readNumber σ x1 x2 = some q) : CI l (vR E) yX11_readNumber (.code yX11_readNumber cX11_readNumber 4 (some .int) :: GG) rm_X11_readNumber [.ref (ra E 0), .int x1, .int x2] σ q :=
  mk_CI (by decide +kernel) (Nat.le_of_ble_eq_true rfl) (fun p e s m args below meth c A ls X I hl => w_X11_readNumber_0 X  σ x1 x2 h s.heap [] ls I (lv_sub hl [0, 1, 2] rfl))

def rm_X11_lay : Room := { frames := 1, cells := 0, slots := 0, locals := 64 }
def f_X11_lay_21 (σ : Mem) (x1 : Int32) (z0 : Int32) (z1 : Int32) : Option (Mem) := (lt (z0 + z1) fun y1 => (if (σ 0 31) = (0 : Int32) then (gd y1 10 (gd ((700 : Int32) + (σ 5 (Int32.toNatClampNeg y1))) 1400 (lt (ms σ 16 (Int32.toNatClampNeg ((700 : Int32) + (σ 5 (Int32.toNatClampNeg y1)))) (x1)) fun σ3 => (gd y1 10 (gd y1 10 (lt (ms σ3 5 (Int32.toNatClampNeg y1) (((σ3 5 (Int32.toNatClampNeg y1)) + (1 : Int32)))) fun σ4 => (some σ4))))))) else (gd y1 10 (gd ((700 : Int32) + (σ 5 (Int32.toNatClampNeg y1))) 1400 (lt (ms σ 17 (Int32.toNatClampNeg ((700 : Int32) + (σ 5 (Int32.toNatClampNeg y1)))) (x1)) fun σ5 => (gd y1 10 (gd y1 10 (lt (ms σ5 5 (Int32.toNatClampNeg y1) (((σ5 5 (Int32.toNatClampNeg y1)) + (1 : Int32)))) fun σ6 => (some σ6)))))))))
def m_X11_lay (σ : Mem) (x1 : Int32) : Option (Mem) := (if (σ 0 28) = (0 : Int32) then (if (σ 0 31) = (0 : Int32) then (f_X11_lay_21 σ x1 (5 : Int32) (3 : Int32)) else (f_X11_lay_21 σ x1 (5 : Int32) (4 : Int32))) else (some σ))
set_option maxHeartbeats 4000000 in
set_option maxRecDepth 100000 in
theorem w_X11_lay_21 {p : Program} {l : Launch} {e : Env} {s : State} {m : MethodId} {args : Array Value} {below : List Frame} {meth : Method} {c : Code} {A : Nat → Prop} {E : RE} {q : Mem} (X : CX p s m meth c args cX11_lay 4 RX11 none) : ∀ (σ : Mem) (x1 : Int32) (z0 : Int32) (z1 : Int32), f_X11_lay_21 σ x1 z0 z1 = some q → ∀ (H : Heap) (locs : List Loc) (ls : Array Slot), WI (vR E) A s H locs σ → lv_has ls 4 [(0, .ref (ra E 0)), (1, .int x1)] → W p l e rm_X11_lay s m args below meth c H locs 0 0 (MQ below (QV (vR E) A q) args s 0 0 A) (F0 m 21 ls [.int z1, .int z0]) := by
  have hx := X.1
  have hb := X.2.1
  intro σ x1 z0 z1 h H locs ls I hl
  unfold f_X11_lay_21 at h
  refine lv_iadd hx hb dX11_lay_21 ?_
  obtain ⟨y1, ey1, h⟩ := lt_e h
  refine nm_i ey1 ?_
  refine lv_istore_n (lv' := [(2, .int y1), (0, .ref (ra E 0)), (1, .int x1)]) hx hb dX11_lay_22 rfl hl (by decide) rfl (fun ls hl => ?_)
  refine lv_aload_n hx hb dX11_lay_23 rfl (lv_at hl 1 rfl) ?_
  refine gfR_X11_272 X I dX11_lay_24 ?_
  refine lv_if_eq (tgt := 37) hx hb dX11_lay_27 (by decide) (fun c2 => ?_) (fun c2 => ?_)
  · have h := ite_t h c2
    refine lv_aload_n hx hb dX11_lay_37 rfl (lv_at hl 1 rfl) ?_
    refine gfR_X11_86 X I dX11_lay_38 ?_
    refine lv_astore_n (lv' := [(3, .ref (ra E 16)), (2, .int y1), (0, .ref (ra E 0)), (1, .int x1)]) hx hb dX11_lay_41 rfl hl (by decide) rfl (fun ls hl => ?_)
    refine lv_aload_n hx hb dX11_lay_42 rfl (lv_at hl 0 rfl) ?_
    refine lv_sipush (v := 700) hx hb dX11_lay_43 (by decide) ?_
    refine lv_aload_n hx hb dX11_lay_46 rfl (lv_at hl 2 rfl) ?_
    refine gfR_X11_55 X I dX11_lay_47 ?_
    refine lv_iload_n hx hb dX11_lay_50 rfl (lv_at hl 1 rfl) ?_
    obtain ⟨hin, h⟩ := gd_some h
    refine ialdR X I (kR_5 E) hin dX11_lay_51 ?_
    refine lv_iadd hx hb dX11_lay_52 ?_
    refine lv_iload_n hx hb dX11_lay_53 rfl (lv_at hl 3 rfl) ?_
    obtain ⟨hin, h⟩ := gd_some h
    refine iastR X I (kR_16 E) hin dX11_lay_54 (fun H locs I => ?_)
    obtain ⟨σ3, eσ3, h⟩ := lt_e h
    replace I := wi_nm eσ3 I
    refine lv_aload_n hx hb dX11_lay_55 rfl (lv_at hl 2 rfl) ?_
    refine gfR_X11_55 X I dX11_lay_56 ?_
    refine lv_iload_n hx hb dX11_lay_59 rfl (lv_at hl 1 rfl) ?_
    refine lv_dup2_11 hx hb dX11_lay_60 rfl rfl ?_
    obtain ⟨hin, h⟩ := gd_some h
    refine ialdR X I (kR_5 E) hin dX11_lay_61 ?_
    refine lv_iconst (v := 1) hx hb dX11_lay_62 (by decide) ?_
    refine lv_iadd hx hb dX11_lay_63 ?_
    obtain ⟨hin, h⟩ := gd_some h
    refine iastR X I (kR_5 E) hin dX11_lay_64 (fun H locs I => ?_)
    obtain ⟨σ4, eσ4, h⟩ := lt_e h
    replace I := wi_nm eσ4 I
    exact r_vret X I (Option.some.inj h).symm dX11_lay_65
  · have h := ite_f h c2
    refine lv_aload_n hx hb dX11_lay_30 rfl (lv_at hl 1 rfl) ?_
    refine gfR_X11_89 X I dX11_lay_31 ?_
    refine lv_goto (tgt := 41) hx hb dX11_lay_34 (by decide) ?_
    refine lv_astore_n (lv' := [(3, .ref (ra E 17)), (2, .int y1), (0, .ref (ra E 0)), (1, .int x1)]) hx hb dX11_lay_41 rfl hl (by decide) rfl (fun ls hl => ?_)
    refine lv_aload_n hx hb dX11_lay_42 rfl (lv_at hl 0 rfl) ?_
    refine lv_sipush (v := 700) hx hb dX11_lay_43 (by decide) ?_
    refine lv_aload_n hx hb dX11_lay_46 rfl (lv_at hl 2 rfl) ?_
    refine gfR_X11_55 X I dX11_lay_47 ?_
    refine lv_iload_n hx hb dX11_lay_50 rfl (lv_at hl 1 rfl) ?_
    obtain ⟨hin, h⟩ := gd_some h
    refine ialdR X I (kR_5 E) hin dX11_lay_51 ?_
    refine lv_iadd hx hb dX11_lay_52 ?_
    refine lv_iload_n hx hb dX11_lay_53 rfl (lv_at hl 3 rfl) ?_
    obtain ⟨hin, h⟩ := gd_some h
    refine iastR X I (kR_17 E) hin dX11_lay_54 (fun H locs I => ?_)
    obtain ⟨σ5, eσ5, h⟩ := lt_e h
    replace I := wi_nm eσ5 I
    refine lv_aload_n hx hb dX11_lay_55 rfl (lv_at hl 2 rfl) ?_
    refine gfR_X11_55 X I dX11_lay_56 ?_
    refine lv_iload_n hx hb dX11_lay_59 rfl (lv_at hl 1 rfl) ?_
    refine lv_dup2_11 hx hb dX11_lay_60 rfl rfl ?_
    obtain ⟨hin, h⟩ := gd_some h
    refine ialdR X I (kR_5 E) hin dX11_lay_61 ?_
    refine lv_iconst (v := 1) hx hb dX11_lay_62 (by decide) ?_
    refine lv_iadd hx hb dX11_lay_63 ?_
    obtain ⟨hin, h⟩ := gd_some h
    refine iastR X I (kR_5 E) hin dX11_lay_64 (fun H locs I => ?_)
    obtain ⟨σ6, eσ6, h⟩ := lt_e h
    replace I := wi_nm eσ6 I
    exact r_vret X I (Option.some.inj h).symm dX11_lay_65
set_option maxHeartbeats 4000000 in
set_option maxRecDepth 100000 in
theorem w_X11_lay_0 {p : Program} {l : Launch} {e : Env} {s : State} {m : MethodId} {args : Array Value} {below : List Frame} {meth : Method} {c : Code} {A : Nat → Prop} {E : RE} {q : Mem} (X : CX p s m meth c args cX11_lay 4 RX11 none) : ∀ (σ : Mem) (x1 : Int32) , m_X11_lay σ x1 = some q → ∀ (H : Heap) (locs : List Loc) (ls : Array Slot), WI (vR E) A s H locs σ → lv_has ls 4 [(0, .ref (ra E 0)), (1, .int x1)] → W p l e rm_X11_lay s m args below meth c H locs 0 0 (MQ below (QV (vR E) A q) args s 0 0 A) (F0 m 0 ls []) := by
  have hx := X.1
  have hb := X.2.1
  intro σ x1 h H locs ls I hl
  unfold m_X11_lay at h
  refine lv_aload_n hx hb dX11_lay_0 rfl (lv_at hl 0 rfl) ?_
  refine gfR_X11_244 X I dX11_lay_1 ?_
  refine lv_if_eq (tgt := 8) hx hb dX11_lay_4 (by decide) (fun c1 => ?_) (fun c1 => ?_)
  · have h := ite_t h c1
    refine lv_iconst (v := 5) hx hb dX11_lay_8 (by decide) ?_
    refine lv_aload_n hx hb dX11_lay_9 rfl (lv_at hl 0 rfl) ?_
    refine gfR_X11_272 X I dX11_lay_10 ?_
    refine lv_if_eq (tgt := 20) hx hb dX11_lay_13 (by decide) (fun c2 => ?_) (fun c2 => ?_)
    · have h := ite_t h c2
      refine lv_iconst (v := 3) hx hb dX11_lay_20 (by decide) ?_
      exact w_X11_lay_21 X   σ x1 (5 : Int32) (3 : Int32) h H locs ls I (lv_sub hl [0, 1] rfl)
    · have h := ite_f h c2
      refine lv_iconst (v := 4) hx hb dX11_lay_16 (by decide) ?_
      refine lv_goto (tgt := 21) hx hb dX11_lay_17 (by decide) ?_
      exact w_X11_lay_21 X   σ x1 (5 : Int32) (4 : Int32) h H locs ls I (lv_sub hl [0, 1] rfl)
  · have h := ite_f h c1
    exact r_vret X I (Option.some.inj h).symm dX11_lay_7
theorem c_X11_lay {l : Launch} {E : RE} {σ : Mem} {x1 : Int32} {q : Mem} (h : m_X11_lay σ x1 = some q) : CV l (vR E) yX11_lay (.code yX11_lay cX11_lay 4 none :: GG) rm_X11_lay [.ref (ra E 0), .int x1] σ q :=
  mk_CV (by decide +kernel) (Nat.le_of_ble_eq_true rfl) (fun p e s m args below meth c A ls X I hl => w_X11_lay_0 X  σ x1 h s.heap [] ls I (lv_sub hl [0, 1] rfl))

def rm_X8_housesOf : Room := { frames := 1, cells := 0, slots := 0, locals := 64 }
def f_X8_housesOf_5 (r1 : Nat) (x2 : Int32) : Nat → Mem → Int32 → Int32 → Option (Int32)
  | 0, _, _, _ => none
  | n + 1, σ, x3, x4 => (if (σ 23 0) ≤ x4 then (some x3) else (gd ((24 : Int32) + x4) 64 (if (σ r1 (Int32.toNatClampNeg ((24 : Int32) + x4))) = x2 then (lt (x3 ||| ((1 : Int32) <<< (x4 &&& 31))) fun y3 => f_X8_housesOf_5 r1 x2 n σ y3 (x4 + 1)) else f_X8_housesOf_5 r1 x2 n σ x3 (x4 + 1))))
def m_X8_housesOf (r1 : Nat) (σ : Mem) (x2 : Int32) : Option (Int32) := (f_X8_housesOf_5 r1 x2 KF σ (0 : Int32) (0 : Int32))
set_option maxHeartbeats 4000000 in
set_option maxRecDepth 100000 in
theorem w_X8_housesOf_5 {p : Program} {l : Launch} {e : Env} {s : State} {m : MethodId} {args : Array Value} {below : List Frame} {meth : Method} {c : Code} {A : Nat → Prop} {E : CE} {q : Int32} (X : CX p s m meth c args cX8_housesOf 5 RX8 (some .int)) {r1 : Nat} {x2 : Int32} (hr1 : KCaI E r1 64) : ∀ (n : Nat), ∀ (σ : Mem) (x3 : Int32) (x4 : Int32) , f_X8_housesOf_5 r1 x2 n σ x3 x4 = some q → ∀ (H : Heap) (locs : List Loc) (ls : Array Slot), WI (vC E) A s H locs σ → lv_has ls 5 [(0, .ref (ca E 22)), (1, .ref (ca E r1)), (2, .int x2), (3, .int x3), (4, .int x4)] → W p l e rm_X8_housesOf s m args below meth c H locs 0 0 (MQ below (QI (vC E) A (q, σ)) args s 0 0 A) (F0 m 5 ls []) := by
  have hx := X.1
  have hb := X.2.1
  intro n
  induction n with
  | zero =>
    intro σ x3 x4 h
    cases h
  | succ n ih =>
    intro σ x3 x4 h H locs ls I hl
    rw [f_X8_housesOf_5] at h
    refine lv_iload hx hb dX8_housesOf_5 (lv_at hl 4 rfl) ?_
    refine lv_aload_n hx hb dX8_housesOf_7 rfl (lv_at hl 0 rfl) ?_
    refine gfC_X8_12 X I (kC_22 E) (k' := 23) rfl dX8_housesOf_8 ?_
    refine gfC_X8_42 X I (kC_23 E) dX8_housesOf_11 ?_
    refine lv_icmp_ge (tgt := 41) hx hb dX8_housesOf_14 (by decide) (fun c1 => ?_) (fun c1 => ?_)
    · have h := ite_t h c1
      refine lv_iload_n hx hb dX8_housesOf_41 rfl (lv_at hl 3 rfl) ?_
      exact r_iret X I (congrArg (fun z => (z, σ)) (Option.some.inj h).symm) dX8_housesOf_42
    · have h := ite_f h c1
      refine lv_aload_n hx hb dX8_housesOf_17 rfl (lv_at hl 1 rfl) ?_
      refine lv_bipush (v := 24) hx hb dX8_housesOf_18 (by decide) ?_
      refine lv_iload hx hb dX8_housesOf_20 (lv_at hl 4 rfl) ?_
      refine lv_iadd hx hb dX8_housesOf_22 ?_
      obtain ⟨hin, h⟩ := gd_some h
      refine ialdC X I hr1 hin dX8_housesOf_23 ?_
      refine lv_iload_n hx hb dX8_housesOf_24 rfl (lv_at hl 2 rfl) ?_
      refine lv_icmp_ne (tgt := 35) hx hb dX8_housesOf_25 (by decide) (fun c2 => ?_) (fun c2 => ?_)
      · have h := ite_f h c2
        refine lv_iinc (v := (x4 + 1)) (lv' := [(4, .int (x4 + 1)), (0, .ref (ca E 22)), (1, .ref (ca E r1)), (2, .int x2), (3, .int x3)]) hx hb dX8_housesOf_35 hl (k := 4) rfl rfl (by decide) rfl (fun ls hl => ?_)
        refine lv_goto (tgt := 5) hx hb dX8_housesOf_38 (by decide) ?_
        exact ih σ x3 (x4 + 1) h H locs ls I (lv_sub hl [1, 2, 3, 4, 0] rfl)
      · have h := ite_t h c2
        refine lv_iload_n hx hb dX8_housesOf_28 rfl (lv_at hl 3 rfl) ?_
        refine lv_iconst (v := 1) hx hb dX8_housesOf_29 (by decide) ?_
        refine lv_iload hx hb dX8_housesOf_30 (lv_at hl 4 rfl) ?_
        refine lv_ishl hx hb dX8_housesOf_32 ?_
        refine lv_ior hx hb dX8_housesOf_33 ?_
        obtain ⟨y3, ey3, h⟩ := lt_e h
        refine nm_i ey3 ?_
        refine lv_istore_n (lv' := [(3, .int y3), (0, .ref (ca E 22)), (1, .ref (ca E r1)), (2, .int x2), (4, .int x4)]) hx hb dX8_housesOf_34 rfl hl (by decide) rfl (fun ls hl => ?_)
        refine lv_iinc (v := (x4 + 1)) (lv' := [(4, .int (x4 + 1)), (3, .int y3), (0, .ref (ca E 22)), (1, .ref (ca E r1)), (2, .int x2)]) hx hb dX8_housesOf_35 hl (k := 4) rfl rfl (by decide) rfl (fun ls hl => ?_)
        refine lv_goto (tgt := 5) hx hb dX8_housesOf_38 (by decide) ?_
        exact ih σ y3 (x4 + 1) h H locs ls I (lv_sub hl [2, 3, 4, 1, 0] rfl)
set_option maxHeartbeats 4000000 in
set_option maxRecDepth 100000 in
theorem w_X8_housesOf_0 {p : Program} {l : Launch} {e : Env} {s : State} {m : MethodId} {args : Array Value} {below : List Frame} {meth : Method} {c : Code} {A : Nat → Prop} {E : CE} {q : Int32} (X : CX p s m meth c args cX8_housesOf 5 RX8 (some .int)) {r1 : Nat} (hr1 : KCaI E r1 64) : ∀ (σ : Mem) (x2 : Int32) , m_X8_housesOf r1 σ x2 = some q → ∀ (H : Heap) (locs : List Loc) (ls : Array Slot), WI (vC E) A s H locs σ → lv_has ls 5 [(0, .ref (ca E 22)), (1, .ref (ca E r1)), (2, .int x2)] → W p l e rm_X8_housesOf s m args below meth c H locs 0 0 (MQ below (QI (vC E) A (q, σ)) args s 0 0 A) (F0 m 0 ls []) := by
  have hx := X.1
  have hb := X.2.1
  intro σ x2 h H locs ls I hl
  unfold m_X8_housesOf at h
  refine lv_iconst (v := 0) hx hb dX8_housesOf_0 (by decide) ?_
  refine lv_istore_n (lv' := [(3, .int (0 : Int32)), (0, .ref (ca E 22)), (1, .ref (ca E r1)), (2, .int x2)]) hx hb dX8_housesOf_1 rfl hl (by decide) rfl (fun ls hl => ?_)
  refine lv_iconst (v := 0) hx hb dX8_housesOf_2 (by decide) ?_
  refine lv_istore (lv' := [(4, .int (0 : Int32)), (3, .int (0 : Int32)), (0, .ref (ca E 22)), (1, .ref (ca E r1)), (2, .int x2)]) hx hb dX8_housesOf_3 hl (by decide) rfl (fun ls hl => ?_)
  exact w_X8_housesOf_5 X hr1  KF σ (0 : Int32) (0 : Int32) h H locs ls I (lv_sub hl [2, 3, 4, 1, 0] rfl)
theorem c_X8_housesOf {l : Launch} {E : CE} {r1 : Nat} {σ : Mem} {x2 : Int32} (hr1 : KCaI E r1 64) {q : Int32} (h : m_X8_housesOf r1 σ x2 = some q) : CI l (vC E) yX8_housesOf (.code yX8_housesOf cX8_housesOf 5 (some .int) :: GG) rm_X8_housesOf [.ref (ca E 22), .ref (ca E r1), .int x2] σ (q, σ) :=
  mk_CI (by decide +kernel) (Nat.le_of_ble_eq_true rfl) (fun p e s m args below meth c A ls X I hl => w_X8_housesOf_0 X hr1 σ x2 h s.heap [] ls I (lv_sub hl [0, 1, 2] rfl))

def rm_X8_rentOf : Room := { frames := 1, cells := 0, slots := 0, locals := 64 }
def f_X8_rentOf_5 (r1 : Nat) (x2 : Int32) : Nat → Mem → Int32 → Int32 → Option (Int32)
  | 0, _, _, _ => none
  | n + 1, σ, x3, x4 => (if (σ 23 0) ≤ x4 then (some x3) else (gd ((24 : Int32) + x4) 64 (if (σ r1 (Int32.toNatClampNeg ((24 : Int32) + x4))) = x2 then (gd x4 8 (lt (x3 + (σ 24 (Int32.toNatClampNeg x4))) fun y3 => f_X8_rentOf_5 r1 x2 n σ y3 (x4 + 1))) else f_X8_rentOf_5 r1 x2 n σ x3 (x4 + 1))))
def m_X8_rentOf (r1 : Nat) (σ : Mem) (x2 : Int32) : Option (Int32) := (f_X8_rentOf_5 r1 x2 KF σ (0 : Int32) (0 : Int32))
set_option maxHeartbeats 4000000 in
set_option maxRecDepth 100000 in
theorem w_X8_rentOf_5 {p : Program} {l : Launch} {e : Env} {s : State} {m : MethodId} {args : Array Value} {below : List Frame} {meth : Method} {c : Code} {A : Nat → Prop} {E : CE} {q : Int32} (X : CX p s m meth c args cX8_rentOf 5 RX8 (some .int)) {r1 : Nat} {x2 : Int32} (hr1 : KCaI E r1 64) : ∀ (n : Nat), ∀ (σ : Mem) (x3 : Int32) (x4 : Int32) , f_X8_rentOf_5 r1 x2 n σ x3 x4 = some q → ∀ (H : Heap) (locs : List Loc) (ls : Array Slot), WI (vC E) A s H locs σ → lv_has ls 5 [(0, .ref (ca E 22)), (1, .ref (ca E r1)), (2, .int x2), (3, .int x3), (4, .int x4)] → W p l e rm_X8_rentOf s m args below meth c H locs 0 0 (MQ below (QI (vC E) A (q, σ)) args s 0 0 A) (F0 m 5 ls []) := by
  have hx := X.1
  have hb := X.2.1
  intro n
  induction n with
  | zero =>
    intro σ x3 x4 h
    cases h
  | succ n ih =>
    intro σ x3 x4 h H locs ls I hl
    rw [f_X8_rentOf_5] at h
    refine lv_iload hx hb dX8_rentOf_5 (lv_at hl 4 rfl) ?_
    refine lv_aload_n hx hb dX8_rentOf_7 rfl (lv_at hl 0 rfl) ?_
    refine gfC_X8_12 X I (kC_22 E) (k' := 23) rfl dX8_rentOf_8 ?_
    refine gfC_X8_42 X I (kC_23 E) dX8_rentOf_11 ?_
    refine lv_icmp_ge (tgt := 47) hx hb dX8_rentOf_14 (by decide) (fun c1 => ?_) (fun c1 => ?_)
    · have h := ite_t h c1
      refine lv_iload_n hx hb dX8_rentOf_47 rfl (lv_at hl 3 rfl) ?_
      exact r_iret X I (congrArg (fun z => (z, σ)) (Option.some.inj h).symm) dX8_rentOf_48
    · have h := ite_f h c1
      refine lv_aload_n hx hb dX8_rentOf_17 rfl (lv_at hl 1 rfl) ?_
      refine lv_bipush (v := 24) hx hb dX8_rentOf_18 (by decide) ?_
      refine lv_iload hx hb dX8_rentOf_20 (lv_at hl 4 rfl) ?_
      refine lv_iadd hx hb dX8_rentOf_22 ?_
      obtain ⟨hin, h⟩ := gd_some h
      refine ialdC X I hr1 hin dX8_rentOf_23 ?_
      refine lv_iload_n hx hb dX8_rentOf_24 rfl (lv_at hl 2 rfl) ?_
      refine lv_icmp_ne (tgt := 41) hx hb dX8_rentOf_25 (by decide) (fun c2 => ?_) (fun c2 => ?_)
      · have h := ite_f h c2
        refine lv_iinc (v := (x4 + 1)) (lv' := [(4, .int (x4 + 1)), (0, .ref (ca E 22)), (1, .ref (ca E r1)), (2, .int x2), (3, .int x3)]) hx hb dX8_rentOf_41 hl (k := 4) rfl rfl (by decide) rfl (fun ls hl => ?_)
        refine lv_goto (tgt := 5) hx hb dX8_rentOf_44 (by decide) ?_
        exact ih σ x3 (x4 + 1) h H locs ls I (lv_sub hl [1, 2, 3, 4, 0] rfl)
      · have h := ite_t h c2
        refine lv_iload_n hx hb dX8_rentOf_28 rfl (lv_at hl 3 rfl) ?_
        refine lv_aload_n hx hb dX8_rentOf_29 rfl (lv_at hl 0 rfl) ?_
        refine gfC_X8_12 X I (kC_22 E) (k' := 23) rfl dX8_rentOf_30 ?_
        refine gfC_X8_62 X I (kC_23 E) (k' := 24) rfl dX8_rentOf_33 ?_
        refine lv_iload hx hb dX8_rentOf_36 (lv_at hl 4 rfl) ?_
        obtain ⟨hin, h⟩ := gd_some h
        refine ialdC X I (kC_24 E) hin dX8_rentOf_38 ?_
        refine lv_iadd hx hb dX8_rentOf_39 ?_
        obtain ⟨y3, ey3, h⟩ := lt_e h
        refine nm_i ey3 ?_
        refine lv_istore_n (lv' := [(3, .int y3), (0, .ref (ca E 22)), (1, .ref (ca E r1)), (2, .int x2), (4, .int x4)]) hx hb dX8_rentOf_40 rfl hl (by decide) rfl (fun ls hl => ?_)
        refine lv_iinc (v := (x4 + 1)) (lv' := [(4, .int (x4 + 1)), (3, .int y3), (0, .ref (ca E 22)), (1, .ref (ca E r1)), (2, .int x2)]) hx hb dX8_rentOf_41 hl (k := 4) rfl rfl (by decide) rfl (fun ls hl => ?_)
        refine lv_goto (tgt := 5) hx hb dX8_rentOf_44 (by decide) ?_
        exact ih σ y3 (x4 + 1) h H locs ls I (lv_sub hl [2, 3, 4, 1, 0] rfl)
set_option maxHeartbeats 4000000 in
set_option maxRecDepth 100000 in
theorem w_X8_rentOf_0 {p : Program} {l : Launch} {e : Env} {s : State} {m : MethodId} {args : Array Value} {below : List Frame} {meth : Method} {c : Code} {A : Nat → Prop} {E : CE} {q : Int32} (X : CX p s m meth c args cX8_rentOf 5 RX8 (some .int)) {r1 : Nat} (hr1 : KCaI E r1 64) : ∀ (σ : Mem) (x2 : Int32) , m_X8_rentOf r1 σ x2 = some q → ∀ (H : Heap) (locs : List Loc) (ls : Array Slot), WI (vC E) A s H locs σ → lv_has ls 5 [(0, .ref (ca E 22)), (1, .ref (ca E r1)), (2, .int x2)] → W p l e rm_X8_rentOf s m args below meth c H locs 0 0 (MQ below (QI (vC E) A (q, σ)) args s 0 0 A) (F0 m 0 ls []) := by
  have hx := X.1
  have hb := X.2.1
  intro σ x2 h H locs ls I hl
  unfold m_X8_rentOf at h
  refine lv_iconst (v := 0) hx hb dX8_rentOf_0 (by decide) ?_
  refine lv_istore_n (lv' := [(3, .int (0 : Int32)), (0, .ref (ca E 22)), (1, .ref (ca E r1)), (2, .int x2)]) hx hb dX8_rentOf_1 rfl hl (by decide) rfl (fun ls hl => ?_)
  refine lv_iconst (v := 0) hx hb dX8_rentOf_2 (by decide) ?_
  refine lv_istore (lv' := [(4, .int (0 : Int32)), (3, .int (0 : Int32)), (0, .ref (ca E 22)), (1, .ref (ca E r1)), (2, .int x2)]) hx hb dX8_rentOf_3 hl (by decide) rfl (fun ls hl => ?_)
  exact w_X8_rentOf_5 X hr1  KF σ (0 : Int32) (0 : Int32) h H locs ls I (lv_sub hl [2, 3, 4, 1, 0] rfl)
theorem c_X8_rentOf {l : Launch} {E : CE} {r1 : Nat} {σ : Mem} {x2 : Int32} (hr1 : KCaI E r1 64) {q : Int32} (h : m_X8_rentOf r1 σ x2 = some q) : CI l (vC E) yX8_rentOf (.code yX8_rentOf cX8_rentOf 5 (some .int) :: GG) rm_X8_rentOf [.ref (ca E 22), .ref (ca E r1), .int x2] σ (q, σ) :=
  mk_CI (by decide +kernel) (Nat.le_of_ble_eq_true rfl) (fun p e s m args below meth c A ls X I hl => w_X8_rentOf_0 X hr1 σ x2 h s.heap [] ls I (lv_sub hl [0, 1, 2] rfl))

def rm_X8_coinsOfAll : Room := { frames := 1, cells := 0, slots := 0, locals := 64 }
def f_X8_coinsOfAll_4 (r1 : Nat) : Nat → Mem → Int32 → Int32 → Option (Int32)
  | 0, _, _, _ => none
  | n + 1, σ, x2, x3 => (if (σ 23 1) ≤ x3 then (some x2) else (gd ((54 : Int32) + x3) 64 (lt (x2 + (σ r1 (Int32.toNatClampNeg ((54 : Int32) + x3)))) fun y2 => f_X8_coinsOfAll_4 r1 n σ y2 (x3 + 1))))
def m_X8_coinsOfAll (r1 : Nat) (σ : Mem) : Option (Int32) := (f_X8_coinsOfAll_4 r1 KF σ (0 : Int32) (0 : Int32))
set_option maxHeartbeats 4000000 in
set_option maxRecDepth 100000 in
theorem w_X8_coinsOfAll_4 {p : Program} {l : Launch} {e : Env} {s : State} {m : MethodId} {args : Array Value} {below : List Frame} {meth : Method} {c : Code} {A : Nat → Prop} {E : CE} {q : Int32} (X : CX p s m meth c args cX8_coinsOfAll 4 RX8 (some .int)) {r1 : Nat} (hr1 : KCaI E r1 64) : ∀ (n : Nat), ∀ (σ : Mem) (x2 : Int32) (x3 : Int32) , f_X8_coinsOfAll_4 r1 n σ x2 x3 = some q → ∀ (H : Heap) (locs : List Loc) (ls : Array Slot), WI (vC E) A s H locs σ → lv_has ls 4 [(0, .ref (ca E 22)), (1, .ref (ca E r1)), (2, .int x2), (3, .int x3)] → W p l e rm_X8_coinsOfAll s m args below meth c H locs 0 0 (MQ below (QI (vC E) A (q, σ)) args s 0 0 A) (F0 m 4 ls []) := by
  have hx := X.1
  have hb := X.2.1
  intro n
  induction n with
  | zero =>
    intro σ x2 x3 h
    cases h
  | succ n ih =>
    intro σ x2 x3 h H locs ls I hl
    rw [f_X8_coinsOfAll_4] at h
    refine lv_iload_n hx hb dX8_coinsOfAll_4 rfl (lv_at hl 3 rfl) ?_
    refine lv_aload_n hx hb dX8_coinsOfAll_5 rfl (lv_at hl 0 rfl) ?_
    refine gfC_X8_12 X I (kC_22 E) (k' := 23) rfl dX8_coinsOfAll_6 ?_
    refine gfC_X8_56 X I (kC_23 E) dX8_coinsOfAll_9 ?_
    refine lv_icmp_ge (tgt := 30) hx hb dX8_coinsOfAll_12 (by decide) (fun c1 => ?_) (fun c1 => ?_)
    · have h := ite_t h c1
      refine lv_iload_n hx hb dX8_coinsOfAll_30 rfl (lv_at hl 2 rfl) ?_
      exact r_iret X I (congrArg (fun z => (z, σ)) (Option.some.inj h).symm) dX8_coinsOfAll_31
    · have h := ite_f h c1
      refine lv_iload_n hx hb dX8_coinsOfAll_15 rfl (lv_at hl 2 rfl) ?_
      refine lv_aload_n hx hb dX8_coinsOfAll_16 rfl (lv_at hl 1 rfl) ?_
      refine lv_bipush (v := 54) hx hb dX8_coinsOfAll_17 (by decide) ?_
      refine lv_iload_n hx hb dX8_coinsOfAll_19 rfl (lv_at hl 3 rfl) ?_
      refine lv_iadd hx hb dX8_coinsOfAll_20 ?_
      obtain ⟨hin, h⟩ := gd_some h
      refine ialdC X I hr1 hin dX8_coinsOfAll_21 ?_
      refine lv_iadd hx hb dX8_coinsOfAll_22 ?_
      obtain ⟨y2, ey2, h⟩ := lt_e h
      refine nm_i ey2 ?_
      refine lv_istore_n (lv' := [(2, .int y2), (0, .ref (ca E 22)), (1, .ref (ca E r1)), (3, .int x3)]) hx hb dX8_coinsOfAll_23 rfl hl (by decide) rfl (fun ls hl => ?_)
      refine lv_iinc (v := (x3 + 1)) (lv' := [(3, .int (x3 + 1)), (2, .int y2), (0, .ref (ca E 22)), (1, .ref (ca E r1))]) hx hb dX8_coinsOfAll_24 hl (k := 3) rfl rfl (by decide) rfl (fun ls hl => ?_)
      refine lv_goto (tgt := 4) hx hb dX8_coinsOfAll_27 (by decide) ?_
      exact ih σ y2 (x3 + 1) h H locs ls I (lv_sub hl [2, 3, 1, 0] rfl)
set_option maxHeartbeats 4000000 in
set_option maxRecDepth 100000 in
theorem w_X8_coinsOfAll_0 {p : Program} {l : Launch} {e : Env} {s : State} {m : MethodId} {args : Array Value} {below : List Frame} {meth : Method} {c : Code} {A : Nat → Prop} {E : CE} {q : Int32} (X : CX p s m meth c args cX8_coinsOfAll 4 RX8 (some .int)) {r1 : Nat} (hr1 : KCaI E r1 64) : ∀ (σ : Mem)  , m_X8_coinsOfAll r1 σ = some q → ∀ (H : Heap) (locs : List Loc) (ls : Array Slot), WI (vC E) A s H locs σ → lv_has ls 4 [(0, .ref (ca E 22)), (1, .ref (ca E r1))] → W p l e rm_X8_coinsOfAll s m args below meth c H locs 0 0 (MQ below (QI (vC E) A (q, σ)) args s 0 0 A) (F0 m 0 ls []) := by
  have hx := X.1
  have hb := X.2.1
  intro σ  h H locs ls I hl
  unfold m_X8_coinsOfAll at h
  refine lv_iconst (v := 0) hx hb dX8_coinsOfAll_0 (by decide) ?_
  refine lv_istore_n (lv' := [(2, .int (0 : Int32)), (0, .ref (ca E 22)), (1, .ref (ca E r1))]) hx hb dX8_coinsOfAll_1 rfl hl (by decide) rfl (fun ls hl => ?_)
  refine lv_iconst (v := 0) hx hb dX8_coinsOfAll_2 (by decide) ?_
  refine lv_istore_n (lv' := [(3, .int (0 : Int32)), (2, .int (0 : Int32)), (0, .ref (ca E 22)), (1, .ref (ca E r1))]) hx hb dX8_coinsOfAll_3 rfl hl (by decide) rfl (fun ls hl => ?_)
  exact w_X8_coinsOfAll_4 X hr1  KF σ (0 : Int32) (0 : Int32) h H locs ls I (lv_sub hl [2, 3, 1, 0] rfl)
theorem c_X8_coinsOfAll {l : Launch} {E : CE} {r1 : Nat} {σ : Mem} (hr1 : KCaI E r1 64) {q : Int32} (h : m_X8_coinsOfAll r1 σ = some q) : CI l (vC E) yX8_coinsOfAll (.code yX8_coinsOfAll cX8_coinsOfAll 4 (some .int) :: GG) rm_X8_coinsOfAll [.ref (ca E 22), .ref (ca E r1)] σ (q, σ) :=
  mk_CI (by decide +kernel) (Nat.le_of_ble_eq_true rfl) (fun p e s m args below meth c A ls X I hl => w_X8_coinsOfAll_0 X hr1 σ  h s.heap [] ls I (lv_sub hl [0, 1] rfl))

def rm_X8_lifeOf : Room := { frames := 1, cells := 0, slots := 0, locals := 64 }
def m_X8_lifeOf (σ : Mem) (x1 : Int32) : Option (Int32) := (gd x1 8 (if (σ 25 (Int32.toNatClampNeg x1)) = (1 : Int32) then (some ((2 : Int32) * (σ 23 2))) else (some (σ 23 2))))
set_option maxHeartbeats 4000000 in
set_option maxRecDepth 100000 in
theorem w_X8_lifeOf_0 {p : Program} {l : Launch} {e : Env} {s : State} {m : MethodId} {args : Array Value} {below : List Frame} {meth : Method} {c : Code} {A : Nat → Prop} {E : CE} {q : Int32} (X : CX p s m meth c args cX8_lifeOf 2 RX8 (some .int)) : ∀ (σ : Mem) (x1 : Int32) , m_X8_lifeOf σ x1 = some q → ∀ (H : Heap) (locs : List Loc) (ls : Array Slot), WI (vC E) A s H locs σ → lv_has ls 2 [(0, .ref (ca E 22)), (1, .int x1)] → W p l e rm_X8_lifeOf s m args below meth c H locs 0 0 (MQ below (QI (vC E) A (q, σ)) args s 0 0 A) (F0 m 0 ls []) := by
  have hx := X.1
  have hb := X.2.1
  intro σ x1 h H locs ls I hl
  unfold m_X8_lifeOf at h
  refine lv_aload_n hx hb dX8_lifeOf_0 rfl (lv_at hl 0 rfl) ?_
  refine gfC_X8_12 X I (kC_22 E) (k' := 23) rfl dX8_lifeOf_1 ?_
  refine gfC_X8_65 X I (kC_23 E) (k' := 25) rfl dX8_lifeOf_4 ?_
  refine lv_iload_n hx hb dX8_lifeOf_7 rfl (lv_at hl 1 rfl) ?_
  obtain ⟨hin, h⟩ := gd_some h
  refine ialdC X I (kC_25 E) hin dX8_lifeOf_8 ?_
  refine lv_iconst (v := 1) hx hb dX8_lifeOf_9 (by decide) ?_
  refine lv_icmp_ne (tgt := 25) hx hb dX8_lifeOf_10 (by decide) (fun c1 => ?_) (fun c1 => ?_)
  · have h := ite_f h c1
    refine lv_aload_n hx hb dX8_lifeOf_25 rfl (lv_at hl 0 rfl) ?_
    refine gfC_X8_12 X I (kC_22 E) (k' := 23) rfl dX8_lifeOf_26 ?_
    refine gfC_X8_68 X I (kC_23 E) dX8_lifeOf_29 ?_
    exact r_iret X I (congrArg (fun z => (z, σ)) (Option.some.inj h).symm) dX8_lifeOf_32
  · have h := ite_t h c1
    refine lv_iconst (v := 2) hx hb dX8_lifeOf_13 (by decide) ?_
    refine lv_aload_n hx hb dX8_lifeOf_14 rfl (lv_at hl 0 rfl) ?_
    refine gfC_X8_12 X I (kC_22 E) (k' := 23) rfl dX8_lifeOf_15 ?_
    refine gfC_X8_68 X I (kC_23 E) dX8_lifeOf_18 ?_
    refine lv_imul hx hb dX8_lifeOf_21 ?_
    refine lv_goto (tgt := 32) hx hb dX8_lifeOf_22 (by decide) ?_
    exact r_iret X I (congrArg (fun z => (z, σ)) (Option.some.inj h).symm) dX8_lifeOf_32
theorem c_X8_lifeOf {l : Launch} {E : CE} {σ : Mem} {x1 : Int32} {q : Int32} (h : m_X8_lifeOf σ x1 = some q) : CI l (vC E) yX8_lifeOf (.code yX8_lifeOf cX8_lifeOf 2 (some .int) :: GG) rm_X8_lifeOf [.ref (ca E 22), .int x1] σ (q, σ) :=
  mk_CI (by decide +kernel) (Nat.le_of_ble_eq_true rfl) (fun p e s m args below meth c A ls X I hl => w_X8_lifeOf_0 X  σ x1 h s.heap [] ls I (lv_sub hl [0, 1] rfl))

def rm_X8_buriedIn : Room := { frames := 2, cells := 0, slots := 0, locals := 85 }
def m_X8_buriedIn (r1 : Nat) (σ : Mem) (x2 : Int32) : Option (Int32) := ((m_X8_lifeOf σ x2).bind fun q1 => (gd ((0 : Int32) + x2) 64 (some (imax (1 : Int32) (q1 - (σ r1 (Int32.toNatClampNeg ((0 : Int32) + x2))))))))
set_option maxHeartbeats 4000000 in
set_option maxRecDepth 100000 in
theorem w_X8_buriedIn_0 {p : Program} {l : Launch} {e : Env} {s : State} {m : MethodId} {args : Array Value} {below : List Frame} {meth : Method} {c : Code} {A : Nat → Prop} {E : CE} {q : Int32} (X : CX p s m meth c args cX8_buriedIn 3 RX8 (some .int)) {r1 : Nat} (hr1 : KCaI E r1 64) : ∀ (σ : Mem) (x2 : Int32) , m_X8_buriedIn r1 σ x2 = some q → ∀ (H : Heap) (locs : List Loc) (ls : Array Slot), WI (vC E) A s H locs σ → lv_has ls 3 [(0, .ref (ca E 22)), (1, .ref (ca E r1)), (2, .int x2)] → W p l e rm_X8_buriedIn s m args below meth c H locs 0 0 (MQ below (QI (vC E) A (q, σ)) args s 0 0 A) (F0 m 0 ls []) := by
  have hx := X.1
  have hb := X.2.1
  intro σ x2 h H locs ls I hl
  unfold m_X8_buriedIn at h
  refine lv_iconst (v := 1) hx hb dX8_buriedIn_0 (by decide) ?_
  refine lv_aload_n hx hb dX8_buriedIn_1 rfl (lv_at hl 0 rfl) ?_
  refine lv_iload_n hx hb dX8_buriedIn_2 rfl (lv_at hl 2 rfl) ?_
  obtain ⟨q1, hq1, h⟩ := bd h
  refine r_callVI (V := (vC E)) (k := 22) (As := [.int x2]) (rest := [.int (1 : Int32)]) X I hl (c_X8_lifeOf  hq1) yv_X8_lifeOf tw_56 ⟨rfl, rfl, Nat.le_of_ble_eq_true rfl, Nat.le_of_ble_eq_true rfl⟩ (kC_22 E).1 ((kC_22 E).2 (σ 22)) rfl rfl rfl (Nat.le_of_ble_eq_true rfl) dX8_buriedIn_3 (fun H locs I => ?_)
  refine lv_aload_n hx hb dX8_buriedIn_6 rfl (lv_at hl 1 rfl) ?_
  refine lv_iconst (v := 0) hx hb dX8_buriedIn_7 (by decide) ?_
  refine lv_iload_n hx hb dX8_buriedIn_8 rfl (lv_at hl 2 rfl) ?_
  refine lv_iadd hx hb dX8_buriedIn_9 ?_
  obtain ⟨hin, h⟩ := gd_some h
  refine ialdC X I hr1 hin dX8_buriedIn_10 ?_
  refine lv_isub hx hb dX8_buriedIn_11 ?_
  refine r_max X hl tw_61 ⟨Nat.le_of_ble_eq_true rfl, Nat.le_of_ble_eq_true rfl⟩ dX8_buriedIn_12 ?_
  exact r_iret X I (congrArg (fun z => (z, σ)) (Option.some.inj h).symm) dX8_buriedIn_15
theorem c_X8_buriedIn {l : Launch} {E : CE} {r1 : Nat} {σ : Mem} {x2 : Int32} (hr1 : KCaI E r1 64) {q : Int32} (h : m_X8_buriedIn r1 σ x2 = some q) : CI l (vC E) yX8_buriedIn (.code yX8_buriedIn cX8_buriedIn 3 (some .int) :: GG) rm_X8_buriedIn [.ref (ca E 22), .ref (ca E r1), .int x2] σ (q, σ) :=
  mk_CI (by decide +kernel) (Nat.le_of_ble_eq_true rfl) (fun p e s m args below meth c A ls X I hl => w_X8_buriedIn_0 X hr1 σ x2 h s.heap [] ls I (lv_sub hl [0, 1, 2] rfl))

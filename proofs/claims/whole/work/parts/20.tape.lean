def rm_X9_isBlank : Room := { frames := 1, cells := 0, slots := 0, locals := 64 }
def m_X9_isBlank (σ : Mem) (x0 : Int32) : Option (Int32) := (if x0 = (32 : Int32) then (some (1 : Int32)) else (if x0 = (10 : Int32) then (some (1 : Int32)) else (some (0 : Int32))))
set_option maxHeartbeats 4000000 in
set_option maxRecDepth 100000 in
theorem w_X9_isBlank_0 {p : Program} {l : Launch} {e : Env} {s : State} {m : MethodId} {args : Array Value} {below : List Frame} {meth : Method} {c : Code} {A : Nat → Prop} {E : CE} {q : Int32} (X : CX p s m meth c args cX9_isBlank 1 RX9 (some .boolean)) : ∀ (σ : Mem) (x0 : Int32) , m_X9_isBlank σ x0 = some q → ∀ (H : Heap) (locs : List Loc) (ls : Array Slot), WI (vC E) A s H locs σ → lv_has ls 1 [(0, .int x0)] → W p l e rm_X9_isBlank s m args below meth c H locs 0 0 (MQ below (QI (vC E) A (q, σ)) args s 0 0 A) (F0 m 0 ls []) := by
  have hx := X.1
  have hb := X.2.1
  intro σ x0 h H locs ls I hl
  unfold m_X9_isBlank at h
  refine lv_iload_n hx hb dX9_isBlank_0 rfl (lv_at hl 0 rfl) ?_
  refine lv_bipush (v := 32) hx hb dX9_isBlank_1 (by decide) ?_
  refine lv_icmp_eq (tgt := 12) hx hb dX9_isBlank_3 (by decide) (fun c1 => ?_) (fun c1 => ?_)
  · have h := ite_t h c1
    refine lv_iconst (v := 1) hx hb dX9_isBlank_12 (by decide) ?_
    refine lv_goto (tgt := 17) hx hb dX9_isBlank_13 (by decide) ?_
    exact r_zret X I (congrArg (fun z => (z, σ)) (Option.some.inj h).symm) rfl dX9_isBlank_17
  · have h := ite_f h c1
    refine lv_iload_n hx hb dX9_isBlank_6 rfl (lv_at hl 0 rfl) ?_
    refine lv_bipush (v := 10) hx hb dX9_isBlank_7 (by decide) ?_
    refine lv_icmp_ne (tgt := 16) hx hb dX9_isBlank_9 (by decide) (fun c2 => ?_) (fun c2 => ?_)
    · have h := ite_f h c2
      refine lv_iconst (v := 0) hx hb dX9_isBlank_16 (by decide) ?_
      exact r_zret X I (congrArg (fun z => (z, σ)) (Option.some.inj h).symm) rfl dX9_isBlank_17
    · have h := ite_t h c2
      refine lv_iconst (v := 1) hx hb dX9_isBlank_12 (by decide) ?_
      refine lv_goto (tgt := 17) hx hb dX9_isBlank_13 (by decide) ?_
      exact r_zret X I (congrArg (fun z => (z, σ)) (Option.some.inj h).symm) rfl dX9_isBlank_17
theorem c_X9_isBlank {l : Launch} {E : CE} {σ : Mem} {x0 : Int32} {q : Int32} (h : m_X9_isBlank σ x0 = some q) : CI l (vC E) yX9_isBlank (.code yX9_isBlank cX9_isBlank 1 (some .boolean) :: GG) rm_X9_isBlank [.int x0] σ (q, σ) :=
  mk_CI (by decide +kernel) (Nat.le_of_ble_eq_true rfl) (fun p e s m args below meth c A ls X I hl => w_X9_isBlank_0 X  σ x0 h s.heap [] ls I (lv_sub hl [0] rfl))

def rm_X9_isLetter : Room := { frames := 1, cells := 0, slots := 0, locals := 64 }
def m_X9_isLetter (σ : Mem) (x0 : Int32) : Option (Int32) := (if x0 < (97 : Int32) then (some (0 : Int32)) else (if (122 : Int32) < x0 then (some (0 : Int32)) else (some (1 : Int32))))
set_option maxHeartbeats 4000000 in
set_option maxRecDepth 100000 in
theorem w_X9_isLetter_0 {p : Program} {l : Launch} {e : Env} {s : State} {m : MethodId} {args : Array Value} {below : List Frame} {meth : Method} {c : Code} {A : Nat → Prop} {E : CE} {q : Int32} (X : CX p s m meth c args cX9_isLetter 1 RX9 (some .boolean)) : ∀ (σ : Mem) (x0 : Int32) , m_X9_isLetter σ x0 = some q → ∀ (H : Heap) (locs : List Loc) (ls : Array Slot), WI (vC E) A s H locs σ → lv_has ls 1 [(0, .int x0)] → W p l e rm_X9_isLetter s m args below meth c H locs 0 0 (MQ below (QI (vC E) A (q, σ)) args s 0 0 A) (F0 m 0 ls []) := by
  have hx := X.1
  have hb := X.2.1
  intro σ x0 h H locs ls I hl
  unfold m_X9_isLetter at h
  refine lv_iload_n hx hb dX9_isLetter_0 rfl (lv_at hl 0 rfl) ?_
  refine lv_bipush (v := 97) hx hb dX9_isLetter_1 (by decide) ?_
  refine lv_icmp_lt (tgt := 16) hx hb dX9_isLetter_3 (by decide) (fun c1 => ?_) (fun c1 => ?_)
  · have h := ite_t h c1
    refine lv_iconst (v := 0) hx hb dX9_isLetter_16 (by decide) ?_
    exact r_zret X I (congrArg (fun z => (z, σ)) (Option.some.inj h).symm) rfl dX9_isLetter_17
  · have h := ite_f h c1
    refine lv_iload_n hx hb dX9_isLetter_6 rfl (lv_at hl 0 rfl) ?_
    refine lv_bipush (v := 122) hx hb dX9_isLetter_7 (by decide) ?_
    refine lv_icmp_gt (tgt := 16) hx hb dX9_isLetter_9 (by decide) (fun c2 => ?_) (fun c2 => ?_)
    · have h := ite_t h c2
      refine lv_iconst (v := 0) hx hb dX9_isLetter_16 (by decide) ?_
      exact r_zret X I (congrArg (fun z => (z, σ)) (Option.some.inj h).symm) rfl dX9_isLetter_17
    · have h := ite_f h c2
      refine lv_iconst (v := 1) hx hb dX9_isLetter_12 (by decide) ?_
      refine lv_goto (tgt := 17) hx hb dX9_isLetter_13 (by decide) ?_
      exact r_zret X I (congrArg (fun z => (z, σ)) (Option.some.inj h).symm) rfl dX9_isLetter_17
theorem c_X9_isLetter {l : Launch} {E : CE} {σ : Mem} {x0 : Int32} {q : Int32} (h : m_X9_isLetter σ x0 = some q) : CI l (vC E) yX9_isLetter (.code yX9_isLetter cX9_isLetter 1 (some .boolean) :: GG) rm_X9_isLetter [.int x0] σ (q, σ) :=
  mk_CI (by decide +kernel) (Nat.le_of_ble_eq_true rfl) (fun p e s m args below meth c A ls X I hl => w_X9_isLetter_0 X  σ x0 h s.heap [] ls I (lv_sub hl [0] rfl))

def rm_X9_isDigit : Room := { frames := 1, cells := 0, slots := 0, locals := 64 }
def m_X9_isDigit (σ : Mem) (x0 : Int32) : Option (Int32) := (if x0 < (48 : Int32) then (some (0 : Int32)) else (if (57 : Int32) < x0 then (some (0 : Int32)) else (some (1 : Int32))))
set_option maxHeartbeats 4000000 in
set_option maxRecDepth 100000 in
theorem w_X9_isDigit_0 {p : Program} {l : Launch} {e : Env} {s : State} {m : MethodId} {args : Array Value} {below : List Frame} {meth : Method} {c : Code} {A : Nat → Prop} {E : CE} {q : Int32} (X : CX p s m meth c args cX9_isDigit 1 RX9 (some .boolean)) : ∀ (σ : Mem) (x0 : Int32) , m_X9_isDigit σ x0 = some q → ∀ (H : Heap) (locs : List Loc) (ls : Array Slot), WI (vC E) A s H locs σ → lv_has ls 1 [(0, .int x0)] → W p l e rm_X9_isDigit s m args below meth c H locs 0 0 (MQ below (QI (vC E) A (q, σ)) args s 0 0 A) (F0 m 0 ls []) := by
  have hx := X.1
  have hb := X.2.1
  intro σ x0 h H locs ls I hl
  unfold m_X9_isDigit at h
  refine lv_iload_n hx hb dX9_isDigit_0 rfl (lv_at hl 0 rfl) ?_
  refine lv_bipush (v := 48) hx hb dX9_isDigit_1 (by decide) ?_
  refine lv_icmp_lt (tgt := 16) hx hb dX9_isDigit_3 (by decide) (fun c1 => ?_) (fun c1 => ?_)
  · have h := ite_t h c1
    refine lv_iconst (v := 0) hx hb dX9_isDigit_16 (by decide) ?_
    exact r_zret X I (congrArg (fun z => (z, σ)) (Option.some.inj h).symm) rfl dX9_isDigit_17
  · have h := ite_f h c1
    refine lv_iload_n hx hb dX9_isDigit_6 rfl (lv_at hl 0 rfl) ?_
    refine lv_bipush (v := 57) hx hb dX9_isDigit_7 (by decide) ?_
    refine lv_icmp_gt (tgt := 16) hx hb dX9_isDigit_9 (by decide) (fun c2 => ?_) (fun c2 => ?_)
    · have h := ite_t h c2
      refine lv_iconst (v := 0) hx hb dX9_isDigit_16 (by decide) ?_
      exact r_zret X I (congrArg (fun z => (z, σ)) (Option.some.inj h).symm) rfl dX9_isDigit_17
    · have h := ite_f h c2
      refine lv_iconst (v := 1) hx hb dX9_isDigit_12 (by decide) ?_
      refine lv_goto (tgt := 17) hx hb dX9_isDigit_13 (by decide) ?_
      exact r_zret X I (congrArg (fun z => (z, σ)) (Option.some.inj h).symm) rfl dX9_isDigit_17
theorem c_X9_isDigit {l : Launch} {E : CE} {σ : Mem} {x0 : Int32} {q : Int32} (h : m_X9_isDigit σ x0 = some q) : CI l (vC E) yX9_isDigit (.code yX9_isDigit cX9_isDigit 1 (some .boolean) :: GG) rm_X9_isDigit [.int x0] σ (q, σ) :=
  mk_CI (by decide +kernel) (Nat.le_of_ble_eq_true rfl) (fun p e s m args below meth c A ls X I hl => w_X9_isDigit_0 X  σ x0 h s.heap [] ls I (lv_sub hl [0] rfl))

def rm_X9_isSign : Room := { frames := 1, cells := 0, slots := 0, locals := 64 }
def m_X9_isSign (σ : Mem) (x0 : Int32) : Option (Int32) := (if x0 = (40 : Int32) then (some (1 : Int32)) else (if x0 = (41 : Int32) then (some (1 : Int32)) else (if x0 = (42 : Int32) then (some (1 : Int32)) else (if x0 = (43 : Int32) then (some (1 : Int32)) else (if x0 = (45 : Int32) then (some (1 : Int32)) else (if x0 = (47 : Int32) then (some (1 : Int32)) else (if x0 = (59 : Int32) then (some (1 : Int32)) else (if x0 = (60 : Int32) then (some (1 : Int32)) else (if x0 = (61 : Int32) then (some (1 : Int32)) else (some (0 : Int32)))))))))))
set_option maxHeartbeats 4000000 in
set_option maxRecDepth 100000 in
theorem w_X9_isSign_0 {p : Program} {l : Launch} {e : Env} {s : State} {m : MethodId} {args : Array Value} {below : List Frame} {meth : Method} {c : Code} {A : Nat → Prop} {E : CE} {q : Int32} (X : CX p s m meth c args cX9_isSign 1 RX9 (some .boolean)) : ∀ (σ : Mem) (x0 : Int32) , m_X9_isSign σ x0 = some q → ∀ (H : Heap) (locs : List Loc) (ls : Array Slot), WI (vC E) A s H locs σ → lv_has ls 1 [(0, .int x0)] → W p l e rm_X9_isSign s m args below meth c H locs 0 0 (MQ below (QI (vC E) A (q, σ)) args s 0 0 A) (F0 m 0 ls []) := by
  have hx := X.1
  have hb := X.2.1
  intro σ x0 h H locs ls I hl
  unfold m_X9_isSign at h
  refine lv_iload_n hx hb dX9_isSign_0 rfl (lv_at hl 0 rfl) ?_
  by_cases c1 : x0 = (40 : Int32)
  · have h := ite_t h c1
    have ht : Int32.toInt x0 = 40 := by rw [c1]; rfl
    refine lv_tableIn (off := 103) (tgt := 104) hx hb dX9_isSign_1 (by rw [ht]; decide) (by rw [ht]; decide) (by rw [ht]; rfl) (by decide) ?_
    refine lv_iconst (v := 1) hx hb dX9_isSign_104 (by decide) ?_
    exact r_zret X I (congrArg (fun z => (z, σ)) (Option.some.inj h).symm) rfl dX9_isSign_105
  replace h := ite_f h c1
  by_cases c2 : x0 = (41 : Int32)
  · have h := ite_t h c2
    have ht : Int32.toInt x0 = 41 := by rw [c2]; rfl
    refine lv_tableIn (off := 103) (tgt := 104) hx hb dX9_isSign_1 (by rw [ht]; decide) (by rw [ht]; decide) (by rw [ht]; rfl) (by decide) ?_
    refine lv_iconst (v := 1) hx hb dX9_isSign_104 (by decide) ?_
    exact r_zret X I (congrArg (fun z => (z, σ)) (Option.some.inj h).symm) rfl dX9_isSign_105
  replace h := ite_f h c2
  by_cases c3 : x0 = (42 : Int32)
  · have h := ite_t h c3
    have ht : Int32.toInt x0 = 42 := by rw [c3]; rfl
    refine lv_tableIn (off := 103) (tgt := 104) hx hb dX9_isSign_1 (by rw [ht]; decide) (by rw [ht]; decide) (by rw [ht]; rfl) (by decide) ?_
    refine lv_iconst (v := 1) hx hb dX9_isSign_104 (by decide) ?_
    exact r_zret X I (congrArg (fun z => (z, σ)) (Option.some.inj h).symm) rfl dX9_isSign_105
  replace h := ite_f h c3
  by_cases c4 : x0 = (43 : Int32)
  · have h := ite_t h c4
    have ht : Int32.toInt x0 = 43 := by rw [c4]; rfl
    refine lv_tableIn (off := 103) (tgt := 104) hx hb dX9_isSign_1 (by rw [ht]; decide) (by rw [ht]; decide) (by rw [ht]; rfl) (by decide) ?_
    refine lv_iconst (v := 1) hx hb dX9_isSign_104 (by decide) ?_
    exact r_zret X I (congrArg (fun z => (z, σ)) (Option.some.inj h).symm) rfl dX9_isSign_105
  replace h := ite_f h c4
  by_cases c5 : x0 = (45 : Int32)
  · have h := ite_t h c5
    have ht : Int32.toInt x0 = 45 := by rw [c5]; rfl
    refine lv_tableIn (off := 103) (tgt := 104) hx hb dX9_isSign_1 (by rw [ht]; decide) (by rw [ht]; decide) (by rw [ht]; rfl) (by decide) ?_
    refine lv_iconst (v := 1) hx hb dX9_isSign_104 (by decide) ?_
    exact r_zret X I (congrArg (fun z => (z, σ)) (Option.some.inj h).symm) rfl dX9_isSign_105
  replace h := ite_f h c5
  by_cases c6 : x0 = (47 : Int32)
  · have h := ite_t h c6
    have ht : Int32.toInt x0 = 47 := by rw [c6]; rfl
    refine lv_tableIn (off := 103) (tgt := 104) hx hb dX9_isSign_1 (by rw [ht]; decide) (by rw [ht]; decide) (by rw [ht]; rfl) (by decide) ?_
    refine lv_iconst (v := 1) hx hb dX9_isSign_104 (by decide) ?_
    exact r_zret X I (congrArg (fun z => (z, σ)) (Option.some.inj h).symm) rfl dX9_isSign_105
  replace h := ite_f h c6
  by_cases c7 : x0 = (59 : Int32)
  · have h := ite_t h c7
    have ht : Int32.toInt x0 = 59 := by rw [c7]; rfl
    refine lv_tableIn (off := 103) (tgt := 104) hx hb dX9_isSign_1 (by rw [ht]; decide) (by rw [ht]; decide) (by rw [ht]; rfl) (by decide) ?_
    refine lv_iconst (v := 1) hx hb dX9_isSign_104 (by decide) ?_
    exact r_zret X I (congrArg (fun z => (z, σ)) (Option.some.inj h).symm) rfl dX9_isSign_105
  replace h := ite_f h c7
  by_cases c8 : x0 = (60 : Int32)
  · have h := ite_t h c8
    have ht : Int32.toInt x0 = 60 := by rw [c8]; rfl
    refine lv_tableIn (off := 103) (tgt := 104) hx hb dX9_isSign_1 (by rw [ht]; decide) (by rw [ht]; decide) (by rw [ht]; rfl) (by decide) ?_
    refine lv_iconst (v := 1) hx hb dX9_isSign_104 (by decide) ?_
    exact r_zret X I (congrArg (fun z => (z, σ)) (Option.some.inj h).symm) rfl dX9_isSign_105
  replace h := ite_f h c8
  by_cases c9 : x0 = (61 : Int32)
  · have h := ite_t h c9
    have ht : Int32.toInt x0 = 61 := by rw [c9]; rfl
    refine lv_tableIn (off := 103) (tgt := 104) hx hb dX9_isSign_1 (by rw [ht]; decide) (by rw [ht]; decide) (by rw [ht]; rfl) (by decide) ?_
    refine lv_iconst (v := 1) hx hb dX9_isSign_104 (by decide) ?_
    exact r_zret X I (congrArg (fun z => (z, σ)) (Option.some.inj h).symm) rfl dX9_isSign_105
  replace h := ite_f h c9
  have kd : W p l e rm_X9_isSign s m args below meth c H locs 0 0 (MQ below (QI (vC E) A (q, σ)) args s 0 0 A) (F0 m 106 ls []) := by
    refine lv_iconst (v := 0) hx hb dX9_isSign_106 (by decide) ?_
    exact r_zret X I (congrArg (fun z => (z, σ)) (Option.some.inj h).symm) rfl dX9_isSign_107
  by_cases c10 : Int32.toInt x0 = 44
  · exact lv_tableIn (off := 105) (tgt := 106) hx hb dX9_isSign_1 (by rw [c10]; decide) (by rw [c10]; decide) (by rw [c10]; rfl) (by decide) kd
  by_cases c11 : Int32.toInt x0 = 46
  · exact lv_tableIn (off := 105) (tgt := 106) hx hb dX9_isSign_1 (by rw [c11]; decide) (by rw [c11]; decide) (by rw [c11]; rfl) (by decide) kd
  by_cases c12 : Int32.toInt x0 = 48
  · exact lv_tableIn (off := 105) (tgt := 106) hx hb dX9_isSign_1 (by rw [c12]; decide) (by rw [c12]; decide) (by rw [c12]; rfl) (by decide) kd
  by_cases c13 : Int32.toInt x0 = 49
  · exact lv_tableIn (off := 105) (tgt := 106) hx hb dX9_isSign_1 (by rw [c13]; decide) (by rw [c13]; decide) (by rw [c13]; rfl) (by decide) kd
  by_cases c14 : Int32.toInt x0 = 50
  · exact lv_tableIn (off := 105) (tgt := 106) hx hb dX9_isSign_1 (by rw [c14]; decide) (by rw [c14]; decide) (by rw [c14]; rfl) (by decide) kd
  by_cases c15 : Int32.toInt x0 = 51
  · exact lv_tableIn (off := 105) (tgt := 106) hx hb dX9_isSign_1 (by rw [c15]; decide) (by rw [c15]; decide) (by rw [c15]; rfl) (by decide) kd
  by_cases c16 : Int32.toInt x0 = 52
  · exact lv_tableIn (off := 105) (tgt := 106) hx hb dX9_isSign_1 (by rw [c16]; decide) (by rw [c16]; decide) (by rw [c16]; rfl) (by decide) kd
  by_cases c17 : Int32.toInt x0 = 53
  · exact lv_tableIn (off := 105) (tgt := 106) hx hb dX9_isSign_1 (by rw [c17]; decide) (by rw [c17]; decide) (by rw [c17]; rfl) (by decide) kd
  by_cases c18 : Int32.toInt x0 = 54
  · exact lv_tableIn (off := 105) (tgt := 106) hx hb dX9_isSign_1 (by rw [c18]; decide) (by rw [c18]; decide) (by rw [c18]; rfl) (by decide) kd
  by_cases c19 : Int32.toInt x0 = 55
  · exact lv_tableIn (off := 105) (tgt := 106) hx hb dX9_isSign_1 (by rw [c19]; decide) (by rw [c19]; decide) (by rw [c19]; rfl) (by decide) kd
  by_cases c20 : Int32.toInt x0 = 56
  · exact lv_tableIn (off := 105) (tgt := 106) hx hb dX9_isSign_1 (by rw [c20]; decide) (by rw [c20]; decide) (by rw [c20]; rfl) (by decide) kd
  by_cases c21 : Int32.toInt x0 = 57
  · exact lv_tableIn (off := 105) (tgt := 106) hx hb dX9_isSign_1 (by rw [c21]; decide) (by rw [c21]; decide) (by rw [c21]; rfl) (by decide) kd
  by_cases c22 : Int32.toInt x0 = 58
  · exact lv_tableIn (off := 105) (tgt := 106) hx hb dX9_isSign_1 (by rw [c22]; decide) (by rw [c22]; decide) (by rw [c22]; rfl) (by decide) kd
  have tc1 := lv_neT (a := 40) c1 (by decide)
  have tc2 := lv_neT (a := 41) c2 (by decide)
  have tc3 := lv_neT (a := 42) c3 (by decide)
  have tc4 := lv_neT (a := 43) c4 (by decide)
  have tc5 := lv_neT (a := 45) c5 (by decide)
  have tc6 := lv_neT (a := 47) c6 (by decide)
  have tc7 := lv_neT (a := 59) c7 (by decide)
  have tc8 := lv_neT (a := 60) c8 (by decide)
  have tc9 := lv_neT (a := 61) c9 (by decide)
  exact lv_tableOut (tgt := 106) hx hb dX9_isSign_1 (by omega) (by decide) kd
theorem c_X9_isSign {l : Launch} {E : CE} {σ : Mem} {x0 : Int32} {q : Int32} (h : m_X9_isSign σ x0 = some q) : CI l (vC E) yX9_isSign (.code yX9_isSign cX9_isSign 1 (some .boolean) :: GG) rm_X9_isSign [.int x0] σ (q, σ) :=
  mk_CI (by decide +kernel) (Nat.le_of_ble_eq_true rfl) (fun p e s m args below meth c A ls X I hl => w_X9_isSign_0 X  σ x0 h s.heap [] ls I (lv_sub hl [0] rfl))

def rm_X9_readWord : Room := { frames := 2, cells := 0, slots := 0, locals := 84 }
def f_X9_readWord_5 : Nat → Mem → Option (Mem)
  | 0, _ => none
  | n + 1, σ => (if (σ 3 2) ≤ (σ 3 4) then (some σ) else (gd (σ 3 4) 700 ((m_X9_isLetter σ (σ 4 (Int32.toNatClampNeg (σ 3 4)))).bind fun q2 => (if q2 = (0 : Int32) then (some σ) else (lt (ms σ 3 4 ((σ 3 4) + (1 : Int32))) fun σ4 => f_X9_readWord_5 n σ4)))))
def m_X9_readWord (σ : Mem) : Option (Mem) := (lt (ms σ 3 5 (1 : Int32)) fun σ1 => (f_X9_readWord_5 KF σ1))
set_option maxHeartbeats 4000000 in
set_option maxRecDepth 100000 in
theorem w_X9_readWord_5 {p : Program} {l : Launch} {e : Env} {s : State} {m : MethodId} {args : Array Value} {below : List Frame} {meth : Method} {c : Code} {A : Nat → Prop} {E : CE} {q : Mem} (X : CX p s m meth c args cX9_readWord 1 RX9 none) : ∀ (n : Nat), ∀ (σ : Mem)  , f_X9_readWord_5 n σ = some q → ∀ (H : Heap) (locs : List Loc) (ls : Array Slot), WI (vC E) A s H locs σ → lv_has ls 1 [(0, .ref (ca E 3))] → W p l e rm_X9_readWord s m args below meth c H locs 0 0 (MQ below (QV (vC E) A q) args s 0 0 A) (F0 m 5 ls []) := by
  have hx := X.1
  have hb := X.2.1
  intro n
  induction n with
  | zero =>
    intro σ  h
    cases h
  | succ n ih =>
    intro σ  h H locs ls I hl
    rw [f_X9_readWord_5] at h
    refine lv_aload_n hx hb dX9_readWord_5 rfl (lv_at hl 0 rfl) ?_
    refine gfC_X9_25 X I (kC_3 E) dX9_readWord_6 ?_
    refine lv_aload_n hx hb dX9_readWord_9 rfl (lv_at hl 0 rfl) ?_
    refine gfC_X9_19 X I (kC_3 E) dX9_readWord_10 ?_
    refine lv_icmp_ge (tgt := 44) hx hb dX9_readWord_13 (by decide) (fun c1 => ?_) (fun c1 => ?_)
    · have h := ite_t h c1
      exact r_vret X I (Option.some.inj h).symm dX9_readWord_44
    · have h := ite_f h c1
      refine lv_aload_n hx hb dX9_readWord_16 rfl (lv_at hl 0 rfl) ?_
      refine gfC_X9_9 X I (kC_3 E) (k' := 4) rfl dX9_readWord_17 ?_
      refine lv_aload_n hx hb dX9_readWord_20 rfl (lv_at hl 0 rfl) ?_
      refine gfC_X9_25 X I (kC_3 E) dX9_readWord_21 ?_
      obtain ⟨hin, h⟩ := gd_some h
      refine baldC X I (kC_4 E) hin dX9_readWord_24 ?_
      obtain ⟨q2, hq2, h⟩ := bd h
      refine r_callSI (V := (vC E)) (As := [.int (σ 4 (Int32.toNatClampNeg (σ 3 4)))]) (rest := []) X I hl (c_X9_isLetter  hq2) ys_X9_isLetter tw_237 ⟨rfl, rfl, Nat.le_of_ble_eq_true rfl, Nat.le_of_ble_eq_true rfl⟩ rfl rfl (Nat.le_of_ble_eq_true rfl) dX9_readWord_25 (fun H locs I => ?_)
      refine lv_if_eq (tgt := 44) hx hb dX9_readWord_28 (by decide) (fun c3 => ?_) (fun c3 => ?_)
      · have h := ite_t h c3
        exact r_vret X I (Option.some.inj h).symm dX9_readWord_44
      · have h := ite_f h c3
        refine lv_aload_n hx hb dX9_readWord_31 rfl (lv_at hl 0 rfl) ?_
        refine lv_dup hx hb dX9_readWord_32 rfl ?_
        refine gfC_X9_25 X I (kC_3 E) dX9_readWord_33 ?_
        refine lv_iconst (v := 1) hx hb dX9_readWord_36 (by decide) ?_
        refine lv_iadd hx hb dX9_readWord_37 ?_
        refine pfC_X9_25 X I (kC_3 E) dX9_readWord_38 (fun H locs I => ?_)
        obtain ⟨σ4, eσ4, h⟩ := lt_e h
        replace I := wi_nm eσ4 I
        refine lv_goto (tgt := 5) hx hb dX9_readWord_41 (by decide) ?_
        exact ih σ4 h H locs ls I (lv_sub hl [0] rfl)
set_option maxHeartbeats 4000000 in
set_option maxRecDepth 100000 in
theorem w_X9_readWord_0 {p : Program} {l : Launch} {e : Env} {s : State} {m : MethodId} {args : Array Value} {below : List Frame} {meth : Method} {c : Code} {A : Nat → Prop} {E : CE} {q : Mem} (X : CX p s m meth c args cX9_readWord 1 RX9 none) : ∀ (σ : Mem)  , m_X9_readWord σ = some q → ∀ (H : Heap) (locs : List Loc) (ls : Array Slot), WI (vC E) A s H locs σ → lv_has ls 1 [(0, .ref (ca E 3))] → W p l e rm_X9_readWord s m args below meth c H locs 0 0 (MQ below (QV (vC E) A q) args s 0 0 A) (F0 m 0 ls []) := by
  have hx := X.1
  have hb := X.2.1
  intro σ  h H locs ls I hl
  unfold m_X9_readWord at h
  refine lv_aload_n hx hb dX9_readWord_0 rfl (lv_at hl 0 rfl) ?_
  refine lv_iconst (v := 1) hx hb dX9_readWord_1 (by decide) ?_
  refine pfC_X9_28 X I (kC_3 E) dX9_readWord_2 (fun H locs I => ?_)
  obtain ⟨σ1, eσ1, h⟩ := lt_e h
  replace I := wi_nm eσ1 I
  exact w_X9_readWord_5 X   KF σ1 h H locs ls I (lv_sub hl [0] rfl)
theorem c_X9_readWord {l : Launch} {E : CE} {σ : Mem} {q : Mem} (h : m_X9_readWord σ = some q) : CV l (vC E) yX9_readWord (.code yX9_readWord cX9_readWord 1 none :: GG) rm_X9_readWord [.ref (ca E 3)] σ q :=
  mk_CV (by decide +kernel) (Nat.le_of_ble_eq_true rfl) (fun p e s m args below meth c A ls X I hl => w_X9_readWord_0 X  σ  h s.heap [] ls I (lv_sub hl [0] rfl))

def rm_X9_readNumber : Room := { frames := 2, cells := 0, slots := 0, locals := 84 }
def f_X9_readNumber_10 : Nat → Mem → Option (Mem)
  | 0, _ => none
  | n + 1, σ => (if (σ 3 2) ≤ (σ 3 4) then (if ((σ 3 4) - (σ 3 3)) ≤ (4 : Int32) then (some σ) else (lt (ms σ 3 6 (-1 : Int32)) fun σ3 => (some σ3))) else (gd (σ 3 4) 700 ((m_X9_isDigit σ (σ 4 (Int32.toNatClampNeg (σ 3 4)))).bind fun q4 => (if q4 = (0 : Int32) then (if ((σ 3 4) - (σ 3 3)) ≤ (4 : Int32) then (some σ) else (lt (ms σ 3 6 (-1 : Int32)) fun σ7 => (some σ7))) else (gd (σ 3 4) 700 (lt (ms σ 3 6 ((((10 : Int32) * (σ 3 6)) + (σ 4 (Int32.toNatClampNeg (σ 3 4)))) - (48 : Int32))) fun σ8 => (lt (ms σ8 3 4 ((σ8 3 4) + (1 : Int32))) fun σ9 => f_X9_readNumber_10 n σ9)))))))
def m_X9_readNumber (σ : Mem) : Option (Mem) := (lt (ms σ 3 5 (2 : Int32)) fun σ1 => (lt (ms σ1 3 6 (0 : Int32)) fun σ2 => (f_X9_readNumber_10 KF σ2)))
set_option maxHeartbeats 4000000 in
set_option maxRecDepth 100000 in
theorem w_X9_readNumber_10 {p : Program} {l : Launch} {e : Env} {s : State} {m : MethodId} {args : Array Value} {below : List Frame} {meth : Method} {c : Code} {A : Nat → Prop} {E : CE} {q : Mem} (X : CX p s m meth c args cX9_readNumber 1 RX9 none) : ∀ (n : Nat), ∀ (σ : Mem)  , f_X9_readNumber_10 n σ = some q → ∀ (H : Heap) (locs : List Loc) (ls : Array Slot), WI (vC E) A s H locs σ → lv_has ls 1 [(0, .ref (ca E 3))] → W p l e rm_X9_readNumber s m args below meth c H locs 0 0 (MQ below (QV (vC E) A q) args s 0 0 A) (F0 m 10 ls []) := by
  have hx := X.1
  have hb := X.2.1
  intro n
  induction n with
  | zero =>
    intro σ  h
    cases h
  | succ n ih =>
    intro σ  h H locs ls I hl
    rw [f_X9_readNumber_10] at h
    refine lv_aload_n hx hb dX9_readNumber_10 rfl (lv_at hl 0 rfl) ?_
    refine gfC_X9_25 X I (kC_3 E) dX9_readNumber_11 ?_
    refine lv_aload_n hx hb dX9_readNumber_14 rfl (lv_at hl 0 rfl) ?_
    refine gfC_X9_19 X I (kC_3 E) dX9_readNumber_15 ?_
    refine lv_icmp_ge (tgt := 73) hx hb dX9_readNumber_18 (by decide) (fun c1 => ?_) (fun c1 => ?_)
    · have h := ite_t h c1
      refine lv_aload_n hx hb dX9_readNumber_73 rfl (lv_at hl 0 rfl) ?_
      refine gfC_X9_25 X I (kC_3 E) dX9_readNumber_74 ?_
      refine lv_aload_n hx hb dX9_readNumber_77 rfl (lv_at hl 0 rfl) ?_
      refine gfC_X9_22 X I (kC_3 E) dX9_readNumber_78 ?_
      refine lv_isub hx hb dX9_readNumber_81 ?_
      refine lv_iconst (v := 4) hx hb dX9_readNumber_82 (by decide) ?_
      refine lv_icmp_le (tgt := 91) hx hb dX9_readNumber_83 (by decide) (fun c2 => ?_) (fun c2 => ?_)
      · have h := ite_t h c2
        exact r_vret X I (Option.some.inj h).symm dX9_readNumber_91
      · have h := ite_f h c2
        refine lv_aload_n hx hb dX9_readNumber_86 rfl (lv_at hl 0 rfl) ?_
        refine lv_iconst (v := -1) hx hb dX9_readNumber_87 (by decide) ?_
        refine pfC_X9_31 X I (kC_3 E) dX9_readNumber_88 (fun H locs I => ?_)
        obtain ⟨σ3, eσ3, h⟩ := lt_e h
        replace I := wi_nm eσ3 I
        exact r_vret X I (Option.some.inj h).symm dX9_readNumber_91
    · have h := ite_f h c1
      refine lv_aload_n hx hb dX9_readNumber_21 rfl (lv_at hl 0 rfl) ?_
      refine gfC_X9_9 X I (kC_3 E) (k' := 4) rfl dX9_readNumber_22 ?_
      refine lv_aload_n hx hb dX9_readNumber_25 rfl (lv_at hl 0 rfl) ?_
      refine gfC_X9_25 X I (kC_3 E) dX9_readNumber_26 ?_
      obtain ⟨hin, h⟩ := gd_some h
      refine baldC X I (kC_4 E) hin dX9_readNumber_29 ?_
      obtain ⟨q4, hq4, h⟩ := bd h
      refine r_callSI (V := (vC E)) (As := [.int (σ 4 (Int32.toNatClampNeg (σ 3 4)))]) (rest := []) X I hl (c_X9_isDigit  hq4) ys_X9_isDigit tw_243 ⟨rfl, rfl, Nat.le_of_ble_eq_true rfl, Nat.le_of_ble_eq_true rfl⟩ rfl rfl (Nat.le_of_ble_eq_true rfl) dX9_readNumber_30 (fun H locs I => ?_)
      refine lv_if_eq (tgt := 73) hx hb dX9_readNumber_33 (by decide) (fun c5 => ?_) (fun c5 => ?_)
      · have h := ite_t h c5
        refine lv_aload_n hx hb dX9_readNumber_73 rfl (lv_at hl 0 rfl) ?_
        refine gfC_X9_25 X I (kC_3 E) dX9_readNumber_74 ?_
        refine lv_aload_n hx hb dX9_readNumber_77 rfl (lv_at hl 0 rfl) ?_
        refine gfC_X9_22 X I (kC_3 E) dX9_readNumber_78 ?_
        refine lv_isub hx hb dX9_readNumber_81 ?_
        refine lv_iconst (v := 4) hx hb dX9_readNumber_82 (by decide) ?_
        refine lv_icmp_le (tgt := 91) hx hb dX9_readNumber_83 (by decide) (fun c6 => ?_) (fun c6 => ?_)
        · have h := ite_t h c6
          exact r_vret X I (Option.some.inj h).symm dX9_readNumber_91
        · have h := ite_f h c6
          refine lv_aload_n hx hb dX9_readNumber_86 rfl (lv_at hl 0 rfl) ?_
          refine lv_iconst (v := -1) hx hb dX9_readNumber_87 (by decide) ?_
          refine pfC_X9_31 X I (kC_3 E) dX9_readNumber_88 (fun H locs I => ?_)
          obtain ⟨σ7, eσ7, h⟩ := lt_e h
          replace I := wi_nm eσ7 I
          exact r_vret X I (Option.some.inj h).symm dX9_readNumber_91
      · have h := ite_f h c5
        refine lv_aload_n hx hb dX9_readNumber_36 rfl (lv_at hl 0 rfl) ?_
        refine lv_bipush (v := 10) hx hb dX9_readNumber_37 (by decide) ?_
        refine lv_aload_n hx hb dX9_readNumber_39 rfl (lv_at hl 0 rfl) ?_
        refine gfC_X9_31 X I (kC_3 E) dX9_readNumber_40 ?_
        refine lv_imul hx hb dX9_readNumber_43 ?_
        refine lv_aload_n hx hb dX9_readNumber_44 rfl (lv_at hl 0 rfl) ?_
        refine gfC_X9_9 X I (kC_3 E) (k' := 4) rfl dX9_readNumber_45 ?_
        refine lv_aload_n hx hb dX9_readNumber_48 rfl (lv_at hl 0 rfl) ?_
        refine gfC_X9_25 X I (kC_3 E) dX9_readNumber_49 ?_
        obtain ⟨hin, h⟩ := gd_some h
        refine baldC X I (kC_4 E) hin dX9_readNumber_52 ?_
        refine lv_iadd hx hb dX9_readNumber_53 ?_
        refine lv_bipush (v := 48) hx hb dX9_readNumber_54 (by decide) ?_
        refine lv_isub hx hb dX9_readNumber_56 ?_
        refine pfC_X9_31 X I (kC_3 E) dX9_readNumber_57 (fun H locs I => ?_)
        obtain ⟨σ8, eσ8, h⟩ := lt_e h
        replace I := wi_nm eσ8 I
        refine lv_aload_n hx hb dX9_readNumber_60 rfl (lv_at hl 0 rfl) ?_
        refine lv_dup hx hb dX9_readNumber_61 rfl ?_
        refine gfC_X9_25 X I (kC_3 E) dX9_readNumber_62 ?_
        refine lv_iconst (v := 1) hx hb dX9_readNumber_65 (by decide) ?_
        refine lv_iadd hx hb dX9_readNumber_66 ?_
        refine pfC_X9_25 X I (kC_3 E) dX9_readNumber_67 (fun H locs I => ?_)
        obtain ⟨σ9, eσ9, h⟩ := lt_e h
        replace I := wi_nm eσ9 I
        refine lv_goto (tgt := 10) hx hb dX9_readNumber_70 (by decide) ?_
        exact ih σ9 h H locs ls I (lv_sub hl [0] rfl)
set_option maxHeartbeats 4000000 in
set_option maxRecDepth 100000 in
theorem w_X9_readNumber_0 {p : Program} {l : Launch} {e : Env} {s : State} {m : MethodId} {args : Array Value} {below : List Frame} {meth : Method} {c : Code} {A : Nat → Prop} {E : CE} {q : Mem} (X : CX p s m meth c args cX9_readNumber 1 RX9 none) : ∀ (σ : Mem)  , m_X9_readNumber σ = some q → ∀ (H : Heap) (locs : List Loc) (ls : Array Slot), WI (vC E) A s H locs σ → lv_has ls 1 [(0, .ref (ca E 3))] → W p l e rm_X9_readNumber s m args below meth c H locs 0 0 (MQ below (QV (vC E) A q) args s 0 0 A) (F0 m 0 ls []) := by
  have hx := X.1
  have hb := X.2.1
  intro σ  h H locs ls I hl
  unfold m_X9_readNumber at h
  refine lv_aload_n hx hb dX9_readNumber_0 rfl (lv_at hl 0 rfl) ?_
  refine lv_iconst (v := 2) hx hb dX9_readNumber_1 (by decide) ?_
  refine pfC_X9_28 X I (kC_3 E) dX9_readNumber_2 (fun H locs I => ?_)
  obtain ⟨σ1, eσ1, h⟩ := lt_e h
  replace I := wi_nm eσ1 I
  refine lv_aload_n hx hb dX9_readNumber_5 rfl (lv_at hl 0 rfl) ?_
  refine lv_iconst (v := 0) hx hb dX9_readNumber_6 (by decide) ?_
  refine pfC_X9_31 X I (kC_3 E) dX9_readNumber_7 (fun H locs I => ?_)
  obtain ⟨σ2, eσ2, h⟩ := lt_e h
  replace I := wi_nm eσ2 I
  exact w_X9_readNumber_10 X   KF σ2 h H locs ls I (lv_sub hl [0] rfl)
theorem c_X9_readNumber {l : Launch} {E : CE} {σ : Mem} {q : Mem} (h : m_X9_readNumber σ = some q) : CV l (vC E) yX9_readNumber (.code yX9_readNumber cX9_readNumber 1 none :: GG) rm_X9_readNumber [.ref (ca E 3)] σ q :=
  mk_CV (by decide +kernel) (Nat.le_of_ble_eq_true rfl) (fun p e s m args below meth c A ls X I hl => w_X9_readNumber_0 X  σ  h s.heap [] ls I (lv_sub hl [0] rfl))

def rm_X9_next : Room := { frames := 3, cells := 0, slots := 0, locals := 104 }
def f_X9_next_47 (σ : Mem) : Option (Mem) := (lt (ms σ 3 4 (σ 3 3)) fun σ1 => (if (σ1 3 3) < (σ1 3 2) then (gd (σ1 3 3) 700 ((m_X9_isLetter σ1 (σ1 4 (Int32.toNatClampNeg (σ1 3 3)))).bind fun q3 => (if q3 = (0 : Int32) then (gd (σ1 3 3) 700 ((m_X9_isDigit σ1 (σ1 4 (Int32.toNatClampNeg (σ1 3 3)))).bind fun q5 => (if q5 = (0 : Int32) then (gd (σ1 3 3) 700 ((m_X9_isSign σ1 (σ1 4 (Int32.toNatClampNeg (σ1 3 3)))).bind fun q7 => (if q7 = (0 : Int32) then (lt (ms σ1 3 5 (3 : Int32)) fun σ9 => (lt (ms σ9 3 4 ((σ9 3 3) + (1 : Int32))) fun σ10 => (some σ10))) else (gd (σ1 3 3) 700 (lt (ms σ1 3 5 (σ1 4 (Int32.toNatClampNeg (σ1 3 3)))) fun σ11 => (lt (ms σ11 3 4 ((σ11 3 3) + (1 : Int32))) fun σ12 => (some σ12))))))) else ((m_X9_readNumber σ1).bind fun q13 => (some q13))))) else ((m_X9_readWord σ1).bind fun q14 => (some q14))))) else (lt (ms σ1 3 5 (0 : Int32)) fun σ15 => (some σ15))))
def f_X9_next_8 : Nat → Mem → Option (Mem)
  | 0, _ => none
  | n + 1, σ => (if (σ 3 2) ≤ (σ 3 3) then (f_X9_next_47 σ) else (gd (σ 3 3) 700 ((m_X9_isBlank σ (σ 4 (Int32.toNatClampNeg (σ 3 3)))).bind fun q2 => (if q2 = (0 : Int32) then (f_X9_next_47 σ) else (lt (ms σ 3 3 ((σ 3 3) + (1 : Int32))) fun σ4 => f_X9_next_8 n σ4)))))
def m_X9_next (σ : Mem) : Option (Mem) := (lt (ms σ 3 3 (σ 3 4)) fun σ1 => (f_X9_next_8 KF σ1))
set_option maxHeartbeats 4000000 in
set_option maxRecDepth 100000 in
theorem w_X9_next_47 {p : Program} {l : Launch} {e : Env} {s : State} {m : MethodId} {args : Array Value} {below : List Frame} {meth : Method} {c : Code} {A : Nat → Prop} {E : CE} {q : Mem} (X : CX p s m meth c args cX9_next 1 RX9 none) : ∀ (σ : Mem)  , f_X9_next_47 σ = some q → ∀ (H : Heap) (locs : List Loc) (ls : Array Slot), WI (vC E) A s H locs σ → lv_has ls 1 [(0, .ref (ca E 3))] → W p l e rm_X9_next s m args below meth c H locs 0 0 (MQ below (QV (vC E) A q) args s 0 0 A) (F0 m 47 ls []) := by
  have hx := X.1
  have hb := X.2.1
  intro σ  h H locs ls I hl
  unfold f_X9_next_47 at h
  refine lv_aload_n hx hb dX9_next_47 rfl (lv_at hl 0 rfl) ?_
  refine lv_aload_n hx hb dX9_next_48 rfl (lv_at hl 0 rfl) ?_
  refine gfC_X9_22 X I (kC_3 E) dX9_next_49 ?_
  refine pfC_X9_25 X I (kC_3 E) dX9_next_52 (fun H locs I => ?_)
  obtain ⟨σ1, eσ1, h⟩ := lt_e h
  replace I := wi_nm eσ1 I
  refine lv_aload_n hx hb dX9_next_55 rfl (lv_at hl 0 rfl) ?_
  refine gfC_X9_22 X I (kC_3 E) dX9_next_56 ?_
  refine lv_aload_n hx hb dX9_next_59 rfl (lv_at hl 0 rfl) ?_
  refine gfC_X9_19 X I (kC_3 E) dX9_next_60 ?_
  refine lv_icmp_lt (tgt := 74) hx hb dX9_next_63 (by decide) (fun c2 => ?_) (fun c2 => ?_)
  · have h := ite_t h c2
    refine lv_aload_n hx hb dX9_next_74 rfl (lv_at hl 0 rfl) ?_
    refine gfC_X9_9 X I (kC_3 E) (k' := 4) rfl dX9_next_75 ?_
    refine lv_aload_n hx hb dX9_next_78 rfl (lv_at hl 0 rfl) ?_
    refine gfC_X9_22 X I (kC_3 E) dX9_next_79 ?_
    obtain ⟨hin, h⟩ := gd_some h
    refine baldC X I (kC_4 E) hin dX9_next_82 ?_
    obtain ⟨q3, hq3, h⟩ := bd h
    refine r_callSI (V := (vC E)) (As := [.int (σ1 4 (Int32.toNatClampNeg (σ1 3 3)))]) (rest := []) X I hl (c_X9_isLetter  hq3) ys_X9_isLetter tw_237 ⟨rfl, rfl, Nat.le_of_ble_eq_true rfl, Nat.le_of_ble_eq_true rfl⟩ rfl rfl (Nat.le_of_ble_eq_true rfl) dX9_next_83 (fun H locs I => ?_)
    refine lv_if_eq (tgt := 96) hx hb dX9_next_86 (by decide) (fun c4 => ?_) (fun c4 => ?_)
    · have h := ite_t h c4
      refine lv_aload_n hx hb dX9_next_96 rfl (lv_at hl 0 rfl) ?_
      refine gfC_X9_9 X I (kC_3 E) (k' := 4) rfl dX9_next_97 ?_
      refine lv_aload_n hx hb dX9_next_100 rfl (lv_at hl 0 rfl) ?_
      refine gfC_X9_22 X I (kC_3 E) dX9_next_101 ?_
      obtain ⟨hin, h⟩ := gd_some h
      refine baldC X I (kC_4 E) hin dX9_next_104 ?_
      obtain ⟨q5, hq5, h⟩ := bd h
      refine r_callSI (V := (vC E)) (As := [.int (σ1 4 (Int32.toNatClampNeg (σ1 3 3)))]) (rest := []) X I hl (c_X9_isDigit  hq5) ys_X9_isDigit tw_243 ⟨rfl, rfl, Nat.le_of_ble_eq_true rfl, Nat.le_of_ble_eq_true rfl⟩ rfl rfl (Nat.le_of_ble_eq_true rfl) dX9_next_105 (fun H locs I => ?_)
      refine lv_if_eq (tgt := 118) hx hb dX9_next_108 (by decide) (fun c6 => ?_) (fun c6 => ?_)
      · have h := ite_t h c6
        refine lv_aload_n hx hb dX9_next_118 rfl (lv_at hl 0 rfl) ?_
        refine lv_aload_n hx hb dX9_next_119 rfl (lv_at hl 0 rfl) ?_
        refine gfC_X9_9 X I (kC_3 E) (k' := 4) rfl dX9_next_120 ?_
        refine lv_aload_n hx hb dX9_next_123 rfl (lv_at hl 0 rfl) ?_
        refine gfC_X9_22 X I (kC_3 E) dX9_next_124 ?_
        obtain ⟨hin, h⟩ := gd_some h
        refine baldC X I (kC_4 E) hin dX9_next_127 ?_
        obtain ⟨q7, hq7, h⟩ := bd h
        refine r_callSI (V := (vC E)) (As := [.int (σ1 4 (Int32.toNatClampNeg (σ1 3 3)))]) (rest := [.ref (ca E 3)]) X I hl (c_X9_isSign  hq7) ys_X9_isSign tw_247 ⟨rfl, rfl, Nat.le_of_ble_eq_true rfl, Nat.le_of_ble_eq_true rfl⟩ rfl rfl (Nat.le_of_ble_eq_true rfl) dX9_next_128 (fun H locs I => ?_)
        refine lv_if_eq (tgt := 146) hx hb dX9_next_131 (by decide) (fun c8 => ?_) (fun c8 => ?_)
        · have h := ite_t h c8
          refine lv_iconst (v := 3) hx hb dX9_next_146 (by decide) ?_
          refine pfC_X9_28 X I (kC_3 E) dX9_next_147 (fun H locs I => ?_)
          obtain ⟨σ9, eσ9, h⟩ := lt_e h
          replace I := wi_nm eσ9 I
          refine lv_aload_n hx hb dX9_next_150 rfl (lv_at hl 0 rfl) ?_
          refine lv_aload_n hx hb dX9_next_151 rfl (lv_at hl 0 rfl) ?_
          refine gfC_X9_22 X I (kC_3 E) dX9_next_152 ?_
          refine lv_iconst (v := 1) hx hb dX9_next_155 (by decide) ?_
          refine lv_iadd hx hb dX9_next_156 ?_
          refine pfC_X9_25 X I (kC_3 E) dX9_next_157 (fun H locs I => ?_)
          obtain ⟨σ10, eσ10, h⟩ := lt_e h
          replace I := wi_nm eσ10 I
          exact r_vret X I (Option.some.inj h).symm dX9_next_160
        · have h := ite_f h c8
          refine lv_aload_n hx hb dX9_next_134 rfl (lv_at hl 0 rfl) ?_
          refine gfC_X9_9 X I (kC_3 E) (k' := 4) rfl dX9_next_135 ?_
          refine lv_aload_n hx hb dX9_next_138 rfl (lv_at hl 0 rfl) ?_
          refine gfC_X9_22 X I (kC_3 E) dX9_next_139 ?_
          obtain ⟨hin, h⟩ := gd_some h
          refine baldC X I (kC_4 E) hin dX9_next_142 ?_
          refine lv_goto (tgt := 147) hx hb dX9_next_143 (by decide) ?_
          refine pfC_X9_28 X I (kC_3 E) dX9_next_147 (fun H locs I => ?_)
          obtain ⟨σ11, eσ11, h⟩ := lt_e h
          replace I := wi_nm eσ11 I
          refine lv_aload_n hx hb dX9_next_150 rfl (lv_at hl 0 rfl) ?_
          refine lv_aload_n hx hb dX9_next_151 rfl (lv_at hl 0 rfl) ?_
          refine gfC_X9_22 X I (kC_3 E) dX9_next_152 ?_
          refine lv_iconst (v := 1) hx hb dX9_next_155 (by decide) ?_
          refine lv_iadd hx hb dX9_next_156 ?_
          refine pfC_X9_25 X I (kC_3 E) dX9_next_157 (fun H locs I => ?_)
          obtain ⟨σ12, eσ12, h⟩ := lt_e h
          replace I := wi_nm eσ12 I
          exact r_vret X I (Option.some.inj h).symm dX9_next_160
      · have h := ite_f h c6
        refine lv_aload_n hx hb dX9_next_111 rfl (lv_at hl 0 rfl) ?_
        obtain ⟨q13, hq13, h⟩ := bd h
        refine r_callVV (V := (vC E)) (k := 3) (As := []) (rest := []) X I hl (c_X9_readNumber  hq13) yv_X9_readNumber tw_251 ⟨rfl, rfl, Nat.le_of_ble_eq_true rfl, Nat.le_of_ble_eq_true rfl⟩ (kC_3 E).1 ((kC_3 E).2 (σ1 3)) rfl rfl rfl (Nat.le_of_ble_eq_true rfl) dX9_next_112 (fun H locs I => ?_)
        refine lv_goto (tgt := 160) hx hb dX9_next_115 (by decide) ?_
        exact r_vret X I (Option.some.inj h).symm dX9_next_160
    · have h := ite_f h c4
      refine lv_aload_n hx hb dX9_next_89 rfl (lv_at hl 0 rfl) ?_
      obtain ⟨q14, hq14, h⟩ := bd h
      refine r_callVV (V := (vC E)) (k := 3) (As := []) (rest := []) X I hl (c_X9_readWord  hq14) yv_X9_readWord tw_256 ⟨rfl, rfl, Nat.le_of_ble_eq_true rfl, Nat.le_of_ble_eq_true rfl⟩ (kC_3 E).1 ((kC_3 E).2 (σ1 3)) rfl rfl rfl (Nat.le_of_ble_eq_true rfl) dX9_next_90 (fun H locs I => ?_)
      refine lv_goto (tgt := 160) hx hb dX9_next_93 (by decide) ?_
      exact r_vret X I (Option.some.inj h).symm dX9_next_160
  · have h := ite_f h c2
    refine lv_aload_n hx hb dX9_next_66 rfl (lv_at hl 0 rfl) ?_
    refine lv_iconst (v := 0) hx hb dX9_next_67 (by decide) ?_
    refine pfC_X9_28 X I (kC_3 E) dX9_next_68 (fun H locs I => ?_)
    obtain ⟨σ15, eσ15, h⟩ := lt_e h
    replace I := wi_nm eσ15 I
    refine lv_goto (tgt := 160) hx hb dX9_next_71 (by decide) ?_
    exact r_vret X I (Option.some.inj h).symm dX9_next_160
set_option maxHeartbeats 4000000 in
set_option maxRecDepth 100000 in
theorem w_X9_next_8 {p : Program} {l : Launch} {e : Env} {s : State} {m : MethodId} {args : Array Value} {below : List Frame} {meth : Method} {c : Code} {A : Nat → Prop} {E : CE} {q : Mem} (X : CX p s m meth c args cX9_next 1 RX9 none) : ∀ (n : Nat), ∀ (σ : Mem)  , f_X9_next_8 n σ = some q → ∀ (H : Heap) (locs : List Loc) (ls : Array Slot), WI (vC E) A s H locs σ → lv_has ls 1 [(0, .ref (ca E 3))] → W p l e rm_X9_next s m args below meth c H locs 0 0 (MQ below (QV (vC E) A q) args s 0 0 A) (F0 m 8 ls []) := by
  have hx := X.1
  have hb := X.2.1
  intro n
  induction n with
  | zero =>
    intro σ  h
    cases h
  | succ n ih =>
    intro σ  h H locs ls I hl
    rw [f_X9_next_8] at h
    refine lv_aload_n hx hb dX9_next_8 rfl (lv_at hl 0 rfl) ?_
    refine gfC_X9_22 X I (kC_3 E) dX9_next_9 ?_
    refine lv_aload_n hx hb dX9_next_12 rfl (lv_at hl 0 rfl) ?_
    refine gfC_X9_19 X I (kC_3 E) dX9_next_13 ?_
    refine lv_icmp_ge (tgt := 47) hx hb dX9_next_16 (by decide) (fun c1 => ?_) (fun c1 => ?_)
    · have h := ite_t h c1
      exact w_X9_next_47 X   σ h H locs ls I (lv_sub hl [0] rfl)
    · have h := ite_f h c1
      refine lv_aload_n hx hb dX9_next_19 rfl (lv_at hl 0 rfl) ?_
      refine gfC_X9_9 X I (kC_3 E) (k' := 4) rfl dX9_next_20 ?_
      refine lv_aload_n hx hb dX9_next_23 rfl (lv_at hl 0 rfl) ?_
      refine gfC_X9_22 X I (kC_3 E) dX9_next_24 ?_
      obtain ⟨hin, h⟩ := gd_some h
      refine baldC X I (kC_4 E) hin dX9_next_27 ?_
      obtain ⟨q2, hq2, h⟩ := bd h
      refine r_callSI (V := (vC E)) (As := [.int (σ 4 (Int32.toNatClampNeg (σ 3 3)))]) (rest := []) X I hl (c_X9_isBlank  hq2) ys_X9_isBlank tw_261 ⟨rfl, rfl, Nat.le_of_ble_eq_true rfl, Nat.le_of_ble_eq_true rfl⟩ rfl rfl (Nat.le_of_ble_eq_true rfl) dX9_next_28 (fun H locs I => ?_)
      refine lv_if_eq (tgt := 47) hx hb dX9_next_31 (by decide) (fun c3 => ?_) (fun c3 => ?_)
      · have h := ite_t h c3
        exact w_X9_next_47 X   σ h H locs ls I (lv_sub hl [0] rfl)
      · have h := ite_f h c3
        refine lv_aload_n hx hb dX9_next_34 rfl (lv_at hl 0 rfl) ?_
        refine lv_dup hx hb dX9_next_35 rfl ?_
        refine gfC_X9_22 X I (kC_3 E) dX9_next_36 ?_
        refine lv_iconst (v := 1) hx hb dX9_next_39 (by decide) ?_
        refine lv_iadd hx hb dX9_next_40 ?_
        refine pfC_X9_22 X I (kC_3 E) dX9_next_41 (fun H locs I => ?_)
        obtain ⟨σ4, eσ4, h⟩ := lt_e h
        replace I := wi_nm eσ4 I
        refine lv_goto (tgt := 8) hx hb dX9_next_44 (by decide) ?_
        exact ih σ4 h H locs ls I (lv_sub hl [0] rfl)
set_option maxHeartbeats 4000000 in
set_option maxRecDepth 100000 in
theorem w_X9_next_0 {p : Program} {l : Launch} {e : Env} {s : State} {m : MethodId} {args : Array Value} {below : List Frame} {meth : Method} {c : Code} {A : Nat → Prop} {E : CE} {q : Mem} (X : CX p s m meth c args cX9_next 1 RX9 none) : ∀ (σ : Mem)  , m_X9_next σ = some q → ∀ (H : Heap) (locs : List Loc) (ls : Array Slot), WI (vC E) A s H locs σ → lv_has ls 1 [(0, .ref (ca E 3))] → W p l e rm_X9_next s m args below meth c H locs 0 0 (MQ below (QV (vC E) A q) args s 0 0 A) (F0 m 0 ls []) := by
  have hx := X.1
  have hb := X.2.1
  intro σ  h H locs ls I hl
  unfold m_X9_next at h
  refine lv_aload_n hx hb dX9_next_0 rfl (lv_at hl 0 rfl) ?_
  refine lv_aload_n hx hb dX9_next_1 rfl (lv_at hl 0 rfl) ?_
  refine gfC_X9_25 X I (kC_3 E) dX9_next_2 ?_
  refine pfC_X9_22 X I (kC_3 E) dX9_next_5 (fun H locs I => ?_)
  obtain ⟨σ1, eσ1, h⟩ := lt_e h
  replace I := wi_nm eσ1 I
  exact w_X9_next_8 X   KF σ1 h H locs ls I (lv_sub hl [0] rfl)
theorem c_X9_next {l : Launch} {E : CE} {σ : Mem} {q : Mem} (h : m_X9_next σ = some q) : CV l (vC E) yX9_next (.code yX9_next cX9_next 1 none :: GG) rm_X9_next [.ref (ca E 3)] σ q :=
  mk_CV (by decide +kernel) (Nat.le_of_ble_eq_true rfl) (fun p e s m args below meth c A ls X I hl => w_X9_next_0 X  σ  h s.heap [] ls I (lv_sub hl [0] rfl))

def rm_X9_add : Room := { frames := 1, cells := 0, slots := 0, locals := 64 }
def f_X9_add_3 (x1 : Int32) : Nat → Mem → Int32 → Option (Mem)
  | 0, _, _ => none
  | n + 1, σ, x2 => (if x2 < (0 : Int32) then (some σ) else (if (700 : Int32) ≤ (σ 3 1) then f_X9_add_3 x1 n σ (x2 + (-8)) else (gd (σ 3 1) 700 (lt (ms σ 4 (Int32.toNatClampNeg (σ 3 1)) ((Int32.toInt8 ((Int32.toInt8 ((Int32.toUInt32 x1 >>> (Int32.toUInt32 x2 &&& Int32.toUInt32 31)).toInt32)).toInt32)).toInt32)) fun σ3 => (lt (ms σ3 3 1 ((σ3 3 1) + (1 : Int32))) fun σ4 => f_X9_add_3 x1 n σ4 (x2 + (-8)))))))
def m_X9_add (σ : Mem) (x1 : Int32) : Option (Mem) := (f_X9_add_3 x1 KF σ (24 : Int32))
set_option maxHeartbeats 4000000 in
set_option maxRecDepth 100000 in
theorem w_X9_add_3 {p : Program} {l : Launch} {e : Env} {s : State} {m : MethodId} {args : Array Value} {below : List Frame} {meth : Method} {c : Code} {A : Nat → Prop} {E : CE} {q : Mem} (X : CX p s m meth c args cX9_add 3 RX9 none) {x1 : Int32} : ∀ (n : Nat), ∀ (σ : Mem) (x2 : Int32) , f_X9_add_3 x1 n σ x2 = some q → ∀ (H : Heap) (locs : List Loc) (ls : Array Slot), WI (vC E) A s H locs σ → lv_has ls 3 [(0, .ref (ca E 3)), (1, .int x1), (2, .int x2)] → W p l e rm_X9_add s m args below meth c H locs 0 0 (MQ below (QV (vC E) A q) args s 0 0 A) (F0 m 3 ls []) := by
  have hx := X.1
  have hb := X.2.1
  intro n
  induction n with
  | zero =>
    intro σ x2 h
    cases h
  | succ n ih =>
    intro σ x2 h H locs ls I hl
    rw [f_X9_add_3] at h
    refine lv_iload_n hx hb dX9_add_3 rfl (lv_at hl 2 rfl) ?_
    refine lv_if_lt (tgt := 46) hx hb dX9_add_4 (by decide) (fun c1 => ?_) (fun c1 => ?_)
    · have h := ite_t h c1
      exact r_vret X I (Option.some.inj h).symm dX9_add_46
    · have h := ite_f h c1
      refine lv_aload_n hx hb dX9_add_7 rfl (lv_at hl 0 rfl) ?_
      refine gfC_X9_15 X I (kC_3 E) dX9_add_8 ?_
      refine lv_sipush (v := 700) hx hb dX9_add_11 (by decide) ?_
      refine lv_icmp_ge (tgt := 40) hx hb dX9_add_14 (by decide) (fun c2 => ?_) (fun c2 => ?_)
      · have h := ite_t h c2
        refine lv_iinc (v := (x2 + (-8))) (lv' := [(2, .int (x2 + (-8))), (0, .ref (ca E 3)), (1, .int x1)]) hx hb dX9_add_40 hl (k := 2) rfl rfl (by decide) rfl (fun ls hl => ?_)
        refine lv_goto (tgt := 3) hx hb dX9_add_43 (by decide) ?_
        exact ih σ (x2 + (-8)) h H locs ls I (lv_sub hl [1, 2, 0] rfl)
      · have h := ite_f h c2
        refine lv_aload_n hx hb dX9_add_17 rfl (lv_at hl 0 rfl) ?_
        refine gfC_X9_9 X I (kC_3 E) (k' := 4) rfl dX9_add_18 ?_
        refine lv_aload_n hx hb dX9_add_21 rfl (lv_at hl 0 rfl) ?_
        refine gfC_X9_15 X I (kC_3 E) dX9_add_22 ?_
        refine lv_iload_n hx hb dX9_add_25 rfl (lv_at hl 1 rfl) ?_
        refine lv_iload_n hx hb dX9_add_26 rfl (lv_at hl 2 rfl) ?_
        refine lv_iushr hx hb dX9_add_27 rfl ?_
        refine lv_i2b hx hb dX9_add_28 rfl ?_
        obtain ⟨hin, h⟩ := gd_some h
        refine bastC X I (kC_4 E) hin dX9_add_29 (fun H locs I => ?_)
        obtain ⟨σ3, eσ3, h⟩ := lt_e h
        replace I := wi_nm eσ3 I
        refine lv_aload_n hx hb dX9_add_30 rfl (lv_at hl 0 rfl) ?_
        refine lv_dup hx hb dX9_add_31 rfl ?_
        refine gfC_X9_15 X I (kC_3 E) dX9_add_32 ?_
        refine lv_iconst (v := 1) hx hb dX9_add_35 (by decide) ?_
        refine lv_iadd hx hb dX9_add_36 ?_
        refine pfC_X9_15 X I (kC_3 E) dX9_add_37 (fun H locs I => ?_)
        obtain ⟨σ4, eσ4, h⟩ := lt_e h
        replace I := wi_nm eσ4 I
        refine lv_iinc (v := (x2 + (-8))) (lv' := [(2, .int (x2 + (-8))), (0, .ref (ca E 3)), (1, .int x1)]) hx hb dX9_add_40 hl (k := 2) rfl rfl (by decide) rfl (fun ls hl => ?_)
        refine lv_goto (tgt := 3) hx hb dX9_add_43 (by decide) ?_
        exact ih σ4 (x2 + (-8)) h H locs ls I (lv_sub hl [1, 2, 0] rfl)
set_option maxHeartbeats 4000000 in
set_option maxRecDepth 100000 in
theorem w_X9_add_0 {p : Program} {l : Launch} {e : Env} {s : State} {m : MethodId} {args : Array Value} {below : List Frame} {meth : Method} {c : Code} {A : Nat → Prop} {E : CE} {q : Mem} (X : CX p s m meth c args cX9_add 3 RX9 none) : ∀ (σ : Mem) (x1 : Int32) , m_X9_add σ x1 = some q → ∀ (H : Heap) (locs : List Loc) (ls : Array Slot), WI (vC E) A s H locs σ → lv_has ls 3 [(0, .ref (ca E 3)), (1, .int x1)] → W p l e rm_X9_add s m args below meth c H locs 0 0 (MQ below (QV (vC E) A q) args s 0 0 A) (F0 m 0 ls []) := by
  have hx := X.1
  have hb := X.2.1
  intro σ x1 h H locs ls I hl
  unfold m_X9_add at h
  refine lv_bipush (v := 24) hx hb dX9_add_0 (by decide) ?_
  refine lv_istore_n (lv' := [(2, .int (24 : Int32)), (0, .ref (ca E 3)), (1, .int x1)]) hx hb dX9_add_2 rfl hl (by decide) rfl (fun ls hl => ?_)
  exact w_X9_add_3 X   KF σ (24 : Int32) h H locs ls I (lv_sub hl [1, 2, 0] rfl)
theorem c_X9_add {l : Launch} {E : CE} {σ : Mem} {x1 : Int32} {q : Mem} (h : m_X9_add σ x1 = some q) : CV l (vC E) yX9_add (.code yX9_add cX9_add 3 none :: GG) rm_X9_add [.ref (ca E 3), .int x1] σ q :=
  mk_CV (by decide +kernel) (Nat.le_of_ble_eq_true rfl) (fun p e s m args below meth c A ls X I hl => w_X9_add_0 X  σ x1 h s.heap [] ls I (lv_sub hl [0, 1] rfl))

def rm_X9_begin : Room := { frames := 2, cells := 0, slots := 0, locals := 85 }
def m_X9_begin (σ : Mem) (x1 : Int32) : Option (Mem) := (lt (ms σ 3 2 (imin x1 (σ 3 1))) fun σ1 => (lt (ms σ1 3 4 (0 : Int32)) fun σ2 => (some σ2)))
set_option maxHeartbeats 4000000 in
set_option maxRecDepth 100000 in
theorem w_X9_begin_0 {p : Program} {l : Launch} {e : Env} {s : State} {m : MethodId} {args : Array Value} {below : List Frame} {meth : Method} {c : Code} {A : Nat → Prop} {E : CE} {q : Mem} (X : CX p s m meth c args cX9_begin 2 RX9 none) : ∀ (σ : Mem) (x1 : Int32) , m_X9_begin σ x1 = some q → ∀ (H : Heap) (locs : List Loc) (ls : Array Slot), WI (vC E) A s H locs σ → lv_has ls 2 [(0, .ref (ca E 3)), (1, .int x1)] → W p l e rm_X9_begin s m args below meth c H locs 0 0 (MQ below (QV (vC E) A q) args s 0 0 A) (F0 m 0 ls []) := by
  have hx := X.1
  have hb := X.2.1
  intro σ x1 h H locs ls I hl
  unfold m_X9_begin at h
  refine lv_aload_n hx hb dX9_begin_0 rfl (lv_at hl 0 rfl) ?_
  refine lv_iload_n hx hb dX9_begin_1 rfl (lv_at hl 1 rfl) ?_
  refine lv_aload_n hx hb dX9_begin_2 rfl (lv_at hl 0 rfl) ?_
  refine gfC_X9_15 X I (kC_3 E) dX9_begin_3 ?_
  refine r_min X hl tw_266 ⟨Nat.le_of_ble_eq_true rfl, Nat.le_of_ble_eq_true rfl⟩ dX9_begin_6 ?_
  refine pfC_X9_19 X I (kC_3 E) dX9_begin_9 (fun H locs I => ?_)
  obtain ⟨σ1, eσ1, h⟩ := lt_e h
  replace I := wi_nm eσ1 I
  refine lv_aload_n hx hb dX9_begin_12 rfl (lv_at hl 0 rfl) ?_
  refine lv_iconst (v := 0) hx hb dX9_begin_13 (by decide) ?_
  refine pfC_X9_25 X I (kC_3 E) dX9_begin_14 (fun H locs I => ?_)
  obtain ⟨σ2, eσ2, h⟩ := lt_e h
  replace I := wi_nm eσ2 I
  exact r_vret X I (Option.some.inj h).symm dX9_begin_17
theorem c_X9_begin {l : Launch} {E : CE} {σ : Mem} {x1 : Int32} {q : Mem} (h : m_X9_begin σ x1 = some q) : CV l (vC E) yX9_begin (.code yX9_begin cX9_begin 2 none :: GG) rm_X9_begin [.ref (ca E 3), .int x1] σ q :=
  mk_CV (by decide +kernel) (Nat.le_of_ble_eq_true rfl) (fun p e s m args below meth c A ls X I hl => w_X9_begin_0 X  σ x1 h s.heap [] ls I (lv_sub hl [0, 1] rfl))

def rm_X9_isWord : Room := { frames := 6, cells := 0, slots := 0, locals := 170 }
def f_X9_isWord_28 (w1 : Nat) : Nat → Mem → Int32 → Option (Int32)
  | 0, _, _ => none
  | n + 1, σ, x2 => (if (sLen w1) ≤ x2 then (some (1 : Int32)) else (gd ((σ 3 3) + x2) 700 (gd x2 (sNum w1) (if (σ 4 (Int32.toNatClampNeg ((σ 3 3) + x2))) = (sch w1 (Int32.toNatClampNeg x2)) then f_X9_isWord_28 w1 n σ (x2 + 1) else (some (0 : Int32))))))
def m_X9_isWord (w1 : Nat) (σ : Mem) : Option (Int32) := (if (σ 3 5) = (1 : Int32) then (if ((σ 3 4) - (σ 3 3)) = (sLen w1) then (f_X9_isWord_28 w1 KF σ (0 : Int32)) else (some (0 : Int32))) else (some (0 : Int32)))
set_option maxHeartbeats 4000000 in
set_option maxRecDepth 100000 in
theorem w_X9_isWord_28 {p : Program} {l : Launch} {e : Env} {s : State} {m : MethodId} {args : Array Value} {below : List Frame} {meth : Method} {c : Code} {A : Nat → Prop} {E : CE} {q : Int32} (X : CX p s m meth c args cX9_isWord 3 RX9 (some .boolean)) {w1 : Nat} (hw1 : w1 < 50) : ∀ (n : Nat), ∀ (σ : Mem) (x2 : Int32) , f_X9_isWord_28 w1 n σ x2 = some q → ∀ (H : Heap) (locs : List Loc) (ls : Array Slot), WI (vC E) A s H locs σ → lv_has ls 3 [(0, .ref (ca E 3)), (1, .ref (saC E w1)), (2, .int x2)] → W p l e rm_X9_isWord s m args below meth c H locs 0 0 (MQ below (QI (vC E) A (q, σ)) args s 0 0 A) (F0 m 28 ls []) := by
  have hx := X.1
  have hb := X.2.1
  intro n
  induction n with
  | zero =>
    intro σ x2 h
    cases h
  | succ n ih =>
    intro σ x2 h H locs ls I hl
    rw [f_X9_isWord_28] at h
    refine lv_iload_n hx hb dX9_isWord_28 rfl (lv_at hl 2 rfl) ?_
    refine lv_aload_n hx hb dX9_isWord_29 rfl (lv_at hl 1 rfl) ?_
    refine slenC X I hl hw1 tw_267 ⟨Nat.le_of_ble_eq_true rfl, Nat.le_of_ble_eq_true rfl⟩ (Nat.le_of_ble_eq_true rfl) dX9_isWord_30 (fun H locs I => ?_)
    refine lv_icmp_ge (tgt := 63) hx hb dX9_isWord_33 (by decide) (fun c1 => ?_) (fun c1 => ?_)
    · have h := ite_t h c1
      refine lv_iconst (v := 1) hx hb dX9_isWord_63 (by decide) ?_
      exact r_zret X I (congrArg (fun z => (z, σ)) (Option.some.inj h).symm) rfl dX9_isWord_64
    · have h := ite_f h c1
      refine lv_aload_n hx hb dX9_isWord_36 rfl (lv_at hl 0 rfl) ?_
      refine gfC_X9_9 X I (kC_3 E) (k' := 4) rfl dX9_isWord_37 ?_
      refine lv_aload_n hx hb dX9_isWord_40 rfl (lv_at hl 0 rfl) ?_
      refine gfC_X9_22 X I (kC_3 E) dX9_isWord_41 ?_
      refine lv_iload_n hx hb dX9_isWord_44 rfl (lv_at hl 2 rfl) ?_
      refine lv_iadd hx hb dX9_isWord_45 ?_
      obtain ⟨hin, h⟩ := gd_some h
      refine baldC X I (kC_4 E) hin dX9_isWord_46 ?_
      refine lv_aload_n hx hb dX9_isWord_47 rfl (lv_at hl 1 rfl) ?_
      refine lv_iload_n hx hb dX9_isWord_48 rfl (lv_at hl 2 rfl) ?_
      obtain ⟨hin, h⟩ := gd_some h
      refine schrC X I hl hw1 hin tw_268 ⟨Nat.le_of_ble_eq_true rfl, Nat.le_of_ble_eq_true rfl⟩ (Nat.le_of_ble_eq_true rfl) dX9_isWord_49 (fun H locs I => ?_)
      refine lv_icmp_eq (tgt := 57) hx hb dX9_isWord_52 (by decide) (fun c2 => ?_) (fun c2 => ?_)
      · have h := ite_t h c2
        refine lv_iinc (v := (x2 + 1)) (lv' := [(2, .int (x2 + 1)), (0, .ref (ca E 3)), (1, .ref (saC E w1))]) hx hb dX9_isWord_57 hl (k := 2) rfl rfl (by decide) rfl (fun ls hl => ?_)
        refine lv_goto (tgt := 28) hx hb dX9_isWord_60 (by decide) ?_
        exact ih σ (x2 + 1) h H locs ls I (lv_sub hl [1, 2, 0] rfl)
      · have h := ite_f h c2
        refine lv_iconst (v := 0) hx hb dX9_isWord_55 (by decide) ?_
        exact r_zret X I (congrArg (fun z => (z, σ)) (Option.some.inj h).symm) rfl dX9_isWord_56
set_option maxHeartbeats 4000000 in
set_option maxRecDepth 100000 in
theorem w_X9_isWord_0 {p : Program} {l : Launch} {e : Env} {s : State} {m : MethodId} {args : Array Value} {below : List Frame} {meth : Method} {c : Code} {A : Nat → Prop} {E : CE} {q : Int32} (X : CX p s m meth c args cX9_isWord 3 RX9 (some .boolean)) {w1 : Nat} (hw1 : w1 < 50) : ∀ (σ : Mem)  , m_X9_isWord w1 σ = some q → ∀ (H : Heap) (locs : List Loc) (ls : Array Slot), WI (vC E) A s H locs σ → lv_has ls 3 [(0, .ref (ca E 3)), (1, .ref (saC E w1))] → W p l e rm_X9_isWord s m args below meth c H locs 0 0 (MQ below (QI (vC E) A (q, σ)) args s 0 0 A) (F0 m 0 ls []) := by
  have hx := X.1
  have hb := X.2.1
  intro σ  h H locs ls I hl
  unfold m_X9_isWord at h
  refine lv_aload_n hx hb dX9_isWord_0 rfl (lv_at hl 0 rfl) ?_
  refine gfC_X9_28 X I (kC_3 E) dX9_isWord_1 ?_
  refine lv_iconst (v := 1) hx hb dX9_isWord_4 (by decide) ?_
  refine lv_icmp_ne (tgt := 24) hx hb dX9_isWord_5 (by decide) (fun c1 => ?_) (fun c1 => ?_)
  · have h := ite_f h c1
    refine lv_iconst (v := 0) hx hb dX9_isWord_24 (by decide) ?_
    exact r_zret X I (congrArg (fun z => (z, σ)) (Option.some.inj h).symm) rfl dX9_isWord_25
  · have h := ite_t h c1
    refine lv_aload_n hx hb dX9_isWord_8 rfl (lv_at hl 0 rfl) ?_
    refine gfC_X9_25 X I (kC_3 E) dX9_isWord_9 ?_
    refine lv_aload_n hx hb dX9_isWord_12 rfl (lv_at hl 0 rfl) ?_
    refine gfC_X9_22 X I (kC_3 E) dX9_isWord_13 ?_
    refine lv_isub hx hb dX9_isWord_16 ?_
    refine lv_aload_n hx hb dX9_isWord_17 rfl (lv_at hl 1 rfl) ?_
    refine slenC X I hl hw1 tw_267 ⟨Nat.le_of_ble_eq_true rfl, Nat.le_of_ble_eq_true rfl⟩ (Nat.le_of_ble_eq_true rfl) dX9_isWord_18 (fun H locs I => ?_)
    refine lv_icmp_eq (tgt := 26) hx hb dX9_isWord_21 (by decide) (fun c2 => ?_) (fun c2 => ?_)
    · have h := ite_t h c2
      refine lv_iconst (v := 0) hx hb dX9_isWord_26 (by decide) ?_
      refine lv_istore_n (lv' := [(2, .int (0 : Int32)), (0, .ref (ca E 3)), (1, .ref (saC E w1))]) hx hb dX9_isWord_27 rfl hl (by decide) rfl (fun ls hl => ?_)
      exact w_X9_isWord_28 X hw1  KF σ (0 : Int32) h H locs ls I (lv_sub hl [1, 2, 0] rfl)
    · have h := ite_f h c2
      refine lv_iconst (v := 0) hx hb dX9_isWord_24 (by decide) ?_
      exact r_zret X I (congrArg (fun z => (z, σ)) (Option.some.inj h).symm) rfl dX9_isWord_25
theorem c_X9_isWord {l : Launch} {E : CE} {w1 : Nat} {σ : Mem} (hw1 : w1 < 50) {q : Int32} (h : m_X9_isWord w1 σ = some q) : CI l (vC E) yX9_isWord (.code yX9_isWord cX9_isWord 3 (some .boolean) :: GG) rm_X9_isWord [.ref (ca E 3), .ref (saC E w1)] σ (q, σ) :=
  mk_CI (by decide +kernel) (Nat.le_of_ble_eq_true rfl) (fun p e s m args below meth c A ls X I hl => w_X9_isWord_0 X hw1 σ  h s.heap [] ls I (lv_sub hl [0, 1] rfl))

/-! shares: sets of houses; what is the most -/
theorem gb_nI {a i : Nat} (hi : i < 32) : gb (nI a) i = a.testBit i := by
  show (BitVec.ofNat 32 a).getLsbD i = _
  rw [BitVec.getLsbD_ofNat]
  simp [hi]
theorem nI_and (a b : Nat) : nI a &&& nI b = nI (a &&& b) := by
  apply gb_ext
  intro i hi
  rw [gb_and, gb_nI hi, gb_nI hi, gb_nI hi, Nat.testBit_and]
theorem nI_xor (a b : Nat) : nI a ^^^ nI b = nI (a ^^^ b) := by
  apply gb_ext
  intro i hi
  rw [gb_xor, gb_nI hi, gb_nI hi, gb_nI hi, Nat.testBit_xor]
def Sub (p s : Nat) : Prop := nI p &&& (nI s ^^^ -nI 1) = nI 0
theorem Sub.at {p s i : Nat} (h : Sub p s) (hi : i < 32) : (gb (nI p) i && !(gb (nI s) i)) = false := by
  have := congrArg (fun z => gb z i) h
  simp only [gb_and, gb_xor, gb_m1 i hi, gb_0] at this
  simpa using this
theorem Sub.mk {p s : Nat} (h : ∀ i, i < 32 → (gb (nI p) i && !(gb (nI s) i)) = false) : Sub p s := by
  apply gb_ext
  intro i hi
  rw [gb_and, gb_xor, gb_m1 i hi, gb_0]
  simpa using h i hi
theorem Sub.x {p s : Nat} (h : Sub p s) : nI s &&& (nI p ^^^ -nI 1) = nI (s ^^^ p) := by
  rw [← nI_xor]
  apply gb_ext
  intro i hi
  have := h.at hi
  rw [gb_and, gb_xor, gb_xor, gb_m1 i hi]
  revert this
  generalize gb (nI p) i = a
  generalize gb (nI s) i = b
  cases a <;> cases b <;> simp
theorem sub_and (a s : Nat) : Sub (a &&& s) s := Sub.mk (fun i hi => by
  rw [← nI_and, gb_and]
  cases gb (nI a) i <;> cases gb (nI s) i <;> rfl)
theorem sub_self (s : Nat) : Sub s s := Sub.mk (fun i hi => by cases gb (nI s) i <;> rfl)
theorem sub_zero (s : Nat) : Sub 0 s := Sub.mk (fun i hi => by rw [gb_0]; rfl)
theorem imax_nI {a b : Nat} (ha : a < 2147483648) (hb : b < 2147483648) : imax (nI a) (nI b) = nI (max a b) := by
  unfold imax
  by_cases d : a < b
  · rw [if_pos (nI_lt d (by omega)), Nat.max_eq_right (by omega)]
  · rw [if_neg (nI_nlt (by omega) (by omega)), Nat.max_eq_left (by omega)]
def enc (o : Option Nat) : Int32 := match o with
  | none => -nI 1
  | some a => nI a
def wk (lk : Nat → Nat) (s : Nat) : Nat → Nat → Nat → Option Nat
  | 0, _, a => some a
  | k + 1, h, a => if bt (nI s) h = nI 1 then (if lk h = 0 then none else wk lk s k (h + 1) (a + lk h)) else wk lk s k (h + 1) a
def wO (lk : Nat → Nat) (each s : Nat) : Option Nat := if pop (nI s) ≤ nI each then wk lk s 8 0 0 else none
theorem wk_add {lk : Nat → Nat} {s : Nat} : ∀ (k m h a : Nat), wk lk s (k + m) h a = (wk lk s k h a).bind (fun b => wk lk s m (h + k) b)
  | 0, m, h, a => by rw [Nat.zero_add]; rfl
  | k + 1, m, h, a => by
    rw [show k + 1 + m = (k + m) + 1 by omega]
    show (if bt (nI s) h = nI 1 then (if lk h = 0 then none else wk lk s (k + m) (h + 1) (a + lk h)) else wk lk s (k + m) (h + 1) a) = (if bt (nI s) h = nI 1 then (if lk h = 0 then none else wk lk s k (h + 1) (a + lk h)) else wk lk s k (h + 1) a).bind _
    rw [wk_add k m (h + 1), wk_add k m (h + 1), show h + 1 + k = h + (k + 1) by omega]
    by_cases c : bt (nI s) h = nI 1
    · rw [if_pos c, if_pos c]
      by_cases d : lk h = 0
      · rw [if_pos d, if_pos d]; rfl
      · rw [if_neg d, if_neg d]
    · rw [if_neg c, if_neg c]
theorem wk_zero {lk : Nat → Nat} {s : Nat} : ∀ (k h a : Nat), (∀ j, h ≤ j → j < h + k → ¬ bt (nI s) j = nI 1) → wk lk s k h a = some a
  | 0, _, _, _ => rfl
  | k + 1, h, a, hz => by
    show (if bt (nI s) h = nI 1 then _ else wk lk s k (h + 1) a) = some a
    rw [if_neg (hz h (by omega) (by omega))]
    exact wk_zero k (h + 1) a (fun j h1 h2 => hz j (by omega) (by omega))
theorem bt_hi {s H h : Nat} (hs : s < 2 ^ H) (hh : H ≤ h) (h8 : h < 8) : ¬ bt (nI s) h = nI 1 := by
  rw [bt_gb (by omega), gb_nI (by omega), Nat.testBit_lt_two_pow (Nat.lt_of_lt_of_le hs (Nat.pow_le_pow_right (by decide) hh))]
  decide
theorem wk_H {lk : Nat → Nat} {s H : Nat} (h8 : H ≤ 8) (hs : s < 2 ^ H) : wk lk s 8 0 0 = wk lk s H 0 0 := by
  obtain ⟨m, e⟩ : ∃ m, 8 = H + m := ⟨8 - H, by omega⟩
  rw [e, wk_add]
  cases wk lk s H 0 0 with
  | none => rfl
  | some b => exact wk_zero m (0 + H) b (fun j h1 h2 => bt_hi hs (by omega) (by omega))
theorem wk_le {lk : Nat → Nat} {s : Nat} (hl : ∀ h, lk h ≤ 1001) : ∀ (k h a b : Nat), wk lk s k h a = some b → b ≤ a + 1001 * k
  | 0, _, a, b, e => by cases e; omega
  | k + 1, h, a, b, e => by
    have e' : (if bt (nI s) h = nI 1 then (if lk h = 0 then none else wk lk s k (h + 1) (a + lk h)) else wk lk s k (h + 1) a) = some b := e
    by_cases c : bt (nI s) h = nI 1
    · rw [if_pos c] at e'
      by_cases d : lk h = 0
      · rw [if_pos d] at e'; cases e'
      · rw [if_neg d] at e'
        have := wk_le hl k (h + 1) _ b e'
        have := hl h
        omega
    · rw [if_neg c] at e'
      have := wk_le hl k (h + 1) _ b e'
      omega
theorem wO_le {lk : Nat → Nat} {each s b : Nat} (hl : ∀ h, lk h ≤ 1001) (e : wO lk each s = some b) : b ≤ 8008 := by
  unfold wO at e
  by_cases c : pop (nI s) ≤ nI each
  · rw [if_pos c] at e
    have := wk_le hl 8 0 0 b e
    omega
  · rw [if_neg c] at e; cases e
theorem wO_0 {lk : Nat → Nat} {each : Nat} (h : each < 100) : wO lk each 0 = some 0 := by
  have e : pop (nI 0) = nI 0 := by decide +kernel
  unfold wO
  rw [e, if_pos (nI_le (by omega) (by omega))]
  exact wk_zero 8 0 0 (fun j _ h2 => bt_hi (H := 0) (by decide) (by omega) (by omega))
def gO (w : Nat → Option Nat) (b : Nat → Nat) (s p : Nat) : Option Nat := (w p).map (fun a => a + b (s ^^^ p))
def stM (o : Option Nat) (m : Nat) : Nat := match o with
  | none => m
  | some a => max m a
def dnC (g : Nat → Option Nat) (s : Nat) : Nat → Nat → Nat → Nat
  | 0, _, m => m
  | k + 1, p, m => if p = 0 then stM (g p) m else dnC g s k ((p - 1) &&& s) (stM (g p) m)
def dnR (g : Nat → Option Nat) (s : Nat) : Nat → Nat → Nat → Nat
  | 0, _, m => m
  | k + 1, p, m => if p = 0 then m else dnR g s k ((p - 1) &&& s) (stM (g p) m)
theorem stM_max {o : Option Nat} {m f : Nat} : stM o (max m f) = max (stM o m) f := by
  cases o with
  | none => rfl
  | some a => show max (max m f) a = max (max m a) f; omega
theorem stM_ge {o : Option Nat} {m : Nat} : m ≤ stM o m := by
  cases o with
  | none => exact Nat.le_refl _
  | some a => exact Nat.le_max_left _ _
theorem down {p s : Nat} (h : ¬ p = 0) : (p - 1) &&& s < p := Nat.lt_of_le_of_lt Nat.and_le_left (by omega)
theorem dn_eq {g : Nat → Option Nat} {s f : Nat} (h0 : g 0 = some f) : ∀ (k p m : Nat), p < k → dnC g s k p m = dnR g s k p (max m f)
  | 0, _, _, h => absurd h (by omega)
  | k + 1, p, m, h => by
    show (if p = 0 then stM (g p) m else dnC g s k ((p - 1) &&& s) (stM (g p) m)) = (if p = 0 then max m f else dnR g s k ((p - 1) &&& s) (stM (g p) (max m f)))
    by_cases c : p = 0
    · subst c; rw [if_pos rfl, if_pos rfl, h0]; rfl
    · rw [if_neg c, if_neg c, stM_max]
      have := down (s := s) c
      exact dn_eq h0 k _ _ (by omega)
theorem dn_ge {g : Nat → Option Nat} {s f : Nat} (h0 : g 0 = some f) : ∀ (k p m : Nat), p < k → m ≤ dnC g s k p m ∧ f ≤ dnC g s k p m
  | 0, _, _, h => absurd h (by omega)
  | k + 1, p, m, h => by
    show m ≤ (if p = 0 then stM (g p) m else dnC g s k ((p - 1) &&& s) (stM (g p) m)) ∧ f ≤ (if p = 0 then stM (g p) m else dnC g s k ((p - 1) &&& s) (stM (g p) m))
    by_cases c : p = 0
    · subst c; rw [if_pos rfl, h0]; exact ⟨Nat.le_max_left _ _, Nat.le_max_right _ _⟩
    · rw [if_neg c]
      have := down (s := s) c
      have := dn_ge (s := s) h0 k ((p - 1) &&& s) (stM (g p) m) (by omega)
      exact ⟨Nat.le_trans stM_ge this.1, this.2⟩
theorem dn_le {g : Nat → Option Nat} {s M : Nat} (hg : ∀ p a, g p = some a → a ≤ M) : ∀ (k p m : Nat), m ≤ M → dnC g s k p m ≤ M
  | 0, _, _, h => h
  | k + 1, p, m, h => by
    have hs : stM (g p) m ≤ M := by
      cases e : g p with
      | none => exact h
      | some a => have := hg p a e; show max m a ≤ M; omega
    show (if p = 0 then stM (g p) m else dnC g s k ((p - 1) &&& s) (stM (g p) m)) ≤ M
    by_cases c : p = 0
    · rw [if_pos c]; exact hs
    · rw [if_neg c]; exact dn_le hg k _ _ hs
theorem dn_att {g : Nat → Option Nat} {s : Nat} : ∀ (k p m : Nat), Sub p s → p ≤ s → dnC g s k p m = m ∨ ∃ q, q ≤ s ∧ Sub q s ∧ g q = some (dnC g s k p m)
  | 0, _, _, _, _ => Or.inl rfl
  | k + 1, p, m, hp, hps => by
    have key : stM (g p) m = m ∨ g p = some (stM (g p) m) := by
      cases e : g p with
      | none => exact Or.inl rfl
      | some a =>
        show max m a = m ∨ some a = some (max m a)
        by_cases d : a ≤ m
        · exact Or.inl (Nat.max_eq_left d)
        · exact Or.inr (by rw [Nat.max_eq_right (by omega)])
    show (if p = 0 then stM (g p) m else dnC g s k ((p - 1) &&& s) (stM (g p) m)) = m ∨ ∃ q, q ≤ s ∧ Sub q s ∧ g q = some (if p = 0 then stM (g p) m else dnC g s k ((p - 1) &&& s) (stM (g p) m))
    by_cases c : p = 0
    · rw [if_pos c]
      exact key.imp id (fun e => ⟨p, hps, hp, e⟩)
    · rw [if_neg c]
      rcases dn_att k ((p - 1) &&& s) (stM (g p) m) (sub_and _ _) (Nat.and_le_right) with e | e
      · rw [e]
        exact key.imp id (fun e2 => ⟨p, hps, hp, e2⟩)
      · exact Or.inr e
def bS (lk : Nat → Nat → Nat) (each : Nat) : Nat → Nat → Nat → Nat
  | 0, _, _ => 0
  | j + 1, t, s => dnC (gO (wO (lk t) each) (bS lk each j (t + 1)) s) s (s + 1) s 0
theorem bS_le {lk : Nat → Nat → Nat} {each : Nat} (hl : ∀ t h, lk t h ≤ 1001) : ∀ (j t s : Nat), bS lk each j t s ≤ 8008 * j
  | 0, _, _ => Nat.le_refl _
  | j + 1, t, s => by
    show dnC (gO (wO (lk t) each) (bS lk each j (t + 1)) s) s (s + 1) s 0 ≤ _
    refine dn_le (fun p a e => ?_) (s + 1) s 0 (by omega)
    unfold gO at e
    cases ew : wO (lk t) each p with
    | none => rw [ew] at e; cases e
    | some b =>
      rw [ew] at e
      have h1 := wO_le (hl t) ew
      have h2 := bS_le (each := each) hl j (t + 1) (s ^^^ p)
      have e2 : b + bS lk each j (t + 1) (s ^^^ p) = a := Option.some.inj e
      omega
theorem bS_att {lk : Nat → Nat → Nat} {each j t s : Nat} (he : each < 100) : ∃ q, q ≤ s ∧ Sub q s ∧ gO (wO (lk t) each) (bS lk each j (t + 1)) s q = some (bS lk each (j + 1) t s) := by
  have h0 : gO (wO (lk t) each) (bS lk each j (t + 1)) s 0 = some (0 + bS lk each j (t + 1) (s ^^^ 0)) := by unfold gO; rw [wO_0 he]; rfl
  rcases dn_att (g := gO (wO (lk t) each) (bS lk each j (t + 1)) s) (s + 1) s 0 (sub_self s) (Nat.le_refl _) with e | e
  · have h2 := (dn_ge (s := s) h0 (s + 1) s 0 (by omega)).2
    refine ⟨0, by omega, sub_zero s, ?_⟩
    rw [h0]
    show _ = some (dnC _ s (s + 1) s 0)
    rw [e] at h2 ⊢
    congr 1
    omega
  · exact e

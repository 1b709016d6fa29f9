/-! what is seen: pockets -/
def FA (τ τ1 : Mem) : Prop := fr [0, 20, 21, 22, 23, 24, 25, 26, 27, 29, 30, 31, 32, 33, 34, 40] τ τ1 ∧ ∀ s, s ≠ 41 → s ≠ 42 → s ≠ 43 → τ1 0 s = τ 0 s
theorem FA.rfl {τ : Mem} : FA τ τ := ⟨fr.rfl, fun _ _ _ _ => Eq.refl _⟩
theorem FA.trans {τ τ1 τ2 : Mem} (h : FA τ τ1) (h2 : FA τ1 τ2) : FA τ τ2 := ⟨h.1.trans h2.1, fun s a b c => (h2.2 s a b c).trans (h.2 s a b c)⟩
theorem FA.ofQ {τ τ1 : Mem} (h : FQ τ τ1) : FA τ τ1 := ⟨h.1.mono (by decide), h.2⟩
theorem FA.ofU {τ τ1 : Mem} (h : FU τ τ1) : FA τ τ1 := ⟨h.1.mono (by decide), h.2⟩
theorem FA.of {τ τ1 : Mem} {L : List Nat} (h : fr L τ τ1) (hL : ∀ k, k ∈ L → k ∈ [20, 21, 22, 23, 24, 25, 26, 27, 29, 30, 31, 32, 33, 34, 40]) : FA τ τ1 :=
  ⟨h.mono (fun k hk => List.mem_cons_of_mem _ (hL k hk)), fun s _ _ _ => by rw [h 0 (fun q => absurd (hL 0 q) (by decide))]⟩
theorem FA.m25 {τ : Mem} {j : Nat} {v : Int32} : FA τ (ms τ 25 j v) := FA.of (L := [25]) (fr.rfl.ms (by simp)) (by decide)
theorem RQs.ofA {τ τ1 : Mem} (h : FA τ τ1) : RQs τ τ1 := ⟨h.1.mono (by decide), fun s hs => h.2 s (fun q => by subst q; exact absurd hs (by decide)) (fun q => by subst q; exact absurd hs (by decide)) (fun q => by subst q; exact absurd hs (by decide))⟩
theorem PR.a {P τ τ1 : Mem} {H T : Nat} (h : PR P τ H T) (hf : FA τ τ1) : PR P τ1 H T := h.fr hf.1 (by decide)
/-! rows that are alike in 64 places go on alike -/
theorem E64.rfl {a : Rw} : E64 a a := fun _ _ => Eq.refl _
theorem E64.symm {a b : Rw} (h : E64 a b) : E64 b a := fun j hj => (h j hj).symm
theorem E64.trans {a b c : Rw} (h : E64 a b) (h2 : E64 b c) : E64 a c := fun j hj => (h j hj).trans (h2 j hj)
theorem E64.up {a b : Rw} {p : Nat} {v : Int32} (h : E64 a b) : E64 (upd a p v) (upd b p v) := fun j hj => by
  unfold upd
  by_cases c : j = p
  · rw [if_pos c, if_pos c]
  · rw [if_neg c, if_neg c]; exact h j hj
section SEEN
variable {P : Mem} {H T : Nat}
theorem row_mem {τ : Mem} (hP : PR P τ H T) (r : Rw) : ∃ τ1, PR P τ1 H T ∧ RX H 64 r τ1 := by
  have h0 : ∀ j, j < 64 → owc H j → va_up τ 34 (fun i => if i < 3 then r (63 - i) else r (i - 3)) 34 (0 + po j) = r j := fun j hj _ => by
    rw [va_up_self]
    show (if 0 + po j < 3 then _ else _) = _
    unfold po
    by_cases c : j < 61
    · rw [if_pos c, if_neg (by omega)]; congr 1; omega
    · rw [if_neg c, if_pos (by omega)]; congr 1; omega
  obtain ⟨q, _, q1, q2⟩ := R_unpackT h0
  have hP1 : PR P (va_up τ 34 (fun i => if i < 3 then r (63 - i) else r (i - 3))) H T := hP.fr (L := [34]) (fun k hk => va_up_ne _ _ (by simpa using hk)) (by decide)
  exact ⟨q, hP1.s q2, q1⟩
theorem paL_lo {j : Nat} (hj : j < 40) : ∀ (k t : Nat) (r : Rw), paL P H k t r j = r j
  | 0, _, _ => rfl
  | k + 1, t, r => by
    refine (paL_lo hj k (t + 1) (pyS P H r t)).trans ?_
    unfold pyS; rw [pk_un (by omega), pk_un (by omega)]
theorem qS_0 {r : Rw} {j : Nat} (h7 : T ≤ 7) (hj : j < 40) : qS P 0 T r j = r j := by
  unfold qS
  rw [pk_un (by omega), pk_un (by omega), paL_lo hj]
  rfl
theorem qS_e64 {τ : Mem} (hW : PW P H T) (hP : PR P τ H T) {r r1 : Rw} (hr : RW r H T) (h : E64 r r1) : E64 (qS P H T r) (qS P H T r1) := by
  obtain ⟨t, tP, tR⟩ := row_mem hP r
  obtain ⟨q, e1, q1, _⟩ := R_quarter hW tP tR hr
  obtain ⟨w, e2, w1, _⟩ := R_quarter hW tP (tR.e64 h.symm) (hr.e64 hW.1 h.symm)
  rw [e1] at e2
  cases e2
  intro j hj
  by_cases c : owc H j
  · rw [← q1 j hj (by omega) c, ← w1 j hj (by omega) c]
  · have c1 : H = 0 ∧ 24 ≤ j ∧ j < 32 := by unfold owc at c; omega
    obtain ⟨rfl, c2, c3⟩ := c1
    rw [qS_0 hW.2.1 (by omega), qS_0 hW.2.1 (by omega)]
    exact h j hj
def agT (c : Rw) (x : Nat) (r : Rw) (i : Nat) : Bool := !(decide (c (4 * i + 2) = nI x)) || (decide (r (24 + (c (4 * i + 1)).toNatClampNeg) = c (4 * i)) == decide (c (4 * i + 3) = nI 1))
def agL (c : Rw) (x : Nat) (r : Rw) : Nat → Nat → Bool
  | 0, _ => true
  | k + 1, i => agT c x r i && agL c x r k (i + 1)
def asL (P : Mem) (H T : Nat) (c : Rw) (S : Nat) : Nat → Nat → Rw → Bool
  | 0, _, _ => true
  | k + 1, x, r => agL c x (qS P H T r) S 0 && asL P H T c S k (x + 1) (qS P H T r)
def SC (H S : Nat) (c : Rw) : Prop := S ≤ 8 ∧ ∀ i, i < S → (∃ h, h < H ∧ c (4 * i + 1) = nI h) ∧ (∃ q, 1 ≤ q ∧ q ≤ 12 ∧ c (4 * i + 2) = nI q) ∧ (c (4 * i + 3) = nI 0 ∨ c (4 * i + 3) = nI 1)
theorem agL_e64 {c : Rw} {x S : Nat} {r r1 : Rw} (hc : SC H S c) (h8 : H ≤ 8) (h : E64 r r1) : ∀ (k i : Nat), i + k = S → agL c x r k i = agL c x r1 k i
  | 0, _, _ => rfl
  | k + 1, i, hk => by
    show (agT c x r i && agL c x r k (i + 1)) = (agT c x r1 i && agL c x r1 k (i + 1))
    obtain ⟨⟨a, ha, ea⟩, _, _⟩ := hc.2 i (by omega)
    have e : agT c x r i = agT c x r1 i := by
      unfold agT
      rw [ea, nI_clamp (by omega), h (24 + a) (by omega)]
    rw [e, agL_e64 hc h8 h k (i + 1) (by omega)]
theorem asL_e64 {τ : Mem} {c : Rw} {S : Nat} (hW : PW P H T) (hP : PR P τ H T) (hc : SC H S c) : ∀ (k x : Nat) (r r1 : Rw), RW r H T → E64 r r1 → asL P H T c S k x r = asL P H T c S k x r1
  | 0, _, _, _, _, _ => rfl
  | k + 1, x, r, r1, hr, h => by
    have e := qS_e64 hW hP hr h
    show (agL c x (qS P H T r) S 0 && _) = (agL c x (qS P H T r1) S 0 && _)
    rw [agL_e64 hc hW.1 e S 0 (by omega), asL_e64 hW hP hc k (x + 1) _ _ (qS_W hW hr) e]
theorem agL_vac {c : Rw} {x : Nat} {r : Rw} : ∀ (k i : Nat), (∀ j, i ≤ j → j < i + k → ¬ c (4 * j + 2) = nI x) → agL c x r k i = true
  | 0, _, _ => rfl
  | k + 1, i, h => by
    show (agT c x r i && agL c x r k (i + 1)) = true
    rw [agL_vac k (i + 1) (fun j h1 h2 => h j (by omega) (by omega))]
    unfold agT
    simp [h i (by omega) (by omega)]
theorem asL_vac {c : Rw} {S : Nat} : ∀ (k x : Nat) (r : Rw), (∀ y, x ≤ y → y < x + k → ∀ i, i < S → ¬ c (4 * i + 2) = nI y) → asL P H T c S k x r = true
  | 0, _, _, _ => rfl
  | k + 1, x, r, h => by
    show (agL c x (qS P H T r) S 0 && _) = true
    rw [agL_vac S 0 (fun j _ h2 => h x (by omega) (by omega) j (by omega)), asL_vac k (x + 1) _ (fun y h1 h2 => h y (by omega) (by omega))]
    rfl
def bI (b : Bool) : Int32 := if b then nI 1 else nI 0
theorem bI_0 {b : Bool} : bI b = nI 0 ↔ b = false := by cases b <;> decide
theorem bI_01 {b : Bool} : bI b = nI 0 ∨ bI b = nI 1 := by cases b <;> decide
theorem C_agrees {c : Rw} {S x : Nat} {σ : Mem} (hc : SC H S c) (h8 : H ≤ 8) (e1 : σ 46 1 = nI S) (e2 : σ 47 = c) : ∀ (k n i : Nat), i + k = S → k < n → f_X6_agrees_2 46 56 (nI x) n σ (nI i) = some (bI (agL c x (σ 56) k i)) := by
  intro k
  induction k with
  | zero =>
    intro n i hk hn
    obtain ⟨n, rfl⟩ : ∃ q, n = q + 1 := ⟨n - 1, by omega⟩
    have := hc.1
    rw [f_X6_agrees_2, e1, if_pos (nI_le (by omega) (by omega))]
    rfl
  | succ k ih =>
    intro n i hk hn
    obtain ⟨n, rfl⟩ : ∃ q, n = q + 1 := ⟨n - 1, by omega⟩
    have hS := hc.1
    obtain ⟨⟨a, ha, ea⟩, _, hb⟩ := hc.2 i (by omega)
    rw [f_X6_agrees_2, e1, if_neg (nI_ge (by omega) (by omega))]
    simp only [pu_lit, Nat.reduceAdd]
    rw [ltE, pk_mul, Nat.mul_comm i 4, nI_add, nI_add, nI_add, pu_gd (k := 4 * i + 2) (by omega) (by decide), nI_clamp (n := 4 * i + 2) (by omega), pu_gd (k := 4 * i + 1) (by omega) (by decide), nI_clamp (n := 4 * i + 1) (by omega), pu_gd (k := 4 * i) (by omega) (by decide), nI_clamp (n := 4 * i) (by omega), pu_gd (k := 4 * i + 3) (by omega) (by decide), pu_gd (k := 4 * i + 3) (by omega) (by decide), nI_clamp (n := 4 * i + 3) (by omega), e2, ea, nI_add, pu_gd (k := 24 + a) (by omega) (by decide), nI_clamp (n := 24 + a) (by omega), nI_add, ih n (i + 1) (by omega) (by omega)]
    show _ = some (bI (agT c x (σ 56) i && agL c x (σ 56) k (i + 1)))
    unfold agT
    rw [ea, nI_clamp (n := a) (by omega)]
    by_cases c1 : c (4 * i + 2) = nI x
    · rw [if_pos c1]
      by_cases c2 : σ 56 (24 + a) = c (4 * i)
      · rw [if_pos c2]
        rcases hb with hb | hb
        · rw [hb, if_neg (show ¬ nI 1 = nI 0 by decide)]
          have : decide (nI 0 = nI 1) = false := by decide
          simp [c1, c2, this, bI]
        · rw [hb, if_pos rfl]; simp [c1, c2]
      · rw [if_neg c2]
        rcases hb with hb | hb
        · rw [hb, if_pos rfl]
          have : decide (nI 0 = nI 1) = false := by decide
          simp [c1, c2, this]
        · rw [hb, if_neg (show ¬ nI 0 = nI 1 by decide)]; simp [c1, c2, bI]
    · rw [if_neg c1]
      simp [c1]
theorem C_last {c : Rw} {S : Nat} {σ : Mem} (hc : SC H S c) (e1 : σ 46 1 = nI S) (e2 : σ 47 = c) : ∀ (k n i M : Nat), i + k = S → k < n → M ≤ 12 → (∀ j, j < i → ∀ y, M < y → y < 100 → ¬ c (4 * j + 2) = nI y) → ∃ L, L ≤ 12 ∧ f_X6_lastQuarter_4 46 n σ (nI M) (nI i) = some (nI L) ∧ ∀ j, j < S → ∀ y, L < y → y < 100 → ¬ c (4 * j + 2) = nI y := by
  intro k
  induction k with
  | zero =>
    intro n i M hk hn hM h
    obtain ⟨n, rfl⟩ : ∃ q, n = q + 1 := ⟨n - 1, by omega⟩
    have := hc.1
    refine ⟨M, hM, ?_, fun j hj => h j (by omega)⟩
    rw [f_X6_lastQuarter_4, e1, if_pos (nI_le (by omega) (by omega))]
  | succ k ih =>
    intro n i M hk hn hM h
    obtain ⟨n, rfl⟩ : ∃ q, n = q + 1 := ⟨n - 1, by omega⟩
    have hS := hc.1
    obtain ⟨_, ⟨q, hq1, hq2, eq⟩, _⟩ := hc.2 i (by omega)
    rw [f_X6_lastQuarter_4, e1, if_neg (nI_ge (by omega) (by omega))]
    simp only [pu_lit, Nat.reduceAdd]
    rw [pk_mul, Nat.mul_comm i 4, nI_add, pu_gd (k := 4 * i + 2) (by omega) (by decide), nI_clamp (n := 4 * i + 2) (by omega), ltE, e2, eq, nI_add]
    have em : imax (nI M) (nI q) = nI (max M q) := by
      unfold imax
      by_cases d : M < q
      · rw [if_pos (nI_lt d (by omega)), Nat.max_eq_right (by omega)]
      · rw [if_neg (nI_nlt (by omega) (by omega)), Nat.max_eq_left (by omega)]
    rw [em]
    refine ih n (i + 1) (max M q) (by omega) (by omega) (by omega) (fun j hj y h1 h2 => ?_)
    by_cases d : j = i
    · subst d
      rw [eq, nI_eq (by omega) (by omega)]
      omega
    · exact h j (by omega) y (by omega) h2
def CQ : List Nat := [30, 33, 35, 36, 37, 56]
theorem C_asLoop {c : Rw} {S L : Nat} (hW : PW P H T) (hc : SC H S c) (hL : L ≤ 12) (hv : ∀ j, j < S → ∀ y, L < y → y < 100 → ¬ c (4 * j + 2) = nI y) : ∀ (k n x : Nat) (σ : Mem), x + k = 13 → k < n → PE P σ → σ 46 1 = nI S → σ 47 = c → OK (f_X10_isAsSeen_33 (nI L) n σ (nI x)) (fun q => q.1 = bI (asL P H T c S k x (σ 56)) ∧ fr CQ σ q.2) := by
  have vac : ∀ (k x : Nat) (r : Rw), x + k = 13 → L < x → asL P H T c S k x r = true := fun k x r hk hx => asL_vac k x r (fun y h1 h2 i hi => hv i hi y (by omega) (by omega))
  intro k
  induction k with
  | zero =>
    intro n x σ hk hn hP e1 e2
    obtain ⟨n, rfl⟩ : ∃ q, n = q + 1 := ⟨n - 1, by omega⟩
    rw [f_X10_isAsSeen_33, if_pos (nI_lt (by omega) (by omega)), ok_some]
    exact ⟨rfl, fr.rfl⟩
  | succ k ih =>
    intro n x σ hk hn hP e1 e2
    obtain ⟨n, rfl⟩ : ∃ q, n = q + 1 := ⟨n - 1, by omega⟩
    rw [f_X10_isAsSeen_33]
    by_cases d : L < x
    · rw [if_pos (nI_lt d (by omega)), ok_some, vac (k + 1) x _ hk d]
      exact ⟨rfl, fr.rfl⟩
    · rw [if_neg (nI_nlt (by omega) (by omega)), ok_bind]
      refine ok_mono (C_quarter (r1 := 56) (Or.inr rfl) hW hP) (fun q hq => ?_)
      have f1 : fr CQ σ q := hq.2.1.mono (by decide)
      have g1 : q 46 1 = nI S := by rw [f1 46 (by decide)]; exact e1
      have g2 : q 47 = c := by rw [f1 47 (by decide)]; exact e2
      have ea : m_X6_agrees 46 56 q (nI x) = some (bI (agL c x (q 56) S 0)) := C_agrees hc hW.1 g1 g2 S KF 0 (by omega) (by unfold KF; have := hc.1; omega)
      rw [ea, ok_bind, ok_some, hq.1]
      simp only [pu_lit]
      have ee : asL P H T c S (k + 1) x (σ 56) = (agL c x (qS P H T (σ 56)) S 0 && asL P H T c S k (x + 1) (qS P H T (σ 56))) := rfl
      rw [ee]
      by_cases b : agL c x (qS P H T (σ 56)) S 0 = true
      · rw [b, if_neg (by decide), nI_add]
        refine ok_mono (ih n (x + 1) q (by omega) (by omega) (hP.fr hq.2.1 (by decide)) g1 g2) (fun w hw => ?_)
        rw [hq.1] at hw
        exact ⟨by rw [hw.1, Bool.true_and], f1.trans hw.2⟩
      · have b' : agL c x (qS P H T (σ 56)) S 0 = false := by simpa using b
        rw [b', if_pos (show bI false = nI 0 by decide), ok_some]
        exact ⟨rfl, f1⟩
/-- the class: whether all is as seen; x1: -1, or a tenant with other chops -/
theorem C_asSeen {c : Rw} {S : Nat} {σ : Mem} (hW : PW P H T) (hc : SC H S c) (hP : PE P σ) (e1 : σ 46 1 = nI S) (e2 : σ 47 = c) : OK (m_X10_isAsSeen σ (-nI 1) (nI 0)) (fun q => (∃ r, E64 r (σ 43) ∧ q.1 = bI (asL P H T c S 12 1 r)) ∧ fr CQ σ q.2) ∧ ∀ t, t < 7 → ∀ v, OK (m_X10_isAsSeen σ (nI t) v) (fun q => (∃ r, E64 r (upd (σ 43) (40 + t) v) ∧ q.1 = bI (asL P H T c S 12 1 r)) ∧ fr CQ σ q.2) := by
  have go : ∀ (u : Mem), fr [56] σ u → OK ((m_X6_lastQuarter 46 u).bind fun q5 => f_X10_isAsSeen_33 q5 KF u (nI 1)) (fun q => q.1 = bI (asL P H T c S 12 1 (u 56)) ∧ fr CQ σ q.2) := by
    intro u hf
    have g1 : u 46 1 = nI S := by rw [hf 46 (by decide)]; exact e1
    have g2 : u 47 = c := by rw [hf 47 (by decide)]; exact e2
    obtain ⟨L, hL, eL, hv⟩ := C_last hc g1 g2 S KF 0 0 (by omega) (by unfold KF; have := hc.1; omega) (by omega) (fun j hj => absurd hj (by omega))
    have eL' : m_X6_lastQuarter 46 u = some (nI L) := eL
    rw [eL', ok_bind, ok_some]
    refine ok_mono (C_asLoop hW hc hL hv 12 KF 1 u (by omega) (by decide) (hP.fr hf (by decide)) g1 g2) (fun q hq => ⟨hq.1, (hf.mono (by decide)).trans hq.2⟩)
  constructor
  · unfold m_X10_isAsSeen
    simp only [pu_lit, if_true]
    rw [ok_bind]
    refine ok_mono C_copy (fun u hu => ?_)
    exact ok_mono (go u hu.1) (fun q hq => ⟨⟨u 56, hu.2, hq.1⟩, hq.2⟩)
  · intro t ht v
    unfold m_X10_isAsSeen
    simp only [pu_lit]
    rw [ok_bind]
    refine ok_mono C_copy (fun u hu => ?_)
    rw [if_neg (fun z => (nI_nm1 (by omega)).mp z), nI_add, pu_gd (by omega) (by decide), nI_clamp (by omega), ok_lt]
    refine ok_mono (go _ (hu.1.ms (by simp))) (fun q hq => ⟨⟨_, ?_, hq.1⟩, hq.2⟩)
    rw [ms_same]
    exact hu.2.up
/-- what the reference has seen -/
def SX (S : Nat) (c : Rw) (τ : Mem) : Prop := τ 0 45 = nI S ∧ ∀ i, i < S → τ 37 i = c (4 * i) ∧ τ 38 i = c (4 * i + 1) ∧ τ 39 i = c (4 * i + 2) ∧ τ 41 i = c (4 * i + 3)
theorem SX.fr {S : Nat} {c : Rw} {τ τ1 : Mem} {L : List Nat} (h : SX S c τ) (hf : fr L τ τ1) (hL : ∀ k, k ∈ L → k ∉ [37, 38, 39, 41]) (h0 : τ1 0 45 = τ 0 45) : SX S c τ1 := by
  unfold SX
  rw [h0, hf 37 (fun q => hL _ q (by decide)), hf 38 (fun q => hL _ q (by decide)), hf 39 (fun q => hL _ q (by decide)), hf 41 (fun q => hL _ q (by decide))]
  exact h
theorem SX.a {S : Nat} {c : Rw} {τ τ1 : Mem} (h : SX S c τ) (hf : FA τ τ1) : SX S c τ1 := h.fr hf.1 (by decide) (hf.2 45 (by decide) (by decide) (by decide))
theorem R_zero {S x : Nat} {c : Rw} {τ : Mem} {k13 : Mem → Int32 → Int32 → Option (Int32 × Mem)} (hS : S ≤ 8) (hX : SX S c τ) : ∀ (k m i : Nat), i + k = S → k < m → f_X11_isAsSeen_29 k13 (nI x) m τ (nI 0) (nI i) = k13 τ (nI 0) (nI (x + 1)) := by
  intro k
  induction k with
  | zero =>
    intro m i hk hm
    obtain ⟨m, rfl⟩ : ∃ q, m = q + 1 := ⟨m - 1, by omega⟩
    rw [f_X11_isAsSeen_29, hX.1, if_pos (nI_le (by omega) (by omega)), nI_1]
  | succ k ih =>
    intro m i hk hm
    obtain ⟨m, rfl⟩ : ∃ q, m = q + 1 := ⟨m - 1, by omega⟩
    rw [f_X11_isAsSeen_29, hX.1, if_neg (nI_ge (by omega) (by omega))]
    simp only [pu_lit, if_true]
    rw [nI_add, ih m (i + 1) (by omega) (by omega)]
theorem R_agrees {S x : Nat} {c : Rw} {τ : Mem} {r : Rw} {k13 : Mem → Int32 → Int32 → Option (Int32 × Mem)} (hc : SC H S c) (h8 : H ≤ 8) (hX : SX S c τ) (R : RX H 64 r τ) : ∀ (k m i : Nat), i + k = S → k < m → f_X11_isAsSeen_29 k13 (nI x) m τ (nI 1) (nI i) = k13 τ (bI (agL c x r k i)) (nI (x + 1)) := by
  have hS := hc.1
  intro k
  induction k with
  | zero =>
    intro m i hk hm
    obtain ⟨m, rfl⟩ : ∃ q, m = q + 1 := ⟨m - 1, by omega⟩
    rw [f_X11_isAsSeen_29, hX.1, if_pos (nI_le (by omega) (by omega)), nI_1]
    rfl
  | succ k ih =>
    intro m i hk hm
    obtain ⟨m, rfl⟩ : ∃ q, m = q + 1 := ⟨m - 1, by omega⟩
    obtain ⟨⟨a, ha, ea⟩, _, hb⟩ := hc.2 i (by omega)
    obtain ⟨x1, x2, x3, x4⟩ := hX.2 i (by omega)
    rw [f_X11_isAsSeen_29, hX.1, if_neg (nI_ge (by omega) (by omega))]
    simp only [pu_lit]
    rw [if_neg (show ¬ nI 1 = nI 0 by decide), pu_gd (k := i) (n := 8) (by omega) (by decide), nI_clamp (n := i) (by omega), pu_gd (k := i) (n := 8) (by omega) (by decide), pu_gd (k := i) (n := 8) (by omega) (by decide), pu_gd (k := i) (n := 8) (by omega) (by decide), pu_gd (k := i) (n := 8) (by omega) (by decide), x1, x2, x3, x4, ea, pu_gd (k := a) (n := 8) (by omega) (by decide), nI_clamp (n := a) (by omega), R.g23 (by omega) (by omega) (by omega), nI_add, ih m (i + 1) (by omega) (by omega), R_zero hS hX k m (i + 1) (by omega) (by omega)]
    show _ = k13 τ (bI (agT c x r i && agL c x r k (i + 1))) (nI (x + 1))
    unfold agT
    rw [ea, nI_clamp (n := a) (by omega)]
    by_cases c1 : c (4 * i + 2) = nI x
    · rw [if_pos c1]
      by_cases c2 : r (24 + a) = c (4 * i)
      · rw [if_pos c2]
        rcases hb with hb | hb
        · rw [hb, if_neg (show ¬ nI 1 = nI 0 by decide)]
          have : decide (nI 0 = nI 1) = false := by decide
          simp [c1, c2, this, bI]
        · rw [hb, if_pos rfl]; simp [c1, c2]
      · rw [if_neg c2]
        rcases hb with hb | hb
        · rw [hb, if_pos rfl]
          have : decide (nI 0 = nI 1) = false := by decide
          simp [c1, c2, this]
        · rw [hb, if_neg (show ¬ nI 0 = nI 1 by decide)]; simp [c1, c2, bI]
    · rw [if_neg c1]
      simp [c1]
theorem R_asLoop {c : Rw} {S : Nat} {r0 : Rw} (hW : PW P H T) (hc : SC H S c) : ∀ (k m x : Nat) (τ : Mem) (r : Rw), x + k = 13 → k + 1 < m → PR P τ H T → RX H 64 r τ → RW r H T → SX S c τ → (∀ j, j < 64 → owc H j → τ 40 (0 + po j) = r0 j) → OK (f_X11_isAsSeen_13 m τ (nI 1) (nI x)) (fun q => q.1 = bI (asL P H T c S k x r) ∧ RX H 64 r0 q.2 ∧ FA τ q.2) := by
  have un : ∀ (τ : Mem), (∀ j, j < 64 → owc H j → τ 40 (0 + po j) = r0 j) → OK (m_X11_unpack 40 64 τ (nI 0)) (fun q => RX H 64 r0 q ∧ FA τ q) := fun τ h => ok_mono (R_unpack (k := 40) (b := 0) (by decide) (by decide) (by decide) h) (fun q hq => ⟨hq.1, FA.ofU hq.2⟩)
  intro k
  induction k with
  | zero =>
    intro m x τ r hk hm hP R hr hX h40
    obtain ⟨m, rfl⟩ : ∃ q, m = q + 1 := ⟨m - 1, by omega⟩
    rw [f_X11_isAsSeen_13]
    simp only [pu_lit]
    rw [if_pos (nI_lt (by omega) (by omega)), ok_bind]
    refine ok_mono (un τ h40) (fun q hq => ?_)
    rw [gz01 (Or.inr rfl), ok_some]
    exact ⟨rfl, hq⟩
  | succ k ih =>
    intro m x τ r hk hm hP R hr hX h40
    obtain ⟨m, rfl⟩ : ∃ q, m = q + 1 := ⟨m - 1, by omega⟩
    rw [f_X11_isAsSeen_13]
    simp only [pu_lit]
    rw [if_neg (nI_nlt (by omega) (by omega)), if_neg (show ¬ nI 1 = nI 0 by decide), ok_bind]
    refine ok_mono (R_quarter hW hP R hr) (fun q hq => ?_)
    have Fq := FA.ofQ hq.2.1
    have q40 : ∀ j, j < 64 → owc H j → q 40 (0 + po j) = r0 j := fun j hj ho => by rw [hq.2.1.1 40 (by decide)]; exact h40 j hj ho
    rw [R_agrees (x := x) hc hW.1 (hX.a Fq) hq.1 S KF 0 (by omega) (by unfold KF; have := hc.1; omega)]
    have ee : asL P H T c S (k + 1) x r = (agL c x (qS P H T r) S 0 && asL P H T c S k (x + 1) (qS P H T r)) := rfl
    rw [ee]
    by_cases b : agL c x (qS P H T r) S 0 = true
    · rw [b]
      refine ok_mono (ih m (x + 1) q (qS P H T r) (by omega) (by omega) (hP.q hq.2.1) hq.1 (qS_W hW hr) (hX.a Fq) q40) (fun w hw => ?_)
      exact ⟨by rw [hw.1, Bool.true_and], hw.2.1, Fq.trans hw.2.2⟩
    · have b' : agL c x (qS P H T r) S 0 = false := by simpa using b
      rw [b']
      obtain ⟨m, rfl⟩ : ∃ q, m = q + 1 := ⟨m - 1, by omega⟩
      rw [f_X11_isAsSeen_13]
      simp only [pu_lit]
      obtain ⟨w, ew, w1, w2⟩ := un q q40
      show OK (if nI 12 < nI (x + 1) then (m_X11_unpack 40 64 q (nI 0)).bind fun q2 => gz (nI 0) (some (nI 0, q2)) else if nI 0 = nI 0 then (m_X11_unpack 40 64 q (nI 0)).bind fun q4 => gz (nI 0) (some (nI 0, q4)) else _) _
      rw [if_pos rfl, ew, sbind, gz01 (Or.inl rfl), ite_self, ok_some]
      exact ⟨rfl, w1, Fq.trans w2⟩
theorem R_asSeen {c : Rw} {S : Nat} {r : Rw} {τ : Mem} (hW : PW P H T) (hc : SC H S c) (hP : PR P τ H T) (R : RX H 64 r τ) (hr : RW r H T) (hX : SX S c τ) : OK (m_X11_isAsSeen τ) (fun q => q.1 = bI (asL P H T c S 12 1 r) ∧ RX H 64 r q.2 ∧ FA τ q.2) := by
  unfold m_X11_isAsSeen
  simp only [pu_lit]
  rw [ok_bind]
  refine ok_mono (R_pack (k := 40) (b := 0) (by decide) (by decide) (by decide) R) (fun q hq => ?_)
  have Fq : FA τ q := FA.of hq.1 (by decide)
  exact ok_mono (R_asLoop (r0 := r) hW hc 12 KF 1 q r (by omega) (by decide) (hP.a Fq) (R.keep hq.1 (by decide)) hr (hX.a Fq) hq.2.1) (fun w hw => ⟨hw.1, hw.2.1, Fq.trans hw.2.2⟩)
theorem C_with57 {σ : Mem} (hW : PW P H T) (hP : PE P σ) {p : Nat} (hp : p < 64) {v : Int32} : OK (m_X10_tryQuarterWith σ (nI p) v) (fun q => fr CQ σ q ∧ ∃ r, E64 r (σ 43) ∧ q 56 = qS P H T (upd r p v)) := by
  unfold m_X10_tryQuarterWith
  rw [ok_bind]
  refine ok_mono C_copy (fun q hq => ?_)
  rw [pu_gd hp (by decide), nI_clamp (by omega), ok_lt, ok_bind]
  have hf : fr [56] σ (ms q 56 p v) := hq.1.ms (by simp)
  refine ok_mono (C_quarter (r1 := 56) (Or.inr rfl) hW (hP.fr hf (by simp))) (fun q2 h2 => ?_)
  rw [ok_some]
  refine ⟨(hf.mono (by decide)).trans (h2.2.1.mono (by decide)), q 56, hq.2, ?_⟩
  rw [h2.1, ms_same]
end SEEN

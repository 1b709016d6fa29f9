/-! the tape's tokens, both sides -/
def isL (b : Nat) : Bool := decide (97 ≤ b ∧ b ≤ 122)
def isD (b : Nat) : Bool := decide (48 ≤ b ∧ b ≤ 57)
def isB (b : Nat) : Bool := decide (b = 32 ∨ b = 10)
def isS (b : Nat) : Bool := decide (b = 40 ∨ b = 41 ∨ b = 42 ∨ b = 43 ∨ b = 45 ∨ b = 47 ∨ b = 59 ∨ b = 60 ∨ b = 61)
theorem chr_all : ∀ b, b < 256 → m_X9_isLetter z0 (by8 b) = some (bI (isL b)) ∧ m_X11_isLetter z0 (nI b) = some (bI (isL b)) ∧ m_X9_isDigit z0 (by8 b) = some (bI (isD b)) ∧ m_X11_isDigit z0 (nI b) = some (bI (isD b)) ∧ m_X9_isBlank z0 (by8 b) = some (bI (isB b)) ∧ m_X9_isSign z0 (by8 b) = some (bI (isS b)) ∧ m_X11_isMark z0 (nI b) = some (bI (isS b)) := by decide +kernel
theorem by8_s : ∀ b, b < 128 → by8 b = nI b := by decide +kernel
section LEX
variable {σ τ : Mem} {b : Nat}
theorem cL (h : b < 256) : m_X9_isLetter σ (by8 b) = some (bI (isL b)) := (chr_all b h).1
theorem rL (h : b < 256) : m_X11_isLetter τ (nI b) = some (bI (isL b)) := (chr_all b h).2.1
theorem cD (h : b < 256) : m_X9_isDigit σ (by8 b) = some (bI (isD b)) := (chr_all b h).2.2.1
theorem rD (h : b < 256) : m_X11_isDigit τ (nI b) = some (bI (isD b)) := (chr_all b h).2.2.2.1
theorem cB' (h : b < 256) : m_X9_isBlank σ (by8 b) = some (bI (isB b)) := (chr_all b h).2.2.2.2.1
theorem cS' (h : b < 256) : m_X9_isSign σ (by8 b) = some (bI (isS b)) := (chr_all b h).2.2.2.2.2.1
theorem rS' (h : b < 256) : m_X11_isMark τ (nI b) = some (bI (isS b)) := (chr_all b h).2.2.2.2.2.2
end LEX
def TP (E : Nat) (b : Nat → Nat) (σ τ : Mem) : Prop := E ≤ 700 ∧ σ 3 2 = nI E ∧ τ 0 23 = nI E ∧ ∀ j, j < E → b j < 256 ∧ τ 19 j = nI (b j) ∧ σ 4 j = by8 (b j)
/-- the tape's frames: class, reference -/
def FCt (σ σ1 : Mem) : Prop := fr [3] σ σ1 ∧ σ1 3 1 = σ 3 1 ∧ σ1 3 2 = σ 3 2
def FRt (τ τ1 : Mem) : Prop := fr [0] τ τ1 ∧ ∀ s, s ∉ [22, 24, 25, 26, 27] → τ1 0 s = τ 0 s
theorem FCt.rfl {σ : Mem} : FCt σ σ := ⟨fr.rfl, Eq.refl _, Eq.refl _⟩
theorem FCt.trans {σ σ1 σ2 : Mem} (h : FCt σ σ1) (h2 : FCt σ1 σ2) : FCt σ σ2 := ⟨h.1.trans h2.1, h2.2.1.trans h.2.1, h2.2.2.trans h.2.2⟩
theorem FCt.ms {σ σ1 : Mem} {j : Nat} {v : Int32} (h : FCt σ σ1) (hj : j ≠ 1 ∧ j ≠ 2) : FCt σ (ms σ1 3 j v) := ⟨h.1.ms (by simp), by rw [ms_same, pk_un (Ne.symm hj.1)]; exact h.2.1, by rw [ms_same, pk_un (Ne.symm hj.2)]; exact h.2.2⟩
theorem FRt.rfl {τ : Mem} : FRt τ τ := ⟨fr.rfl, fun _ _ => Eq.refl _⟩
theorem FRt.trans {τ τ1 τ2 : Mem} (h : FRt τ τ1) (h2 : FRt τ1 τ2) : FRt τ τ2 := ⟨h.1.trans h2.1, fun s hs => (h2.2 s hs).trans (h.2 s hs)⟩
theorem FRt.ms {τ τ1 : Mem} {j : Nat} {v : Int32} (h : FRt τ τ1) (hj : j ∈ [22, 24, 25, 26, 27]) : FRt τ (ms τ1 0 j v) := ⟨h.1.ms (by simp), fun s hs => by rw [ms_same, pk_un (show s ≠ j from fun q => hs (by rw [q]; exact hj))]; exact h.2 s hs⟩
theorem TP.f {E : Nat} {b : Nat → Nat} {σ τ σ1 τ1 : Mem} (h : TP E b σ τ) (hc : FCt σ σ1) (hr : FRt τ τ1) : TP E b σ1 τ1 := by
  refine ⟨h.1, hc.2.2.trans h.2.1, (hr.2 23 (by decide)).trans h.2.2.1, fun j hj => ?_⟩
  rw [hc.1 4 (by decide), hr.1 19 (by decide)]
  exact h.2.2.2 j hj
/-- the token at hand: kind k (0 end, 1 word, 2 number, 3 strange, else the sign), from s to e; a number's value v, 10000 if it is too long -/
def TK (E : Nat) (b : Nat → Nat) (σ τ : Mem) (k s e v : Nat) : Prop := σ 3 3 = nI s ∧ σ 3 4 = nI e ∧ σ 3 5 = nI k ∧ τ 0 26 = nI s ∧ τ 0 27 = nI e ∧ τ 0 22 = nI e ∧ s ≤ e ∧ e ≤ E ∧
  ((k = 0 ∧ τ 0 24 = nI 0) ∨ (k = 1 ∧ s < e ∧ τ 0 24 = nI 1 ∧ ∀ j, s ≤ j → j < e → b j < 128) ∨ (k = 2 ∧ s < e ∧ τ 0 24 = nI 2 ∧ ((e - s ≤ 4 ∧ v ≤ 9999 ∧ σ 3 6 = nI v ∧ τ 0 25 = nI v) ∨ (4 < e - s ∧ v = 10000 ∧ σ 3 6 = -nI 1))) ∨ (k = 3 ∧ s < e ∧ τ 0 24 = nI 4) ∨ (isS k = true ∧ s < e ∧ τ 0 24 = nI 3 ∧ b s = k))
section LEX2
variable {E : Nat} {b : Nat → Nat}
theorem bI_t : ¬ bI true = nI 0 := by decide
theorem R_byte {σ τ : Mem} {p : Nat} (h : TP E b σ τ) (hp : p < E) : m_X11_byteAt τ (nI p) = some (nI (b p)) := by
  have := h.1
  unfold m_X11_byteAt
  rw [h.2.2.1, if_neg (nI_ge hp (by omega)), pu_gd (by omega) (by decide), nI_clamp (by omega), (h.2.2.2 p hp).2.1]
theorem R_byteE {σ τ : Mem} {p : Nat} (h : TP E b σ τ) (hp : E ≤ p) (hp2 : p < 1000) : m_X11_byteAt τ (nI p) = some (-nI 1) := by
  unfold m_X11_byteAt
  rw [h.2.2.1, if_pos (nI_le hp (by omega))]
  simp only [pu_lit]
theorem lex_word : ∀ (k n m p : Nat) (σ τ : Mem), TP E b σ τ → p + k = E → k < n → k < m → σ 3 4 = nI p → τ 0 22 = nI p → ∃ (σ1 τ1 : Mem) (e : Nat), p ≤ e ∧ e ≤ E ∧ (∀ j, p ≤ j → j < e → isL (b j) = true) ∧ (e < E → isL (b e) = false) ∧ f_X9_readWord_5 n σ = some σ1 ∧ f_X11_stepOn_76 m τ = some τ1 ∧ FCt σ σ1 ∧ FRt τ τ1 ∧ σ1 3 4 = nI e ∧ σ1 3 3 = σ 3 3 ∧ σ1 3 5 = σ 3 5 ∧ τ1 0 22 = nI e ∧ τ1 0 27 = nI e ∧ τ1 0 24 = nI 1 ∧ τ1 0 26 = τ 0 26 := by
  intro k
  induction k with
  | zero =>
    intro n m p σ τ hT hk hn hm e1 e2
    obtain ⟨n, rfl⟩ : ∃ q, n = q + 1 := ⟨n - 1, by omega⟩
    obtain ⟨m, rfl⟩ : ∃ q, m = q + 1 := ⟨m - 1, by omega⟩
    have hE := hT.1
    refine ⟨σ, _, p, Nat.le_refl _, by omega, fun j h1 h2 => absurd h2 (by omega), fun h => absurd h (by omega), ?_, ?_, FCt.rfl, ((FRt.rfl (τ := τ)).ms (j := 24) (v := nI 1) (by decide)).ms (j := 27) (v := nI p) (by decide), e1, rfl, rfl, ?_, ?_, ?_, ?_⟩
    · rw [f_X9_readWord_5, hT.2.1, e1, if_pos (nI_le (by omega) (by omega))]
    · rw [f_X11_stepOn_76, e2, R_byteE hT (by omega) (by omega), sbind]
      have : m_X11_isLetter τ (-nI 1) = some (nI 0) := (show m_X11_isLetter z0 (-nI 1) = some (nI 0) by decide +kernel)
      rw [this, sbind]
      simp only [pu_lit, if_true]
      rw [ltE, ltE, ms_same, pk_un (by decide), e2]
    · rw [ms_same, pk_un (by decide), ms_same, pk_un (by decide)]; exact e2
    · rw [ms_at]
    · rw [ms_same, pk_un (by decide), ms_at]
    · rw [ms_same, pk_un (by decide), ms_same, pk_un (by decide)]
  | succ k ih =>
    intro n m p σ τ hT hk hn hm e1 e2
    obtain ⟨n, rfl⟩ : ∃ q, n = q + 1 := ⟨n - 1, by omega⟩
    obtain ⟨m, rfl⟩ : ∃ q, m = q + 1 := ⟨m - 1, by omega⟩
    have hE := hT.1
    obtain ⟨t1, t2, t3⟩ := hT.2.2.2 p (by omega)
    rw [f_X9_readWord_5, hT.2.1, e1, if_neg (nI_ge (by omega) (by omega)), pu_gd (by omega) (by decide), nI_clamp (by omega), t3, cL t1, sbind, f_X11_stepOn_76, e2, R_byte hT (by omega), sbind, rL t1, sbind]
    simp only [pu_lit]
    cases hl : isL (b p) with
    | false =>
      refine ⟨σ, _, p, Nat.le_refl _, by omega, fun j h1 h2 => absurd h2 (by omega), fun _ => hl, ?_, ?_, FCt.rfl, ((FRt.rfl (τ := τ)).ms (j := 24) (v := nI 1) (by decide)).ms (j := 27) (v := nI p) (by decide), e1, rfl, rfl, ?_, ?_, ?_, ?_⟩
      · rw [if_pos (show bI false = nI 0 by decide)]
      · rw [if_pos (show bI false = nI 0 by decide), ltE, ltE, ms_same, pk_un (by decide), e2]
      · rw [ms_same, pk_un (by decide), ms_same, pk_un (by decide)]; exact e2
      · rw [ms_at]
      · rw [ms_same, pk_un (by decide), ms_at]
      · rw [ms_same, pk_un (by decide), ms_same, pk_un (by decide)]
    | true =>
      rw [if_neg bI_t, if_neg bI_t, ltE, ltE, nI_add]
      have F1 : FCt σ (ms σ 3 4 (nI (p + 1))) := FCt.rfl.ms (by decide)
      have G1 : FRt τ (ms τ 0 22 (nI (p + 1))) := FRt.rfl.ms (by decide)
      obtain ⟨σ1, τ1, e, h1, h2, h3, h4, h5, h6, h7, h8, h9, h10, h11, h12, h13, h14, h15⟩ := ih n m (p + 1) _ _ (hT.f F1 G1) (by omega) (by omega) (by omega) ms_at ms_at
      refine ⟨σ1, τ1, e, by omega, h2, fun j q1 q2 => ?_, h4, h5, h6, F1.trans h7, G1.trans h8, h9, h10.trans ?_, h11.trans ?_, h12, h13, h14, h15.trans ?_⟩
      · by_cases c : j = p
        · subst c; exact hl
        · exact h3 j (by omega) q2
      · rw [ms_same, pk_un (by decide)]
      · rw [ms_same, pk_un (by decide)]
      · rw [ms_same, pk_un (by decide)]
theorem lex_num {s : Nat} : ∀ (k n m p v : Nat) (σ τ : Mem), TP E b σ τ → p + k = E → s ≤ p → k < n → k < m → σ 3 4 = nI p → σ 3 3 = nI s → τ 0 22 = nI p → (p - s ≤ 4 → v < 10 ^ (p - s) ∧ σ 3 6 = nI v ∧ τ 0 25 = nI v) → ∃ (σ1 τ1 : Mem) (e w : Nat), p ≤ e ∧ e ≤ E ∧ (e < E → isD (b e) = false) ∧ (p < e ↔ p < E ∧ isD (b p) = true) ∧ f_X9_readNumber_10 n σ = some σ1 ∧ f_X11_stepOn_123 m τ = some τ1 ∧ FCt σ σ1 ∧ FRt τ τ1 ∧ σ1 3 4 = nI e ∧ σ1 3 3 = nI s ∧ σ1 3 5 = σ 3 5 ∧ τ1 0 22 = nI e ∧ τ1 0 27 = nI e ∧ τ1 0 24 = nI 2 ∧ τ1 0 26 = τ 0 26 ∧ ((e - s ≤ 4 ∧ w ≤ 9999 ∧ σ1 3 6 = nI w ∧ τ1 0 25 = nI w) ∨ (4 < e - s ∧ w = 10000 ∧ σ1 3 6 = -nI 1)) := by
  have fin : ∀ (p v : Nat) (σ τ : Mem), p ≤ 700 → s ≤ p → σ 3 4 = nI p → σ 3 3 = nI s → τ 0 22 = nI p → (p - s ≤ 4 → v < 10 ^ (p - s) ∧ σ 3 6 = nI v ∧ τ 0 25 = nI v) → ∃ (σ1 τ1 : Mem) (w : Nat), (if σ 3 4 - σ 3 3 ≤ nI 4 then some σ else lt (ms σ 3 6 (-nI 1)) fun σ3 => some σ3) = some σ1 ∧ (lt (ms τ 0 24 (nI 2)) fun σ4 => lt (ms σ4 0 27 (σ4 0 22)) fun σ5 => some σ5) = some τ1 ∧ FCt σ σ1 ∧ FRt τ τ1 ∧ σ1 3 4 = nI p ∧ σ1 3 3 = nI s ∧ σ1 3 5 = σ 3 5 ∧ τ1 0 22 = nI p ∧ τ1 0 27 = nI p ∧ τ1 0 24 = nI 2 ∧ τ1 0 26 = τ 0 26 ∧ ((p - s ≤ 4 ∧ w ≤ 9999 ∧ σ1 3 6 = nI w ∧ τ1 0 25 = nI w) ∨ (4 < p - s ∧ w = 10000 ∧ σ1 3 6 = -nI 1)) := by
    intro p v σ τ hp hs e1 e3 e2 hv
    have r1 : (lt (ms τ 0 24 (nI 2)) fun σ4 => lt (ms σ4 0 27 (σ4 0 22)) fun σ5 => some σ5) = some (ms (ms τ 0 24 (nI 2)) 0 27 (nI p)) := by rw [ltE, ltE, ms_same, pk_un (by decide), e2]
    have g1 : FRt τ (ms (ms τ 0 24 (nI 2)) 0 27 (nI p)) := (FRt.rfl.ms (by decide)).ms (by decide)
    have g2 : ms (ms τ 0 24 (nI 2)) 0 27 (nI p) 0 22 = nI p := by rw [ms_same, pk_un (by decide), ms_same, pk_un (by decide)]; exact e2
    have g3 : ms (ms τ 0 24 (nI 2)) 0 27 (nI p) 0 24 = nI 2 := by rw [ms_same, pk_un (by decide), ms_at]
    have g4 : ms (ms τ 0 24 (nI 2)) 0 27 (nI p) 0 26 = τ 0 26 := by rw [ms_same, pk_un (by decide), ms_same, pk_un (by decide)]
    have g5 : ms (ms τ 0 24 (nI 2)) 0 27 (nI p) 0 25 = τ 0 25 := by rw [ms_same, pk_un (by decide), ms_same, pk_un (by decide)]
    rw [e1, e3, pk_sub hs]
    by_cases c : p - s ≤ 4
    · obtain ⟨v1, v2, v3⟩ := hv c
      refine ⟨σ, _, v, by rw [if_pos (nI_le c (by omega))], r1, FCt.rfl, g1, e1, e3, rfl, g2, ms_at, g3, g4, Or.inl ⟨c, ?_, v2, g5.trans v3⟩⟩
      have : 10 ^ (p - s) ≤ 10 ^ 4 := Nat.pow_le_pow_right (by decide) c
      omega
    · refine ⟨_, _, 10000, by rw [if_neg (nI_ge (by omega) (by omega)), ltE], r1, FCt.rfl.ms (by decide), g1, ?_, ?_, ?_, g2, ms_at, g3, g4, Or.inr ⟨by omega, rfl, ms_at⟩⟩
      · rw [ms_same, pk_un (by decide)]; exact e1
      · rw [ms_same, pk_un (by decide)]; exact e3
      · rw [ms_same, pk_un (by decide)]
  intro k
  induction k with
  | zero =>
    intro n m p v σ τ hT hk hs hn hm e1 e3 e2 hv
    obtain ⟨n, rfl⟩ : ∃ q, n = q + 1 := ⟨n - 1, by omega⟩
    obtain ⟨m, rfl⟩ : ∃ q, m = q + 1 := ⟨m - 1, by omega⟩
    have hE := hT.1
    obtain ⟨σ1, τ1, w, q1, q2, q3⟩ := fin p v σ τ (by omega) hs e1 e3 e2 hv
    refine ⟨σ1, τ1, p, w, Nat.le_refl _, by omega, fun h => absurd h (by omega), ⟨fun h => absurd h (by omega), fun h => absurd h.1 (by omega)⟩, ?_, ?_, q3⟩
    · rw [f_X9_readNumber_10, hT.2.1]
      simp only [pu_lit]
      rw [if_pos (by rw [e1]; exact nI_le (by omega) (by omega))]
      exact q1
    · rw [f_X11_stepOn_123, e2, R_byteE hT (by omega) (by omega), sbind]
      have : m_X11_isDigit τ (-nI 1) = some (nI 0) := (show m_X11_isDigit z0 (-nI 1) = some (nI 0) by decide +kernel)
      rw [this, sbind]
      simp only [pu_lit, if_true]
      exact q2
  | succ k ih =>
    intro n m p v σ τ hT hk hs hn hm e1 e3 e2 hv
    obtain ⟨n, rfl⟩ : ∃ q, n = q + 1 := ⟨n - 1, by omega⟩
    obtain ⟨m, rfl⟩ : ∃ q, m = q + 1 := ⟨m - 1, by omega⟩
    have hE := hT.1
    obtain ⟨t1, t2, t3⟩ := hT.2.2.2 p (by omega)
    rw [f_X9_readNumber_10, hT.2.1, f_X11_stepOn_123, e2, R_byte hT (by omega), sbind, rD t1, sbind]
    simp only [pu_lit]
    rw [if_neg (show ¬ nI E ≤ σ 3 4 by rw [e1]; exact nI_ge (by omega) (by omega))]
    cases hl : isD (b p) with
    | false =>
      obtain ⟨σ1, τ1, w, q1, q2, q3⟩ := fin p v σ τ (by omega) hs e1 e3 e2 hv
      refine ⟨σ1, τ1, p, w, Nat.le_refl _, by omega, fun _ => hl, ⟨fun h => absurd h (by omega), fun h => absurd h.2 (by simp)⟩, ?_, ?_, q3⟩
      · have : m_X9_isDigit σ (σ 4 (σ 3 4).toNatClampNeg) = some (bI false) := by rw [e1, nI_clamp (by omega), t3, cD t1, hl]
        rw [this, sbind, if_pos (show bI false = nI 0 by decide)]
        rw [show gd (σ 3 4) 700 (if σ 3 4 - σ 3 3 ≤ nI 4 then some σ else lt (ms σ 3 6 (-nI 1)) fun σ7 => some σ7) = (if σ 3 4 - σ 3 3 ≤ nI 4 then some σ else lt (ms σ 3 6 (-nI 1)) fun σ7 => some σ7) by rw [e1, pu_gd (by omega) (by decide)]]
        exact q1
      · rw [if_pos (show bI false = nI 0 by decide)]; exact q2
    | true =>
      have hd : 48 ≤ b p ∧ b p ≤ 57 := by
        have h0 := hl
        unfold isD at h0
        simpa using h0
      rw [e1, nI_clamp (by omega), t3, cD t1, hl, sbind, if_neg bI_t, if_neg bI_t, pu_gd (by omega) (by decide), pu_gd (by omega) (by decide), sbind, ltE, ltE, ltE, ltE, by8_s (b p) (by omega), ms_same, pk_un (show 4 ≠ 6 by decide), e1, nI_add, ms_same (σ := τ), pk_un (show 22 ≠ 25 by decide), e2, nI_add]
      have F1 : FCt σ (ms (ms σ 3 6 (nI 10 * σ 3 6 + nI (b p) - nI 48)) 3 4 (nI (p + 1))) := (FCt.rfl.ms (by decide)).ms (by decide)
      have G1 : FRt τ (ms (ms τ 0 25 (imin (nI 100000) (nI 10 * τ 0 25 + nI (b p) - nI 48))) 0 22 (nI (p + 1))) := (FRt.rfl.ms (by decide)).ms (by decide)
      obtain ⟨σ1, τ1, e, w, h1, h2, h3, h4, h5, h6, h7, h8, h9, h10, h11, h12, h13, h14, h15, h16⟩ := ih n m (p + 1) (10 * v + (b p - 48)) _ _ (hT.f F1 G1) (by omega) (by omega) (by omega) (by omega) ms_at (by rw [ms_same, pk_un (by decide), ms_same, pk_un (by decide)]; exact e3) ms_at (fun hle => by
        obtain ⟨v1, v2, v3⟩ := hv (by omega)
        have hp : 10 ^ (p + 1 - s) = 10 ^ (p - s) * 10 := by rw [show p + 1 - s = (p - s) + 1 by omega, Nat.pow_succ]
        have hp2 : 10 ^ (p - s) ≤ 10 ^ 3 := Nat.pow_le_pow_right (by decide) (by omega)
        have hv10 : nI 10 * nI v + nI (b p) - nI 48 = nI (10 * v + (b p - 48)) := by
          rw [pk_mul, nI_add, pk_sub (by omega)]; congr 1; omega
        refine ⟨by omega, ?_, ?_⟩
        · rw [ms_same, pk_un (by decide), ms_at, v2, hv10]
        · rw [ms_same, pk_un (by decide), ms_at, v3, hv10]
          unfold imin
          rw [if_pos (nI_lt (by omega) (by omega))])
      refine ⟨σ1, τ1, e, w, by omega, h2, h3, ⟨fun _ => ⟨by omega, rfl⟩, fun _ => by omega⟩, h5, h6, F1.trans h7, G1.trans h8, h9, h10, h11.trans ?_, h12, h13, h14, h15.trans ?_, h16⟩
      · rw [ms_same, pk_un (by decide), ms_same, pk_un (by decide)]
      · rw [ms_same, pk_un (by decide), ms_same, pk_un (by decide)]
theorem isB_iff {x : Nat} (hx : x < 256) : (nI x = nI 32 ∨ nI x = nI 10) ↔ isB x = true := by
  unfold isB
  rw [nI_eq (by omega) (by omega), nI_eq (by omega) (by omega)]
  simp
/-- next on both sides -/
theorem lex_next : ∀ (k n m p : Nat) (σ τ : Mem), TP E b σ τ → p + k = E → k < n → k < m → σ 3 3 = nI p → τ 0 22 = nI p → ∃ (σ1 τ1 : Mem) (kd s e v : Nat), f_X9_next_8 n σ = some σ1 ∧ f_X11_stepOn_0 m τ = some τ1 ∧ FCt σ σ1 ∧ FRt τ τ1 ∧ p ≤ s ∧ TK E b σ1 τ1 kd s e v := by
  -- behind the blanks
  have tok : ∀ (m p : Nat) (σ τ : Mem), TP E b σ τ → p ≤ E → (p < E → isB (b p) = false) → σ 3 3 = nI p → τ 0 22 = nI p → ∃ (σ1 τ1 : Mem) (kd s e v : Nat), f_X9_next_47 σ = some σ1 ∧ f_X11_stepOn_0 (m + 1) τ = some τ1 ∧ FCt σ σ1 ∧ FRt τ τ1 ∧ p ≤ s ∧ TK E b σ1 τ1 kd s e v := by
    intro m p σ τ hT hp hnb e1 e2
    have hE := hT.1
    have F1 : FCt σ (ms σ 3 4 (nI p)) := FCt.rfl.ms (by decide)
    have G1 : FRt τ (ms τ 0 26 (nI p)) := FRt.rfl.ms (by decide)
    have T1 := hT.f F1 G1
    have a3 : ms σ 3 4 (nI p) 3 3 = nI p := by rw [ms_same, pk_un (by decide)]; exact e1
    have b22 : ms τ 0 26 (nI p) 0 22 = nI p := by rw [ms_same, pk_un (by decide)]; exact e2
    rw [f_X11_stepOn_0, e2]
    unfold f_X9_next_47
    simp only [pu_lit]
    rw [e1, ltE, a3, T1.2.1, ltE (ms τ 0 26 (nI p)), b22]
    rcases Nat.lt_or_ge p E with q | q
    · obtain ⟨t1, t2, t3⟩ := hT.2.2.2 p q
      have nb : ¬ (nI (b p) = nI 32 ∨ nI (b p) = nI 10) := fun z => by
        have := (isB_iff t1).mp z
        rw [hnb q] at this
        cases this
      have a4 : ms σ 3 4 (nI p) 4 p = by8 (b p) := by rw [ms_ne (by decide)]; exact t3
      rw [if_pos (nI_lt q (by omega)), pu_gd (k := p) (by omega) (by decide), nI_clamp (n := p) (by omega), a4, cL t1, sbind, R_byte hT q, sbind, if_neg (fun z => nb (Or.inl z)), sbind, if_neg (fun z => nb (Or.inr z)), R_byte T1 q, sbind, if_neg (fun z => (nI_nm1 (show b p < 2147483648 by omega)).mp z), rL t1, sbind]
      cases hl : isL (b p) with
      | true =>
        rw [if_neg bI_t, if_neg bI_t]
        have F2 : FCt σ (ms (ms σ 3 4 (nI p)) 3 5 (nI 1)) := F1.ms (by decide)
        obtain ⟨σ1, τ1, e, h1, h2, h3, h4, h5, h6, h7, h8, h9, h10, h11, h12, h13, h14, h15⟩ := lex_word (E - p) KF KF p (ms (ms σ 3 4 (nI p)) 3 5 (nI 1)) (ms τ 0 26 (nI p)) (hT.f F2 G1) (by omega) (by unfold KF; omega) (by unfold KF; omega) (by rw [ms_same, pk_un (by decide), ms_at]) b22
        have hw : m_X9_readWord (ms σ 3 4 (nI p)) = some σ1 := by
          unfold m_X9_readWord
          simp only [pu_lit]
          rw [ltE]
          exact h5
        have hpe : p < e := by
          rcases Nat.lt_or_ge p e with z | z
          · exact z
          · have : e = p := by omega
            subst this
            have := h4 q
            rw [hl] at this
            cases this
        refine ⟨σ1, τ1, 1, p, e, 0, by rw [hw, sbind], h6, F2.trans h7, G1.trans h8, Nat.le_refl _, ?_⟩
        refine ⟨?_, h9, ?_, ?_, h13, h12, h1, h2, Or.inr (Or.inl ⟨rfl, hpe, h14, fun j q1 q2 => ?_⟩)⟩
        · rw [h10, ms_same, pk_un (by decide)]; exact a3
        · rw [h11, ms_at]
        · rw [h15, ms_at]
        · have := h3 j q1 q2
          unfold isL at this
          simp at this
          omega
      | false =>
        rw [if_pos (show bI false = nI 0 by decide), if_pos (show bI false = nI 0 by decide), pu_gd (k := p) (by omega) (by decide), cD t1, sbind, rD t1, sbind]
        cases hd : isD (b p) with
        | true =>
          rw [if_neg bI_t, if_neg bI_t, ltE]
          have F2 : FCt σ (ms (ms (ms σ 3 4 (nI p)) 3 5 (nI 2)) 3 6 (nI 0)) := (F1.ms (by decide)).ms (by decide)
          have G2 : FRt τ (ms (ms τ 0 26 (nI p)) 0 25 (nI 0)) := G1.ms (by decide)
          obtain ⟨σ1, τ1, e, w, h1, h2, h3, h4, h5, h6, h7, h8, h9, h10, h11, h12, h13, h14, h15, h16⟩ := lex_num (s := p) (E - p) KF KF p 0 (ms (ms (ms σ 3 4 (nI p)) 3 5 (nI 2)) 3 6 (nI 0)) (ms (ms τ 0 26 (nI p)) 0 25 (nI 0)) (hT.f F2 G2) (by omega) (Nat.le_refl _) (by unfold KF; omega) (by unfold KF; omega) (by rw [ms_same, pk_un (by decide), ms_same, pk_un (by decide), ms_at]) (by rw [ms_same, pk_un (by decide), ms_same, pk_un (by decide)]; exact a3) (by rw [ms_same, pk_un (by decide)]; exact b22) (fun _ => ⟨by rw [Nat.sub_self]; decide, ms_at, ms_at⟩)
          have hw : m_X9_readNumber (ms σ 3 4 (nI p)) = some σ1 := by
            unfold m_X9_readNumber
            simp only [pu_lit]
            rw [ltE, ltE]
            exact h5
          refine ⟨σ1, τ1, 2, p, e, w, by rw [hw, sbind], h6, F2.trans h7, G2.trans h8, Nat.le_refl _, ?_⟩
          refine ⟨h10, h9, ?_, ?_, h13, h12, h1, h2, Or.inr (Or.inr (Or.inl ⟨rfl, h4.mpr ⟨q, hd⟩, h14, h16⟩))⟩
          · rw [h11, ms_same, pk_un (by decide), ms_at]
          · rw [h15, ms_same, pk_un (by decide), ms_at]
        | false =>
          rw [if_pos (show bI false = nI 0 by decide), if_pos (show bI false = nI 0 by decide), pu_gd (k := p) (by omega) (by decide), cS' t1, sbind, ltE (ms (ms τ 0 26 (nI p)) 0 22 (nI p + nI 1)), rS' t1, sbind]
          cases hs : isS (b p) with
          | true =>
            have h128 : b p < 128 := by
              unfold isS at hs
              simp at hs
              omega
            rw [if_neg bI_t, if_neg bI_t, pu_gd (k := p) (by omega) (by decide), ltE, ltE, ltE, ltE]
            refine ⟨_, _, b p, p, p + 1, 0, rfl, rfl, (F1.ms (by decide)).ms (by decide), ((G1.ms (by decide)).ms (by decide)).ms (by decide), Nat.le_refl _, ?_⟩
            have c33 : ms (ms σ 3 4 (nI p)) 3 5 (by8 (b p)) 3 3 = nI p := by rw [ms_same, pk_un (by decide)]; exact a3
            refine ⟨?_, ?_, ?_, ?_, ?_, ?_, by omega, by omega, Or.inr (Or.inr (Or.inr (Or.inr ⟨hs, by omega, ?_, rfl⟩)))⟩
            · rw [ms_same, pk_un (by decide)]; exact c33
            · rw [ms_at, c33, nI_add]
            · rw [ms_same, pk_un (by decide), ms_at, by8_s _ h128]
            · rw [ms_same, pk_un (by decide), ms_same, pk_un (by decide), ms_same, pk_un (by decide), ms_at]
            · rw [ms_at, ms_same, pk_un (by decide), ms_at, nI_add]
            · rw [ms_same, pk_un (by decide), ms_same, pk_un (by decide), ms_at, nI_add]
            · rw [ms_same, pk_un (by decide), ms_at]
          | false =>
            rw [if_pos (show bI false = nI 0 by decide), if_pos (show bI false = nI 0 by decide), ltE, ltE, ltE, ltE]
            refine ⟨_, _, 3, p, p + 1, 0, rfl, rfl, (F1.ms (by decide)).ms (by decide), ((G1.ms (by decide)).ms (by decide)).ms (by decide), Nat.le_refl _, ?_⟩
            have c33 : ms (ms σ 3 4 (nI p)) 3 5 (nI 3) 3 3 = nI p := by rw [ms_same, pk_un (by decide)]; exact a3
            refine ⟨?_, ?_, ?_, ?_, ?_, ?_, by omega, by omega, Or.inr (Or.inr (Or.inr (Or.inl ⟨rfl, by omega, ?_⟩)))⟩
            · rw [ms_same, pk_un (by decide)]; exact c33
            · rw [ms_at, c33, nI_add]
            · rw [ms_same, pk_un (by decide), ms_at]
            · rw [ms_same, pk_un (by decide), ms_same, pk_un (by decide), ms_same, pk_un (by decide), ms_at]
            · rw [ms_at, ms_same, pk_un (by decide), ms_at, nI_add]
            · rw [ms_same, pk_un (by decide), ms_same, pk_un (by decide), ms_at, nI_add]
            · rw [ms_same, pk_un (by decide), ms_at]
    · have hpE : p = E := by omega
      subst hpE
      rw [if_neg (nI_nlt (Nat.le_refl _) (by omega)), R_byteE hT (Nat.le_refl _) (by omega), sbind, if_neg (by decide), sbind, if_neg (by decide), R_byteE T1 (Nat.le_refl _) (by omega), sbind, ltE]
      simp only [if_true]
      rw [ltE, ltE]
      refine ⟨_, _, 0, p, p, 0, rfl, rfl, F1.ms (by decide), (G1.ms (by decide)).ms (by decide), Nat.le_refl _, ?_⟩
      refine ⟨?_, ?_, ms_at, ?_, ?_, ?_, Nat.le_refl _, Nat.le_refl _, Or.inl ⟨rfl, ?_⟩⟩
      · rw [ms_same, pk_un (by decide)]; exact a3
      · rw [ms_same, pk_un (by decide), ms_at]
      · rw [ms_same, pk_un (by decide), ms_same, pk_un (by decide), ms_at]
      · rw [ms_at, ms_same, pk_un (by decide)]; exact b22
      · rw [ms_same, pk_un (by decide), ms_same, pk_un (by decide)]; exact b22
      · rw [ms_same, pk_un (by decide), ms_at]
  intro k
  induction k with
  | zero =>
    intro n m p σ τ hT hk hn hm e1 e2
    obtain ⟨n, rfl⟩ : ∃ q, n = q + 1 := ⟨n - 1, by omega⟩
    obtain ⟨m, rfl⟩ : ∃ q, m = q + 1 := ⟨m - 1, by omega⟩
    have hE := hT.1
    rw [f_X9_next_8, hT.2.1, e1, if_pos (nI_le (by omega) (by omega))]
    exact tok m p σ τ hT (by omega) (fun h => absurd h (by omega)) e1 e2
  | succ k ih =>
    intro n m p σ τ hT hk hn hm e1 e2
    obtain ⟨n, rfl⟩ : ∃ q, n = q + 1 := ⟨n - 1, by omega⟩
    obtain ⟨m, rfl⟩ : ∃ q, m = q + 1 := ⟨m - 1, by omega⟩
    have hE := hT.1
    obtain ⟨t1, t2, t3⟩ := hT.2.2.2 p (by omega)
    rw [f_X9_next_8, hT.2.1, e1, if_neg (nI_ge (by omega) (by omega)), pu_gd (by omega) (by decide), nI_clamp (by omega), t3, cB' t1, sbind]
    simp only [pu_lit]
    cases hb : isB (b p) with
    | false =>
      rw [if_pos (show bI false = nI 0 by decide)]
      exact tok m p σ τ hT (by omega) (fun _ => hb) e1 e2
    | true =>
      rw [if_neg bI_t, ltE, nI_add]
      have F1 : FCt σ (ms σ 3 3 (nI (p + 1))) := FCt.rfl.ms (by decide)
      have G1 : FRt τ (ms τ 0 22 (nI (p + 1))) := FRt.rfl.ms (by decide)
      obtain ⟨σ1, τ1, kd, s, e, v, h1, h2, h3, h4, h5, h6⟩ := ih n m (p + 1) _ _ (hT.f F1 G1) (by omega) (by omega) (by omega) ms_at ms_at
      refine ⟨σ1, τ1, kd, s, e, v, h1, ?_, F1.trans h3, G1.trans h4, by omega, h6⟩
      rw [f_X11_stepOn_0, e2, R_byte hT (by omega), sbind]
      simp only [pu_lit]
      rcases (isB_iff t1).mpr hb with z | z
      · rw [if_pos z, ltE, nI_add]; exact h2
      · have nz : ¬ nI (b p) = nI 32 := by rw [z]; decide
        rw [if_neg nz, sbind, if_pos z, ltE, nI_add]; exact h2
theorem lex {σ τ : Mem} {p : Nat} (hT : TP E b σ τ) (hp : p ≤ E) (e1 : σ 3 4 = nI p) (e2 : τ 0 22 = nI p) : ∃ (σ1 τ1 : Mem) (kd s e v : Nat), m_X9_next σ = some σ1 ∧ m_X11_stepOn τ = some τ1 ∧ FCt σ σ1 ∧ FRt τ τ1 ∧ p ≤ s ∧ TK E b σ1 τ1 kd s e v := by
  have hE := hT.1
  have F1 : FCt σ (ms σ 3 3 (nI p)) := FCt.rfl.ms (by decide)
  obtain ⟨σ1, τ1, kd, s, e, v, h1, h2, h3, h4, h5, h6⟩ := lex_next (E - p) KF KF p (ms σ 3 3 (nI p)) τ (hT.f F1 FRt.rfl) (by omega) (by unfold KF; omega) (by unfold KF; omega) ms_at e2
  refine ⟨σ1, τ1, kd, s, e, v, ?_, h2, F1.trans h3, h4, h5, h6⟩
  unfold m_X9_next
  rw [ltE, e1]
  exact h1
end LEX2

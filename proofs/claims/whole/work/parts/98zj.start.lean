/-! both sides as their constructors leave them are related -/
theorem C_clear53b {σ0 : Mem} : ∀ (k n j : Nat) (σ : Mem), j + k = 8 → k < n → fr [34] σ0 σ → (∀ i, i < 64 → σ 34 i = if 24 ≤ i ∧ i < 24 + j then -nI 1 else nI 0) → OK (f_X2_clear_53 23 n σ (nI j)) (fun q => fr [34] σ0 q ∧ ∀ i, i < 64 → q 34 i = if 24 ≤ i ∧ i < 32 then -nI 1 else nI 0) := by
  intro k
  induction k with
  | zero =>
    intro n j σ hj hn hf h
    obtain ⟨n, rfl⟩ : ∃ n', n = n' + 1 := ⟨n - 1, by omega⟩
    rw [f_X2_clear_53]
    simp only [pu_lit]
    have hj' : j = 8 := by omega
    subst hj'
    rw [if_pos nI_le_self, ok_some]
    exact ⟨hf, h⟩
  | succ k ih =>
    intro n j σ hj hn hf h
    obtain ⟨n, rfl⟩ : ∃ n', n = n' + 1 := ⟨n - 1, by omega⟩
    rw [f_X2_clear_53]
    simp only [pu_lit]
    rw [if_neg (nI_ge (by omega) (by omega)), nI_add, nI_add, pu_gd (k := 24 + j) (by omega) (by decide), ltE, nI_clamp (n := 24 + j) (by omega)]
    refine ih n (j + 1) _ (by omega) (by omega) (hf.ms (by decide)) (fun i hi => ?_)
    show ms σ 34 (24 + j) (-nI 1) 34 i = _
    rw [ms_same]
    by_cases d : i = 24 + j
    · subst d; rw [pk_us, if_pos (by omega)]
    · rw [pk_un d, h i hi]
      by_cases d2 : 24 ≤ i ∧ i < 24 + j
      · rw [if_pos d2, if_pos (by omega)]
      · rw [if_neg d2, if_neg (by omega)]
theorem C_clear32b {σ0 : Mem} : ∀ (k n j : Nat) (σ : Mem), j + k = 64 → k < n → fr [34] σ0 σ → (∀ i, i < j → σ 34 i = nI 0) → OK (f_X2_clear_32 23 n σ (nI j)) (fun q => fr [34] σ0 q ∧ ∀ i, i < 64 → q 34 i = if 24 ≤ i ∧ i < 32 then -nI 1 else nI 0) := by
  intro k
  induction k with
  | zero =>
    intro n j σ hj hn hf h
    obtain ⟨n, rfl⟩ : ∃ n', n = n' + 1 := ⟨n - 1, by omega⟩
    rw [f_X2_clear_32]
    simp only [pu_lit]
    have hj' : j = 64 := by omega
    subst hj'
    rw [if_pos nI_le_self]
    exact C_clear53b 8 KF 0 σ (by omega) (by decide) hf (fun i hi => by rw [if_neg (by omega)]; exact h i hi)
  | succ k ih =>
    intro n j σ hj hn hf h
    obtain ⟨n, rfl⟩ : ∃ n', n = n' + 1 := ⟨n - 1, by omega⟩
    rw [f_X2_clear_32]
    simp only [pu_lit]
    rw [if_neg (nI_ge (by omega) (by omega)), nI_add, pu_gd (k := j) (by omega) (by decide), ltE, nI_clamp (n := j) (by omega)]
    refine ih n (j + 1) _ (by omega) (by omega) (hf.ms (by decide)) (fun i hi => ?_)
    show ms σ 34 j (nI 0) 34 i = _
    rw [ms_same]
    by_cases d : i = j
    · subst d; rw [pk_us]
    · rw [pk_un d]; exact h i (by omega)
theorem C_clear2b {σ : Mem} : OK (m_X2_clear 23 σ) (fun q => fr [23, 28, 31, 34] σ q ∧ q 23 0 = nI 0 ∧ q 23 1 = nI 0 ∧ q 23 2 = nI 40 ∧ q 28 2 = nI 0 ∧ q 31 2 = nI 0 ∧ ∀ i, i < 64 → q 34 i = if 24 ≤ i ∧ i < 32 then -nI 1 else nI 0) := by
  unfold m_X2_clear m_X4_clear
  simp only [pu_lit, Nat.reduceAdd]
  rw [ltE, ltE, ltE, ltE, sbind, ltE, sbind]
  refine ok_mono (C_clear32b 64 KF 0 _ (by omega) (by decide) fr.rfl (fun i hi => absurd hi (by omega))) (fun q ⟨h1, h2⟩ => ⟨?_, ?_, ?_, ?_, ?_, ?_, h2⟩)
  · exact (((((fr.rfl.ms (by decide)).ms (by decide)).ms (by decide)).ms (by decide)).ms (by decide)).trans (h1.mono (by decide))
  · rw [h1 23 (by decide), ms_ne (by decide), ms_ne (by decide), ms_same, pk_un (by decide), ms_same, pk_un (by decide), ms_at]
  · rw [h1 23 (by decide), ms_ne (by decide), ms_ne (by decide), ms_same, pk_un (by decide), ms_at]
  · rw [h1 23 (by decide), ms_ne (by decide), ms_ne (by decide), ms_at]
  · rw [h1 28 (by decide), ms_ne (by decide), ms_at]
  · rw [h1 31 (by decide), ms_at]
theorem tI0_row : ∀ j, j < 64 → tI0 (pc j) (pi j) = nI 0 := by decide +kernel
theorem start_Rel : ∃ σa σI, m_X2_clear 23 sI0 = some σa ∧ m_X1_begin 42 34 σa = some σI ∧ σI 59 0 = 0 ∧ Rel σI tI0 := by
  obtain ⟨σa, ea, fa, a1, a2, a3, a4, a5, a6⟩ := C_clear2b (σ := sI0)
  obtain ⟨σI, ei, fi, i1, i2, i3, i4⟩ := C_begin42 (σ := σa)
  have e0 : ∀ k, k ∉ [23, 28, 31, 34] → k ∉ [43, 44, 46] → σI k = sI0 k := fun k h1 h2 => (fi k h2).trans (fa k h1)
  have e23 : ∀ j, σI 23 j = σa 23 j := fun j => by rw [fi 23 (by decide)]
  have e28 : ∀ j, σI 28 j = σa 28 j := fun j => by rw [fi 28 (by decide)]
  have e31 : ∀ j, σI 31 j = σa 31 j := fun j => by rw [fi 31 (by decide)]
  have n28 : σI 28 2 = nI 0 := (e28 2).trans a4
  have n31 : σI 31 2 = nI 0 := (e31 2).trans a5
  have own : ∀ h, h < 8 → σI 43 (24 + h) = -nI 1 := fun h hh => by rw [i1 _ (by omega), a6 _ (by omega), if_pos (by omega)]
  refine ⟨σa, σI, ea, ei, by rw [e0 59 (by decide) (by decide)]; rfl, 0, 0, ?_⟩
  refine ⟨⟨by decide, by decide, (e23 0).trans a1, (e23 1).trans a2, ⟨40, by decide, by decide, (e23 2).trans a3⟩, fun t ht => absurd ht (by omega), ⟨0, by decide, n28, fun h => absurd h (by omega)⟩, ⟨0, by decide, n31, fun h => absurd h (by omega)⟩⟩, ?_, ?_, ?_, ?_, ?_, ?_, ?_, ?_, ?_⟩
  · refine ⟨rfl, rfl, ((e23 2).trans a3).symm, n28.symm, n31.symm, fun h hh => absurd hh (by omega), fun h hh => absurd hh (by omega), fun h hh => absurd hh (by omega), fun h hh => absurd hh (by omega), fun j hj => ?_, fun j hj => ?_⟩
    · rw [n28, nI_clamp (by decide)] at hj; exact absurd hj (by omega)
    · rw [n31, nI_clamp (by decide)] at hj; exact absurd hj (by omega)
  · intro j hj _ ho
    have hn : ¬ (24 ≤ j ∧ j < 32) := fun q => ho q.1 q.2 rfl
    rw [tI0_row j hj, i1 j hj, a6 j hj, if_neg hn]
  · refine ⟨fun h hh => Or.inl (own h hh), fun h _ hh => own h hh, ⟨0, by decide, ?_⟩, fun h hh => absurd hh (by omega), fun h hh => absurd hh (by omega)⟩
    rw [i1 62 (by decide), a6 62 (by decide), if_neg (by omega)]
  · exact ⟨0, 0, by decide, by decide, i2, i3, rfl, fun a ha => absurd ha (by omega)⟩
  · exact ⟨0, by decide, i4, rfl, fun i hi => absurd hi (by omega), fun i _ => Or.inl rfl⟩
  · intro i hi
    rw [e0 48 (by decide) (by decide)]
    rcases (show i = 0 ∨ i = 1 ∨ i = 2 by omega) with rfl | rfl | rfl <;> rfl
  · exact Or.inl ⟨by rw [e0 0 (by decide) (by decide)]; rfl, rfl⟩
  · rw [e0 0 (by decide) (by decide)]; rfl
  · exact ⟨0, by decide, by rw [e0 3 (by decide) (by decide)]; rfl, rfl, fun j hj => absurd hj (by omega)⟩

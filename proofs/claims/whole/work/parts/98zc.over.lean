/-! the loop over the lines; clearing; taking over -/
theorem TK.k0 {E : Nat} {b : Nat → Nat} {σ τ : Mem} {k s e v : Nat} (h : TK E b σ τ k s e v) : τ 0 24 = nI 0 ↔ k = 0 := by
  rcases h.2.2.2.2.2.2.2.2 with q | q | q | q | q
  · rw [q.2]; exact ⟨fun _ => q.1, fun _ => rfl⟩
  · rw [q.2.2.1]; exact ⟨fun x => absurd x (by decide), fun x => by omega⟩
  · rw [q.2.2.1]; exact ⟨fun x => absurd x (by decide), fun x => by omega⟩
  · rw [q.2.2]; exact ⟨fun x => absurd x (by decide), fun x => by omega⟩
  · rw [q.2.2.1]; exact ⟨fun x => absurd x (by decide), fun x => by have := (isS_lt q.1).2; omega⟩
theorem RD23_f {n f : Nat} {σ : Mem} {x : Int32} (hf : 0 < f ∧ f < 10) : f_X3_read_23 (n + 1) σ (nI f) x = some (nI f, σ) := by
  rw [f_X3_read_23]
  simp only [pu_lit]
  rw [if_neg (show ¬ nI f = nI 0 from nz' hf.1 (by omega))]
  split <;> rfl
theorem TLOOP {E : Nat} {b : Nat → Nat} : ∀ (c n m x2 : Nat) (σ τ : Mem) (k s e v h t N1 N2 dn : Nat), E - s < c → c < n → c < m → x2 ≤ s → TP E b σ τ → TK E b σ τ k s e v → τ 0 28 = nI 0 → PLR h t N1 N2 dn σ τ →
    ∃ τ1, f_X11_terrace_86 m τ (nI dn) = f_X11_terrace_109 τ1 ∧ RLF τ τ1 ∧ ∃ f σf, f < 10 ∧ f_X3_read_23 n σ (nI 0) (nI x2) = some (nI f, σf) ∧ CLF σ σf ∧ τ1 0 28 = nI f ∧ ((0 < f ∧ τ1 0 29 = σf 3 3) ∨ (f = 0 ∧ ∃ h t N1 N2 dn, PLR h t N1 N2 dn σf τ1)) := by
  intro c
  induction c with
  | zero => intro n m x2 σ τ k s e v h t N1 N2 dn hc; omega
  | succ c ih =>
    intro n m x2 σ τ k s e v h t N1 N2 dn hc hn hm hx hT hK hb hP
    obtain ⟨n, rfl⟩ : ∃ n', n = n' + 1 := ⟨n - 1, by omega⟩
    obtain ⟨m, rfl⟩ : ∃ m', m = m' + 1 := ⟨m - 1, by omega⟩
    have hE := hT.1
    have hsE : s ≤ e ∧ e ≤ E := ⟨hK.2.2.2.2.2.2.1, hK.2.2.2.2.2.2.2.1⟩
    have hcl : f_X3_read_23 (n + 1) σ (nI 0) (nI x2) = if k = 0 then some (nI 0, σ) else (m_X3_readLine σ).bind fun q4 => if q4.1 = nI 0 then (if q4.2 3 5 = nI 59 then (m_X9_next q4.2).bind fun q10 => f_X3_read_23 n q10 q4.1 (nI (x2 + 1)) else f_X3_read_23 n q4.2 (nI 1) (nI (x2 + 1))) else f_X3_read_23 n q4.2 q4.1 (nI (x2 + 1)) := by
      have h128 := hK.k128
      rw [f_X3_read_23]
      simp only [pu_lit]
      simp only [if_true]
      rw [if_neg (nI_nlt (show x2 ≤ 700 by omega) (by omega)), hK.2.2.1, nI_add]
      by_cases d : k = 0
      · rw [if_pos (show nI k = nI 0 by rw [d]), if_pos d]
      · rw [if_neg (show ¬ nI k = nI 0 by rw [nI_eq (by omega) (by omega)]; exact d), if_neg d]
        cases m_X3_readLine σ with
        | none => rfl
        | some q =>
          rw [sbind, sbind]
          by_cases d2 : q.1 = nI 0
          · rw [if_pos d2, if_pos d2]
            simp only [d2, if_true]
            rw [if_neg (show ¬ nI 1 = nI 0 by decide)]
          · rw [if_neg d2, if_neg d2, if_neg d2]
    rw [hcl, f_X11_terrace_86]
    simp only [pu_lit]
    rw [hb, if_pos rfl]
    by_cases d : k = 0
    · rw [if_pos (hK.k0.mpr d), if_pos d]
      exact ⟨τ, rfl, RLF.rfl, 0, σ, by decide, rfl, CLF.rfl, hb, Or.inr ⟨rfl, h, t, N1, N2, dn, hP⟩⟩
    · rw [if_neg (fun x => d (hK.k0.mp x)), if_neg d]
      obtain ⟨⟨w, τ2⟩, e1, h', t', M1, M2, d', hd, hL⟩ := LINE hT hK d hb hP
      rw [e1, sbind]
      dsimp only at hd hL ⊢
      rcases hL with ⟨f, σf, p1, p2, p3, p4, p5, p6, p7⟩ | ⟨σf, σ2, k2, s2, e2, v2, p1, p2, p3, p4, p5, p6, p7, p8, p9, p10⟩
      · obtain ⟨n, rfl⟩ : ∃ n', n = n' + 1 := ⟨n - 1, by omega⟩
        obtain ⟨m, rfl⟩ : ∃ m', m = m' + 1 := ⟨m - 1, by omega⟩
        refine ⟨τ2, ?_, p5, f, σf, p2, ?_, p4, p6, Or.inl ⟨p1, p7⟩⟩
        · rw [f_X11_terrace_86]
          simp only [pu_lit]
          rw [p6, if_neg (nz' p1 (by omega))]
        · rcases p3 with q | ⟨q1, q2, q3⟩
          · rw [q, sbind]
            dsimp only
            rw [if_neg (nz' p1 (by omega))]
            exact RD23_f ⟨p1, p2⟩
          · subst q1
            rw [q2, sbind]
            dsimp only
            rw [if_pos rfl, if_neg q3]
            exact RD23_f ⟨by decide, by decide⟩
      · obtain ⟨τ3, g1, g2, f, σ3, g3, g4, g5, g6, g7⟩ := ih n m (x2 + 1) σ2 τ2 k2 s2 e2 v2 h' t' M1 M2 d' (by have := p9.2.2.2.2.2.2.1; have := p9.2.2.2.2.2.2.2.1; omega) (by omega) (by omega) (by omega) p8 p9 p6 p7
        refine ⟨τ3, ?_, p5.trans g2, f, σ3, g3, ?_, p4.trans g5, g6, g7⟩
        · rw [hd p6]; exact g1
        · rw [p1, sbind]
          dsimp only
          rw [if_pos rfl, if_pos p2, p3, sbind]
          exact g4
/-- the class clears its plan -/
theorem C_clear53 {σ0 : Mem} : ∀ (k n j : Nat) (σ : Mem), j + k = 8 → k < n → fr [20] σ0 σ → (∀ i, i < 64 → σ 20 i = if 24 ≤ i ∧ i < 24 + j then -nI 1 else nI 0) → OK (f_X2_clear_53 9 n σ (nI j)) (fun q => fr [20] σ0 q ∧ ∀ i, i < 64 → q 20 i = if 24 ≤ i ∧ i < 32 then -nI 1 else nI 0) := by
  intro k
  induction k with
  | zero =>
    intro n j σ hj hn hf h
    obtain ⟨n, rfl⟩ : ∃ n', n = n' + 1 := ⟨n - 1, by omega⟩
    rw [f_X2_clear_53]
    simp only [pu_lit]
    have hj' : j = 8 := by omega
    subst hj'
    rw [if_pos nI_le_self, ok_some]
    exact ⟨hf, h⟩
  | succ k ih =>
    intro n j σ hj hn hf h
    obtain ⟨n, rfl⟩ : ∃ n', n = n' + 1 := ⟨n - 1, by omega⟩
    rw [f_X2_clear_53]
    simp only [pu_lit]
    rw [if_neg (nI_ge (by omega) (by omega)), nI_add, nI_add, pu_gd (k := 24 + j) (by omega) (by decide), ltE, nI_clamp (n := 24 + j) (by omega)]
    refine ih n (j + 1) _ (by omega) (by omega) (hf.ms (by decide)) (fun i hi => ?_)
    show ms σ 20 (24 + j) (-nI 1) 20 i = _
    rw [ms_same]
    by_cases d : i = 24 + j
    · subst d; rw [pk_us, if_pos (by omega)]
    · rw [pk_un d, h i hi]
      by_cases d2 : 24 ≤ i ∧ i < 24 + j
      · rw [if_pos d2, if_pos (by omega)]
      · rw [if_neg d2, if_neg (by omega)]
theorem C_clear32 {σ0 : Mem} : ∀ (k n j : Nat) (σ : Mem), j + k = 64 → k < n → fr [20] σ0 σ → (∀ i, i < j → σ 20 i = nI 0) → OK (f_X2_clear_32 9 n σ (nI j)) (fun q => fr [20] σ0 q ∧ ∀ i, i < 64 → q 20 i = if 24 ≤ i ∧ i < 32 then -nI 1 else nI 0) := by
  intro k
  induction k with
  | zero =>
    intro n j σ hj hn hf h
    obtain ⟨n, rfl⟩ : ∃ n', n = n' + 1 := ⟨n - 1, by omega⟩
    rw [f_X2_clear_32]
    simp only [pu_lit]
    have hj' : j = 64 := by omega
    subst hj'
    rw [if_pos nI_le_self]
    exact C_clear53 8 KF 0 σ (by omega) (by decide) hf (fun i hi => by rw [if_neg (by omega)]; exact h i hi)
  | succ k ih =>
    intro n j σ hj hn hf h
    obtain ⟨n, rfl⟩ : ∃ n', n = n' + 1 := ⟨n - 1, by omega⟩
    rw [f_X2_clear_32]
    simp only [pu_lit]
    rw [if_neg (nI_ge (by omega) (by omega)), nI_add, pu_gd (k := j) (by omega) (by decide), ltE, nI_clamp (n := j) (by omega)]
    refine ih n (j + 1) _ (by omega) (by omega) (hf.ms (by decide)) (fun i hi => ?_)
    show ms σ 20 j (nI 0) 20 i = _
    rw [ms_same]
    by_cases d : i = j
    · subst d; rw [pk_us]
    · rw [pk_un d]; exact h i (by omega)
theorem C_clear2 {σ : Mem} : OK (m_X2_clear 9 σ) (fun q => fr [9, 14, 17, 20] σ q ∧ q 9 0 = nI 0 ∧ q 9 1 = nI 0 ∧ q 9 2 = nI 40 ∧ q 14 2 = nI 0 ∧ q 17 2 = nI 0 ∧ ∀ i, i < 64 → q 20 i = if 24 ≤ i ∧ i < 32 then -nI 1 else nI 0) := by
  unfold m_X2_clear m_X4_clear
  simp only [pu_lit, Nat.reduceAdd]
  rw [ltE, ltE, ltE, ltE, sbind, ltE, sbind]
  refine ok_mono (C_clear32 64 KF 0 _ (by omega) (by decide) fr.rfl (fun i hi => absurd hi (by omega))) (fun q ⟨h1, h2⟩ => ⟨?_, ?_, ?_, ?_, ?_, ?_, h2⟩)
  · exact (((((fr.rfl.ms (by decide)).ms (by decide)).ms (by decide)).ms (by decide)).ms (by decide)).trans (h1.mono (by decide))
  · rw [h1 9 (by decide), ms_ne (by decide), ms_ne (by decide), ms_same, pk_un (by decide), ms_same, pk_un (by decide), ms_at]
  · rw [h1 9 (by decide), ms_ne (by decide), ms_ne (by decide), ms_same, pk_un (by decide), ms_at]
  · rw [h1 9 (by decide), ms_ne (by decide), ms_ne (by decide), ms_at]
  · rw [h1 14 (by decide), ms_ne (by decide), ms_at]
  · rw [h1 17 (by decide), ms_at]
/-- the reference takes a half over -/
theorem R_half {r n h : Nat} {τ : Mem} (hn : n = 2 * h) (h7 : h ≤ 700) (hd : Int32.ofNat n / nI 2 = nI h) : ∀ (k m j : Nat) (τ1 : Mem), j + k = h → k < m → fr [r] τ τ1 → (∀ i, i < j → τ1 r i = τ r (h + i)) → (∀ i, h ≤ i → τ1 r i = τ r i) → OK (f_X11_takeHalf_2 r n m τ1 (nI j)) (fun q => fr [r] τ q ∧ ∀ i, i < h → q r i = τ r (h + i)) := by
  intro k
  induction k with
  | zero =>
    intro m j τ1 hj hm hf h1 h2
    obtain ⟨m, rfl⟩ : ∃ m', m = m' + 1 := ⟨m - 1, by omega⟩
    rw [f_X11_takeHalf_2]
    simp only [pu_lit]
    have hj' : j = h := by omega
    subst hj'
    rw [pu_gnz (by decide) (by decide), hd, if_pos nI_le_self, ok_some]
    exact ⟨hf, h1⟩
  | succ k ih =>
    intro m j τ1 hj hm hf h1 h2
    obtain ⟨m, rfl⟩ : ∃ m', m = m' + 1 := ⟨m - 1, by omega⟩
    rw [f_X11_takeHalf_2]
    simp only [pu_lit]
    rw [pu_gnz (by decide) (by decide), hd, if_neg (nI_ge (by omega) (by omega)), pu_gnz (by decide) (by decide), nI_add, nI_add, pu_gd (k := h + j) (by omega) (by omega), pu_gd (k := j) (by omega) (by omega), ltE, nI_clamp (n := j) (by omega), nI_clamp (n := h + j) (by omega)]
    refine ih m (j + 1) _ (by omega) (by omega) (hf.ms (by simp)) (fun i hi => ?_) (fun i hi => ?_)
    · rw [ms_same]
      by_cases d : i = j
      · subst d; rw [pk_us]; exact h2 _ (by omega)
      · rw [pk_un d]; exact h1 i (by omega)
    · rw [ms_same, pk_un (by omega)]; exact h2 i hi
def TH (d : Nat) (τ q : Mem) : Prop := (∀ c, 5 ≤ c → c < d → ∀ j, j < lo c → q c j = τ c (lo c + j)) ∧ ∀ c, (c < 5 ∨ d ≤ c) → q c = τ c
theorem TH.step {d n : Nat} {τ q : Mem} (H : TH d τ q) (h5 : 5 ≤ d ∧ d ≤ 17) (hn : n = 2 * lo d) (hd : Int32.ofNat n / nI 2 = nI (lo d)) : OK (m_X11_takeHalf d n q) (TH (d + 1) τ) := by
  have hl : lo d ≤ 700 ∧ lo d < KF := by
    unfold lo KF
    split
    · omega
    · split
      · omega
      · split <;> omega
  refine ok_mono (R_half (r := d) (n := n) (h := lo d) (τ := q) hn hl.1 hd (lo d) KF 0 q (by omega) hl.2 fr.rfl (fun i hi => absurd hi (by omega)) (fun _ _ => rfl)) (fun w ⟨f, g⟩ => ⟨fun c a b j hj => ?_, fun c a => ?_⟩)
  · by_cases x : c = d
    · subst x
      rw [g j hj, H.2 c (Or.inr (Nat.le_refl _))]
    · rw [f c (by simp; exact x)]; exact H.1 c a (by omega) j hj
  · rw [f c (by simp; omega)]; exact H.2 c (by omega)
/-- the reference's loops when it takes a terrace over -/
theorem R_over212 {t : Nat} {τ : Mem} (ht : t ≤ 7) (h5 : τ 5 1 = nI t) : ∀ (k m j : Nat) (τ1 : Mem), j + k = 7 → k < m → fr [25, 26, 27] τ τ1 → (∀ i, i < j → τ1 25 i = (if i < t then τ 13 i else nI 0) ∧ τ1 26 i = (if i < t then τ 14 i else nI 0) ∧ τ1 27 i = (if i < t then τ 15 i else nI 0)) → OK (f_X11_takeOver_212 m τ1 (nI j)) (fun q => fr [0, 25, 26, 27] τ q ∧ (∀ s, s ∉ [44, 45, 64] → q 0 s = τ 0 s) ∧ q 0 44 = nI 0 ∧ q 0 45 = nI 0 ∧ q 0 64 = nI 0 ∧ ∀ i, i < 7 → q 25 i = (if i < t then τ 13 i else nI 0) ∧ q 26 i = (if i < t then τ 14 i else nI 0) ∧ q 27 i = (if i < t then τ 15 i else nI 0)) := by
  intro k
  induction k with
  | zero =>
    intro m j τ1 hj hm hf h1
    obtain ⟨m, rfl⟩ : ∃ m', m = m' + 1 := ⟨m - 1, by omega⟩
    rw [f_X11_takeOver_212]
    simp only [pu_lit]
    have hj' : j = 7 := by omega
    subst hj'
    rw [if_pos nI_le_self, ltE, ltE, pu_gz0, ltE, ok_some]
    refine ⟨(((hf.mono (by decide)).ms (by decide)).ms (by decide)).ms (by decide), fun s hs => ?_, ?_, ?_, ms_at, fun i hi => ?_⟩
    · simp at hs
      rw [ms_same, pk_un (by omega), ms_same, pk_un (by omega), ms_same, pk_un (by omega), hf 0 (by decide)]
    · rw [ms_same, pk_un (by decide), ms_same, pk_un (by decide), ms_at]
    · rw [ms_same, pk_un (by decide), ms_at]
    · rw [ms_ne (by decide), ms_ne (by decide), ms_ne (by decide), ms_ne (by decide), ms_ne (by decide), ms_ne (by decide), ms_ne (by decide), ms_ne (by decide), ms_ne (by decide)]
      exact h1 i hi
  | succ k ih =>
    intro m j τ1 hj hm hf h1
    obtain ⟨m, rfl⟩ : ∃ m', m = m' + 1 := ⟨m - 1, by omega⟩
    have hstep : f_X11_takeOver_212 (m + 1) τ1 (nI j) = f_X11_takeOver_212 m (ms (ms (ms τ1 25 j (if j < t then τ1 13 j else nI 0)) 26 j (if j < t then τ1 14 j else nI 0)) 27 j (if j < t then τ1 15 j else nI 0)) (nI (j + 1)) := by
      rw [f_X11_takeOver_212]
      unfold f_X11_takeOver_253
      simp only [pu_lit]
      rw [if_neg (nI_ge (by omega) (by omega)), pu_gd (k := 1) (by decide) (by decide), nI_clamp (n := 1) (by decide), hf 5 (by decide), h5, nI_add]
      by_cases c : t ≤ j
      · have c' : ¬ j < t := by omega
        rw [if_pos (nI_le c (by omega))]
        simp only [c', if_false, if_true, pu_gd (k := j) (n := 7) (by omega) (by decide), nI_clamp (n := j) (by omega)]
        rfl
      · have c' : j < t := by omega
        rw [if_neg (nI_ge (by omega) (by omega))]
        simp only [c', if_true, show ¬ nI 1 = nI 0 by decide, if_false, pu_gd (k := j) (n := 7) (by omega) (by decide), pu_gd (k := j) (n := 14) (by omega) (by decide), nI_clamp (n := j) (by omega)]
        rfl
    rw [hstep]
    refine ih m (j + 1) _ (by omega) (by omega) (((hf.ms (by decide)).ms (by decide)).ms (by decide)) (fun i hi => ?_)
    rw [hf 13 (by decide), hf 14 (by decide), hf 15 (by decide)]
    by_cases d : i = j
    · subst d
      exact ⟨by rw [ms_ne (by decide), ms_ne (by decide), ms_at], by rw [ms_ne (by decide), ms_at], ms_at⟩
    · rw [ms_ne (by decide), ms_ne (by decide), ms_same, pk_un d, ms_ne (by decide), ms_same, pk_un d, ms_ne (by decide), ms_same, pk_un d, ms_ne (by decide), ms_ne (by decide)]
      exact h1 i (by omega)
theorem R_over108 {h : Nat} {τ : Mem} {kk : Mem → Option Mem} {P : Mem → Prop} (ht : h ≤ 8) (h5 : τ 5 0 = nI h) (hkk : ∀ q, fr [20, 21, 22, 23, 24] τ q → (∀ i, i < 8 → q 20 i = (if i < h then τ 8 i else nI 0) ∧ q 21 i = (if i < h then τ 9 i else nI 0) ∧ q 22 i = (if i < h then τ 10 i else nI 0) ∧ q 23 i = -nI 1 ∧ q 24 i = nI 0) → OK (f_X11_takeOver_212 KF q (nI 0)) P) : ∀ (k m j : Nat) (τ1 : Mem), j + k = 8 → k < m → fr [20, 21, 22, 23, 24] τ τ1 → (∀ i, i < j → τ1 20 i = (if i < h then τ 8 i else nI 0) ∧ τ1 21 i = (if i < h then τ 9 i else nI 0) ∧ τ1 22 i = (if i < h then τ 10 i else nI 0) ∧ τ1 23 i = -nI 1 ∧ τ1 24 i = nI 0) → OK (f_X11_takeOver_108 m τ1 (nI j)) P := by
  intro k
  induction k with
  | zero =>
    intro m j τ1 hj hm hf h1
    obtain ⟨m, rfl⟩ : ∃ m', m = m' + 1 := ⟨m - 1, by omega⟩
    rw [f_X11_takeOver_108]
    simp only [pu_lit]
    have hj' : j = 8 := by omega
    subst hj'
    rw [if_pos nI_le_self]
    exact hkk τ1 hf h1
  | succ k ih =>
    intro m j τ1 hj hm hf h1
    obtain ⟨m, rfl⟩ : ∃ m', m = m' + 1 := ⟨m - 1, by omega⟩
    have hstep : f_X11_takeOver_108 (m + 1) τ1 (nI j) = f_X11_takeOver_108 m (ms (ms (ms (ms (ms τ1 20 j (if j < h then τ1 8 j else nI 0)) 21 j (if j < h then τ1 9 j else nI 0)) 22 j (if j < h then τ1 10 j else nI 0)) 23 j (-nI 1)) 24 j (nI 0)) (nI (j + 1)) := by
      rw [f_X11_takeOver_108]
      unfold f_X11_takeOver_129 f_X11_takeOver_169
      simp only [pu_lit]
      rw [if_neg (nI_ge (by omega) (by omega)), pu_gd (k := 0) (by decide) (by decide), nI_clamp (n := 0) (by decide), hf 5 (by decide), h5, nI_add]
      by_cases c : h ≤ j
      · have c' : ¬ j < h := by omega
        rw [if_pos (nI_le c (by omega))]
        simp only [c', if_false, if_true, pu_gd (k := j) (n := 8) (by omega) (by decide), nI_clamp (n := j) (by omega)]
        rfl
      · have c' : j < h := by omega
        rw [if_neg (nI_ge (by omega) (by omega))]
        simp only [c', if_true, show ¬ nI 1 = nI 0 by decide, if_false, pu_gd (k := j) (n := 8) (by omega) (by decide), pu_gd (k := j) (n := 16) (by omega) (by decide), nI_clamp (n := j) (by omega)]
        rfl
    rw [hstep]
    refine ih m (j + 1) _ (by omega) (by omega) (((((hf.ms (by decide)).ms (by decide)).ms (by decide)).ms (by decide)).ms (by decide)) (fun i hi => ?_)
    rw [hf 8 (by decide), hf 9 (by decide), hf 10 (by decide)]
    by_cases d : i = j
    · subst d
      exact ⟨by rw [ms_ne (by decide), ms_ne (by decide), ms_ne (by decide), ms_ne (by decide), ms_at], by rw [ms_ne (by decide), ms_ne (by decide), ms_ne (by decide), ms_at], by rw [ms_ne (by decide), ms_ne (by decide), ms_at], by rw [ms_ne (by decide), ms_at], ms_at⟩
    · obtain ⟨g1, g2, g3, g4, g5⟩ := h1 i (by omega)
      exact ⟨by rw [ms_ne (by decide), ms_ne (by decide), ms_ne (by decide), ms_ne (by decide), ms_same, pk_un d]; exact g1, by rw [ms_ne (by decide), ms_ne (by decide), ms_ne (by decide), ms_same, pk_un d, ms_ne (by decide)]; exact g2, by rw [ms_ne (by decide), ms_ne (by decide), ms_same, pk_un d, ms_ne (by decide), ms_ne (by decide)]; exact g3, by rw [ms_ne (by decide), ms_same, pk_un d, ms_ne (by decide), ms_ne (by decide), ms_ne (by decide)]; exact g4, by rw [ms_same, pk_un d, ms_ne (by decide), ms_ne (by decide), ms_ne (by decide), ms_ne (by decide)]; exact g5⟩
/-- all that taking over does -/
def TO (h t : Nat) (τ q : Mem) : Prop := (∀ c, c ∉ [0, 5, 6, 7, 8, 9, 10, 11, 12, 13, 14, 15, 16, 17, 20, 21, 22, 23, 24, 25, 26, 27] → q c = τ c) ∧ (∀ s, s ∉ [41, 42, 43, 44, 45, 64] → q 0 s = τ 0 s) ∧ q 0 41 = nI 0 ∧ q 0 42 = nI 0 ∧ q 0 43 = nI 0 ∧ q 0 44 = nI 0 ∧ q 0 45 = nI 0 ∧ q 0 64 = nI 0 ∧ (∀ c, 5 ≤ c → c ≤ 17 → ∀ j, j < lo c → q c j = τ c (lo c + j)) ∧
  (∀ i, i < 8 → q 20 i = (if i < h then τ 8 (8 + i) else nI 0) ∧ q 21 i = (if i < h then τ 9 (8 + i) else nI 0) ∧ q 22 i = (if i < h then τ 10 (8 + i) else nI 0) ∧ q 23 i = -nI 1 ∧ q 24 i = nI 0) ∧
  ∀ i, i < 7 → q 25 i = (if i < t then τ 13 (7 + i) else nI 0) ∧ q 26 i = (if i < t then τ 14 (7 + i) else nI 0) ∧ q 27 i = (if i < t then τ 15 (7 + i) else nI 0)
theorem R_takeOver {h t : Nat} {τ : Mem} (hh : h ≤ 8) (ht : t ≤ 7) (h5 : τ 5 5 = nI h) (h6 : τ 5 6 = nI t) : OK (m_X11_takeOver τ) (TO h t τ) := by
  have H0 : TH 5 τ τ := ⟨fun c a b => by omega, fun _ _ => rfl⟩
  obtain ⟨q1, e1, H1⟩ := H0.step (n := 10) (by decide) (by decide) (by decide)
  obtain ⟨q2, e2, H2⟩ := H1.step (n := 16) (by decide) (by decide) (by decide)
  obtain ⟨q3, e3, H3⟩ := H2.step (n := 16) (by decide) (by decide) (by decide)
  obtain ⟨q4, e4, H4⟩ := H3.step (n := 16) (by decide) (by decide) (by decide)
  obtain ⟨q5, e5, H5⟩ := H4.step (n := 16) (by decide) (by decide) (by decide)
  obtain ⟨q6, e6, H6⟩ := H5.step (n := 16) (by decide) (by decide) (by decide)
  obtain ⟨q7, e7, H7⟩ := H6.step (n := 14) (by decide) (by decide) (by decide)
  obtain ⟨q8, e8, H8⟩ := H7.step (n := 14) (by decide) (by decide) (by decide)
  obtain ⟨q9, e9, H9⟩ := H8.step (n := 14) (by decide) (by decide) (by decide)
  obtain ⟨q10, e10, H10⟩ := H9.step (n := 14) (by decide) (by decide) (by decide)
  obtain ⟨q11, e11, H11⟩ := H10.step (n := 14) (by decide) (by decide) (by decide)
  obtain ⟨q12, e12, H12⟩ := H11.step (n := 1400) (by decide) (by decide) (by decide)
  obtain ⟨q13, e13, H13⟩ := H12.step (n := 1400) (by decide) (by decide) (by decide)
  unfold m_X11_takeOver
  rw [e1, sbind, e2, sbind, e3, sbind, e4, sbind, e5, sbind, e6, sbind, e7, sbind, e8, sbind, e9, sbind, e10, sbind, e11, sbind, e12, sbind, e13, sbind, ltE, ltE, ltE]
  simp only [pu_lit]
  have F0 : fr [0] q13 (ms (ms (ms q13 0 41 (nI 0)) 0 42 (nI 0)) 0 43 (nI 0)) := ((fr.rfl.ms (by decide)).ms (by decide)).ms (by decide)
  have u41 : ms (ms (ms q13 0 41 (nI 0)) 0 42 (nI 0)) 0 43 (nI 0) 0 41 = nI 0 := by rw [ms_same, pk_un (by decide), ms_same, pk_un (by decide), ms_at]
  have u42 : ms (ms (ms q13 0 41 (nI 0)) 0 42 (nI 0)) 0 43 (nI 0) 0 42 = nI 0 := by rw [ms_same, pk_un (by decide), ms_at]
  have u43 : ms (ms (ms q13 0 41 (nI 0)) 0 42 (nI 0)) 0 43 (nI 0) 0 43 = nI 0 := ms_at
  have us : ∀ s, s ∉ [41, 42, 43] → ms (ms (ms q13 0 41 (nI 0)) 0 42 (nI 0)) 0 43 (nI 0) 0 s = τ 0 s := fun s hs => by
    simp at hs
    rw [ms_same, pk_un (by omega), ms_same, pk_un (by omega), ms_same, pk_un (by omega), H13.2 0 (by decide)]
  generalize ms (ms (ms q13 0 41 (nI 0)) 0 42 (nI 0)) 0 43 (nI 0) = w at F0 u41 u42 u43 us ⊢
  have wc : ∀ c, 5 ≤ c → c ≤ 17 → ∀ j, j < lo c → w c j = τ c (lo c + j) := fun c a b j hj => by
    rw [F0 c (by simp; omega)]; exact H13.1 c a (by omega) j hj
  have wo : ∀ c, c ≠ 0 → (c < 5 ∨ 18 ≤ c) → w c = τ c := fun c a b => by rw [F0 c (by simp; exact a)]; exact H13.2 c (by omega)
  refine R_over108 (h := h) (kk := some) hh (by rw [wc 5 (by decide) (by decide) 0 (by decide)]; exact h5) (fun q f g => ?_) 8 KF 0 w (by omega) (by decide) fr.rfl (fun i hi => absurd hi (by omega))
  refine ok_mono (R_over212 (t := t) (τ := q) ht (by rw [f 5 (by decide), wc 5 (by decide) (by decide) 1 (by decide)]; exact h6) 7 KF 0 q (by omega) (by decide) fr.rfl (fun i hi => absurd hi (by omega))) (fun r ⟨a1, a2, a3, a4, a5, a6⟩ => ⟨fun c hc => ?_, fun s hs => ?_, ?_, ?_, ?_, a3, a4, a5, fun c x y j hj => ?_, fun i hi => ?_, fun i hi => ?_⟩)
  · simp at hc
    rw [a1 c (by simp; omega), f c (by simp; omega), wo c (by omega) (by omega)]
  · simp at hs
    rw [a2 s (by simp; omega), f 0 (by decide)]; exact us s (by simp; omega)
  · rw [a2 41 (by decide), f 0 (by decide)]; exact u41
  · rw [a2 42 (by decide), f 0 (by decide)]; exact u42
  · rw [a2 43 (by decide), f 0 (by decide)]; exact u43
  · rw [a1 c (by simp; omega), f c (by simp; omega)]; exact wc c x y j hj
  · rw [a1 20 (by decide), a1 21 (by decide), a1 22 (by decide), a1 23 (by decide), a1 24 (by decide)]
    have := g i hi
    rw [wc 8 (by decide) (by decide) i hi, wc 9 (by decide) (by decide) i hi, wc 10 (by decide) (by decide) i hi] at this
    exact this
  · have := a6 i hi
    rw [f 13 (by decide), f 14 (by decide), f 15 (by decide), wc 13 (by decide) (by decide) i hi, wc 14 (by decide) (by decide) i hi, wc 15 (by decide) (by decide) i hi] at this
    exact this

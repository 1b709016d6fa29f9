/-! the class' street, with what it changes -/
section CSTREET2
variable {P σ : Mem} {H T r1 : Nat}
theorem mbN_s {r : Rw} {t h : Nat} : mbN r t (h + 1) = if r (24 + h) = nI t then mbN r t h + nI 1 else mbN r t h := rfl
theorem C_isTold {k : Nat} : m_X4_isTold k σ = some (if σ k 2 ≤ nI 0 then nI 0 else nI 1) := by
  unfold m_X4_isTold
  simp only [pu_lit, ite_some]
theorem C_isAsleep (hP : PE P σ) (hW : PW P H T) (hr : r1 = 43 ∨ r1 = 56) {h : Nat} (hh : h < 8) : OK (m_X8_isAsleep r1 σ (nI h)) (fun q => q.1 = slS P (σ r1) h ∧ fr [30, 33, 35] σ q.2 ∧ ∀ j, j < 4 → q.2 35 j = vH P (σ r1) h j) := by
  unfold m_X8_isAsleep
  rw [ok_bind]
  refine ok_mono (C_tellHouse hP hr hh) (fun q hq => ?_)
  obtain ⟨hf, hv⟩ := hq
  have hf3 : fr [30, 33, 35] σ q := hf.mono (by simp)
  have hP1 : PE P q := hP.fr hf (by simp)
  have er : q r1 = σ r1 := hf r1 (by simp; omega)
  obtain ⟨N, hN, e31, hdp⟩ := hW.2.2.2.2.2.2.2
  have e31' : q 31 2 = nI N := by rw [hP1 31 (by decide) (by decide) (by decide) (by decide)]; exact e31
  have e32 : ∀ j, j < N → q 32 j = P 32 j := fun j _ => by rw [hP1 32 (by decide) (by decide) (by decide) (by decide)]
  rw [C_isTold, ok_bind, ok_some, e31']
  unfold slS
  rw [e31]
  simp only [pu_lit]
  by_cases c : nI N ≤ nI 0
  · rw [if_pos c, if_pos (Eq.refl _), if_pos c, nI_add, Nat.zero_add, pu_gd (by omega) (by decide), nI_clamp (by omega), er]
    by_cases c2 : σ r1 h < nI 30
    · rw [if_pos c2, if_pos c2, ok_some]; exact ⟨Eq.refl _, hf3, hv⟩
    · rw [if_neg c2, if_neg c2, ok_some]; exact ⟨Eq.refl _, hf3, hv⟩
  · have hN0 : 0 < N := by
      rcases Nat.eq_zero_or_pos N with q0 | q0
      · subst q0; exact absurd nI_le_self c
      · exact q0
    rw [if_neg c, if_neg (show ¬ nI 1 = nI 0 by decide), if_neg c, ok_bind, nI_clamp (by omega)]
    refine ok_mono (C_value (k := 31) (r1 := 35) (mv := 4) (by decide) (by decide) hN (hdp hN0) e31' e32 hv) (fun q5 h5 => ?_)
    obtain ⟨h51, h52⟩ := h5
    rw [← h51]
    have hf5 : fr [30, 33, 35] σ q5.2 := hf3.trans (h52.mono (by simp))
    have hv5 : ∀ j, j < 4 → q5.2 35 j = vH P (σ r1) h j := fun j hj => by rw [h52 35 (by decide)]; exact hv j hj
    by_cases c2 : q5.1 ≤ nI 0
    · rw [if_pos c2, if_pos c2, ok_some]; exact ⟨Eq.refl _, hf5, hv5⟩
    · rw [if_neg c2, if_neg c2, ok_some]; exact ⟨Eq.refl _, hf5, hv5⟩
theorem C_tellTenant {ob mb : Rw} (hr : r1 = 43 ∨ r1 = 56) (ho : ∀ h, h < 8 → σ 36 h = ob h) (hm : ∀ t, t < 7 → σ 37 t = mb t) {h t : Nat} (hh : h < 8) (ht : t < 7) : OK (m_X8_tellTenant r1 σ (nI h) (nI t)) (fun q => fr [35] σ q ∧ (∀ j, j < 4 → q 35 j = σ 35 j) ∧ q 35 4 = σ r1 (40 + t) ∧ q 35 5 = σ r1 (47 + t) ∧ q 35 6 = σ r1 (54 + t) ∧ q 35 7 = σ 35 7 ∧ q 35 8 = mb t ∧ q 35 9 = bsS ob h t) := by
  have fin : ∀ z : Int32, z = bsS ob h t → (fun q : Mem => fr [35] σ q ∧ (∀ j, j < 4 → q 35 j = σ 35 j) ∧ q 35 4 = σ r1 (40 + t) ∧ q 35 5 = σ r1 (47 + t) ∧ q 35 6 = σ r1 (54 + t) ∧ q 35 7 = σ 35 7 ∧ q 35 8 = mb t ∧ q 35 9 = bsS ob h t) (ms (ms (ms (ms (ms σ 35 4 (σ r1 (40 + t))) 35 5 (σ r1 (47 + t))) 35 6 (σ r1 (54 + t))) 35 8 (mb t)) 35 9 z) := by
    intro z hz
    refine ⟨((((fr.rfl.ms (by simp)).ms (by simp)).ms (by simp)).ms (by simp)).ms (by simp), fun j hj => ?_, ?_, ?_, ?_, ?_, ?_, ?_⟩
    · simp only [ms_same]; rw [pk_un (by omega), pk_un (by omega), pk_un (by omega), pk_un (by omega), pk_un (by omega)]
    all_goals simp [ms_same, upd, hz]
  unfold m_X8_tellTenant f_X8_tellTenant_71
  rcases Nat.eq_zero_or_pos h with h0 | h0
  · subst h0
    have c0 : (0 : Nat) ≤ 0 := by omega
    have c7 : ¬ 8 ≤ 0 + 1 := by omega
    simp (disch := omega) only [pu_lit, nI_add, pu_gd, nI_clamp, nI_leI, nI_ltI, nI_eq, ok_some, ok_bind, ok_ite, ok_lt, pu_gz1, pu_gz0, pu_gnz, false_imp_iff, true_imp_iff, not_true_eq_false, not_false_eq_true, true_and, and_true, and_self, ms_ne, ms_same, hm, ho, pk_sub, c0, c7]
    refine ⟨fun c2 => fin _ ?_, fun c2 => fin _ ?_⟩ <;> simp [bsS, c2, nI_add]
  · have c0 : ¬ h ≤ 0 := by omega
    have c0' : ¬ h = 0 := by omega
    rcases Nat.lt_or_ge h 7 with h7 | h7
    · have c7 : ¬ 8 ≤ h + 1 := by omega
      have c7' : ¬ 7 ≤ h := by omega
      simp (disch := omega) only [pu_lit, nI_add, pu_gd, nI_clamp, nI_leI, nI_ltI, nI_eq, ok_some, ok_bind, ok_ite, ok_lt, pu_gz1, pu_gz0, pu_gnz, false_imp_iff, true_imp_iff, not_true_eq_false, not_false_eq_true, true_and, and_true, and_self, ms_ne, ms_same, hm, ho, pk_sub, c0, c7]
      refine ⟨fun c1 => ⟨fun c2 => fin _ ?_, fun c2 => fin _ ?_⟩, fun c1 => ⟨fun c2 => fin _ ?_, fun c2 => fin _ ?_⟩⟩ <;> simp [bsS, c1, c2, c0', c7', nI_add]
    · have c7 : 8 ≤ h + 1 := by omega
      have c7' : 7 ≤ h := by omega
      simp (disch := omega) only [pu_lit, nI_add, pu_gd, nI_clamp, nI_leI, nI_ltI, nI_eq, ok_some, ok_bind, ok_ite, ok_lt, pu_gz1, pu_gz0, pu_gnz, false_imp_iff, true_imp_iff, not_true_eq_false, not_false_eq_true, true_and, and_true, and_self, ms_ne, ms_same, hm, ho, pk_sub, c0, c7]
      refine ⟨fun c1 => fin _ ?_, fun c1 => fin _ ?_⟩ <;> simp [bsS, c1, c0', c7']
theorem C_likingOf {ob mb : Rw} (hP : PE P σ) (hW : PW P H T) (hr : r1 = 43 ∨ r1 = 56) (ho : ∀ h, h < 8 → σ 36 h = ob h) (hm : ∀ t, t < 7 → σ 37 t = mb t) {h t : Nat} (hh : h < 8) (ht : t < 7) (hv : ∀ j, j < 4 → σ 35 j = vH P (σ r1) h j) : OK (m_X8_likingOf r1 σ (nI h) (nI t)) (fun q => q.1 = lkS P (σ r1) ob mb h t ∧ fr [30, 33, 35] σ q.2 ∧ ∀ j, j < 4 → q.2 35 j = vH P (σ r1) h j) := by
  have key : ∀ hd, hd = hdS (σ r1) ob h t → OK (f_X8_likingOf_20 r1 σ (nI h) (nI t) hd) (fun q => q.1 = lkS P (σ r1) ob mb h t ∧ fr [30, 33, 35] σ q.2 ∧ ∀ j, j < 4 → q.2 35 j = vH P (σ r1) h j) := by
    intro hd ehd
    have last : ∀ (q : Mem) (v : Int32), v = lvS P (σ r1) ob mb h t → fr [30, 33, 35] σ q → (∀ j, j < 4 → q 35 j = vH P (σ r1) h j) → OK (f_X8_likingOf_97 r1 q (nI t) v) (fun q => q.1 = lkS P (σ r1) ob mb h t ∧ fr [30, 33, 35] σ q.2 ∧ ∀ j, j < 4 → q.2 35 j = vH P (σ r1) h j) := by
      intro q v hv1 hf hq
      unfold f_X8_likingOf_97
      have e27 : q 27 = P 27 := by rw [hf 27 (by decide)]; exact hP 27 (by decide) (by decide) (by decide) (by decide)
      simp only [pu_lit]
      rw [ok_lt, pu_gd (by omega) (by decide), nI_clamp (by omega), e27, hv1]
      unfold lkS
      by_cases c : P 27 t = nI 1
      · rw [if_pos c, if_pos c, ok_some]; exact ⟨Eq.refl _, hf, hq⟩
      · rw [if_neg c, if_neg c, ok_some]; exact ⟨Eq.refl _, hf, hq⟩
    unfold f_X8_likingOf_20
    obtain ⟨N, hN, e28, hdp⟩ := hW.2.2.2.2.2.2.1
    have e28' : σ 28 2 = nI N := by rw [hP 28 (by decide) (by decide) (by decide) (by decide)]; exact e28
    rw [C_isTold, ok_bind, ok_some, e28']
    simp only [pu_lit]
    by_cases c : nI N ≤ nI 0
    · rw [if_pos c, if_pos (Eq.refl _), nI_add, nI_add, nI_add, pu_gd (k := 40 + t) (by omega) (by decide), pu_gd (k := 47 + t) (by omega) (by decide), pu_gd (k := 8 + h) (by omega) (by decide), nI_clamp (n := 40 + t) (by omega), nI_clamp (n := 47 + t) (by omega), nI_clamp (n := 8 + h) (by omega), ok_lt]
      refine last _ _ ?_ fr.rfl hv
      unfold lvS
      rw [e28, if_pos c, ehd]
    · have hN0 : 0 < N := by
        rcases Nat.eq_zero_or_pos N with q0 | q0
        · subst q0; exact absurd nI_le_self c
        · exact q0
      rw [if_neg c, if_neg (show ¬ nI 1 = nI 0 by decide), pu_gd (by decide) (by decide), nI_clamp (by decide), ok_lt, ok_bind]
      have hf1 : fr [35] σ (ms σ 35 7 hd) := fr.rfl.ms (by simp)
      refine ok_mono (C_tellTenant (σ := ms σ 35 7 hd) (ob := ob) (mb := mb) hr (fun h hh => ?_) (fun t ht => ?_) hh ht) (fun q hq => ?_)
      · rw [ms_ne (by decide)]; exact ho h hh
      · rw [ms_ne (by decide)]; exact hm t ht
      obtain ⟨hf2, g0, g4, g5, g6, g7, g8, g9⟩ := hq
      rw [ms_ne (by omega)] at g4 g5 g6
      rw [ms_same, pk_us] at g7
      have hf3 : fr [35] σ q := hf1.trans hf2
      have hP1 : PE P q := hP.fr hf3 (by simp)
      have hq4 : ∀ j, j < 4 → q 35 j = vH P (σ r1) h j := fun j hj => by rw [g0 j hj, ms_same, pk_un (by omega)]; exact hv j hj
      have hvT : ∀ j, j < 10 → q 35 j = vT P (σ r1) ob mb h t j := by
        intro j hj
        rcases Nat.lt_or_ge j 4 with h4 | h4
        · rw [hq4 j h4]; unfold vT; rw [if_pos h4]
        · rcases (show j = 4 ∨ j = 5 ∨ j = 6 ∨ j = 7 ∨ j = 8 ∨ j = 9 by omega) with rfl | rfl | rfl | rfl | rfl | rfl <;> simp [vT, g4, g5, g6, g7, g8, g9, ehd]
      rw [ok_bind]
      have e28q : q 28 2 = nI N := by rw [hP1 28 (by decide) (by decide) (by decide) (by decide)]; exact e28
      have e29q : ∀ j, j < N → q 29 j = P 29 j := fun j _ => by rw [hP1 29 (by decide) (by decide) (by decide) (by decide)]
      refine ok_mono (C_value (k := 28) (r1 := 35) (mv := 10) (by decide) (by decide) hN (hdp hN0) e28q e29q hvT) (fun q6 h6 => ?_)
      obtain ⟨h61, h62⟩ := h6
      refine last _ _ ?_ ((hf3.mono (by simp)).trans (h62.mono (by simp))) (fun j hj => ?_)
      · rw [h61]; unfold lvS; rw [e28, if_neg c, nI_clamp (by omega)]
      · rw [h62 35 (by decide)]; exact hq4 j hj
  unfold m_X8_likingOf
  simp only [pu_lit]
  rw [pu_gd hh (by decide), nI_clamp (by omega), ho h hh, nI_add, pu_gd (by omega) (by decide), nI_clamp (by omega)]
  by_cases c : ob h = nI t
  · rw [if_pos c]; exact key _ (by unfold hdS; rw [if_pos c])
  · rw [if_neg c]; exact key _ (by unfold hdS; rw [if_neg c])
theorem C_sits_loop {ob mb : Rw} (hr : r1 = 43 ∨ r1 = 56) (hW : PW P H T) {h : Nat} (hh : h < 8) : ∀ (k n t : Nat) (b m : Int32) (σ : Mem), t + k = T → k < n → PE P σ → (∀ h, h < 8 → σ 36 h = ob h) → (∀ t, t < 7 → σ 37 t = mb t) → (∀ j, j < 4 → σ 35 j = vH P (σ r1) h j) →
    OK (f_X8_sitsBy_31 r1 (nI h) n σ b m (nI t)) (fun q => q.1 = bsL (lkS P (σ r1) ob mb h) k t b m ∧ fr [30, 33, 35] σ q.2) := by
  intro k
  have hT := hW.2.1
  induction k with
  | zero =>
    intro n t b m σ hk hn hP ho hm hv
    obtain ⟨n, rfl⟩ : ∃ q, n = q + 1 := ⟨n - 1, by omega⟩
    have e0 : σ 23 1 = nI T := by rw [hP 23 (by decide) (by decide) (by decide) (by decide)]; exact hW.2.2.2.1
    rw [f_X8_sitsBy_31, e0, if_pos (nI_le (by omega) (by omega)), ok_some]
    exact ⟨Eq.refl _, fr.rfl⟩
  | succ k ih =>
    intro n t b m σ hk hn hP ho hm hv
    obtain ⟨n, rfl⟩ : ∃ q, n = q + 1 := ⟨n - 1, by omega⟩
    have e0 : σ 23 1 = nI T := by rw [hP 23 (by decide) (by decide) (by decide) (by decide)]; exact hW.2.2.2.1
    rw [f_X8_sitsBy_31, e0, if_neg (nI_ge (by omega) (by omega)), ok_bind]
    refine ok_mono (C_likingOf hP hW hr ho hm hh (t := t) (by omega) hv) (fun q hq => ?_)
    obtain ⟨h1, hf, hv2⟩ := hq
    simp only [pu_lit]
    rw [nI_add, h1]
    have er : q.2 r1 = σ r1 := hf r1 (by simp; omega)
    have hP2 : PE P q.2 := hP.fr hf (by simp)
    have ho2 : ∀ h, h < 8 → q.2 36 h = ob h := fun h hh => by rw [hf 36 (by decide)]; exact ho h hh
    have hm2 : ∀ t, t < 7 → q.2 37 t = mb t := fun t ht => by rw [hf 37 (by decide)]; exact hm t ht
    have hv3 : ∀ j, j < 4 → q.2 35 j = vH P (q.2 r1) h j := fun j hj => by rw [er]; exact hv2 j hj
    unfold bsL
    by_cases c : lkS P (σ r1) ob mb h t ≤ m
    · rw [if_pos c, if_pos c]
      refine ok_mono (ih n (t + 1) b m q.2 (by omega) (by omega) hP2 ho2 hm2 hv3) (fun q3 h3 => ?_)
      rw [er] at h3
      exact ⟨h3.1, hf.trans h3.2⟩
    · rw [if_neg c, if_neg c]
      refine ok_mono (ih n (t + 1) _ _ q.2 (by omega) (by omega) hP2 ho2 hm2 hv3) (fun q3 h3 => ?_)
      rw [er] at h3
      exact ⟨h3.1, hf.trans h3.2⟩
theorem C_sitsBy {ob mb : Rw} (hP : PE P σ) (hW : PW P H T) (hr : r1 = 43 ∨ r1 = 56) (ho : ∀ h, h < 8 → σ 36 h = ob h) (hm : ∀ t, t < 7 → σ 37 t = mb t) {h : Nat} (hh : h < 8) : OK (m_X8_sitsBy r1 σ (nI h)) (fun q => q.1 = siS P T (σ r1) ob mb h ∧ fr [30, 33, 35] σ q.2) := by
  unfold m_X8_sitsBy
  simp only [pu_lit]
  rw [pu_gd (by decide) (by decide), nI_clamp (by decide)]
  unfold siS
  show OK (if bt (σ r1 61) h = nI 1 then _ else _) _
  by_cases c : bt (σ r1 61) h = nI 1
  · rw [if_pos c, if_pos c, ok_some]; exact ⟨Eq.refl _, fr.rfl⟩
  · rw [if_neg c, if_neg c, ok_bind]
    refine ok_mono (C_isAsleep hP hW hr hh) (fun q hq => ?_)
    obtain ⟨h1, hf, hv⟩ := hq
    rw [h1]
    by_cases c2 : slS P (σ r1) h = nI 0
    · rw [if_pos c2, if_pos c2]
      have er : q.2 r1 = σ r1 := hf r1 (by simp; omega)
      refine ok_mono (C_sits_loop (ob := ob) (mb := mb) hr hW hh T KF 0 (-nI 1) (nI 0) q.2 (by omega) (by unfold KF; have := hW.2.1; omega) (hP.fr hf (by simp)) (fun h hh => by rw [hf 36 (by decide)]; exact ho h hh) (fun t ht => by rw [hf 37 (by decide)]; exact hm t ht) (fun j hj => by rw [er]; exact hv j hj)) (fun q3 h3 => ?_)
      rw [er] at h3
      exact ⟨h3.1, hf.trans h3.2⟩
    · rw [if_neg c2, if_neg c2, ok_some]; exact ⟨Eq.refl _, hf⟩
theorem ms_row {σ : Mem} {k j : Nat} {x : Int32} {r : Rw} (h : σ k = r) : ms σ k j x k = upd r j x := by rw [ms_same, h]
theorem C_settle {ob : Rw} {h : Nat} (hh : h < 8) (ho : σ 36 h = ob h) (hr : r1 = 43 ∨ r1 = 56) {w : Int32} (hw : w = -nI 1 ∨ ∃ t, t < 7 ∧ w = nI t) : OK (m_X8_settle r1 σ (nI h) w) (fun q => q r1 = seS (σ r1) ob h w ∧ fr [r1] σ q) := by
  unfold m_X8_settle f_X8_settle_42 seS
  rcases hw with rfl | ⟨t, ht, rfl⟩
  · simp (disch := omega) only [pu_lit, nI_add, pu_gd, nI_clamp, nI_leI, nI_ltI, nI_eq, ok_some, ok_bind, ok_ite, ok_lt, pu_gz1, pu_gz0, pu_gnz, false_imp_iff, true_imp_iff, not_true_eq_false, not_false_eq_true, true_and, and_true, and_self, ↓reduceIte]
    exact ⟨by simp only [ms_same], (fr.rfl.ms (by simp)).ms (by simp)⟩
  · rw [if_neg (show ¬ nI t = -1 from fun e => (nI_nm1 (by omega)).mp e), if_neg (fun e => (nI_nm1 (by omega)).mp e)]
    simp (disch := omega) only [pu_lit, nI_add, pu_gd, nI_clamp, nI_leI, nI_ltI, nI_eq, ok_some, ok_bind, ok_ite, ok_lt, pu_gz1, pu_gz0, pu_gnz, ho]
    refine ⟨fun c => ?_, fun c => ?_⟩
    · rw [if_pos c]
      exact ⟨by simp only [ms_same], ((fr.rfl.ms (by simp)).ms (by simp)).ms (by simp)⟩
    · rw [if_neg c]
      exact ⟨by simp only [ms_same], ((fr.rfl.ms (by simp)).ms (by simp)).ms (by simp)⟩
theorem C_bury {h : Nat} (hh : h < 8) : OK (m_X8_bury r1 σ (nI h)) (fun q => q r1 = buS (σ r1) h ∧ fr [r1] σ q) := by
  unfold m_X8_bury buS
  simp (disch := omega) only [pu_lit, nI_add, pu_gd, nI_clamp, nI_leI, nI_ltI, nI_eq, ok_some, ok_bind, ok_ite, ok_lt, pu_gz1, pu_gz0, pu_gnz, Nat.zero_add]
  refine ⟨fun c => ?_, fun c => ?_⟩
  · rw [if_pos c]
    exact ⟨by simp only [ms_same]; rfl, ((fr.rfl.ms (by simp)).ms (by simp)).ms (by simp)⟩
  · rw [if_neg c]
    exact ⟨by simp only [ms_same], (fr.rfl.ms (by simp)).ms (by simp)⟩
theorem C_grow_loop (hr : r1 = 43 ∨ r1 = 56) (hW : PW P H T) : ∀ (k n h : Nat) (σ : Mem), h + k = H → k < n → PE P σ → OK (f_X8_growOld_2 r1 n σ (nI h)) (fun q => q r1 = grL P k h (σ r1) ∧ fr [r1] σ q) := by
  intro k
  have h8 := hW.1
  induction k with
  | zero =>
    intro n h σ hk hn hP
    obtain ⟨n, rfl⟩ : ∃ q, n = q + 1 := ⟨n - 1, by omega⟩
    have e0 : σ 23 0 = nI H := by rw [hP 23 (by decide) (by decide) (by decide) (by decide)]; exact hW.2.2.1
    rw [f_X8_growOld_2, e0, if_pos (nI_le (by omega) (by omega)), ok_some]
    exact ⟨Eq.refl _, fr.rfl⟩
  | succ k ih =>
    intro n h σ hk hn hP
    obtain ⟨n, rfl⟩ : ∃ q, n = q + 1 := ⟨n - 1, by omega⟩
    have e0 : σ 23 0 = nI H := by rw [hP 23 (by decide) (by decide) (by decide) (by decide)]; exact hW.2.2.1
    have go : ∀ σ1 : Mem, σ1 r1 = olS P (σ r1) h → fr [r1] σ σ1 → OK (f_X8_growOld_2 r1 n σ1 (nI (h + 1))) (fun q => q r1 = grL P (k + 1) h (σ r1) ∧ fr [r1] σ q) := by
      intro σ1 e hf
      refine ok_mono (ih n (h + 1) σ1 (by omega) (by omega) (hP.fr hf (by simp; omega))) (fun q hq => ?_)
      rw [e] at hq
      exact ⟨hq.1, hf.trans hq.2⟩
    rw [f_X8_growOld_2, e0, if_neg (nI_ge (by omega) (by omega))]
    simp only [pu_lit]
    rw [pu_gd (by decide) (by decide), nI_clamp (n := 62) (by decide), nI_add, nI_add, Nat.zero_add]
    show OK (if bt (σ r1 62) h = nI 0 then _ else _) _
    by_cases c : bt (σ r1 62) h = nI 0
    · rw [if_pos c, ok_lt, pu_gd (k := h) (by omega) (by decide), pu_gd (k := h) (by omega) (by decide), nI_clamp (n := h) (by omega), ok_lt, pu_gd (k := h) (by omega) (by decide)]
      have hf1 : fr [r1] σ (ms σ r1 h (σ r1 h + nI 1)) := fr.rfl.ms (by simp)
      have hP1 : PE P (ms σ r1 h (σ r1 h + nI 1)) := hP.fr hf1 (by simp; omega)
      rw [C_lifeOf hP1 (by omega), ok_bind, ok_some, ms_same, pk_us]
      by_cases c2 : σ r1 h + nI 1 < lifeS P h
      · rw [if_pos c2]
        refine go _ ?_ hf1
        unfold olS
        rw [if_pos c, if_pos c2, ms_same]
      · rw [if_neg c2, ok_bind]
        refine ok_mono (C_bury (by omega)) (fun q hq => ?_)
        refine go _ ?_ (hf1.trans hq.2)
        unfold olS
        rw [if_pos c, if_neg c2, hq.1, ms_same]
    · rw [if_neg c]
      refine go _ ?_ fr.rfl
      unfold olS
      rw [if_neg c]
theorem C_growOld (hr : r1 = 43 ∨ r1 = 56) (hW : PW P H T) (hP : PE P σ) : OK (m_X8_growOld r1 σ) (fun q => q r1 = grL P H 0 (σ r1) ∧ fr [r1] σ q) :=
  C_grow_loop hr hW H KF 0 σ (by omega) (by unfold KF; have := hW.1; omega) hP
theorem C_rem_loop2 (hr : r1 = 43 ∨ r1 = 56) {r : Rw} : ∀ (k n h : Nat) (σ : Mem), h + k = 8 → k < n → σ r1 = r → (∀ j, j < h → σ 36 j = r (24 + j)) → (∀ t, t < 7 → σ 37 t = mbN r t h) → OK (f_X8_rememberOwners_23 r1 n σ (nI h)) (fun q => fr [36, 37] σ q ∧ (∀ j, j < 8 → q 36 j = r (24 + j)) ∧ ∀ t, t < 7 → q 37 t = mbN r t 8) := by
  intro k
  induction k with
  | zero =>
    intro n h σ hk hn er ho hm
    obtain ⟨n, rfl⟩ : ∃ q, n = q + 1 := ⟨n - 1, by omega⟩
    have h8 : h = 8 := by omega
    subst h8
    rw [f_X8_rememberOwners_23]
    simp only [pu_lit]
    rw [if_pos nI_le_self, ok_some]
    exact ⟨fr.rfl, ho, hm⟩
  | succ k ih =>
    intro n h σ hk hn er ho hm
    obtain ⟨n, rfl⟩ : ∃ q, n = q + 1 := ⟨n - 1, by omega⟩
    rw [f_X8_rememberOwners_23]
    simp only [pu_lit]
    rw [if_neg (nI_ge (by omega) (by omega)), nI_add, pu_gd (k := 24 + h) (by omega) (by decide), ok_lt, nI_clamp (n := 24 + h) (by omega), pu_gd (k := h) (by omega) (by decide), nI_clamp (n := h) (by omega), ok_lt, nI_add, er]
    have hne : r1 ≠ 36 ∧ r1 ≠ 37 := by omega
    have hf1 : fr [36, 37] σ (ms σ 36 h (r (24 + h))) := fr.rfl.ms (by simp)
    have ho1 : ∀ j, j < h + 1 → ms σ 36 h (r (24 + h)) 36 j = r (24 + j) := by
      intro j hj
      rw [ms_same]
      rcases Nat.lt_or_ge j h with q | q
      · rw [pk_un (by omega)]; exact ho j q
      · have : j = h := by omega
        subst this
        exact pk_us
    have skip : (∀ t, t < 7 → ¬ r (24 + h) = nI t) → OK (f_X8_rememberOwners_23 r1 n (ms σ 36 h (r (24 + h))) (nI (h + 1))) (fun q => fr [36, 37] σ q ∧ (∀ j, j < 8 → q 36 j = r (24 + j)) ∧ ∀ t, t < 7 → q 37 t = mbN r t 8) := by
      intro hs
      refine ok_mono (ih n (h + 1) _ (by omega) (by omega) (by rw [ms_ne hne.1]; exact er) ho1 (fun t ht => ?_)) (fun q hq => ⟨hf1.trans hq.1, hq.2⟩)
      rw [ms_ne (by decide), hm t ht, mbN_s, if_neg (hs t ht)]
    by_cases c : r (24 + h) < nI 0
    · rw [if_pos c]
      refine skip (fun t ht e => ?_)
      rw [e] at c
      exact nI_pos (by omega) c
    · rw [if_neg c]
      by_cases c2 : nI 7 ≤ r (24 + h)
      · rw [if_pos c2]
        refine skip (fun t ht e => ?_)
        rw [e] at c2
        exact nI_ge ht (by omega) c2
      · rw [if_neg c2]
        obtain ⟨t0, ht0, e⟩ := ix_of c c2 (by decide)
        rw [e, pu_gd (k := t0) (by omega) (by decide), pu_gd (k := t0) (by omega) (by decide), nI_clamp (n := t0) (by omega), ok_lt]
        rw [e] at hf1 ho1
        refine ok_mono (ih n (h + 1) _ (by omega) (by omega) (by rw [ms_ne hne.2, ms_ne hne.1]; exact er) (fun j hj => by rw [ms_ne (by decide)]; exact ho1 j hj) (fun t ht => ?_)) (fun q hq => ⟨(hf1.ms (by simp)).trans hq.1, hq.2⟩)
        rw [ms_same, ms_ne (by decide), mbN_s]
        by_cases c3 : t = t0
        · subst c3
          rw [pk_us, if_pos e, hm t ht]
        · rw [pk_un c3, if_neg (fun q => c3 ((nI_eq (by omega) (by omega)).mp (q.symm.trans e))), hm t ht]
theorem C_rem_loop1 (hr : r1 = 43 ∨ r1 = 56) {r : Rw} : ∀ (k n t : Nat) (σ : Mem), t + k = 7 → k < n → σ r1 = r → (∀ j, j < t → σ 37 j = nI 0) → OK (f_X8_rememberOwners_2 r1 n σ (nI t)) (fun q => fr [36, 37] σ q ∧ (∀ j, j < 8 → q 36 j = r (24 + j)) ∧ ∀ t, t < 7 → q 37 t = mbN r t 8) := by
  intro k
  induction k with
  | zero =>
    intro n t σ hk hn er hm
    obtain ⟨n, rfl⟩ : ∃ q, n = q + 1 := ⟨n - 1, by omega⟩
    have h8 : t = 7 := by omega
    subst h8
    rw [f_X8_rememberOwners_2]
    simp only [pu_lit]
    rw [if_pos nI_le_self]
    exact C_rem_loop2 hr 8 KF 0 σ (by omega) (by decide) er (fun j hj => absurd hj (by omega)) (fun t ht => by rw [hm t ht]; rfl)
  | succ k ih =>
    intro n t σ hk hn er hm
    obtain ⟨n, rfl⟩ : ∃ q, n = q + 1 := ⟨n - 1, by omega⟩
    rw [f_X8_rememberOwners_2]
    simp only [pu_lit]
    rw [if_neg (nI_ge (by omega) (by omega)), pu_gd (k := t) (by omega) (by decide), nI_clamp (n := t) (by omega), ok_lt, nI_add]
    have hf1 : fr [36, 37] σ (ms σ 37 t (nI 0)) := fr.rfl.ms (by simp)
    refine ok_mono (ih n (t + 1) _ (by omega) (by omega) (by rw [ms_ne (by omega)]; exact er) (fun j hj => ?_)) (fun q hq => ⟨hf1.trans hq.1, hq.2⟩)
    rw [ms_same]
    rcases Nat.lt_or_ge j t with q | q
    · rw [pk_un (by omega)]; exact hm j q
    · have : j = t := by omega
      subst this
      exact pk_us
theorem C_remember (hr : r1 = 43 ∨ r1 = 56) : OK (m_X8_rememberOwners r1 σ) (fun q => fr [36, 37] σ q ∧ (∀ j, j < 8 → q 36 j = (σ r1) (24 + j)) ∧ ∀ t, t < 7 → q 37 t = mbN (σ r1) t 8) :=
  C_rem_loop1 hr 7 KF 0 σ (by omega) (by decide) (Eq.refl _) (fun j hj => absurd hj (by omega))
theorem C_pay_loop (hr : r1 = 43 ∨ r1 = 56) (hW : PW P H T) : ∀ (k n t : Nat) (σ : Mem), t + k = T → k < n → PE P σ → OK (f_X8_pay_2 r1 n σ (nI t)) (fun q => q r1 = paL P H k t (σ r1) ∧ fr [r1] σ q) := by
  intro k
  have h8 := hW.2.1
  induction k with
  | zero =>
    intro n h σ hk hn hP
    obtain ⟨n, rfl⟩ : ∃ q, n = q + 1 := ⟨n - 1, by omega⟩
    have e0 : σ 23 1 = nI T := by rw [hP 23 (by decide) (by decide) (by decide) (by decide)]; exact hW.2.2.2.1
    rw [f_X8_pay_2, e0, if_pos (nI_le (by omega) (by omega)), ok_some]
    exact ⟨Eq.refl _, fr.rfl⟩
  | succ k ih =>
    intro n t σ hk hn hP
    obtain ⟨n, rfl⟩ : ∃ q, n = q + 1 := ⟨n - 1, by omega⟩
    have e0 : σ 23 1 = nI T := by rw [hP 23 (by decide) (by decide) (by decide) (by decide)]; exact hW.2.2.2.1
    have e26 : σ 26 = P 26 := hP 26 (by decide) (by decide) (by decide) (by decide)
    rw [f_X8_pay_2, e0, if_neg (nI_ge (by omega) (by omega)), C_rentOf hP hW]
    simp (disch := omega) only [pu_lit, nI_add, pu_gd, nI_clamp, nI_leI, nI_ltI, nI_eq, ok_some, ok_bind, ok_ite, ok_lt, pu_gz1, pu_gz0, pu_gnz, ms_ne, e26]
    have hf1 : fr [r1] σ (ms (ms σ r1 (54 + t) (imin (nI 9999) (σ r1 (54 + t) + rnL P (σ r1) (nI t) H 0 (nI 0)))) r1 (40 + t) (imin (nI 20) (ms σ r1 (54 + t) (imin (nI 9999) (σ r1 (54 + t) + rnL P (σ r1) (nI t) H 0 (nI 0))) r1 (40 + t) + P 26 t))) := (fr.rfl.ms (by simp)).ms (by simp)
    refine ok_mono (ih n (t + 1) _ (by omega) (by omega) (hP.fr hf1 (by simp; omega))) (fun q hq => ?_)
    refine ⟨hq.1.trans ?_, hf1.trans hq.2⟩
    simp only [ms_same]
    rfl
theorem C_pay (hr : r1 = 43 ∨ r1 = 56) (hW : PW P H T) (hP : PE P σ) : OK (m_X8_pay r1 σ) (fun q => q r1 = paL P H T 0 (σ r1) ∧ fr [r1] σ q) :=
  C_pay_loop hr hW T KF 0 σ (by omega) (by unfold KF; have := hW.2.1; omega) hP
theorem bsL_cases {f : Nat → Int32} : ∀ (k t : Nat) (b m : Int32), bsL f k t b m = b ∨ ∃ j, t ≤ j ∧ j < t + k ∧ bsL f k t b m = nI j
  | 0, t, b, m => Or.inl rfl
  | k + 1, t, b, m => by
    unfold bsL
    by_cases c : f t ≤ m
    · rw [if_pos c]
      rcases bsL_cases k (t + 1) b m with h | ⟨j, h1, h2, h3⟩
      · exact Or.inl h
      · exact Or.inr ⟨j, by omega, by omega, h3⟩
    · rw [if_neg c]
      rcases bsL_cases k (t + 1) (nI t) (f t) with h | ⟨j, h1, h2, h3⟩
      · exact Or.inr ⟨t, by omega, by omega, h⟩
      · exact Or.inr ⟨j, by omega, by omega, h3⟩
theorem siS_cases {r ob mb : Rw} {h : Nat} : siS P T r ob mb h = -nI 1 ∨ ∃ t, t < T ∧ siS P T r ob mb h = nI t := by
  unfold siS
  by_cases c : bt (r 61) h = nI 1
  · rw [if_pos c]; exact Or.inl rfl
  · rw [if_neg c]
    by_cases c2 : slS P r h = nI 0
    · rw [if_pos c2]
      rcases bsL_cases (f := lkS P r ob mb h) T 0 (-nI 1) (nI 0) with h | ⟨j, h1, h2, h3⟩
      · exact Or.inl h
      · exact Or.inr ⟨j, by omega, h3⟩
    · rw [if_neg c2]; exact Or.inl rfl
theorem C_q_loop {ob mb : Rw} (hr : r1 = 43 ∨ r1 = 56) (hW : PW P H T) : ∀ (k n h : Nat) (σ : Mem), h + k = H → k < n → PE P σ → (∀ h, h < 8 → σ 36 h = ob h) → (∀ t, t < 7 → σ 37 t = mb t) →
    OK (f_X8_passQuarter_12 r1 n σ (nI h)) (fun q => q r1 = upd (upd (paL P H T 0 (siL P T ob mb k h (σ r1))) 61 (nI 0)) 63 (paL P H T 0 (siL P T ob mb k h (σ r1)) 63 + nI 1) ∧ fr [r1, 30, 33, 35] σ q) := by
  intro k
  have h8 := hW.1
  induction k with
  | zero =>
    intro n h σ hk hn hP ho hm
    obtain ⟨n, rfl⟩ : ∃ q, n = q + 1 := ⟨n - 1, by omega⟩
    have e0 : σ 23 0 = nI H := by rw [hP 23 (by decide) (by decide) (by decide) (by decide)]; exact hW.2.2.1
    rw [f_X8_passQuarter_12, e0, if_pos (nI_le (by omega) (by omega)), ok_bind]
    refine ok_mono (C_pay hr hW hP) (fun q hq => ?_)
    simp (disch := omega) only [pu_lit, nI_add, pu_gd, nI_clamp, nI_leI, nI_ltI, nI_eq, ok_some, ok_bind, ok_ite, ok_lt, pu_gz1, pu_gz0, pu_gnz]
    refine ⟨?_, (((hq.2.mono (by simp)).ms (by simp)).ms (by simp))⟩
    simp only [ms_same]
    rw [hq.1, pk_un (by decide)]
    rfl
  | succ k ih =>
    intro n h σ hk hn hP ho hm
    obtain ⟨n, rfl⟩ : ∃ q, n = q + 1 := ⟨n - 1, by omega⟩
    have e0 : σ 23 0 = nI H := by rw [hP 23 (by decide) (by decide) (by decide) (by decide)]; exact hW.2.2.1
    rw [f_X8_passQuarter_12, e0, if_neg (nI_ge (by omega) (by omega))]
    simp only [pu_lit]
    rw [pu_gd (by decide) (by decide), nI_clamp (by decide), nI_add]
    show OK (if bt (σ r1 62) h = nI 0 then _ else _) _
    by_cases c : bt (σ r1 62) h = nI 0
    · rw [if_pos c, ok_bind]
      refine ok_mono (C_sitsBy hP hW hr ho hm (by omega)) (fun q hq => ?_)
      obtain ⟨h1, hf⟩ := hq
      have er : q.2 r1 = σ r1 := hf r1 (by simp; omega)
      rw [ok_bind]
      have hw : q.1 = -nI 1 ∨ ∃ t, t < 7 ∧ q.1 = nI t := by
        rw [h1]
        rcases siS_cases (P := P) (T := T) (r := σ r1) (ob := ob) (mb := mb) (h := h) with h | ⟨t, ht, h⟩
        · exact Or.inl h
        · exact Or.inr ⟨t, Nat.lt_of_lt_of_le ht hW.2.1, h⟩
      refine ok_mono (C_settle (ob := ob) (h := h) (by omega) (by rw [hf 36 (by decide)]; exact ho h (by omega)) hr hw) (fun q7 h7 => ?_)
      have hf7 : fr [r1, 30, 33, 35] σ q7 := (hf.mono (by simp)).trans (h7.2.mono (by simp))
      refine ok_mono (ih n (h + 1) q7 (by omega) (by omega) (hP.fr hf7 (by simp; omega)) (fun h hh => by rw [hf7 36 (by simp; omega)]; exact ho h hh) (fun t ht => by rw [hf7 37 (by simp; omega)]; exact hm t ht)) (fun q8 h8 => ?_)
      rw [h7.1, er, h1] at h8
      have e : siL P T ob mb (k + 1) h (σ r1) = siL P T ob mb k (h + 1) (seS (σ r1) ob h (siS P T (σ r1) ob mb h)) := by
        show siL P T ob mb k (h + 1) _ = _
        rw [if_pos c]
      rw [e]
      exact ⟨h8.1, hf7.trans h8.2⟩
    · rw [if_neg c]
      have e : siL P T ob mb (k + 1) h (σ r1) = siL P T ob mb k (h + 1) (σ r1) := by
        show siL P T ob mb k (h + 1) _ = _
        rw [if_neg c]
      rw [e]
      exact ih n (h + 1) σ (by omega) (by omega) hP ho hm
theorem C_quarter (hr : r1 = 43 ∨ r1 = 56) (hW : PW P H T) (hP : PE P σ) : OK (m_X8_passQuarter r1 σ) (fun q => q r1 = qS P H T (σ r1) ∧ fr [r1, 30, 33, 35, 36, 37] σ q ∧ ∀ j, j < 8 → q 36 j = (σ r1) (24 + j)) := by
  unfold m_X8_passQuarter
  rw [ok_bind]
  refine ok_mono (C_remember hr) (fun q hq => ?_)
  obtain ⟨hf, ho, hm⟩ := hq
  have er : q r1 = σ r1 := hf r1 (by simp; omega)
  rw [ok_bind]
  refine ok_mono (C_growOld hr hW (hP.fr hf (by simp))) (fun q2 h2 => ?_)
  have hf2 : fr [r1, 30, 33, 35, 36, 37] σ q2 := (hf.mono (by simp)).trans (h2.2.mono (by simp))
  have ho2 : ∀ h, h < 8 → q2 36 h = (σ r1) (24 + h) := fun h hh => by rw [h2.2 36 (by simp; omega)]; exact ho h hh
  have hm2 : ∀ t, t < 7 → q2 37 t = mbN (σ r1) t 8 := fun t ht => by rw [h2.2 37 (by simp; omega)]; exact hm t ht
  refine ok_mono (C_q_loop (ob := fun h => σ r1 (24 + h)) (mb := fun t => mbN (σ r1) t 8) hr hW H KF 0 q2 (by omega) (by unfold KF; have := hW.1; omega) (hP.fr hf2 (by simp; omega)) ho2 hm2) (fun q3 h3 => ?_)
  rw [h2.1, er] at h3
  refine ⟨h3.1, hf2.trans (h3.2.mono (by simp)), fun j hj => ?_⟩
  rw [h3.2 36 (by simp; omega)]
  exact ho2 j hj
def qN (P : Mem) (H T : Nat) : Nat → Rw → Rw
  | 0, r => r
  | n + 1, r => qN P H T n (qS P H T r)
theorem C_quarters_loop (hr : r1 = 43 ∨ r1 = 56) (hW : PW P H T) {M : Nat} (hM : M < 4000) : ∀ (k n i : Nat) (σ : Mem), i + k = M → k < n → PE P σ → OK (f_X8_passQuarters_2 r1 (nI M) n σ (nI i)) (fun q => q r1 = qN P H T k (σ r1) ∧ fr [r1, 30, 33, 35, 36, 37] σ q) := by
  intro k
  induction k with
  | zero =>
    intro n i σ hk hn hP
    obtain ⟨n, rfl⟩ : ∃ q, n = q + 1 := ⟨n - 1, by omega⟩
    rw [f_X8_passQuarters_2, if_pos (nI_le (by omega) (by omega)), ok_some]
    exact ⟨Eq.refl _, fr.rfl⟩
  | succ k ih =>
    intro n i σ hk hn hP
    obtain ⟨n, rfl⟩ : ∃ q, n = q + 1 := ⟨n - 1, by omega⟩
    rw [f_X8_passQuarters_2, if_neg (nI_ge (by omega) (by omega)), ok_bind]
    refine ok_mono (C_quarter hr hW hP) (fun q hq => ?_)
    simp only [pu_lit]
    rw [nI_add]
    refine ok_mono (ih n (i + 1) q (by omega) (by omega) (hP.fr hq.2.1 (by simp; omega))) (fun q2 h2 => ?_)
    rw [hq.1] at h2
    exact ⟨h2.1, hq.2.1.trans h2.2⟩
theorem C_quarters (hr : r1 = 43 ∨ r1 = 56) (hW : PW P H T) (hP : PE P σ) {M : Nat} (hM : M < 4000) : OK (m_X8_passQuarters r1 σ (nI M)) (fun q => q r1 = qN P H T M (σ r1) ∧ fr [r1, 30, 33, 35, 36, 37] σ q) :=
  C_quarters_loop hr hW hM M KF 0 σ (by omega) (by unfold KF; omega) hP
theorem C_likingNow (hP : PE P σ) (hW : PW P H T) (hr : r1 = 43 ∨ r1 = 56) {h t : Nat} (hh : h < 8) (ht : t < 7) : OK (m_X8_likingNow r1 σ (nI h) (nI t)) (fun q => q.1 = (if bt (σ r1 62) h = nI 1 then nI 0 else lkS P (σ r1) (fun h => σ r1 (24 + h)) (fun t => mbN (σ r1) t 8) h t) ∧ fr [30, 33, 35, 36, 37] σ q.2) := by
  unfold m_X8_likingNow
  simp only [pu_lit]
  rw [pu_gd (by decide) (by decide), nI_clamp (by decide)]
  show OK (if bt (σ r1 62) h = nI 1 then _ else _) _
  by_cases c : bt (σ r1 62) h = nI 1
  · rw [if_pos c, if_pos c, ok_some]; exact ⟨Eq.refl _, fr.rfl⟩
  · rw [if_neg c, if_neg c, ok_bind]
    refine ok_mono (C_remember hr) (fun q hq => ?_)
    obtain ⟨hf, ho, hm⟩ := hq
    have er : q r1 = σ r1 := hf r1 (by simp; omega)
    have hP1 : PE P q := hP.fr hf (by simp)
    rw [ok_bind]
    refine ok_mono (C_tellHouse hP1 hr hh) (fun q2 h2 => ?_)
    have er2 : q2 r1 = σ r1 := by rw [h2.1 r1 (by simp; omega)]; exact er
    rw [ok_bind]
    refine ok_mono (C_likingOf (ob := fun h => σ r1 (24 + h)) (mb := fun t => mbN (σ r1) t 8) (hP1.fr h2.1 (by simp)) hW hr (fun h hh => by rw [h2.1 36 (by decide)]; exact ho h hh) (fun t ht => by rw [h2.1 37 (by decide)]; exact hm t ht) hh ht (fun j hj => by rw [h2.2 j hj, er2, er])) (fun q4 h4 => ?_)
    rw [ok_some]
    rw [er2] at h4
    exact ⟨h4.1, ((hf.mono (by simp)).trans (h2.1.mono (by simp))).trans (h4.2.1.mono (by simp))⟩
end CSTREET2

/-! row, liking, beside, oldest, envy -/
section OPS4
variable {P : Mem} {H T : Nat}
theorem row_loop {σ τ : Mem} (hW : PW σ H T) (h0 : τ 5 0 = nI H) (R : RX H 64 (σ 43) τ) {x w : Int32} : ∀ (k n m h : Nat) (b f c : Int32), h + k = H → k < n → k < m → ∃ v : Int32, f_X10_row_22 x w n σ b f c (nI h) = some (.inr (v, σ)) ∧ f_X11_row_39 x w m τ f b c (nI h) = some (v, τ) := by
  have h8 := hW.1
  intro k
  induction k with
  | zero =>
    intro n m h b f c hk hn hm
    obtain ⟨n, rfl⟩ : ∃ q, n = q + 1 := ⟨n - 1, by omega⟩
    obtain ⟨m, rfl⟩ : ∃ q, m = q + 1 := ⟨m - 1, by omega⟩
    rw [f_X10_row_22, f_X11_row_39, hW.2.2.1]
    simp only [pu_lit]
    rw [if_pos (nI_le (by omega) (by omega)), pu_gd (by decide) (by decide), nI_clamp (by decide), h0, if_pos (nI_le (by omega) (by omega))]
    by_cases c1 : w = nI 0
    · rw [if_pos c1, if_pos c1]; exact ⟨b, rfl, rfl⟩
    · rw [if_neg c1, if_neg c1]; exact ⟨f, rfl, rfl⟩
  | succ k ih =>
    intro n m h b f c hk hn hm
    obtain ⟨n, rfl⟩ : ∃ q, n = q + 1 := ⟨n - 1, by omega⟩
    obtain ⟨m, rfl⟩ : ∃ q, m = q + 1 := ⟨m - 1, by omega⟩
    rw [f_X10_row_22, f_X11_row_39, hW.2.2.1]
    simp only [pu_lit]
    rw [if_neg (nI_ge (by omega) (by omega)), pu_gd (k := 0) (by decide) (by decide), nI_clamp (n := 0) (by decide), h0, if_neg (nI_ge (by omega) (by omega)), nI_add, nI_add, pu_gd (k := 24 + h) (by omega) (by decide), nI_clamp (n := 24 + h) (by omega), pu_gd (k := h) (by omega) (by decide), nI_clamp (n := h) (by omega), R.g23 (by omega) (by omega) (by omega)]
    by_cases c1 : σ 43 (24 + h) = x
    · rw [if_pos c1, if_pos c1]
      simp only [ltE]
      by_cases c2 : c + nI 1 ≤ b
      · rw [if_pos c2, if_neg (Int32.not_lt.mpr c2)]; exact ih n m (h + 1) _ _ _ (by omega) (by omega) (by omega)
      · rw [if_neg c2, if_pos (Int32.not_le.mp c2)]; exact ih n m (h + 1) _ _ _ (by omega) (by omega) (by omega)
    · rw [if_neg c1, if_neg c1]
      by_cases c2 : nI 0 ≤ b
      · rw [if_pos c2, if_neg (Int32.not_lt.mpr c2)]; exact ih n m (h + 1) _ _ _ (by omega) (by omega) (by omega)
      · rw [if_neg c2, if_pos (Int32.not_le.mp c2)]; exact ih n m (h + 1) _ _ _ (by omega) (by omega) (by omega)
theorem S_row : SIM_row Rel := by
  intro σ τ p0 p1 ⟨H, T, R⟩
  have h8 := R.1.1
  have h7 := R.1.2.1
  refine sim_N ?_
  have R1 : RelH H T σ (ms τ 0 5 (nI 0)) := R.code
  unfold m_X10_row m_X11_row
  simp only [pu_lit]
  rcases ix_dec p0 T (by omega) with hb | ⟨t, ht, rfl⟩
  · exact po_throw ⟨H, T, R⟩ ⟨rfl, rfl⟩ (by rw [C_needTenant_f (c1_23 R) hb]; rfl) (by
      rw [ltE, R_isTenant_f R1.2.1.2.1 h7 hb]; rfl)
  rw [ltE, C_needTenant_t (c1_23 R) ht h7, R_isTenant_t R1.2.1.2.1 h7 ht, xb_inr, sbind, if_neg (show ¬ nI 1 = nI 0 by decide)]
  rcases ix_dec1 p1 1 (by omega) with hb | ⟨w, hw, rfl⟩
  · exact po_throw ⟨H, T, R⟩ ⟨rfl, rfl⟩ (by rw [C_needWhat_f hb]; rfl) (by
      by_cases c : p1 < nI 0
      · rw [if_pos c]; rfl
      · rw [if_neg c, if_neg (Int32.not_le.mpr (hb.resolve_left c))]; rfl)
  rw [C_needWhat_t hw (by decide), xb_inr, if_neg (nn0 (by omega)), if_pos (nI_le hw (by omega))]
  obtain ⟨v, v1, v2⟩ := row_loop (x := nI t) (w := nI w) R.1 R1.2.1.1 R1.2.2.1 H KF KF 0 (nI 0) (-nI 1) (nI 0) (by omega) (by unfold KF; omega) (by unfold KF; omega)
  rw [v1, v2]
  exact po_val ⟨H, T, R1⟩ (by rw [ms_same, pk_us]) rfl rfl
theorem S_beside : SIM_beside Rel := by
  intro σ τ p0 ⟨H, T, R⟩
  have h8 := R.1.1
  have h7 := R.1.2.1
  refine sim_N ?_
  have R1 : RelH H T σ (ms τ 0 5 (nI 0)) := R.code
  unfold m_X10_beside m_X11_beside
  simp only [pu_lit]
  rcases ix_dec p0 T (by omega) with hb | ⟨t, ht, rfl⟩
  · exact po_throw ⟨H, T, R⟩ ⟨rfl, rfl⟩ (by rw [C_needTenant_f (c1_23 R) hb]; rfl) (by
      rw [ltE, R_isTenant_f R1.2.1.2.1 h7 hb]; rfl)
  rw [ltE, C_needTenant_t (c1_23 R) ht h7, R_isTenant_t R1.2.1.2.1 h7 ht, xb_inr, sbind, if_neg (show ¬ nI 1 = nI 0 by decide), C_housesOf PE.self R.1, sbind, R_housesOf R1.2.1.1 h8 (fun h hh => R1.2.2.1.g23 (by omega) (by omega) (by omega)), sbind]
  unfold m_X11_next
  simp only [pu_lit]
  rw [sbind, pu_gd (k := 0) (by decide) (by decide), nI_clamp (n := 0) (by decide), R1.2.1.1, R1.2.2.1.gS (by omega), ltE, c0_23 R, pu_gd (by decide) (by decide), nI_clamp (by decide)]
  exact po_val ⟨H, T, R1⟩ (by rw [ms_same, pk_us]) rfl rfl
theorem old_loop {σ τ : Mem} (hW : PW σ H T) (hP : PR σ τ H T) (R : RX H 64 (σ 43) τ) {w : Int32} : ∀ (k n m h : Nat) (b f : Int32), h + k = H → k < n → k < m → ∃ v : Int32, f_X10_oldest_13 w n σ b f (nI h) = some (.inr (v, σ)) ∧ f_X11_oldest_27 w m τ b f (nI h) = some (v, τ) := by
  have h8 := hW.1
  intro k
  induction k with
  | zero =>
    intro n m h b f hk hn hm
    obtain ⟨n, rfl⟩ : ∃ q, n = q + 1 := ⟨n - 1, by omega⟩
    obtain ⟨m, rfl⟩ : ∃ q, m = q + 1 := ⟨m - 1, by omega⟩
    rw [f_X10_oldest_13, f_X11_oldest_27, hW.2.2.1]
    simp only [pu_lit]
    rw [if_pos (nI_le (by omega) (by omega)), pu_gd (by decide) (by decide), nI_clamp (by decide), hP.1, if_pos (nI_le (by omega) (by omega))]
    by_cases c1 : w = nI 0
    · rw [if_pos c1, if_pos c1]; exact ⟨b, rfl, rfl⟩
    · rw [if_neg c1, if_neg c1]; exact ⟨f, rfl, rfl⟩
  | succ k ih =>
    intro n m h b f hk hn hm
    obtain ⟨n, rfl⟩ : ∃ q, n = q + 1 := ⟨n - 1, by omega⟩
    obtain ⟨m, rfl⟩ : ∃ q, m = q + 1 := ⟨m - 1, by omega⟩
    rw [f_X10_oldest_13, f_X11_oldest_27, hW.2.2.1]
    simp only [pu_lit]
    rw [if_neg (nI_ge (by omega) (by omega)), pu_gd (k := 0) (by decide) (by decide), nI_clamp (n := 0) (by decide), hP.1, if_neg (nI_ge (by omega) (by omega)), C_buriedIn PE.self (by omega), sbind, C_sealedNow, sbind, R_lifeOf hP (by omega) h8, sbind, pu_gd (k := h) (by omega) (by decide), nI_clamp (n := h) (by omega), R.g20 (by omega) (by omega), ltE, R.gS (by omega), R_isOf, sbind, nI_add]
    by_cases cs : bt (σ 43 62) h = nI 1
    · rw [if_pos cs, if_neg (show ¬ nI 1 = nI 0 by decide), if_neg (show ¬ nI 1 = nI 0 by decide)]; exact ih n m (h + 1) _ _ (by omega) (by omega) (by omega)
    · rw [if_neg cs, if_pos (Eq.refl _), if_pos (Eq.refl _)]
      by_cases c1 : b = -nI 1
      · rw [if_pos c1, if_pos c1]; exact ih n m (h + 1) _ _ (by omega) (by omega) (by omega)
      · rw [if_neg c1, if_neg c1]
        by_cases c2 : f ≤ imax (nI 1) (lifeS σ h - σ 43 h)
        · rw [if_pos c2, if_neg (Int32.not_lt.mpr c2)]; exact ih n m (h + 1) _ _ (by omega) (by omega) (by omega)
        · rw [if_neg c2, if_pos (Int32.not_le.mp c2)]; exact ih n m (h + 1) _ _ (by omega) (by omega) (by omega)
theorem S_oldest : SIM_oldest Rel := by
  intro σ τ p0 ⟨H, T, R⟩
  have h8 := R.1.1
  have h7 := R.1.2.1
  refine sim_N ?_
  have R1 : RelH H T σ (ms τ 0 5 (nI 0)) := R.code
  unfold m_X10_oldest m_X11_oldest
  simp only [pu_lit]
  rcases ix_dec1 p0 1 (by omega) with hb | ⟨w, hw, rfl⟩
  · exact po_throw ⟨H, T, R⟩ ⟨rfl, rfl⟩ (by rw [C_needWhat_f hb]; rfl) (by
      rw [ltE]
      by_cases c : p0 < nI 0
      · rw [if_pos c]; rfl
      · rw [if_neg c, if_neg (Int32.not_le.mpr (hb.resolve_left c))]; rfl)
  rw [ltE, C_needWhat_t hw (by decide), xb_inr, if_neg (nn0 (by omega)), if_pos (nI_le hw (by omega))]
  obtain ⟨v, v1, v2⟩ := old_loop (w := nI w) R.1 R1.2.1 R1.2.2.1 H KF KF 0 (-nI 1) (-nI 1) (by omega) (by unfold KF; omega) (by unfold KF; omega)
  rw [v1, v2]
  exact po_val ⟨H, T, R1⟩ (by rw [ms_same, pk_us]) rfl rfl
/-- the reference behind tellBegun -/
def BG (H : Nat) (r : Rw) (τ : Mem) : Prop := (∀ h, h < H → τ 31 h = r (24 + h)) ∧ (∀ h, h < 8 → τ 32 h = r (32 + h)) ∧ ∀ t, t < 7 → τ 33 t = hsL r (nI t) H 0 (nI 0)
def lnS (P : Mem) (r : Rw) (h t : Nat) : Int32 := if bt (r 62) h = nI 1 then nI 0 else lkS P r (fun h => r (24 + h)) (fun t => mbN r t 8) h t
theorem R_begunB {τ : Mem} {r : Rw} (h0 : τ 5 0 = nI H) (h8 : H ≤ 8) (R : RX H 64 r τ) : OK (m_X11_tellBegun τ) (fun q => fr [31, 32, 33] τ q ∧ BG H r q) :=
  ok_mono (R_begun h0 h8 (fun h hh => R.g23 (by omega) (by omega) (by omega))) (fun q hq => ⟨hq.1, fun h hh => (hq.2.1 h (by omega)).trans (R.g23 (by omega) (by omega) (by omega)), fun h hh => (hq.2.2.1 h hh).trans (R.g24 (by omega) hh), hq.2.2.2⟩)
theorem R_liking {τ : Mem} {r : Rw} (hW : PW P H T) (hP : PR P τ H T) (R : RX H 64 r τ) (hr : RW r H T) (B : BG H r τ) {h t : Nat} (hh : h < H) (ht : t < T) : OK (m_X11_likingOf τ (nI h) (nI t)) (fun q => q.1 = lnS P r h t ∧ fr [29, 30] τ q.2) := by
  have h8 := hW.1
  have h7 := hW.2.1
  unfold m_X11_likingOf lnS
  simp only [pu_lit]
  rw [R.gS (by omega), R_isOf, sbind]
  by_cases c : bt (r 62) h = nI 1
  · rw [if_pos c, if_pos c, if_neg (show ¬ nI 1 = nI 0 by decide), ok_some]; exact ⟨rfl, fr.rfl⟩
  · rw [if_neg c, if_neg c, if_pos (Eq.refl _), ok_bind]
    refine ok_mono (R_likes (r0 := r) R (Or.inr rfl) hP hW hh ht (B.1 h (by omega)) (B.2.1 h (by omega)) (B.2.2 t (by omega)) (hr.nobody t (by omega))) (fun q hq => ?_)
    rw [ok_some]
    exact hq
theorem BG.fr {τ τ1 : Mem} {r : Rw} (B : BG H r τ) (hf : fr [29, 30] τ τ1) : BG H r τ1 :=
  ⟨fun h hh => by rw [hf 31 (by decide)]; exact B.1 h hh, fun h hh => by rw [hf 32 (by decide)]; exact B.2.1 h hh, fun t ht => by rw [hf 33 (by decide)]; exact B.2.2 t ht⟩
theorem S_liking : SIM_liking Rel := by
  intro σ τ p0 p1 ⟨H, T, R⟩
  have h8 := R.1.1
  have h7 := R.1.2.1
  refine sim_N ?_
  have R1 : RelH H T σ (ms τ 0 5 (nI 0)) := R.code
  unfold m_X10_liking m_X11_liking
  simp only [pu_lit]
  rcases ix_dec p0 H (by omega) with hb | ⟨h, hh, rfl⟩
  · exact po_throw ⟨H, T, R⟩ ⟨rfl, rfl⟩ (by rw [C_needHouse_f (c0_23 R) hb]; rfl) (by
      rw [ltE, R_isHouse_f R1.2.1.1 h8 hb]; rfl)
  rw [ltE, C_needHouse_t (c0_23 R) hh h8, R_isHouse_t R1.2.1.1 h8 hh, xb_inr, sbind, if_neg (show ¬ nI 1 = nI 0 by decide)]
  rcases ix_dec p1 T (by omega) with hb | ⟨t, ht, rfl⟩
  · exact po_throw ⟨H, T, R⟩ ⟨rfl, rfl⟩ (by rw [C_needTenant_f (c1_23 R) hb]; rfl) (by
      rw [R_isTenant_f R1.2.1.2.1 h7 hb]; rfl)
  rw [C_needTenant_t (c1_23 R) ht h7, R_isTenant_t R1.2.1.2.1 h7 ht, xb_inr, sbind, if_neg (show ¬ nI 1 = nI 0 by decide)]
  obtain ⟨q5, e5, a5, f5⟩ := C_likingNow (P := σ) (r1 := 43) PE.self R.1 (Or.inl rfl) (h := h) (t := t) (by omega) (by omega)
  obtain ⟨q7, e7, f7, B7⟩ := R_begunB R1.2.1.1 h8 R1.2.2.1
  have S7 : RQs (ms τ 0 5 (nI 0)) q7 := RQs.of f7 (by decide)
  have R7 := R1.2.2.1.keep f7 (by decide)
  obtain ⟨q8, e8, a8, f8⟩ := R_liking R.1 (R1.2.1.s S7) R7 R.2.2.2.1 B7 hh ht
  rw [e5, sbind, e7, sbind, e8, sbind]
  obtain ⟨d5, dR⟩ := R.done (f5.mono (by decide)) (R7.keep f8 (by decide)) (S7.trans (RQs.of f8 (by decide)))
  refine po_val dR d5 rfl ?_
  rw [a8, a5]
  rfl
theorem envy_loop {σ τ : Mem} {t : Nat} (hW : PW P H T) (hr : RW (σ 43) H T) (ht : t < T) : ∀ (k n m h : Nat) (a : Int32) (σ1 τ1 : Mem), h + k = H → k < n → k < m → fr CS σ σ1 → PE P σ1 → PR P τ1 H T → RX H 64 (σ 43) τ1 → BG H (σ 43) τ1 → ∃ (v : Int32) (σ2 τ2 : Mem), f_X10_envy_9 (nI t) n σ1 a (nI h) = some (.inr (v, σ2)) ∧ f_X11_envy_27 (nI t) m τ1 a (nI h) = some (v, τ2) ∧ fr CS σ σ2 ∧ RX H 64 (σ 43) τ2 ∧ RQs τ1 τ2 := by
  have h8 := hW.1
  have h7 := hW.2.1
  intro k
  induction k with
  | zero =>
    intro n m h a σ1 τ1 hk hn hm hf hP hPR R B
    obtain ⟨n, rfl⟩ : ∃ q, n = q + 1 := ⟨n - 1, by omega⟩
    obtain ⟨m, rfl⟩ : ∃ q, m = q + 1 := ⟨m - 1, by omega⟩
    have e0 : σ1 23 0 = nI H := by rw [hP 23 (by decide) (by decide) (by decide) (by decide)]; exact hW.2.2.1
    refine ⟨a, σ1, τ1, ?_, ?_, hf, R, RQs.rfl⟩
    · rw [f_X10_envy_9, e0, if_pos (nI_le (by omega) (by omega))]
    · rw [f_X11_envy_27]
      simp only [pu_lit]
      rw [pu_gd (by decide) (by decide), nI_clamp (by decide), hPR.1, if_pos (nI_le (by omega) (by omega))]
  | succ k ih =>
    intro n m h a σ1 τ1 hk hn hm hf hP hPR R B
    obtain ⟨n, rfl⟩ : ∃ q, n = q + 1 := ⟨n - 1, by omega⟩
    obtain ⟨m, rfl⟩ : ∃ q, m = q + 1 := ⟨m - 1, by omega⟩
    have e0 : σ1 23 0 = nI H := by rw [hP 23 (by decide) (by decide) (by decide) (by decide)]; exact hW.2.2.1
    have e43 : σ1 43 = σ 43 := hf 43 (by decide)
    rw [f_X10_envy_9, e0, if_neg (nI_ge (by omega) (by omega)), f_X11_envy_27]
    simp only [pu_lit]
    rw [pu_gd (k := 0) (by decide) (by decide), nI_clamp (n := 0) (by decide), hPR.1, if_neg (nI_ge (by omega) (by omega)), nI_add, nI_add, pu_gd (k := 24 + h) (by omega) (by decide), nI_clamp (n := 24 + h) (by omega), pu_gd (k := h) (by omega) (by decide), nI_clamp (n := h) (by omega), pu_gd (k := h) (by omega) (by decide), ltE, e43, R.g23 (by omega) (by omega) (by omega), or_0, ltE]
    rcases hr.1 h (by omega) with c | ⟨o, ho, c⟩
    · rw [if_pos c, if_pos c]
      exact ih n m (h + 1) a σ1 τ1 (by omega) (by omega) (by omega) hf hP hPR R B
    · have cn : ¬ σ 43 (24 + h) = -nI 1 := by rw [c]; exact fun z => (nI_nm1 (by omega)).mp z
      rw [if_neg cn, if_neg cn]
      by_cases c2 : σ 43 (24 + h) = nI t
      · rw [if_pos c2, if_pos c2]
        exact ih n m (h + 1) a σ1 τ1 (by omega) (by omega) (by omega) hf hP hPR R B
      · rw [if_neg c2, if_neg c2]
        obtain ⟨q5, e5, a5, f5⟩ := C_likingNow (r1 := 43) hP hW (Or.inl rfl) (h := h) (t := t) (by omega) (by omega)
        have hf5 := hf.trans (f5.mono (show ∀ k, k ∈ [30, 33, 35, 36, 37] → k ∈ CS by decide))
        have hP5 := hP.fr f5 (by decide)
        obtain ⟨q6, e6, a6, f6⟩ := C_likingNow (r1 := 43) hP5 hW (Or.inl rfl) (h := h) (t := o) (by omega) (by omega)
        have hf6 := hf5.trans (f6.mono (show ∀ k, k ∈ [30, 33, 35, 36, 37] → k ∈ CS by decide))
        obtain ⟨w5, x5, b5, g5⟩ := R_liking hW hPR R hr B (h := h) (by omega) ht
        have S5 : RQs τ1 w5.2 := RQs.of g5 (by decide)
        have Rw5 := R.keep g5 (by decide)
        obtain ⟨w6, x6, b6, g6⟩ := R_liking hW (hPR.s S5) Rw5 hr (B.fr g5) (h := h) (by omega) ho
        have S6 : RQs w5.2 w6.2 := RQs.of g6 (by decide)
        rw [e43] at a5
        rw [hf5 43 (by decide)] at a6
        rw [c, e5, sbind, e6, sbind, x5, sbind, pu_gd (k := h) (by omega) (by decide), Rw5.g23 (by omega) (by omega) (by omega), c, x6, sbind, a5, a6, b5, b6]
        have ea : (if bt (σ 43 62) h = nI 1 then nI 0 else lkS P (σ 43) (fun h => σ 43 (24 + h)) (fun t => mbN (σ 43) t 8) h t) = lnS P (σ 43) h t := rfl
        have eb : (if bt (σ 43 62) h = nI 1 then nI 0 else lkS P (σ 43) (fun h => σ 43 (24 + h)) (fun t => mbN (σ 43) t 8) h o) = lnS P (σ 43) h o := rfl
        rw [ea, eb]
        by_cases c3 : lnS P (σ 43) h t ≤ lnS P (σ 43) h o
        · rw [if_pos c3, if_pos c3, ltE]
          obtain ⟨v, σ2, τ2, z1, z2, z3, z4, z5⟩ := ih n m (h + 1) a q6.2 w6.2 (by omega) (by omega) (by omega) hf6 (hP5.fr f6 (by decide)) ((hPR.s S5).s S6) (Rw5.keep g6 (by decide)) ((B.fr g5).fr g6)
          exact ⟨v, σ2, τ2, z1, z2, z3, z4, (S5.trans S6).trans z5⟩
        · rw [if_neg c3, if_neg c3, ltE, ltE]
          obtain ⟨v, σ2, τ2, z1, z2, z3, z4, z5⟩ := ih n m (h + 1) _ q6.2 w6.2 (by omega) (by omega) (by omega) hf6 (hP5.fr f6 (by decide)) ((hPR.s S5).s S6) (Rw5.keep g6 (by decide)) ((B.fr g5).fr g6)
          exact ⟨v, σ2, τ2, z1, z2, z3, z4, (S5.trans S6).trans z5⟩
theorem S_envy : SIM_envy Rel := by
  intro σ τ p0 ⟨H, T, R⟩
  have h8 := R.1.1
  have h7 := R.1.2.1
  refine sim_N ?_
  have R1 : RelH H T σ (ms τ 0 5 (nI 0)) := R.code
  unfold m_X10_envy m_X11_envy
  simp only [pu_lit]
  rcases ix_dec p0 T (by omega) with hb | ⟨t, ht, rfl⟩
  · exact po_throw ⟨H, T, R⟩ ⟨rfl, rfl⟩ (by rw [C_needTenant_f (c1_23 R) hb]; rfl) (by
      rw [ltE, R_isTenant_f R1.2.1.2.1 h7 hb]; rfl)
  rw [ltE, C_needTenant_t (c1_23 R) ht h7, R_isTenant_t R1.2.1.2.1 h7 ht, xb_inr, sbind, if_neg (show ¬ nI 1 = nI 0 by decide)]
  obtain ⟨q7, e7, f7, B7⟩ := R_begunB R1.2.1.1 h8 R1.2.2.1
  have S7 : RQs (ms τ 0 5 (nI 0)) q7 := RQs.of f7 (by decide)
  have R7 := R1.2.2.1.keep f7 (by decide)
  obtain ⟨v, σ2, τ2, z1, z2, z3, z4, z5⟩ := envy_loop (P := σ) (σ := σ) (τ := τ) R.1 R.2.2.2.1 ht H KF KF 0 (nI 0) σ q7 (by omega) (by unfold KF; omega) (by unfold KF; omega) fr.rfl PE.self (R1.2.1.s S7) R7 B7
  rw [e7, sbind, z1, z2]
  obtain ⟨d5, dR⟩ := R.done z3 z4 (S7.trans z5)
  exact po_val dR d5 rfl rfl
end OPS4

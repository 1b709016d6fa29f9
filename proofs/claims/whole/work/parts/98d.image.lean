/-! image, restore -/
theorem gz01 {α : Type} {v : Int32} {x : Option α} (h : v = nI 0 ∨ v = nI 1) : gz v x = x := by
  rcases h with rfl | rfl <;> rfl
section IMAGE
variable {H T : Nat} {σ τ σ1 τ1 : Mem}
theorem C_copyKeep {k o : Nat} (h : (k = 49 ∧ o = 42) ∨ (k = 42 ∧ o = 49)) : OK (m_X1_copyFrom k o σ) (fun q => fr [k + 1, k + 2, k + 3, k + 4, k + 5, k + 6] σ q ∧ (∀ j, j < 64 → q (k + 1) j = σ (o + 1) j) ∧ q (k + 2) 1 = σ (o + 2) 1 ∧ q (k + 2) 2 = σ (o + 2) 2 ∧ (∀ j, j < 2560 → q (k + 3) j = σ (o + 3) j) ∧ q (k + 4) 1 = σ (o + 4) 1 ∧ (∀ j, j < 32 → q (k + 5) j = σ (o + 5) j) ∧ ∀ j, j < 3 → q (k + 6) j = σ (o + 6) j) := by
  have key : ∀ {f g : Nat → Int32} {n j : Nat}, j < n → va_cpy f g 0 0 n j = f j := fun hj => by rw [pk_cpy_in (by omega) (by omega)]; simp
  unfold m_X1_copyFrom m_X0_copyFrom m_X6_copyFrom
  rcases h with ⟨rfl, rfl⟩ | ⟨rfl, rfl⟩
  all_goals simp (disch := decide) only [pu_lit, Nat.reduceAdd, ltE, pu_gcp, sbind, ok_some]
  all_goals refine ⟨((((((fr.rfl.mcp (by simp)).mcp (by simp)).ms (by simp)).ms (by simp)).mcp (by simp)).ms (by simp)).mcp (by simp), fun j hj => ?_, ?_, ?_, fun j hj => ?_, ?_, fun j hj => ?_, fun j hj => ?_⟩
  all_goals simp (disch := decide) only [mcp_ne, ms_ne, mcp_same, ms_same, nI_clamp, pk_us, pk_un]
  all_goals exact key hj
theorem R_copyTo_loop {r0 n0 r1 n1 : Nat} (hr : r0 ≠ r1) (hn : n0 ≤ n1) (h1 : n1 ≤ 2560) : ∀ (k n x : Nat) (τ1 : Mem), x + k = n0 → k < n → fr [r0] τ τ1 → (∀ i, i < x → τ1 r0 i = τ r1 i) → OK (f_X11_copyTo_2 r0 n0 r1 n1 n τ1 (nI x)) (fun q => fr [r0] τ q ∧ ∀ i, i < n0 → q r0 i = τ r1 i) := by
  intro k
  induction k with
  | zero =>
    intro n x τ1 hk hn2 hf h
    obtain ⟨n, rfl⟩ : ∃ q, n = q + 1 := ⟨n - 1, by omega⟩
    have hx : x = n0 := by omega
    subst hx
    rw [f_X11_copyTo_2]
    rw [show (Int32.ofNat x : Int32) = nI x from rfl, if_pos nI_le_self, ok_some]
    exact ⟨hf, h⟩
  | succ k ih =>
    intro n x τ1 hk hn2 hf h
    obtain ⟨n, rfl⟩ : ∃ q, n = q + 1 := ⟨n - 1, by omega⟩
    rw [f_X11_copyTo_2]
    rw [show (Int32.ofNat n0 : Int32) = nI n0 from rfl, if_neg (nI_ge (by omega) (by omega)), pu_gd (by omega) (by omega), pu_gd (by omega) (by omega), nI_clamp (by omega), ok_lt, nI_1]
    refine ih n (x + 1) _ (by omega) (by omega) (hf.ms (by simp)) (fun i hi => ?_)
    rw [ms_same]
    by_cases c : i = x
    · subst c; rw [pk_us, hf r1 (by simp; exact Ne.symm hr)]
    · rw [pk_un c]; exact h i (by omega)
theorem R_copyTo {r0 n0 r1 n1 : Nat} (hr : r0 ≠ r1) (hn : n0 ≤ n1) (h1 : n1 ≤ 2560) : OK (m_X11_copyTo r0 n0 r1 n1 τ) (fun q => fr [r0] τ q ∧ ∀ i, i < n0 → q r0 i = τ r1 i) :=
  R_copyTo_loop hr hn h1 n0 KF 0 τ (by omega) (by unfold KF; omega) fr.rfl (fun i hi => absurd hi (by omega))
theorem AR.cp {k k2 sa sa2 pa pa2 : Nat} (h : AR H T σ τ k sa pa) (h8 : H ≤ 8) (e1 : σ1 k2 1 = σ k 1) (e2 : σ1 k2 2 = σ k 2) (e3 : ∀ j, j < 2560 → σ1 (k2 + 1) j = σ (k + 1) j) (e4 : τ1 0 sa2 = τ 0 sa) (e5 : ∀ j, j < 2560 → τ1 pa2 j = τ pa j) : AR H T σ1 τ1 k2 sa2 pa2 := by
  obtain ⟨A, F, hA, hF, a1, a2, a3, a4⟩ := h
  refine ⟨A, F, hA, hF, e1.trans a1, e2.trans a2, e4.trans a3, fun a ha => ?_⟩
  have hm : (F + a) % 40 < 40 := Nat.mod_lt _ (by decide)
  obtain ⟨b1, b2⟩ := a4 a ha
  refine ⟨fun j hj ho => ?_, b2.e64 h8 (fun j hj => e3 _ (by omega))⟩
  have hp := po_lt hj
  rw [e5 _ (by omega), e3 _ (by omega)]
  exact b1 j hj ho
theorem SR.cp {k k2 ss ss2 ct ct2 ch ch2 cq cq2 cb cb2 : Nat} (h : SR H σ τ k ss ct ch cq cb) (e1 : σ1 k2 1 = σ k 1) (e2 : ∀ j, j < 32 → σ1 (k2 + 1) j = σ (k + 1) j) (e3 : τ1 0 ss2 = τ 0 ss) (e4 : ∀ i, i < 8 → τ1 ct2 i = τ ct i) (e5 : ∀ i, i < 8 → τ1 ch2 i = τ ch i) (e6 : ∀ i, i < 8 → τ1 cq2 i = τ cq i) (e7 : ∀ i, i < 8 → τ1 cb2 i = τ cb i) : SR H σ1 τ1 k2 ss2 ct2 ch2 cq2 cb2 := by
  obtain ⟨S, hS, a1, a2, a3, a4⟩ := h
  refine ⟨S, hS, e1.trans a1, e3.trans a2, fun i hi => ?_, fun i hi => ?_⟩
  · rw [e4 i (by omega), e5 i (by omega), e6 i (by omega), e7 i (by omega), e2 _ (by omega), e2 _ (by omega), e2 _ (by omega), e2 _ (by omega)]
    exact a3 i hi
  · rw [e7 i hi]; exact a4 i hi
theorem R_image_loop {Q : Mem → Prop} (hb : ∀ i, i < 8 → τ 41 i = nI 0 ∨ τ 41 i = nI 1) (hQ : ∀ τ1, fr [50, 51] τ τ1 → (∀ i, i < 8 → τ1 51 i = τ 41 i) → (∀ i, i < 3 → τ1 50 i = τ 18 i) → Q τ1) : ∀ (k n x : Nat) (τ1 : Mem), x + k = 8 → k < n → fr [51] τ τ1 → (∀ i, i < x → τ1 51 i = τ 41 i) → OK (f_X11_image_81 n τ1 (nI x)) Q := by
  intro k
  induction k with
  | zero =>
    intro n x τ1 hk hn2 hf h
    obtain ⟨n, rfl⟩ : ∃ q, n = q + 1 := ⟨n - 1, by omega⟩
    rw [f_X11_image_81]
    simp only [pu_lit]
    rw [if_pos (nI_le (by omega) (by omega)), ok_bind]
    refine ok_mono (R_copyTo (by decide) (by decide) (by decide)) (fun q hq => ?_)
    rw [ok_some]
    refine hQ q ((hf.mono (by simp)).trans (hq.1.mono (by simp))) (fun i hi => ?_) (fun i hi => ?_)
    · rw [hq.1 51 (by decide)]; exact h i (by omega)
    · rw [hq.2 i hi, hf 18 (by decide)]
  | succ k ih =>
    intro n x τ1 hk hn2 hf h
    obtain ⟨n, rfl⟩ : ∃ q, n = q + 1 := ⟨n - 1, by omega⟩
    rw [f_X11_image_81]
    simp only [pu_lit]
    rw [if_neg (nI_ge (by omega) (by omega)), pu_gd (by omega) (by omega), pu_gd (by omega) (by omega), nI_clamp (by omega), gz01 (by rw [hf 41 (by decide)]; exact hb x (by omega)), ok_lt, nI_add]
    refine ih n (x + 1) _ (by omega) (by omega) (hf.ms (by simp)) (fun i hi => ?_)
    rw [ms_same]
    by_cases c : i = x
    · subst c; rw [pk_us, hf 41 (by decide)]
    · rw [pk_un c]; exact h i (by omega)
theorem R_restore_loop {Q : Int32 × Mem → Prop} (hb : ∀ i, i < 8 → τ 51 i = nI 0 ∨ τ 51 i = nI 1) (hQ : ∀ τ1, fr [18, 41] τ τ1 → (∀ i, i < 8 → τ1 41 i = τ 51 i) → (∀ i, i < 3 → τ1 18 i = τ 50 i) → Q (nI 1, τ1)) : ∀ (k n x : Nat) (τ1 : Mem), x + k = 8 → k < n → fr [41] τ τ1 → (∀ i, i < x → τ1 41 i = τ 51 i) → OK (f_X11_restore_85 n τ1 (nI x)) Q := by
  intro k
  induction k with
  | zero =>
    intro n x τ1 hk hn2 hf h
    obtain ⟨n, rfl⟩ : ∃ q, n = q + 1 := ⟨n - 1, by omega⟩
    rw [f_X11_restore_85]
    simp only [pu_lit]
    rw [if_pos (nI_le (by omega) (by omega)), ok_bind]
    refine ok_mono (R_copyTo (by decide) (by decide) (by decide)) (fun q hq => ?_)
    rw [ok_some]
    refine hQ q ((hf.mono (by simp)).trans (hq.1.mono (by simp))) (fun i hi => ?_) (fun i hi => ?_)
    · rw [hq.1 41 (by decide)]; exact h i (by omega)
    · rw [hq.2 i hi, hf 50 (by decide)]
  | succ k ih =>
    intro n x τ1 hk hn2 hf h
    obtain ⟨n, rfl⟩ : ∃ q, n = q + 1 := ⟨n - 1, by omega⟩
    rw [f_X11_restore_85]
    simp only [pu_lit]
    rw [if_neg (nI_ge (by omega) (by omega)), pu_gd (by omega) (by omega), pu_gd (by omega) (by omega), nI_clamp (by omega), gz01 (by rw [hf 51 (by decide)]; exact hb x (by omega)), ok_lt, nI_add]
    refine ih n (x + 1) _ (by omega) (by omega) (hf.ms (by simp)) (fun i hi => ?_)
    rw [ms_same]
    by_cases c : i = x
    · subst c; rw [pk_us, hf 51 (by decide)]
    · rw [pk_un c]; exact h i (by omega)
theorem S_image : SIM_image Rel := by
  intro σ τ ⟨H, T, R⟩
  have h8 := R.1.1
  have R1 : RelH H T σ (ms τ 0 5 (nI 0)) := R.code
  obtain ⟨u, eu, fu, u1, u2, u3, u4, u5, u6, u7⟩ := C_copyKeep (σ := σ) (k := 49) (o := 42) (Or.inl ⟨rfl, rfl⟩)
  have ec : m_X10_image σ = some (ms u 0 7 (nI 1)) := by
    unfold m_X10_image
    simp only [pu_lit]
    rw [eu, sbind, gz01 (Or.inr rfl), ltE]
  have hr : OK (m_X11_image τ) (fun q => fr [0, 45, 46, 47, 48, 49, 50, 51] (ms τ 0 5 (nI 0)) q ∧ (∀ s, s ≠ 64 → s ≠ 65 → s ≠ 66 → q 0 s = ms τ 0 5 (nI 0) 0 s) ∧ q 0 64 = nI 1 ∧ q 0 65 = ms τ 0 5 (nI 0) 0 44 ∧ q 0 66 = ms τ 0 5 (nI 0) 0 45 ∧ (∀ j, j < 64 → owc H j → q 45 (0 + po j) = σ 43 j) ∧ (∀ i, i < 2560 → q 46 i = ms τ 0 5 (nI 0) 28 i) ∧ (∀ i, i < 8 → q 47 i = ms τ 0 5 (nI 0) 37 i) ∧ (∀ i, i < 8 → q 48 i = ms τ 0 5 (nI 0) 38 i) ∧ (∀ i, i < 8 → q 49 i = ms τ 0 5 (nI 0) 39 i) ∧ (∀ i, i < 8 → q 51 i = ms τ 0 5 (nI 0) 41 i) ∧ ∀ i, i < 3 → q 50 i = ms τ 0 5 (nI 0) 18 i) := by
    unfold m_X11_image
    simp only [pu_lit]
    rw [ok_lt, gz01 (Or.inr rfl), ok_lt, ok_lt, ok_lt]
    have RX1 := R1.2.2.1
    obtain ⟨S, hS, _, _, _, hb⟩ := R1.2.2.2.2.2.1
    generalize ms τ 0 5 (nI 0) = w at *
    have fw : fr [0] w (ms (ms (ms w 0 64 (nI 1)) 0 65 (ms w 0 64 (nI 1) 0 44)) 0 66 (ms (ms w 0 64 (nI 1)) 0 65 (ms w 0 64 (nI 1) 0 44) 0 45)) := ((fr.rfl.ms (by simp)).ms (by simp)).ms (by simp)
    have sw : ∀ s, ms (ms (ms w 0 64 (nI 1)) 0 65 (ms w 0 64 (nI 1) 0 44)) 0 66 (ms (ms w 0 64 (nI 1)) 0 65 (ms w 0 64 (nI 1) 0 44) 0 45) 0 s = if s = 66 then w 0 45 else if s = 65 then w 0 44 else if s = 64 then nI 1 else w 0 s := by
      intro s
      simp only [ms_same, upd]
      by_cases c1 : s = 66
      · simp [c1]
      · by_cases c2 : s = 65
        · simp [c2]
        · simp [c1, c2]
    generalize ms (ms (ms w 0 64 (nI 1)) 0 65 (ms w 0 64 (nI 1) 0 44)) 0 66 (ms (ms w 0 64 (nI 1)) 0 65 (ms w 0 64 (nI 1) 0 44) 0 45) = w4 at *
    have RX4 : RX H 64 (σ 43) w4 := RX1.keep0 (L := []) fw (by simp) ⟨by rw [sw]; rfl, by rw [sw]; rfl, by rw [sw]; rfl⟩
    rw [ok_bind]
    refine ok_mono (R_pack (k := 45) (b := 0) (by decide) (by decide) (by decide) RX4) (fun q5 h5 => ?_)
    rw [ok_bind]
    refine ok_mono (R_copyTo (by decide) (by decide) (by decide)) (fun q6 h6 => ?_)
    rw [ok_bind]
    refine ok_mono (R_copyTo (by decide) (by decide) (by decide)) (fun q7 h7 => ?_)
    rw [ok_bind]
    refine ok_mono (R_copyTo (by decide) (by decide) (by decide)) (fun q8 h8 => ?_)
    rw [ok_bind]
    refine ok_mono (R_copyTo (by decide) (by decide) (by decide)) (fun q9 h9 => ?_)
    have f5 : fr [0, 45, 46, 47, 48, 49, 50, 51] w q5 := (fw.mono (by simp)).trans (h5.1.mono (by simp))
    have f6 := f5.trans (h6.1.mono (show ∀ k, k ∈ [46] → k ∈ [0, 45, 46, 47, 48, 49, 50, 51] by decide))
    have f7 := f6.trans (h7.1.mono (show ∀ k, k ∈ [47] → k ∈ [0, 45, 46, 47, 48, 49, 50, 51] by decide))
    have f8 := f7.trans (h8.1.mono (show ∀ k, k ∈ [48] → k ∈ [0, 45, 46, 47, 48, 49, 50, 51] by decide))
    have f9 := f8.trans (h9.1.mono (show ∀ k, k ∈ [49] → k ∈ [0, 45, 46, 47, 48, 49, 50, 51] by decide))
    refine R_image_loop (τ := q9) (fun i hi => by rw [f9 41 (by decide)]; exact hb i hi) (fun q g1 g2 g3 => ?_) 8 KF 0 q9 (by decide) (by decide) fr.rfl (fun i hi => absurd hi (by omega))
    have e0 : ∀ s, q 0 s = w4 0 s := fun s => by rw [g1 0 (by decide), h9.1 0 (by decide), h8.1 0 (by decide), h7.1 0 (by decide), h6.1 0 (by decide), h5.1 0 (by decide)]
    refine ⟨f9.trans (g1.mono (by decide)), fun s a b c => ?_, ?_, ?_, ?_, fun j hj ho => ?_, fun i hi => ?_, fun i hi => ?_, fun i hi => ?_, fun i hi => ?_, fun i hi => ?_, fun i hi => ?_⟩
    · rw [e0, sw, if_neg c, if_neg b, if_neg a]
    · rw [e0, sw]; rfl
    · rw [e0, sw]; rfl
    · rw [e0, sw]; rfl
    · rw [g1 45 (by decide), h9.1 45 (by decide), h8.1 45 (by decide), h7.1 45 (by decide), h6.1 45 (by decide)]; exact h5.2.1 j hj ho
    · rw [g1 46 (by decide), h9.1 46 (by decide), h8.1 46 (by decide), h7.1 46 (by decide), h6.2 i hi, f5 28 (by decide)]
    · rw [g1 47 (by decide), h9.1 47 (by decide), h8.1 47 (by decide), h7.2 i hi, f6 37 (by decide)]
    · rw [g1 48 (by decide), h9.1 48 (by decide), h8.2 i hi, f7 38 (by decide)]
    · rw [g1 49 (by decide), h9.2 i hi, f8 39 (by decide)]
    · rw [g2 i hi, f9 41 (by decide)]
    · rw [g3 i hi, f9 18 (by decide)]
  obtain ⟨q, eq, g1, g2, g3, g4, g5, g6, g7, g8, g9, g10, g11, g12⟩ := hr
  refine ⟨_, q, ec, eq, H, T, ?_⟩
  obtain ⟨a1, a2, a3, a4, a5, a6, a7, a8, a9, a10⟩ := R1
  generalize ms τ 0 5 (nI 0) = w at *
  have fc : fr [0, 50, 51, 52, 53, 54, 55] σ (ms u 0 7 (nI 1)) := (fu.mono (by decide)).ms (by simp)
  have hPE : PE σ (ms u 0 7 (nI 1)) := fun k h1 h2 h3 h4 => fc k (by simp; omega)
  refine ⟨a1.of hPE, (a2.of hPE).fr g1 (by decide), ?_, ?_, ?_, ?_, ?_, Or.inr ⟨?_, g3, fun j hj ho => ?_, ?_, ?_, ?_, fun i hi => ?_⟩, ?_, ?_⟩
  · rw [fc 43 (by decide)]
    exact a3.keep0 (L := [45, 46, 47, 48, 49, 50, 51]) g1 (by decide) ⟨g2 41 (by decide) (by decide) (by decide), g2 42 (by decide) (by decide) (by decide), g2 43 (by decide) (by decide) (by decide)⟩
  · rw [fc 43 (by decide)]; exact a4
  · exact a5.of (fc 44 (by decide)) (fc 45 (by decide)) (g2 44 (by decide) (by decide) (by decide)) (g1 28 (by decide))
  · exact a6.of (fc 46 (by decide)) (fc 47 (by decide)) (g2 45 (by decide) (by decide) (by decide)) (g1 37 (by decide)) (g1 38 (by decide)) (g1 39 (by decide)) (g1 41 (by decide))
  · rw [fc 48 (by decide), g1 18 (by decide)]; exact a7
  · rw [ms_same, pk_us]
  · rw [g6 j hj ho, ms_ne (by decide)]; exact (u1 j hj).symm
  · rw [ms_ne (by decide)]; exact a4.e64 h8 (fun j hj => u1 j hj)
  · refine a5.cp h8 ?_ ?_ (fun j hj => ?_) g4 g7
    · rw [ms_ne (by decide)]; exact u2
    · rw [ms_ne (by decide)]; exact u3
    · rw [ms_ne (by decide)]; exact u4 j hj
  · refine a6.cp ?_ (fun j hj => ?_) g5 g8 g9 g10 g11
    · rw [ms_ne (by decide)]; exact u5
    · rw [ms_ne (by decide)]; exact u6 j hj
  · rw [ms_ne (by decide), g12 i hi]
    exact (u7 i hi).trans (a7 i hi)
  · rw [ms_same, pk_un (by decide), g2 30 (by decide) (by decide) (by decide), fu 0 (by decide)]; exact a9
  · exact a10.of (by rw [fc 3 (by decide)]) (fc 4 (by decide)) (g2 21 (by decide) (by decide) (by decide)) (g1 19 (by decide))
theorem R_restA {r : Rw} {w w4 : Mem} (fw : fr [0] w w4) (i3 : ∀ j, j < 64 → owc H j → w 45 (0 + po j) = r j) (hb : ∀ i, i < 8 → w 51 i = nI 0 ∨ w 51 i = nI 1) : OK ((m_X11_unpack 45 64 w4 (nI 0)).bind fun q5 => (m_X11_copyTo 28 2560 46 2560 q5).bind fun q6 => (m_X11_copyTo 37 8 47 8 q6).bind fun q7 => (m_X11_copyTo 38 8 48 8 q7).bind fun q8 => (m_X11_copyTo 39 8 49 8 q8).bind fun q9 => f_X11_restore_85 KF q9 (nI 0)) (fun z => z.1 = nI 1 ∧ RX H 64 (r) z.2 ∧ fr [0, 18, 20, 21, 22, 23, 24, 25, 26, 27, 28, 37, 38, 39, 41] w z.2 ∧ (∀ s, s ≠ 41 → s ≠ 42 → s ≠ 43 → z.2 0 s = w4 0 s) ∧ (∀ i, i < 2560 → z.2 28 i = w 46 i) ∧ (∀ i, i < 8 → z.2 37 i = w 47 i) ∧ (∀ i, i < 8 → z.2 38 i = w 48 i) ∧ (∀ i, i < 8 → z.2 39 i = w 49 i) ∧ (∀ i, i < 8 → z.2 41 i = w 51 i) ∧ ∀ i, i < 3 → z.2 18 i = w 50 i) := by
  rw [ok_bind]
  refine ok_mono (R_unpack (k := 45) (b := 0) (r := r) (by decide) (by decide) (by decide) (fun j hj ho => by rw [fw 45 (by decide)]; exact i3 j hj ho)) (fun q5 h5 => ?_)
  rw [ok_bind]
  refine ok_mono (R_copyTo (by decide) (by decide) (by decide)) (fun q6 h6 => ?_)
  rw [ok_bind]
  refine ok_mono (R_copyTo (by decide) (by decide) (by decide)) (fun q7 h7 => ?_)
  rw [ok_bind]
  refine ok_mono (R_copyTo (by decide) (by decide) (by decide)) (fun q8 h8 => ?_)
  rw [ok_bind]
  refine ok_mono (R_copyTo (by decide) (by decide) (by decide)) (fun q9 h9 => ?_)
  have f5 : fr [0, 18, 20, 21, 22, 23, 24, 25, 26, 27, 28, 37, 38, 39, 41] w q5 := (fw.mono (by decide)).trans (h5.2.1.mono (by decide))
  have f6 := f5.trans (h6.1.mono (show ∀ k, k ∈ [28] → k ∈ [0, 18, 20, 21, 22, 23, 24, 25, 26, 27, 28, 37, 38, 39, 41] by decide))
  have f7 := f6.trans (h7.1.mono (show ∀ k, k ∈ [37] → k ∈ [0, 18, 20, 21, 22, 23, 24, 25, 26, 27, 28, 37, 38, 39, 41] by decide))
  have f8 := f7.trans (h8.1.mono (show ∀ k, k ∈ [38] → k ∈ [0, 18, 20, 21, 22, 23, 24, 25, 26, 27, 28, 37, 38, 39, 41] by decide))
  have f9 := f8.trans (h9.1.mono (show ∀ k, k ∈ [39] → k ∈ [0, 18, 20, 21, 22, 23, 24, 25, 26, 27, 28, 37, 38, 39, 41] by decide))
  refine R_restore_loop (τ := q9) (fun i hi => by rw [f9 51 (by decide)]; exact hb i hi) (fun q g1 g2 g3 => ?_) 8 KF 0 q9 (by decide) (by decide) fr.rfl (fun i hi => absurd hi (by omega))
  have fx : fr [18, 28, 37, 38, 39, 41] q5 q := ((((h6.1.mono (by decide)).trans (h7.1.mono (by decide))).trans (h8.1.mono (by decide))).trans (h9.1.mono (by decide))).trans (g1.mono (by decide))
  refine ⟨rfl, h5.1.keep fx (by decide), f9.trans (g1.mono (by decide)), fun s a b c => ?_, fun i hi => ?_, fun i hi => ?_, fun i hi => ?_, fun i hi => ?_, fun i hi => ?_, fun i hi => ?_⟩
  · show q 0 s = w4 0 s
    rw [fx 0 (by decide)]; exact h5.2.2 s a b c
  · show q 28 i = w 46 i
    rw [g1 28 (by decide), h9.1 28 (by decide), h8.1 28 (by decide), h7.1 28 (by decide), h6.2 i hi, f5 46 (by decide)]
  · show q 37 i = w 47 i
    rw [g1 37 (by decide), h9.1 37 (by decide), h8.1 37 (by decide), h7.2 i hi, f6 47 (by decide)]
  · show q 38 i = w 48 i
    rw [g1 38 (by decide), h9.1 38 (by decide), h8.2 i hi, f7 48 (by decide)]
  · show q 39 i = w 49 i
    rw [g1 39 (by decide), h9.2 i hi, f8 49 (by decide)]
  · show q 41 i = w 51 i
    rw [g2 i hi, f9 51 (by decide)]
  · show q 18 i = w 50 i
    rw [g3 i hi, f9 50 (by decide)]
theorem S_restore : SIM_restore Rel := by
  intro σ τ ⟨H, T, R⟩
  have h8 := R.1.1
  have R1 : RelH H T σ (ms τ 0 5 (nI 0)) := R.code
  have hI := R1.2.2.2.2.2.2.2.1
  unfold m_X10_restore m_X11_restore
  simp only [pu_lit]
  rw [ltE]
  generalize ms τ 0 5 (nI 0) = w at *
  rcases hI with ⟨i1, i2⟩ | ⟨i1, i2, i3, i4, i5, i6, i7⟩
  · rw [i1, i2, if_pos rfl, if_pos rfl, gz01 (Or.inl rfl)]
    exact ⟨_, _, _, rfl, rfl, H, T, R1⟩
  rw [i1, i2, if_neg (show ¬ nI 1 = nI 0 by decide), if_neg (show ¬ nI 1 = nI 0 by decide)]
  obtain ⟨u, eu, fu, u1, u2, u3, u4, u5, u6, u7⟩ := C_copyKeep (σ := σ) (k := 42) (o := 49) (Or.inr ⟨rfl, rfl⟩)
  have e7 : u 0 7 = nI 1 := by rw [fu 0 (by decide)]; exact i1
  rw [eu, sbind, e7, gz01 (Or.inr rfl), ltE, ltE]
  have fw : fr [0] w (ms (ms w 0 44 (w 0 65)) 0 45 (ms w 0 44 (w 0 65) 0 66)) := (fr.rfl.ms (by simp)).ms (by simp)
  have sw : ∀ s, ms (ms w 0 44 (w 0 65)) 0 45 (ms w 0 44 (w 0 65) 0 66) 0 s = if s = 45 then w 0 66 else if s = 44 then w 0 65 else w 0 s := by
    intro s
    simp only [ms_same, upd]
    by_cases c1 : s = 45
    · simp [c1]
    · by_cases c2 : s = 44
      · simp [c2]
      · simp [c1, c2]
  generalize ms (ms w 0 44 (w 0 65)) 0 45 (ms w 0 44 (w 0 65) 0 66) = w4 at *
  have i6' := i6
  obtain ⟨S, hS, _, _, _, hb⟩ := i6
  obtain ⟨⟨v, q⟩, eq, g0, g1, g2, g3, g4, g5, g6, g7, g8, g9⟩ := R_restA fw i3 hb
  dsimp only at g0 g1 g2 g3 g4 g5 g6 g7 g8 g9
  obtain ⟨a1, a2, a3, a4, a5, a6, a7, a8, a9, a10⟩ := R1
  subst g0
  rw [eq]
  refine ⟨_, _, q, rfl, rfl, H, T, ?_⟩
  have g3' : ∀ s, s ≠ 41 → s ≠ 42 → s ≠ 43 → s ≠ 44 → s ≠ 45 → q 0 s = w 0 s := fun s a b c d e => by
    rw [g3 s a b c, sw, if_neg e, if_neg d]
  have fc : fr [43, 44, 45, 46, 47, 48] σ u := fu.mono (by decide)
  have hPE : PE σ u := fun k h1 h2 h3 h4 => fc k (by simp; omega)
  have hx : E64 (u 43) (σ 50) := fun j hj => u1 j hj
  refine ⟨a1.of hPE, (a2.of hPE).fr g2 (by decide), g1.e64 hx, i4.e64 h8 hx, ?_, ?_, fun i hi => ?_, ?_, ?_, ?_⟩
  · refine i5.cp h8 u2 u3 u4 ?_ g4
    rw [g3 44 (by decide) (by decide) (by decide), sw]; rfl
  · refine i6'.cp u5 u6 ?_ g5 g6 g7 g8
    rw [g3 45 (by decide) (by decide) (by decide), sw]; rfl
  · rw [g9 i hi]; exact (u7 i hi).trans (i7 i hi)
  · exact a8.of (fun k h1 h2 => fc k (by simp; omega)) (by rw [fc 0 (by decide)]) (fun k h1 h2 => g2 k (by simp; omega)) ⟨g3' 64 (by decide) (by decide) (by decide) (by decide) (by decide), g3' 65 (by decide) (by decide) (by decide) (by decide) (by decide), g3' 66 (by decide) (by decide) (by decide) (by decide) (by decide)⟩
  · rw [fc 0 (by decide), g3' 30 (by decide) (by decide) (by decide) (by decide) (by decide)]; exact a9
  · exact a10.of (by rw [fc 3 (by decide)]) (fc 4 (by decide)) (g3' 21 (by decide) (by decide) (by decide) (by decide) (by decide)) (g2 19 (by decide))
end IMAGE

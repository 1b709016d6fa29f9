/-! terrace: both sides -/
theorem RelH.text {H T : Nat} {σ τ σ1 τ1 : Mem} (h : RelH H T σ τ) (hc : ∀ c, 22 ≤ c → c ≠ 48 → σ1 c = σ c) (h7 : σ1 0 7 = σ 0 7) (h48 : ∀ i, i < 3 → σ1 48 i = τ1 18 i) (hr : ∀ c, 19 < c → τ1 c = τ c) (hlo : ∀ c, 5 ≤ c → c ≤ 17 → ∀ j, j < lo c → τ1 c j = τ c j) (hs : ∀ s, s ∈ [41, 42, 43, 44, 45, 64, 65, 66] → τ1 0 s = τ 0 s) (h8 : σ1 0 8 = τ1 0 30) (hT : TR σ1 τ1) : RelH H T σ1 τ1 := by
  obtain ⟨a1, a2, a3, a4, a5, a6, a7, a8, a9, a10⟩ := h
  have hPE : PE σ σ1 := fun k h1 h2 h3 h4 => hc k (by omega) (by omega)
  have hH := a1.1
  have hT7 := a1.2.1
  obtain ⟨N1, n1, n2, -⟩ := a1.2.2.2.2.2.2.1
  obtain ⟨N2, m1, m2, -⟩ := a1.2.2.2.2.2.2.2
  obtain ⟨b1, b2, b3, b4, b5, b6, b7, b8, b9, b10, b11⟩ := a2
  have pr : PR σ τ1 H T := by
    refine ⟨?_, ?_, ?_, ?_, ?_, fun i hi => ?_, fun i hi => ?_, fun i hi => ?_, fun i hi => ?_, fun j hj => ?_, fun j hj => ?_⟩
    · rw [hlo 5 (by decide) (by decide) 0 (by decide)]; exact b1
    · rw [hlo 5 (by decide) (by decide) 1 (by decide)]; exact b2
    · rw [hlo 5 (by decide) (by decide) 2 (by decide)]; exact b3
    · rw [hlo 5 (by decide) (by decide) 3 (by decide)]; exact b4
    · rw [hlo 5 (by decide) (by decide) 4 (by decide)]; exact b5
    · rw [hlo 6 (by decide) (by decide) i (Nat.lt_of_lt_of_le hi hH)]; exact b6 i hi
    · rw [hlo 7 (by decide) (by decide) i (Nat.lt_of_lt_of_le hi hH)]; exact b7 i hi
    · rw [hlo 12 (by decide) (by decide) i (Nat.lt_of_lt_of_le hi hT7)]; exact b8 i hi
    · rw [hlo 11 (by decide) (by decide) i (Nat.lt_of_lt_of_le hi hT7)]; exact b9 i hi
    · have hj' := hj
      rw [n2, nI_clamp (by omega)] at hj'
      rw [hlo 16 (by decide) (by decide) j (Nat.lt_of_lt_of_le hj' n1)]; exact b10 j hj
    · have hj' := hj
      rw [m2, nI_clamp (by omega)] at hj'
      rw [hlo 17 (by decide) (by decide) j (Nat.lt_of_lt_of_le hj' m1)]; exact b11 j hj
  refine ⟨a1.of hPE, pr.of hPE, ?_, ?_, ?_, ?_, h48, ?_, h8, hT⟩
  · rw [hc 43 (by decide) (by decide)]
    intro j hj he ho
    rw [← a3 j hj he ho]
    rcases Nat.eq_zero_or_pos (pc j) with q | q
    · rw [q]
      rcases pc_0 j hj q with x | x | x <;> rw [x] <;> exact hs _ (by decide)
    · rw [hr (pc j) (by have := pc_cells j hj; simp at this; omega)]
  · rw [hc 43 (by decide) (by decide)]; exact a4
  · exact a5.of (hc 44 (by decide) (by decide)) (hc 45 (by decide) (by decide)) (hs 44 (by decide)) (hr 28 (by decide))
  · exact a6.of (hc 46 (by decide) (by decide)) (hc 47 (by decide) (by decide)) (hs 45 (by decide)) (hr 37 (by decide)) (hr 38 (by decide)) (hr 39 (by decide)) (hr 41 (by decide))
  · exact a8.of (fun k h1 h2 => hc k (by omega) (by omega)) h7 (fun k h1 h2 => hr k (by omega)) ⟨hs 64 (by decide), hs 65 (by decide), hs 66 (by decide)⟩
theorem R_reset {τ : Mem} : ∀ (k m j : Nat) (τ1 : Mem), j + k = 5 → k < m → fr [5] τ τ1 → (∀ i, i < 5 → τ1 5 i = τ 5 i) → (∀ i, i < j → τ1 5 (5 + i) = if i = 2 then nI 40 else nI 0) → ∃ w, f_X11_terrace_50 m τ1 (nI j) = ((m_X11_stepOn w).bind fun q2 => f_X11_terrace_86 KF q2 (nI 0)) ∧ fr [5] τ w ∧ (∀ i, i < 5 → w 5 i = τ 5 i) ∧ ∀ i, i < 5 → w 5 (5 + i) = if i = 2 then nI 40 else nI 0 := by
  intro k
  induction k with
  | zero =>
    intro m j τ1 hj hm hf h1 h2
    obtain ⟨m, rfl⟩ : ∃ m', m = m' + 1 := ⟨m - 1, by omega⟩
    have hj' : j = 5 := by omega
    subst hj'
    refine ⟨τ1, ?_, hf, h1, h2⟩
    rw [f_X11_terrace_50]
    simp only [pu_lit]
    rw [if_pos nI_le_self]
  | succ k ih =>
    intro m j τ1 hj hm hf h1 h2
    obtain ⟨m, rfl⟩ : ∃ m', m = m' + 1 := ⟨m - 1, by omega⟩
    have hstep : f_X11_terrace_50 (m + 1) τ1 (nI j) = f_X11_terrace_50 m (ms τ1 5 (5 + j) (if j = 2 then nI 40 else nI 0)) (nI (j + 1)) := by
      rw [f_X11_terrace_50]
      simp only [pu_lit]
      rw [if_neg (nI_ge (by omega) (by omega)), nI_add, nI_add, pu_gd (k := 5 + j) (by omega) (by decide), nI_clamp (n := 5 + j) (by omega), ltE]
      by_cases c : j = 2
      · rw [if_pos (show nI j = nI 2 by rw [c]), if_pos c]
      · rw [if_neg (show ¬ nI j = nI 2 by rw [nI_eq (by omega) (by omega)]; exact c), if_neg c, pu_gd (k := 5 + j) (by omega) (by decide), ltE]
    rw [hstep]
    refine ih m (j + 1) _ (by omega) (by omega) (hf.ms (by decide)) (fun i hi => ?_) (fun i hi => ?_)
    · rw [ms_same, pk_un (by omega)]; exact h1 i hi
    · rw [ms_same]
      by_cases d : i = j
      · subst d; rw [pk_us]
      · rw [pk_un (by omega)]; exact h2 i (by omega)
theorem imin_le {p n : Nat} (h : p ≤ n) (hn : n < 2147483648) : imin (nI p) (nI n) = nI p := by
  unfold imin
  rw [if_neg (nI_nlt h (by omega))]
/-- both read the tape -/
theorem T_read {σ τ : Mem} {n p : Nat} (hp : p ≤ n) (hn : n ≤ 700) (e1 : σ 3 1 = nI n) (e3 : ∀ j, j < n → ∃ b, b < 256 ∧ τ 19 j = nI b ∧ σ 4 j = by8 b) (h23 : τ 0 23 = nI p) (h22 : τ 0 22 = nI 0) (h28 : τ 0 28 = nI 0) :
    ∃ τ1, f_X11_terrace_50 KF τ (nI 0) = f_X11_terrace_109 τ1 ∧ RLF τ τ1 ∧ ∃ f σf, f < 10 ∧ ((m_X9_begin σ (nI p)).bind m_X3_read) = some (nI f, σf) ∧ fr LC σ σf ∧ τ1 0 28 = nI f ∧ ((0 < f ∧ τ1 0 29 = σf 3 3) ∨ (f = 0 ∧ ∃ h t N1 N2 dn, PLR h t N1 N2 dn σf τ1)) := by
  obtain ⟨w, w1, w2, w3, w4⟩ := R_reset (τ := τ) 5 KF 0 τ (by omega) (by decide) fr.rfl (fun _ _ => rfl) (fun i hi => absurd hi (by omega))
  have w0 : w 0 = τ 0 := w2 0 (by decide)
  have wL : RLF τ w := by
    refine ⟨w2.mono (by decide), fun s _ => by rw [w0], fun c a b j hj => ?_⟩
    by_cases d : c = 5
    · subst d; exact w3 j hj
    · rw [w2 c (by simp; exact d)]
  have hbeg : m_X9_begin σ (nI p) = some (ms (ms σ 3 2 (nI p)) 3 4 (nI 0)) := by
    unfold m_X9_begin
    simp only [pu_lit]
    rw [e1, imin_le hp (by omega), ltE, ltE]
  obtain ⟨q1, c1, c2, c3, c4, c5, c6, c7, c8⟩ := C_clear2 (σ := ms (ms σ 3 2 (nI p)) 3 4 (nI 0))
  have g3 : ms q1 1 4 (nI 0) 3 = upd (upd (σ 3) 2 (nI p)) 4 (nI 0) := by rw [ms_ne (by decide), c2 3 (by decide), ms_same, ms_same]
  have g4 : ms q1 1 4 (nI 0) 4 = σ 4 := by rw [ms_ne (by decide), c2 4 (by decide), ms_ne (by decide), ms_ne (by decide)]
  have T1 : TP p (fun j => (τ 19 j).toNatClampNeg) (ms q1 1 4 (nI 0)) w := by
    refine ⟨by omega, by rw [g3, pk_un (by decide), pk_us], by rw [w0]; exact h23, fun j hj => ?_⟩
    obtain ⟨b, hb, x1, x2⟩ := e3 j (by omega)
    dsimp only
    rw [w2 19 (by decide), g4, x1, nI_clamp (by omega)]
    exact ⟨hb, rfl, x2⟩
  obtain ⟨σ3, τ3, k3, s3, e3', v3, l1, l2, l3, l4, l5, l6⟩ := lex T1 (Nat.zero_le _) (by rw [g3, pk_us]) (by rw [w0]; exact h22)
  have P0 : PLR 0 0 0 0 0 (ms q1 1 4 (nI 0)) w := by
    refine ⟨⟨by decide, by decide, ?_, w4 0 (by decide), ?_, w4 1 (by decide), ⟨40, by decide, by decide, ?_, w4 2 (by decide)⟩, by decide, ms_at, by decide, by decide, ⟨?_, w4 3 (by decide), by decide, fun x => absurd x (by decide), fun j hj => absurd hj (by omega)⟩, ⟨?_, w4 4 (by decide), by decide, fun x => absurd x (by decide), fun j hj => absurd hj (by omega)⟩⟩, fun j hj => absurd hj (by omega), fun j hj => absurd hj (by omega), fun j hj => Or.inr ?_⟩
    · rw [ms_ne (by decide)]; exact c3
    · rw [ms_ne (by decide)]; exact c4
    · rw [ms_ne (by decide)]; exact c5
    · show ms q1 1 4 (nI 0) 14 2 = nI 0
      rw [ms_ne (by decide)]; exact c6
    · show ms q1 1 4 (nI 0) 17 2 = nI 0
      rw [ms_ne (by decide)]; exact c7
    · rw [ms_ne (by decide)]; exact c8 j hj
  have P1 : PLR 0 0 0 0 0 σ3 τ3 := P0.keep (fun c q => l3.1 c (by simp; exact q)) (fun c q => l4.1 c (by simp; exact q))
  obtain ⟨τ1, r1, r2, f, σf, r3, r4, r5, r6, r7⟩ := TLOOP (p + 1) KF KF 0 σ3 τ3 k3 s3 e3' v3 0 0 0 0 0 (by omega) (by unfold KF; omega) (by unfold KF; omega) (by omega) (T1.f l3 l4) l6 (by rw [l4.2 28 (by decide), w0]; exact h28) P1
  refine ⟨τ1, ?_, (wL.trans (RLF.ofT l4)).trans r2, f, σf, r3, ?_, ?_, r6, r7⟩
  · rw [w1, l2, sbind]; exact r1
  · rw [hbeg, sbind]
    unfold m_X3_read
    simp only [pu_lit]
    rw [c1, sbind, pu_gz0, ltE, l1, sbind]; exact r4
  · have F1 : fr LC σ (ms q1 1 4 (nI 0)) := (((fr.rfl.ms (by decide)).ms (by decide)).trans (c2.mono (by decide))).ms (by decide)
    exact (F1.trans (l3.1.mono (by decide))).trans r5.1
theorem mcpv {σ : Mem} {a c n j : Nat} (hj : j < n) (hn : n < 2147483648) : mcp σ a c (nI 0) (nI 0) (nI n) c j = σ a j := by
  rw [mcp_same, nI_clamp (by decide), nI_clamp (by omega), pk_cpy_in (by omega) (by omega), Nat.zero_add, Nat.sub_zero]
/-- the class takes its plan over -/
theorem C_planCopy {σ : Mem} : OK (m_X2_copyFrom 23 9 σ) (fun q => fr [23, 24, 25, 26, 27, 28, 29, 31, 32, 34] σ q ∧ (q 23 0 = σ 9 0 ∧ q 23 1 = σ 9 1 ∧ q 23 2 = σ 9 2) ∧ (∀ j, j < 8 → q 24 j = σ 10 j) ∧ (∀ j, j < 8 → q 25 j = σ 11 j) ∧ (∀ j, j < 7 → q 26 j = σ 12 j) ∧ (∀ j, j < 7 → q 27 j = σ 13 j) ∧ q 28 2 = σ 14 2 ∧ (∀ j, j < 700 → q 29 j = σ 15 j) ∧ q 31 2 = σ 17 2 ∧ (∀ j, j < 700 → q 32 j = σ 18 j) ∧ ∀ j, j < 64 → q 34 j = σ 20 j) := by
  unfold m_X2_copyFrom m_X4_copyFrom
  simp only [pu_lit, Nat.reduceAdd]
  rw [ltE, ltE, ltE, pu_gcp (by decide) (by decide) (by decide) (by decide), ltE, pu_gcp (by decide) (by decide) (by decide) (by decide), ltE, pu_gcp (by decide) (by decide) (by decide) (by decide), ltE, pu_gcp (by decide) (by decide) (by decide) (by decide), ltE, pu_gcp (by decide) (by decide) (by decide) (by decide), ltE, ltE, sbind, pu_gcp (by decide) (by decide) (by decide) (by decide), ltE, ltE, sbind, pu_gcp (by decide) (by decide) (by decide) (by decide), ltE, ok_some]
  refine ⟨?_, ⟨?_, ?_, ?_⟩, fun j hj => ?_, fun j hj => ?_, fun j hj => ?_, fun j hj => ?_, ?_, fun j hj => ?_, ?_, fun j hj => ?_, fun j hj => ?_⟩
  · refine fr.mcp (fr.ms (fr.mcp (fr.ms (fr.mcp (fr.mcp (fr.mcp (fr.mcp (fr.mcp (fr.ms (fr.ms (fr.ms fr.rfl ?_) ?_) ?_) ?_) ?_) ?_) ?_) ?_) ?_) ?_) ?_) ?_ <;> decide
  · repeat first | rw [mcp_ne (by decide)] | rw [ms_ne (by decide)]
    rw [ms_same, pk_un (by decide), ms_same, pk_un (by decide), ms_at]
  · repeat first | rw [mcp_ne (by decide)] | rw [ms_ne (by decide)]
    rw [ms_same, pk_un (by decide), ms_at, ms_ne (by decide)]
  · repeat first | rw [mcp_ne (by decide)] | rw [ms_ne (by decide)]
    rw [ms_at, ms_ne (by decide), ms_ne (by decide)]
  · repeat first | rw [mcp_ne (by decide)] | rw [ms_ne (by decide)]
    rw [mcpv hj (by decide), ms_ne (by decide), ms_ne (by decide), ms_ne (by decide)]
  · repeat first | rw [mcp_ne (by decide)] | rw [ms_ne (by decide)]
    rw [mcpv hj (by decide), mcp_ne (by decide), ms_ne (by decide), ms_ne (by decide), ms_ne (by decide)]
  · repeat first | rw [mcp_ne (by decide)] | rw [ms_ne (by decide)]
    rw [mcpv hj (by decide)]
    repeat first | rw [mcp_ne (by decide)] | rw [ms_ne (by decide)]
  · repeat first | rw [mcp_ne (by decide)] | rw [ms_ne (by decide)]
    rw [mcpv hj (by decide)]
    repeat first | rw [mcp_ne (by decide)] | rw [ms_ne (by decide)]
  · repeat first | rw [mcp_ne (by decide)] | rw [ms_ne (by decide)]
    rw [ms_at]
    repeat first | rw [mcp_ne (by decide)] | rw [ms_ne (by decide)]
  · repeat first | rw [mcp_ne (by decide)] | rw [ms_ne (by decide)]
    rw [mcpv hj (by decide)]
    repeat first | rw [mcp_ne (by decide)] | rw [ms_ne (by decide)]
  · rw [mcp_ne (by decide), ms_at]
    repeat first | rw [mcp_ne (by decide)] | rw [ms_ne (by decide)]
  · rw [mcp_ne (by decide), ms_ne (by decide), mcpv hj (by decide)]
    repeat first | rw [mcp_ne (by decide)] | rw [ms_ne (by decide)]
  · rw [mcpv hj (by decide)]
    repeat first | rw [mcp_ne (by decide)] | rw [ms_ne (by decide)]
theorem C_begin42 {σ : Mem} : OK (m_X1_begin 42 34 σ) (fun q => fr [43, 44, 46] σ q ∧ (∀ j, j < 64 → q 43 j = σ 34 j) ∧ q 44 1 = nI 0 ∧ q 44 2 = nI 0 ∧ q 46 1 = nI 0) := by
  unfold m_X1_begin m_X0_clear
  simp only [pu_lit, Nat.reduceAdd]
  rw [pu_gcp (by decide) (by decide) (by decide) (by decide), ltE, ltE, ltE, sbind, ltE, ok_some]
  refine ⟨(((fr.mcp fr.rfl (by decide)).ms (by decide)).ms (by decide)).ms (by decide), fun j hj => ?_, ?_, ?_, ms_at⟩
  · rw [ms_ne (by decide), ms_ne (by decide), ms_ne (by decide), mcpv hj (by decide)]
  · rw [ms_ne (by decide), ms_same, pk_un (by decide), ms_at]
  · rw [ms_ne (by decide), ms_at]
/-- the start row, by blocks -/
theorem SB {h t N1 N2 dn : Nat} {σ τ : Mem} (hP : PLR h t N1 N2 dn σ τ) : (∀ i, i < 8 → σ 20 i = (if i < h then τ 8 (8 + i) else nI 0) ∧ σ 20 (8 + i) = (if i < h then τ 9 (8 + i) else nI 0) ∧ σ 20 (16 + i) = (if i < h then τ 10 (8 + i) else nI 0) ∧ σ 20 (24 + i) = -nI 1 ∧ σ 20 (32 + i) = nI 0) ∧ (∀ i, i < 7 → σ 20 (40 + i) = (if i < t then τ 13 (7 + i) else nI 0) ∧ σ 20 (47 + i) = (if i < t then τ 14 (7 + i) else nI 0) ∧ σ 20 (54 + i) = (if i < t then τ 15 (7 + i) else nI 0)) ∧ σ 20 61 = nI 0 ∧ σ 20 62 = nI 0 ∧ σ 20 63 = nI 0 := by
  obtain ⟨⟨a1, a2, -⟩, H2, H3, H4⟩ := hP
  have z : ∀ j, j < 64 → ¬ (24 ≤ j ∧ j < 32) → ¬ (j < h ∨ (8 ≤ j ∧ j < 8 + h) ∨ (16 ≤ j ∧ j < 16 + h) ∨ (40 ≤ j ∧ j < 40 + t) ∨ (47 ≤ j ∧ j < 47 + t) ∨ (54 ≤ j ∧ j < 54 + t)) → σ 20 j = nI 0 := fun j hj h1 h2 => by
    have := (H4 j hj).resolve_left h2
    rw [if_neg h1] at this; exact this
  refine ⟨fun i hi => ⟨?_, ?_, ?_, ?_, ?_⟩, fun i hi => ⟨?_, ?_, ?_⟩, z 61 (by decide) (by omega) (by omega), z 62 (by decide) (by omega) (by omega), z 63 (by decide) (by omega) (by omega)⟩
  · by_cases c : i < h
    · obtain ⟨a, _, x1, x2⟩ := (H2 i c).2.2.1
      rw [if_pos c, x1, x2]
    · rw [if_neg c]; exact z i (by omega) (by omega) (by omega)
  · by_cases c : i < h
    · rw [if_pos c]; exact (H2 i c).2.2.2.1
    · rw [if_neg c]; exact z _ (by omega) (by omega) (by omega)
  · by_cases c : i < h
    · obtain ⟨a, _, x1, x2⟩ := (H2 i c).2.2.2.2
      rw [if_pos c, x1, x2]
    · rw [if_neg c]; exact z _ (by omega) (by omega) (by omega)
  · have := (H4 (24 + i) (by omega)).resolve_left (by omega)
    rw [if_pos (by omega)] at this; exact this
  · exact z _ (by omega) (by omega) (by omega)
  · by_cases c : i < t
    · rw [if_pos c]; exact (H3 i c).2.2.2.1
    · rw [if_neg c]; exact z _ (by omega) (by omega) (by omega)
  · by_cases c : i < t
    · rw [if_pos c]; exact (H3 i c).2.2.2.2.1
    · rw [if_neg c]; exact z _ (by omega) (by omega) (by omega)
  · by_cases c : i < t
    · rw [if_pos c]; exact (H3 i c).2.2.2.2.2
    · rw [if_neg c]; exact z _ (by omega) (by omega) (by omega)
theorem pc_61' : pc 61 = 0 ∧ pi 61 = 43 ∧ pc 62 = 0 ∧ pi 62 = 42 ∧ pc 63 = 0 ∧ pi 63 = 41 := by decide
/-- a new terrace -/
theorem RelH.anew {h t N1 N2 dn : Nat} {σ τ σ1 τ1 : Mem} (hP : PLR h t N1 N2 dn σ τ) (hO : TO h t τ τ1)
    (k23 : σ1 23 0 = σ 9 0 ∧ σ1 23 1 = σ 9 1 ∧ σ1 23 2 = σ 9 2) (k24 : ∀ j, j < 8 → σ1 24 j = σ 10 j) (k25 : ∀ j, j < 8 → σ1 25 j = σ 11 j) (k26 : ∀ j, j < 7 → σ1 26 j = σ 12 j) (k27 : ∀ j, j < 7 → σ1 27 j = σ 13 j) (k28 : σ1 28 2 = σ 14 2) (k29 : ∀ j, j < 700 → σ1 29 j = σ 15 j) (k31 : σ1 31 2 = σ 17 2) (k32 : ∀ j, j < 700 → σ1 32 j = σ 18 j) (k43 : ∀ j, j < 64 → σ1 43 j = σ 20 j)
    (k44 : σ1 44 1 = nI 0 ∧ σ1 44 2 = nI 0) (k46 : σ1 46 1 = nI 0) (k7 : σ1 0 7 = nI 0) (k48 : ∀ i, i < 3 → σ1 48 i = τ1 18 i) (k41 : ∀ i, i < 8 → τ1 41 i = nI 0 ∨ τ1 41 i = nI 1) (k8 : σ1 0 8 = τ1 0 30) (kT : TR σ1 τ1) : RelH h t σ1 τ1 := by
  obtain ⟨B1, B2, z61, z62, z63⟩ := SB hP
  obtain ⟨⟨a1, a2, a3, a4, a5, a6, ⟨L, L1, L2, L3, L4⟩, a8, a9, a10, a11, ⟨u1, u2, u3, u4, u5⟩, ⟨v1, v2, v3, v4, v5⟩⟩, H2, H3, H4⟩ := hP
  obtain ⟨o1, o2, o3, o4, o5, o6, o7, o8, o9, o10, o11⟩ := hO
  have u1 : σ 14 2 = nI N1 := u1
  have v1 : σ 17 2 = nI N2 := v1
  have u4 : 0 < N1 → dpN 10 (σ 15) N1 1 := u4
  have v4 : 0 < N2 → dpN 4 (σ 18) N2 1 := v4
  have rw43 : ∀ i, i < 8 → σ1 43 (24 + i) = -nI 1 := fun i hi => by rw [k43 _ (by omega)]; exact (B1 i hi).2.2.2.1
  refine ⟨⟨a1, a2, by rw [k23.1]; exact a3, by rw [k23.2.1]; exact a5, ⟨L, L1, L2, by rw [k23.2.2]; exact L3⟩, fun j hj => ?_, ⟨N1, u3, by rw [k28]; exact u1, fun x => ?_⟩, ⟨N2, v3, by rw [k31]; exact v1, fun x => ?_⟩⟩, ⟨?_, ?_, ?_, ?_, ?_, fun j hj => ?_, fun j hj => ?_, fun j hj => ?_, fun j hj => ?_, fun j hj => ?_, fun j hj => ?_⟩, fun j hj _ _ => ?_, ⟨fun i hi => Or.inl (rw43 i hi), fun i _ hi => rw43 i hi, ⟨0, by decide, ?_⟩, fun i hi _ => ?_, fun i hi => ?_⟩, ?_, ?_, k48, Or.inl ⟨k7, o8⟩, k8, kT⟩
  · rw [k27 j (by omega), (H3 j hj).2.1]; exact (H3 j hj).1
  · exact dp_congr (fun j hj => (k29 j (by omega)).symm) (u4 x)
  · exact dp_congr (fun j hj => (k32 j (by omega)).symm) (v4 x)
  · rw [o9 5 (by decide) (by decide) 0 (by decide)]; exact a4
  · rw [o9 5 (by decide) (by decide) 1 (by decide)]; exact a6
  · rw [o9 5 (by decide) (by decide) 2 (by decide), k23.2.2, L3]; exact L4
  · rw [o9 5 (by decide) (by decide) 3 (by decide), k28, u1]; exact u2
  · rw [o9 5 (by decide) (by decide) 4 (by decide), k31, v1]; exact v2
  · rw [o9 6 (by decide) (by decide) j (Nat.lt_of_lt_of_le hj a1), k24 j (by omega)]; exact (H2 j hj).1.symm
  · rw [o9 7 (by decide) (by decide) j (Nat.lt_of_lt_of_le hj a1), k25 j (by omega)]; exact (H2 j hj).2.1.symm
  · rw [o9 12 (by decide) (by decide) j (Nat.lt_of_lt_of_le hj a2), k26 j (by omega)]; exact (H3 j hj).2.2.1.symm
  · rw [o9 11 (by decide) (by decide) j (Nat.lt_of_lt_of_le hj a2), k27 j (by omega)]; exact (H3 j hj).2.1.symm
  · rw [k28, u1, nI_clamp (by omega)] at hj
    rw [o9 16 (by decide) (by decide) j (Nat.lt_of_lt_of_le hj u3), k29 j (by omega)]; exact u5 j hj
  · rw [k31, v1, nI_clamp (by omega)] at hj
    rw [o9 17 (by decide) (by decide) j (Nat.lt_of_lt_of_le hj v3), k32 j (by omega)]; exact v5 j hj
  · rw [k43 j hj]
    rcases (show j < 8 ∨ (8 ≤ j ∧ j < 16) ∨ (16 ≤ j ∧ j < 24) ∨ (24 ≤ j ∧ j < 32) ∨ (32 ≤ j ∧ j < 40) ∨ (40 ≤ j ∧ j < 47) ∨ (47 ≤ j ∧ j < 54) ∨ (54 ≤ j ∧ j < 61) ∨ j = 61 ∨ j = 62 ∨ j = 63 by omega) with q | q | q | q | q | q | q | q | q | q | q
    · have P := pc_eq.1 j q
      rw [P.1, P.2.1, (B1 j q).1]; exact (o10 j q).1
    · obtain ⟨i, rfl⟩ : ∃ i, j = 8 + i := ⟨j - 8, by omega⟩
      have P := pc_eq.1 i (by omega)
      rw [P.2.2.1, P.2.2.2.1, (B1 i (by omega)).2.1]; exact (o10 i (by omega)).2.1
    · obtain ⟨i, rfl⟩ : ∃ i, j = 16 + i := ⟨j - 16, by omega⟩
      have P := pc_eq.1 i (by omega)
      rw [P.2.2.2.2.1, P.2.2.2.2.2.1, (B1 i (by omega)).2.2.1]; exact (o10 i (by omega)).2.2.1
    · obtain ⟨i, rfl⟩ : ∃ i, j = 24 + i := ⟨j - 24, by omega⟩
      have P := pc_eq.1 i (by omega)
      rw [P.2.2.2.2.2.2.1, P.2.2.2.2.2.2.2.1, (B1 i (by omega)).2.2.2.1]; exact (o10 i (by omega)).2.2.2.1
    · obtain ⟨i, rfl⟩ : ∃ i, j = 32 + i := ⟨j - 32, by omega⟩
      have P := pc_eq.1 i (by omega)
      rw [P.2.2.2.2.2.2.2.2.1, P.2.2.2.2.2.2.2.2.2, (B1 i (by omega)).2.2.2.2]; exact (o10 i (by omega)).2.2.2.2
    · obtain ⟨i, rfl⟩ : ∃ i, j = 40 + i := ⟨j - 40, by omega⟩
      have P := pc_eq.2 i (by omega)
      rw [P.1, P.2.1, (B2 i (by omega)).1]; exact (o11 i (by omega)).1
    · obtain ⟨i, rfl⟩ : ∃ i, j = 47 + i := ⟨j - 47, by omega⟩
      have P := pc_eq.2 i (by omega)
      rw [P.2.2.1, P.2.2.2.1, (B2 i (by omega)).2.1]; exact (o11 i (by omega)).2.1
    · obtain ⟨i, rfl⟩ : ∃ i, j = 54 + i := ⟨j - 54, by omega⟩
      have P := pc_eq.2 i (by omega)
      rw [P.2.2.2.2.1, P.2.2.2.2.2, (B2 i (by omega)).2.2]; exact (o11 i (by omega)).2.2
    · subst q; rw [pc_61'.1, pc_61'.2.1, o5, z61]
    · subst q; rw [pc_61'.2.2.1, pc_61'.2.2.2.1, o4, z62]
    · subst q; rw [pc_61'.2.2.2.2.1, pc_61'.2.2.2.2.2, o3, z63]
  · rw [k43 62 (by decide)]; exact z62
  · obtain ⟨a, x1, _, x2⟩ := (H2 i hi).2.2.1
    exact ⟨a, by omega, by rw [k43 i (by omega)]; exact x2⟩
  · obtain ⟨a, x1, _, x2⟩ := (H2 i hi).2.2.2.2
    exact ⟨a, by omega, by rw [k43 _ (by omega)]; exact x2⟩
  · exact ⟨0, 0, by decide, by decide, k44.1, k44.2, o6, fun a ha => absurd ha (by omega)⟩
  · exact ⟨0, by decide, k46, o7, fun i hi => absurd hi (by omega), k41⟩
theorem obind2 {α β γ : Type} (x : Option α) (f : α → Option β) (g : β → Option γ) : (x.bind fun a => (f a).bind g) = (x.bind f).bind g := by cases x <;> rfl
theorem ms_off {σ : Mem} {k i j : Nat} {x : Int32} (d : i ≠ j) : ms σ k j x k i = σ k i := by rw [ms_same, pk_un d]
theorem S_terrace : SIM_terrace Rel := by
  intro σ τ p0 ⟨H, T, R⟩
  refine sim_I ?_
  have R1 : RelH H T σ (ms τ 0 5 (nI 0)) := R.code
  obtain ⟨n, hn, e1, e2, e3⟩ := R1.2.2.2.2.2.2.2.2.2
  have h5 : ms τ 0 5 (nI 0) 0 5 = nI 0 := ms_at
  unfold m_X10_terrace m_X11_terrace m_X11_fail
  simp only [pu_lit]
  rw [ltE]
  by_cases c0 : p0 < nI 0
  · exact po_throw ⟨H, T, R⟩ ⟨rfl, rfl⟩ (by rw [if_pos c0]) (by rw [if_pos c0, ltE, sbind])
  rw [if_neg c0, if_neg c0, e1, e2]
  by_cases c1 : p0 ≤ nI n
  · obtain ⟨p, hp, rfl⟩ : ∃ p, p < n + 1 ∧ p0 = nI p := ix_of c0 (fun x => absurd (Int32.le_trans x c1) (nI_ge (by omega) (by omega))) (by omega)
    rw [if_pos c1, if_pos c1, ltE, ltE, ltE, ltE, ltE]
    generalize ms τ 0 5 (nI 0) = w at R1 e2 e3 h5 ⊢
    have tc : ∀ c, c ≠ 0 → ms (ms (ms (ms (ms w 0 21 (nI 0)) 0 23 (nI p)) 0 22 (nI 0)) 0 28 (nI 0)) 0 30 (-nI 1) c = w c := fun c q => by rw [ms_ne q, ms_ne q, ms_ne q, ms_ne q, ms_ne q]
    have ts : ∀ s, s ∉ [21, 22, 23, 28, 30] → ms (ms (ms (ms (ms w 0 21 (nI 0)) 0 23 (nI p)) 0 22 (nI 0)) 0 28 (nI 0)) 0 30 (-nI 1) 0 s = w 0 s := fun s q => by
      simp at q
      rw [ms_same, pk_un (by omega), ms_same, pk_un (by omega), ms_same, pk_un (by omega), ms_same, pk_un (by omega), ms_same, pk_un (by omega)]
    have t21 : ms (ms (ms (ms (ms w 0 21 (nI 0)) 0 23 (nI p)) 0 22 (nI 0)) 0 28 (nI 0)) 0 30 (-nI 1) 0 21 = nI 0 := by rw [ms_same, pk_un (by decide), ms_same, pk_un (by decide), ms_same, pk_un (by decide), ms_same, pk_un (by decide), ms_at]
    have t23 : ms (ms (ms (ms (ms w 0 21 (nI 0)) 0 23 (nI p)) 0 22 (nI 0)) 0 28 (nI 0)) 0 30 (-nI 1) 0 23 = nI p := by rw [ms_same, pk_un (by decide), ms_same, pk_un (by decide), ms_same, pk_un (by decide), ms_at]
    have t22 : ms (ms (ms (ms (ms w 0 21 (nI 0)) 0 23 (nI p)) 0 22 (nI 0)) 0 28 (nI 0)) 0 30 (-nI 1) 0 22 = nI 0 := by rw [ms_same, pk_un (by decide), ms_same, pk_un (by decide), ms_at]
    have t28 : ms (ms (ms (ms (ms w 0 21 (nI 0)) 0 23 (nI p)) 0 22 (nI 0)) 0 28 (nI 0)) 0 30 (-nI 1) 0 28 = nI 0 := by rw [ms_same, pk_un (by decide), ms_at]
    have t30 : ms (ms (ms (ms (ms w 0 21 (nI 0)) 0 23 (nI p)) 0 22 (nI 0)) 0 28 (nI 0)) 0 30 (-nI 1) 0 30 = -nI 1 := ms_at
    generalize ms (ms (ms (ms (ms w 0 21 (nI 0)) 0 23 (nI p)) 0 22 (nI 0)) 0 28 (nI 0)) 0 30 (-nI 1) = τ9 at tc ts t21 t22 t23 t28 t30 ⊢
    obtain ⟨τ1, r1, r2, f, σf, r3, r4, r5, r6, r7⟩ := T_read (σ := σ) (τ := τ9) (n := n) (p := p) (by omega) hn e1 (by rw [tc 19 (by decide)]; exact e3) t23 t22 t28
    rw [obind2 (m_X9_begin σ (nI p)) m_X3_read, r4, sbind, ltE, r1]
    dsimp only
    unfold f_X11_terrace_109
    simp only [pu_lit]
    rw [r6]
    have sL : ∀ c, 22 ≤ c ∨ c = 0 → σf c = σ c := fun c q => r5 c (by unfold LC; simp; omega)
    have uT : ∀ s, s ∉ [4, 21, 22, 23, 24, 25, 26, 27, 28, 29, 30, 31] → τ1 0 s = w 0 s := fun s q => by
      simp at q
      rw [r2.2.1 s (by simp; omega), ts s (by simp; omega)]
    have uC : ∀ c, c ≠ 0 → (c < 5 ∨ 17 < c) → τ1 c = w c := fun c q1 q2 => by rw [r2.1 c (by simp; omega), tc c q1]
    rcases r7 with ⟨f0, r7⟩ | ⟨rfl, h, t, N1, N2, dn, hP⟩
    · rw [if_neg (nz' f0 (by omega)), if_neg (nz' f0 (by omega)), ltE, C_refuse (by decide), sbind]
      refine po_val (t := ms (ms τ1 0 30 (τ1 0 29)) 18 0 (ms τ1 0 30 (τ1 0 29) 18 0 + nI 1)) ⟨H, T, R1.text (fun c q1 q2 => ?_) ?_ (fun i hi => ?_) (fun c q => ?_) (fun c q1 q2 j hj => ?_) (fun s hs => ?_) ?_ ⟨0, by decide, ?_, ?_, fun j hj => absurd hj (by omega)⟩⟩ ?_ rfl ?_
      · dsimp only
        rw [ms_ne q2, ms_ne (by omega), ms_ne (by omega), sL c (by omega)]
      · dsimp only
        rw [ms_ne (by decide), ms_same, pk_un (by decide), ms_ne (by decide), sL 0 (by omega)]
      · dsimp only
        have e := R1.2.2.2.2.2.2.1
        by_cases d : i = 0
        · subst d
          rw [ms_at, ms_at, ms_ne (by decide), ms_ne (by decide), sL 48 (by omega), ms_ne (by decide), uC 18 (by decide) (by omega), e 0 (by decide)]
        · rw [ms_off d, ms_off d, ms_ne (by decide), ms_ne (by decide), sL 48 (by omega), ms_ne (by decide), uC 18 (by decide) (by omega)]; exact e i hi
      · rw [ms_ne (by omega), ms_ne (by omega), uC c (by omega) (by omega)]
      · rw [ms_ne (by omega), ms_ne (by omega), r2.2.2 c q1 q2 j hj, tc c (by omega)]
      · have hs' : s ∉ [4, 21, 22, 23, 24, 25, 26, 27, 28, 29, 30, 31] := (show ∀ s, s ∈ [41, 42, 43, 44, 45, 64, 65, 66] → s ∉ [4, 21, 22, 23, 24, 25, 26, 27, 28, 29, 30, 31] by decide) s hs
        rw [ms_ne (by decide), ms_same, pk_un (fun x => by rw [x] at hs; exact absurd hs (by decide)), uT s hs']
      · dsimp only
        rw [ms_ne (by decide), ms_at, ms_same, pk_un (by decide), ms_ne (by decide), ms_at, r7]
      · dsimp only
        rw [ms_ne (by decide), ms_ne (by decide), ms_at]
      · rw [ms_ne (by decide), ms_same, pk_un (by decide), r2.2.1 21 (by decide)]; exact t21
      · rw [ms_ne (by decide), ms_same, pk_un (by decide), uT 5 (by decide)]; exact h5
      · rw [ltE, pu_gd (by decide) (by decide), pu_gd (by decide) (by decide), ltE, nI_clamp (by decide), ms_ne (show (0 : Nat) ≠ 18 by decide), ms_same, pk_un (by decide), r6]
    · simp only [if_true]
      obtain ⟨τ2, o0, hO⟩ := R_takeOver hP.1.1 hP.1.2.1 hP.1.2.2.2.1 hP.1.2.2.2.2.2.1
      obtain ⟨q8, x8, y1, y2, y3, y4, y5, y6, y7, y8, y9, y10, y11⟩ := C_planCopy (σ := ms (ms σf 3 1 (nI 0)) 0 8 (-nI 1))
      obtain ⟨q9, x9, z1, z2, z3, z4, z5⟩ := C_begin42 (σ := q8)
      rw [ltE, x8, sbind, x9, sbind, pu_gz0, ltE, o0, sbind]
      have s7 : ∀ c, c ≠ 0 → c ≠ 3 → ms (ms σf 3 1 (nI 0)) 0 8 (-nI 1) c = σf c := fun c a b => by rw [ms_ne a, ms_ne b]
      have k : ∀ c, c ≠ 0 → c ∉ [43, 44, 46] → ms q9 0 7 (nI 0) c = q8 c := fun c a b => by rw [ms_ne a, z1 c b]
      rw [s7 9 (by decide) (by decide)] at y2
      rw [s7 10 (by decide) (by decide)] at y3
      rw [s7 11 (by decide) (by decide)] at y4
      rw [s7 12 (by decide) (by decide)] at y5
      rw [s7 13 (by decide) (by decide)] at y6
      rw [s7 14 (by decide) (by decide)] at y7
      rw [s7 15 (by decide) (by decide)] at y8
      rw [s7 17 (by decide) (by decide)] at y9
      rw [s7 18 (by decide) (by decide)] at y10
      rw [s7 20 (by decide) (by decide)] at y11
      have tO := hO
      obtain ⟨o1, o2, o3, o4, o5, o6, o7, o8, o9, o10, o11⟩ := tO
      refine po_val ⟨h, t, RelH.anew hP hO ?_ ?_ ?_ ?_ ?_ ?_ ?_ ?_ ?_ ?_ ⟨?_, ?_⟩ ?_ ms_at (fun i hi => ?_) ?_ ?_ ⟨0, by decide, ?_, ?_, fun j hj => absurd hj (by omega)⟩⟩ ?_ rfl rfl
      · rw [k 23 (by decide) (by decide)]; exact y2
      · rw [k 24 (by decide) (by decide)]; exact y3
      · rw [k 25 (by decide) (by decide)]; exact y4
      · rw [k 26 (by decide) (by decide)]; exact y5
      · rw [k 27 (by decide) (by decide)]; exact y6
      · rw [k 28 (by decide) (by decide)]; exact y7
      · rw [k 29 (by decide) (by decide)]; exact y8
      · rw [k 31 (by decide) (by decide)]; exact y9
      · rw [k 32 (by decide) (by decide)]; exact y10
      · intro j hj
        rw [ms_ne (by decide), z2 j hj]; exact y11 j hj
      · rw [ms_ne (by decide)]; exact z3
      · rw [ms_ne (by decide)]; exact z4
      · rw [ms_ne (by decide)]; exact z5
      · rw [k 48 (by decide) (by decide), y1 48 (by decide), s7 48 (by decide) (by decide), sL 48 (by omega), o1 18 (by decide), uC 18 (by decide) (by omega)]
        exact R1.2.2.2.2.2.2.1 i hi
      · obtain ⟨S, _, _, _, _, q⟩ := R1.2.2.2.2.2.1
        rw [o1 41 (by decide), uC 41 (by decide) (by omega)]; exact q
      · rw [ms_same, pk_un (by decide), z1 0 (by decide), y1 0 (by decide), ms_at, o2 30 (by decide), r2.2.1 30 (by decide)]; exact t30.symm
      · rw [ms_ne (by decide), z1 3 (by decide), y1 3 (by decide), ms_ne (by decide), ms_at]
      · rw [o2 21 (by decide), r2.2.1 21 (by decide)]; exact t21
      · rw [o2 5 (by decide), uT 5 (by decide)]; exact h5
  · exact po_throw ⟨H, T, R⟩ ⟨rfl, rfl⟩ (by rw [if_neg c1]) (by rw [if_neg c1, ltE, sbind])

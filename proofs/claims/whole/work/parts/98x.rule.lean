/-! a terrace's text: frames, numbers, a rule's line -/
def LC : List Nat := [1, 2, 3, 5, 6, 7, 8, 9, 10, 11, 12, 13, 14, 15, 16, 17, 18, 19, 20, 21]
def CLF (σ σ1 : Mem) : Prop := fr LC σ σ1 ∧ σ1 3 1 = σ 3 1 ∧ σ1 3 2 = σ 3 2
theorem CLF.rfl {σ : Mem} : CLF σ σ := ⟨fr.rfl, Eq.refl _, Eq.refl _⟩
theorem CLF.trans {σ σ1 σ2 : Mem} (h : CLF σ σ1) (h2 : CLF σ1 σ2) : CLF σ σ2 := ⟨h.1.trans h2.1, h2.2.1.trans h.2.1, h2.2.2.trans h.2.2⟩
theorem CLF.ofF {σ σ1 : Mem} (h : CF σ σ1) : CLF σ σ1 := ⟨h.1.mono (by decide), h.2.1, h.2.2⟩
theorem CLF.ofT {σ σ1 : Mem} (h : FCt σ σ1) : CLF σ σ1 := CLF.ofF (CF.ofT h)
theorem CLF.put {σ σ1 : Mem} {k j : Nat} {x : Int32} (h : CLF σ σ1) (hk : k ∈ LC ∧ k ≠ 3) : CLF σ (ms σ1 k j x) := ⟨h.1.ms hk.1, by rw [ms_ne (Ne.symm hk.2)]; exact h.2.1, by rw [ms_ne (Ne.symm hk.2)]; exact h.2.2⟩
theorem CLF.of {σ σ1 : Mem} {L : List Nat} (h : fr L σ σ1) (hL : ∀ k, k ∈ L → k ∈ LC ∧ k ≠ 3) : CLF σ σ1 := ⟨h.mono (fun k hk => (hL k hk).1), by rw [h 3 (fun q => (hL 3 q).2 (Eq.refl _))], by rw [h 3 (fun q => (hL 3 q).2 (Eq.refl _))]⟩
def lo (c : Nat) : Nat := if c = 5 then 5 else if c ≤ 10 then 8 else if c ≤ 15 then 7 else 700
def RLF (τ τ1 : Mem) : Prop := fr [0, 5, 6, 7, 8, 9, 10, 11, 12, 13, 14, 15, 16, 17] τ τ1 ∧ (∀ s, s ∉ [4, 22, 24, 25, 26, 27, 28, 29, 31] → τ1 0 s = τ 0 s) ∧ ∀ c, 5 ≤ c → c ≤ 17 → ∀ j, j < lo c → τ1 c j = τ c j
theorem RLF.rfl {τ : Mem} : RLF τ τ := ⟨fr.rfl, fun _ _ => Eq.refl _, fun _ _ _ _ _ => Eq.refl _⟩
theorem RLF.trans {τ τ1 τ2 : Mem} (h : RLF τ τ1) (h2 : RLF τ1 τ2) : RLF τ τ2 := ⟨h.1.trans h2.1, fun s hs => (h2.2.1 s hs).trans (h.2.1 s hs), fun c a b j hj => (h2.2.2 c a b j hj).trans (h.2.2 c a b j hj)⟩
theorem RLF.put {τ τ1 : Mem} {c y : Nat} {x : Int32} (h : RLF τ τ1) (hc : 5 ≤ c ∧ c ≤ 17) (hy : lo c ≤ y) : RLF τ (ms τ1 c y x) := by
  refine ⟨h.1.ms ((show ∀ c, 5 ≤ c ∧ c ≤ 17 → c ∈ [0, 5, 6, 7, 8, 9, 10, 11, 12, 13, 14, 15, 16, 17] by intro c hc; simp; omega) c hc), fun s hs => by rw [ms_ne (by omega)]; exact h.2.1 s hs, fun c2 a b j hj => ?_⟩
  by_cases d : c2 = c
  · subst d; rw [ms_same, pk_un (by omega)]; exact h.2.2 c2 a b j hj
  · rw [ms_ne d]; exact h.2.2 c2 a b j hj
theorem RLF.put0 {τ τ1 : Mem} {y : Nat} {x : Int32} (h : RLF τ τ1) (hy : y ∈ [4, 22, 24, 25, 26, 27, 28, 29, 31]) : RLF τ (ms τ1 0 y x) :=
  ⟨h.1.ms (by decide), fun s hs => by rw [ms_same, pk_un (show s ≠ y from fun q => hs (by rw [q]; exact hy))]; exact h.2.1 s hs, fun c a b j hj => by rw [ms_ne (by omega)]; exact h.2.2 c a b j hj⟩
theorem RLF.ofF {z : Nat} {τ τ1 : Mem} (hz : z ≤ 1) (h : RF z τ τ1) : RLF τ τ1 := by
  refine ⟨h.1.mono (fun k hk => by rcases (show z = 0 ∨ z = 1 by omega) with rfl | rfl <;> revert k <;> decide), fun s hs => h.2.1 s (fun q => hs ((show ∀ x, x ∈ [22, 24, 25, 26, 27, 28, 29] → x ∈ [4, 22, 24, 25, 26, 27, 28, 29, 31] by decide) s q)), fun c a b j hj => ?_⟩
  by_cases c5 : c = 5
  · subst c5
    have : j < 5 := hj
    exact h.2.2.1 j (by omega)
  · by_cases cz : c = 16 + z
    · subst cz
      have e : lo (16 + z) = 700 := by unfold lo; rw [if_neg (by omega), if_neg (by omega), if_neg (by omega)]
      rw [e] at hj
      exact h.2.2.2 j hj
    · rw [h.1 c (by simp; omega)]
theorem RLF.ofT {τ τ1 : Mem} (h : FRt τ τ1) : RLF τ τ1 := RLF.ofF (z := 0) (by decide) (RF.ofT h)
theorem TK.sl {E : Nat} {b : Nat → Nat} {σ τ τ1 : Mem} {k s e v : Nat} (h : TK E b σ τ k s e v) (h0 : ∀ j, j ∈ [22, 24, 25, 26, 27] → τ1 0 j = τ 0 j) : TK E b σ τ1 k s e v := by
  unfold TK at h ⊢
  rw [h0 22 (by decide), h0 24 (by decide), h0 25 (by decide), h0 26 (by decide), h0 27 (by decide)]
  exact h
section NUMS
variable {E : Nat} {b : Nat → Nat} {σ τ : Mem} {k s e v : Nat}
theorem R_num_bad {f : Nat} {x y : Int32} (hf : 0 < f ∧ f < 100) (hb : τ 0 28 = nI f) : m_X11_readNumber τ x y = some (nI 0, τ) := by
  unfold m_X11_readNumber
  simp only [pu_lit]
  rw [hb, if_neg (nz' hf.1 (by omega))]
theorem tk2 (h : TK E b σ τ 2 s e v) : s < e ∧ τ 0 24 = nI 2 ∧ ((e - s ≤ 4 ∧ v ≤ 9999 ∧ σ 3 6 = nI v ∧ τ 0 25 = nI v) ∨ (4 < e - s ∧ v = 10000 ∧ σ 3 6 = -nI 1)) := by
  rcases h.2.2.2.2.2.2.2.2 with q | q | q | q | q
  · omega
  · omega
  · exact ⟨q.2.1, q.2.2.1, q.2.2.2⟩
  · omega
  · exact absurd (isS_lt q.1).2 (by omega)
theorem tkn2 (h : TK E b σ τ k s e v) (hk : k ≠ 2) : ¬ τ 0 24 = nI 2 := by
  rcases h.2.2.2.2.2.2.2.2 with q | q | q | q | q
  · rw [q.2]; decide
  · rw [q.2.2.1]; decide
  · exact absurd q.1 hk
  · rw [q.2.2]; decide
  · rw [q.2.2.1]; decide
/-- one number, both sides -/
theorem NSTEP {t2 m j l t n : Nat} (hT : TP E b σ τ) (h : TK E b σ τ k s e v) (hb : τ 0 28 = nI 0) (hlen : tLen t2 = nI n) (hnum : tNum t2 = n) (hn : n ≤ 4) (hj : j < n) (htv : tv t2 j = nI t) (ht : t ≤ 999) (hl : l ≤ 1) :
    (∃ f, 0 < f ∧ f < 10 ∧ f_X3_readNumbers_9 t2 (nI l) (m + 1) σ (nI j) = some (nI f, σ) ∧ m_X11_readNumber τ (nI l) (nI t) = some (nI 0, ms (ms τ 0 28 (nI f)) 0 29 (τ 0 26))) ∨
    (l ≤ v ∧ v ≤ t ∧ ∃ σ1 τ1 k1 s1 e1 v1, m_X11_readNumber τ (nI l) (nI t) = some (nI v, τ1) ∧ f_X3_readNumbers_9 t2 (nI l) (m + 1) σ (nI j) = f_X3_readNumbers_9 t2 (nI l) m σ1 (nI (j + 1)) ∧ FCt (ms σ 21 j (nI v)) σ1 ∧ FRt τ τ1 ∧ TP E b σ1 τ1 ∧ TK E b σ1 τ1 k1 s1 e1 v1 ∧ s < s1) := by
  have h128 := h.k128
  have w28 : ∀ f, ms (ms τ 0 28 (nI f)) 0 29 (τ 0 26) 0 28 = nI f := fun f => by rw [ms_same, pk_un (by decide), ms_at]
  have hcl : f_X3_readNumbers_9 t2 (nI l) (m + 1) σ (nI j) = if nI k = nI 2 then (if σ 3 6 < nI l then some (nI 2, σ) else if σ 3 6 ≤ nI t then (m_X9_next (ms σ 21 j (σ 3 6))).bind fun q7 => f_X3_readNumbers_9 t2 (nI l) m q7 (nI (j + 1)) else some (nI 2, σ)) else some (nI 1, σ) := by
    rw [f_X3_readNumbers_9, hlen, if_neg (nI_ge hj (by omega))]
    simp only [pu_lit]
    rw [if_neg (nI_ge (by omega) (by omega)), h.2.2.1, hnum, pu_gd (k := j) hj (by omega), nI_clamp (n := j) (by omega), htv, pu_gd (k := j) (n := 4) (by omega) (by decide), ltE, nI_add]
  rw [hcl]
  by_cases k2 : k = 2
  · subst k2
    obtain ⟨hse, h24, hv⟩ := tk2 h
    have hEE := h.2.2.2.2.2.2.2.1
    have hE := hT.1
    rw [if_pos rfl]
    unfold m_X11_readNumber f_X11_readNumber_59
    simp only [pu_lit]
    rw [hb, if_pos rfl, h24, if_pos rfl, show τ 0 27 - τ 0 26 = nI (e - s) by rw [h.2.2.2.2.1, h.2.2.2.1, pk_sub (by omega)]]
    have wr : ((m_X11_wrong τ (nI 2)).bind fun q4 => if q4 0 28 = nI 0 then lt (q4 0 25) fun y4 => if q4 0 28 = nI 0 then (m_X11_stepOn q4).bind fun q6 => some (y4, q6) else some (y4, q4) else if q4 0 28 = nI 0 then (m_X11_stepOn q4).bind fun q3 => some (nI 0, q3) else some (nI 0, q4)) = some (nI 0, ms (ms τ 0 28 (nI 2)) 0 29 (τ 0 26)) := by
      rw [R_wrong hb, sbind, w28, if_neg (show ¬ nI 2 = nI 0 by decide), if_neg (show ¬ nI 2 = nI 0 by decide)]
    rcases hv with ⟨v1, v2, v3, v4⟩ | ⟨v1, v2, v3⟩
    · rw [if_neg (nI_nlt v1 (by omega)), v3, v4]
      by_cases c1 : v < l
      · rw [if_pos (nI_lt c1 (by omega)), if_pos (nI_lt c1 (by omega))]
        exact Or.inl ⟨2, by decide, by decide, rfl, wr⟩
      · rw [if_neg (nI_nlt (by omega) (by omega)), if_neg (nI_nlt (by omega) (by omega))]
        by_cases c2 : v ≤ t
        · rw [if_pos (nI_le c2 (by omega)), if_pos (nI_le c2 (by omega))]
          have F1 : fr [21] σ (ms σ 21 j (nI v)) := fr.rfl.ms (by simp)
          have T1 : TP E b (ms σ 21 j (nI v)) τ := hT.of (F1 3 (by decide)) (F1 4 (by decide)) rfl rfl
          have K1 : TK E b (ms σ 21 j (nI v)) τ 2 s e v := h.of (F1 3 (by decide)) rfl
          obtain ⟨σ2, τ2, k2, s2, e2, v2', g1, g2, g3, g4, g5, g6⟩ := lex T1 hEE K1.2.1 K1.2.2.2.2.2.1
          refine Or.inr ⟨by omega, c2, σ2, τ2, k2, s2, e2, v2', ?_, by rw [g1, sbind], g3, g4, T1.f g3 g4, g6, by omega⟩
          rw [ltE]
          simp only [if_true]
          rw [g2, sbind]
        · rw [if_neg (nI_ge (by omega) (by omega)), if_neg (nI_ge (by omega) (by omega))]
          exact Or.inl ⟨2, by decide, by decide, rfl, wr⟩
    · rw [if_pos (nI_lt v1 (by omega)), v3, if_pos (Int32.lt_of_lt_of_le m1_lt0 (nI_le (by omega) (by omega)))]
      exact Or.inl ⟨2, by decide, by decide, rfl, wr⟩
  · rw [if_neg (show ¬ nI k = nI 2 by rw [nI_eq (by omega) (by omega)]; exact k2)]
    refine Or.inl ⟨1, by decide, by decide, rfl, ?_⟩
    unfold m_X11_readNumber f_X11_readNumber_59
    simp only [pu_lit]
    rw [hb, if_pos rfl, if_neg (tkn2 h k2), R_wrong hb, sbind, w28, if_neg (show ¬ nI 1 = nI 0 by decide), if_neg (show ¬ nI 1 = nI 0 by decide)]
end NUMS
/-- a rule that was read -/
def RU (z N : Nat) (σ τ : Mem) : Prop := σ (14 + 3 * z) 2 = nI N ∧ τ 5 (8 + z) = nI N ∧ N ≤ 700 ∧ (0 < N → dpN (mvz z) (σ (15 + 3 * z)) N 1) ∧ ∀ j, j < N → cr (τ (16 + z) (700 + j)) (σ (15 + 3 * z) j)
section RULE
variable {E : Nat} {b : Nat → Nat} {σ τ : Mem} {k s e v z : Nat}
/-- the line of a rule, behind its word: the class' read against the reference's expression and mark -/
theorem RULE (hz : z ≤ 1) (hT : TP E b σ τ) (h : TK E b σ τ k s e v) (hk : k ≠ 0) (hb : τ 0 28 = nI 0) (hU : RU z 0 σ τ) :
    ∃ τ0, m_X11_stepOn τ = some τ0 ∧ FRt τ τ0 ∧ OK ((m_X11_readExpression 8 (ms (ms τ0 0 31 (nI z)) 0 4 (nI z)) (nI 0)).bind fun q => m_X11_mark q (nI 59)) (fun τ1 =>
      (∃ f σf, 0 < f ∧ f < 10 ∧ m_X5_read (14 + 3 * z) σ (nI (1 - z)) = some (nI f, σf) ∧ CLF σ σf ∧ τ1 0 28 = nI f ∧ τ1 0 29 = σf 3 3 ∧ RF z (ms (ms τ0 0 31 (nI z)) 0 4 (nI z)) τ1) ∨
      (∃ σf σ2 N k2 s2 e2 v2, m_X5_read (14 + 3 * z) σ (nI (1 - z)) = some (nI 0, σf) ∧ σf 3 5 = nI 59 ∧ m_X9_next σf = some σ2 ∧ fr [2, 3, 5, 6, 8, 14 + 3 * z, 15 + 3 * z] σ σf ∧ FCt σf σ2 ∧ σf 3 1 = σ 3 1 ∧ σf 3 2 = σ 3 2 ∧ RF z (ms (ms τ0 0 31 (nI z)) 0 4 (nI z)) τ1 ∧ τ1 0 28 = nI 0 ∧ 0 < N ∧ RU z N σ2 τ1 ∧ TP E b σ2 τ1 ∧ TK E b σ2 τ1 k2 s2 e2 v2 ∧ s < s2)) := by
  have hE := hT.1
  have hse : s < e ∧ e ≤ E := by
    refine ⟨?_, h.2.2.2.2.2.2.2.1⟩
    rcases h.2.2.2.2.2.2.2.2 with q | q | q | q | q
    · exact absurd q.1 hk
    · exact q.2.1
    · exact q.2.1
    · exact q.2.1
    · exact q.2.1
  obtain ⟨u1, u2, u3, u4, u5⟩ := hU
  -- the class begins
  have hbeg : ∃ q, m_X5_begin σ (nI (1 - z)) = some q ∧ CS5 q 1 1 0 0 0 (1 - z) [] [] ∧ fr [2, 5] σ q := by
    unfold m_X5_begin m_X4_clear m_X5_beginNot
    simp only [pu_lit]
    rw [ltE, sbind, gz01 (by rcases (show z = 0 ∨ z = 1 by omega) with rfl | rfl <;> simp), ltE, ltE, ltE, ltE, gz01 (Or.inr rfl), ltE, gz01 (Or.inr rfl), ltE, gz01 (Or.inl rfl), ltE, sbind]
    refine ⟨_, rfl, ⟨?_, ?_, ?_, ?_, ?_, ?_, ⟨?_, fun j hj => absurd hj (by simp)⟩, ?_, trivial⟩, (((((((fr.rfl.ms (by simp)).ms (by simp)).ms (by simp)).ms (by simp)).ms (by simp)).ms (by simp)).ms (by simp)).ms (by simp)⟩
    · rw [ms_same, pk_un (by decide), ms_same, pk_un (by decide), ms_at]
    · rw [ms_same, pk_un (by decide), ms_at]
    · exact ms_at
    · rw [ms_same, pk_un (by decide), ms_same, pk_un (by decide), ms_same, pk_un (by decide), ms_same, pk_un (by decide), ms_at]
    · rw [ms_same, pk_un (by decide), ms_same, pk_un (by decide), ms_same, pk_un (by decide), ms_at]
    · rw [ms_same, pk_un (by decide), ms_same, pk_un (by decide), ms_same, pk_un (by decide), ms_same, pk_un (by decide), ms_same, pk_un (by decide), ms_same, pk_un (by decide), ms_at]
    · rw [ms_ne (by decide), ms_ne (by decide), ms_ne (by decide), ms_ne (by decide), ms_ne (by decide), ms_ne (by decide), ms_ne (by decide), ms_at]; rfl
    · rw [ms_same, pk_un (by decide), ms_same, pk_un (by decide), ms_same, pk_un (by decide), ms_same, pk_un (by decide), ms_same, pk_un (by decide), ms_at]; rfl
  obtain ⟨q, eq, qS, qf⟩ := hbeg
  have q3 : q 3 = σ 3 := qf 3 (by decide)
  have T1 : TP E b q τ := hT.of q3 (qf 4 (by decide)) rfl rfl
  have K1 : TK E b q τ k s e v := h.of q3 rfl
  obtain ⟨σ0, τ0, k0, s0, e0, v0, g1, g2, g3, g4, g5, g6⟩ := lex T1 hse.2 K1.2.1 K1.2.2.2.2.2.1
  have hrd : m_X5_read (14 + 3 * z) σ (nI (1 - z)) = RN (14 + 3 * z) 0 σ0 := by
    unfold m_X5_read
    rw [C_isTold, sbind, u1, if_pos nI_le_self]
    simp only [pu_lit, if_true]
    rw [eq, sbind]
    show f_X5_read_19 (14 + 3 * z) (4095 + 1) q (nI 0) (nI 0) = _
    rw [RD_0 (by omega) g1]
    rfl
  have cf0 : CF σ σ0 := ((CF.of3 (qf.mono (by decide))).trans (CF.ofT g3))
  refine ⟨τ0, g2, g4, ?_⟩
  have T0 := T1.f g3 g4
  have w0 : ∀ j, j ≠ 31 → j ≠ 4 → ms (ms τ0 0 31 (nI z)) 0 4 (nI z) 0 j = τ0 0 j := fun j a b => by rw [ms_same, pk_un b, ms_same, pk_un a]
  have wn : ∀ c, c ≠ 0 → ms (ms τ0 0 31 (nI z)) 0 4 (nI z) c = τ0 c := fun c a => by rw [ms_ne a, ms_ne a]
  have w31 : ms (ms τ0 0 31 (nI z)) 0 4 (nI z) 0 31 = nI z := by rw [ms_same, pk_un (by decide), ms_at]
  have w4 : ms (ms τ0 0 31 (nI z)) 0 4 (nI z) 0 4 = nI z := ms_at
  generalize ms (ms τ0 0 31 (nI z)) 0 4 (nI z) = τ' at w0 wn w31 w4 ⊢
  have rf0 : RF z τ' τ' := RF.rfl
  have hPS : PS E b z 0 0 1 1 0 0 [] [] [] 0 σ0 τ' k0 s0 e0 v0 := by
    refine ⟨T0.of rfl rfl (w0 23 (by decide) (by decide)) (wn 19 (by decide)), g6.sl (fun j hj => w0 j (fun q => by rw [q] at hj; exact absurd hj (by decide)) (fun q => by rw [q] at hj; exact absurd hj (by decide))), qS.t g3, ⟨?_, w31, w4, ?_, fun j hj => absurd hj (by simp)⟩, rfl, by omega, by simp⟩
    · rw [w0 28 (by decide) (by decide), g4.2 28 (by decide)]; exact hb
    · rw [wn 5 (by decide), g4.1 5 (by decide)]; exact u2
  rw [hrd]
  have hX := (EXPR (E := E) (b := b) (o1 := 14 + 3 * z) (z := z) 8 0 (by omega) (by omega) hz).1 0 0 [] [] σ0 τ' k0 s0 e0 v0 hPS (fun a r e => by cases e) (by simp) (by omega)
  rw [ok_bind]
  refine ok_mono hX (fun τ1 hO => ?_)
  rcases hO with ⟨f, σf, p1, p2, p3, p4, p5, p6, p7⟩ | ⟨i3, σ3, p1, p2, p3, mn3, ic3, c3, o3, k3, s3, e3, v3, r1, r2, r3, r4, r5, r6⟩
  · rw [bad_mark (f := f) ⟨p1, by omega⟩ p5, ok_some]
    exact Or.inl ⟨f, σf, p1, p2, p3, CLF.ofF (cf0.trans p4), p5, p6, rf0.trans p7⟩
  · have hb3 := r1.2.2.2.1.1
    have hs3 := r1.s700
    have hl3 := r1.2.2.2.2.2.2
    rw [List.length_nil] at hl3
    have mk3 : m_X11_mark τ1 (nI 59) = if k3 = 59 then m_X11_stepOn τ1 else some (ms (ms τ1 0 28 (nI 1)) 0 29 (τ1 0 26)) := by
      unfold m_X11_mark
      simp only [pu_lit]
      rw [hb3, if_pos rfl, R_mkd r1.1 r1.2.1 hb3 (by decide), sbind]
      by_cases c : k3 = 59
      · rw [decide_eq_true c, if_neg bI_t, if_pos c]
        simp only [if_true]
        cases m_X11_stepOn τ1 <;> rfl
      · rw [decide_eq_false c, if_pos (show bI false = nI 0 by decide), if_neg c, R_wrong hb3, sbind]
        rw [show ms (ms τ1 0 28 (nI 1)) 0 29 (τ1 0 26) 0 28 = nI 1 by rw [ms_same, pk_un (by decide), ms_at], if_neg (show ¬ nI 1 = nI 0 by decide)]
    rw [mk3]
    by_cases c59 : k3 = 59
    · subst c59
      rw [if_pos rfl]
      obtain ⟨hse3, he3, _⟩ := r1.se (by decide)
      -- the class ends its rule
      obtain ⟨w, ew, w1, w2⟩ := C_release (l := 1) (by omega) o3 KF σ3 c3 [] 0 mn3 ic3 0 0 (1 - z) (by unfold KF; omega) r1.2.2.1 r4 (fun a r e => by cases e) (by omega) (by rw [List.length_append, List.length_nil]; omega)
      have hcp : m_X4_copyFrom (14 + 3 * z) 5 w = some (ms (mcp w 6 (15 + 3 * z) (nI 0) (nI 0) (nI 700)) (14 + 3 * z) 2 (nI (c3 ++ o3).length)) := by
        unfold m_X4_copyFrom
        simp only [pu_lit, Nat.reduceAdd]
        rw [show 14 + 3 * z + 1 = 15 + 3 * z by omega, pu_gcp (by decide) (by decide) (by decide) (by decide), ltE, ltE, mcp_ne (by omega), w1.2.2.2.2.2.2.1.1]
      have hRN : RN (14 + 3 * z) i3 σ3 = some (nI 0, ms (mcp w 6 (15 + 3 * z) (nI 0) (nI 0) (nI 700)) (14 + 3 * z) 2 (nI (c3 ++ o3).length)) := by
        unfold RN rdM
        rw [r1.2.2.1.1, if_pos rfl, r1.2.2.1.2.2.2.1, if_pos rfl, r1.2.1.2.2.1, if_pos rfl]
        have ew' : m_X5_release σ3 (nI 1) = some w := ew
        rw [ew', sbind, hcp, sbind]
      generalize hf9 : ms (mcp w 6 (15 + 3 * z) (nI 0) (nI 0) (nI 700)) (14 + 3 * z) 2 (nI (c3 ++ o3).length) = σ9 at hRN
      have f9 : fr [2, 5, 6, 14 + 3 * z, 15 + 3 * z] σ3 σ9 := by
        rw [← hf9]
        exact ((w2.mono (by simp)).trans (fr.mcp fr.rfl (by simp))).ms (by simp)
      have h93 : σ9 3 = σ3 3 := f9 3 (by simp; omega)
      have T9 : TP E b σ9 τ1 := r1.1.of h93 (f9 4 (by simp; omega)) rfl rfl
      have K9 : TK E b σ9 τ1 59 s3 e3 v3 := r1.2.1.of h93 rfl
      obtain ⟨σ5, τ5, k5, s5, e5, v5, t1, t2, t3, t4, t5, t6⟩ := lex T9 he3 K9.2.1 K9.2.2.2.2.2.1
      rw [t2, ok_some]
      have hN0 : 0 < (c3 ++ o3).length := by
        have := r1.2.2.2.2.1
        rcases Nat.eq_zero_or_pos (c3 ++ o3).length with q | q
        · unfold dpL at this
          rw [q] at this
          have : 0 + 1 = 0 := this
          omega
        · exact q
      have h6 : ∀ j, j < (c3 ++ o3).length → σ9 (15 + 3 * z) j = (c3 ++ o3).getD j 0 := fun j hj => by
        have hj7 : j < 700 := by rw [List.length_append] at hj; omega
        rw [← hf9, ms_ne (by omega), mcp_same, nI_clamp (by decide), nI_clamp (by decide), pk_cpy_in (by omega) (by omega)]
        show w 6 (0 + (j - 0)) = _
        rw [Nat.zero_add, Nat.sub_zero]
        exact w1.2.2.2.2.2.2.1.2 j hj
      have c13 : CF σ σ3 := cf0.trans p2
      refine Or.inr ⟨σ9, σ5, (c3 ++ o3).length, k5, s5, e5, v5, p1.trans hRN, by rw [h93]; exact r1.2.1.2.2.1, t1, ?_, t3, by rw [h93]; exact c13.2.1, by rw [h93]; exact c13.2.2, (rf0.trans p3).trans (RF.ofT t4), ?_, hN0, ⟨?_, ?_, ?_, fun _ => ?_, fun j hj => ?_⟩, T9.f t3 t4, t6, by omega⟩
      · exact (c13.1.mono (by simp)).trans (f9.mono (by simp))
      · rw [t4.2 28 (by decide)]; exact hb3
      · rw [t3.1 (14 + 3 * z) (by simp; omega), ← hf9, ms_at]
      · rw [t4.1 5 (by decide)]; exact r1.2.2.2.1.2.2.2.1
      · rw [List.length_append]; omega
      · have := r1.2.2.2.2.1
        refine dp_congr (fun j hj => ?_) this
        rw [t3.1 (15 + 3 * z) (by simp; omega)]
        exact (h6 j hj).symm
      · rw [t3.1 (15 + 3 * z) (by simp; omega), t4.1 (16 + z) (by simp), h6 j hj]
        exact r1.2.2.2.1.2.2.2.2 j hj
    · rw [if_neg c59, ok_some]
      have hbad := C_op_bad r1.1 r1.2.1 r1.2.2.1 (by omega) (r6.imp (fun y => ⟨y, fun x => absurd x.2 (by omega)⟩) id)
      have h128 := r1.2.1.k128
      have hne' : ¬ (σ3 2 8 = nI 0 ∧ σ3 3 5 = nI 59) := fun y => by
        have := y.2
        rw [r1.2.1.2.2.1, nI_eq (by omega) (by omega)] at this
        exact c59 this
      refine Or.inl ⟨1, σ3, by decide, by decide, p1.trans (RD_opF r1.2.2.1.1 hne' hbad (by decide) (by have := r1.2.2.2.2.2.1; omega)), CLF.ofF (cf0.trans p2), ?_, ?_, (rf0.trans p3).trans RF.wrong⟩
      · rw [ms_same, pk_un (by decide), ms_at]
      · rw [ms_at, r1.2.1.2.2.2.1, r1.2.1.1]
end RULE

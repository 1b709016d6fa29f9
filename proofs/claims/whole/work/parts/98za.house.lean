/-! the line of a house, the line of a tenant -/
section LINES2
variable {E : Nat} {b : Nat → Nat} {σ τ : Mem} {k s e v h t N1 N2 dn : Nat}
theorem HOUSE {i : Nat} (hi : i ≤ 1) (hT : TP E b σ τ) (hK : TK E b σ τ k s e v) (hk : k ≠ 0) (hb : τ 0 28 = nI 0) (hP : PLR h t N1 N2 dn σ τ) (hw : WD b k s e 11 = decide (i = 1)) : ∃ h', OK ((m_X11_sayHouse τ (nI i)).bind fun q => m_X11_mark q (nI 59)) (LO E b s h' t N1 N2 dn σ τ (m_X3_readHouse σ)) := by
  obtain ⟨hse, he⟩ := hK.se hk
  obtain ⟨⟨a1, a2, a3, a4, a5, a6, a7, a8, a9, a10, a11, a12, a13⟩, H2, H3, H4⟩ := hP
  by_cases c8 : h = 8
  · refine ⟨8, ?_⟩
    subst c8
    have e28 : ms (ms τ 0 28 (nI 2)) 0 29 (τ 0 26) 0 28 = nI 2 := by rw [ms_same, pk_un (by decide), ms_at]
    have hcl : m_X3_readHouse σ = some (nI 2, σ) := by
      unfold m_X3_readHouse
      simp only [pu_lit]
      rw [ltE, a3, if_neg (show ¬ nI 8 < nI 8 by decide)]
    rw [hcl]
    unfold m_X11_sayHouse
    simp only [pu_lit]
    rw [R_another (a := 0) (i := 8) (by decide) (by decide) (by decide) a4 hb, if_pos rfl, sbind]
    dsimp only
    rw [if_pos rfl, sbind, bad_mark (f := 2) ⟨by decide, by decide⟩ e28, ok_some]
    exact Or.inl ⟨2, σ, by decide, by decide, Or.inl rfl, CLF.rfl, (RLF.rfl.put0 (by decide)).put0 (by decide), e28, by rw [ms_at, hK.2.2.2.1, hK.1]⟩
  have hh : h < 8 := by omega
  refine ⟨h + 1, ?_⟩
  have F1 : fr [9, 11] σ (ms (ms σ 9 0 (nI (h + 1))) 11 h (nI i)) := (fr.rfl.ms (by decide)).ms (by decide)
  have T1 : TP E b (ms (ms σ 9 0 (nI (h + 1))) 11 h (nI i)) τ := hT.of (F1 3 (by decide)) (F1 4 (by decide)) rfl rfl
  have K1 : TK E b (ms (ms σ 9 0 (nI (h + 1))) 11 h (nI i)) τ k s e v := hK.of (F1 3 (by decide)) rfl
  obtain ⟨σ0, τ0, k0, s0, e0, v0, g1, g2, g3, g4, g5, g6⟩ := lex T1 he K1.2.1 K1.2.2.2.2.2.1
  have hcl : m_X3_readHouse σ = (f_X3_readNumbers_9 0 (nI 0) KF σ0 (nI 0)).bind fun q => some (q.1, WHn h q.2) := by
    have T0 : TP E b (ms σ 9 0 (nI (h + 1))) τ := hT.of (ms_ne (by decide)) (ms_ne (by decide)) rfl rfl
    have K0 : TK E b (ms σ 9 0 (nI (h + 1))) τ k s e v := hK.of (ms_ne (by decide)) rfl
    have r : ∀ x, x = nI i → f_X3_readHouse_54 (ms σ 9 0 (nI (h + 1))) (nI h) (nI h) x = (f_X3_readNumbers_9 0 (nI 0) KF σ0 (nI 0)).bind fun q => some (q.1, WHn h q.2) := fun x hx => by
      rw [hx, C_house54 hh]
      unfold m_X3_readNumbers
      rw [g1, sbind]; rfl
    unfold m_X3_readHouse
    simp only [pu_lit]
    rw [ltE, a3, if_pos (nI_lt hh (by decide)), nI_add, ltE, C_isWord T0 K0, sbind, ite_bI, hw]
    by_cases d : i = 1
    · rw [decide_eq_true d, if_pos rfl]; exact r _ (by rw [d])
    · rw [decide_eq_false d, if_neg (by decide)]; exact r _ (by rw [show i = 0 by omega])
  rw [R_sayHouse hh a4 hb g2 (g4.1 5 (by decide)), hcl, ok_bind, ok_bind]
  have e0' : ms τ0 7 (8 + h) (nI i) 0 = τ0 0 := ms_ne (by decide)
  have T2 : TP E b σ0 (ms τ0 7 (8 + h) (nI i)) := (T1.f g3 g4).of rfl rfl (by rw [e0']) (ms_ne (by decide))
  have K2 : TK E b σ0 (ms τ0 7 (8 + h) (nI i)) k0 s0 e0 v0 := g6.of rfl e0'
  have b2 : ms τ0 7 (8 + h) (nI i) 0 28 = nI 0 := by rw [e0', g4.2 28 (by decide)]; exact hb
  have L2 : RLF τ (ms τ0 7 (8 + h) (nI i)) := (RLF.ofT g4).put (by decide) (Nat.le_add_right 8 h)
  have C2 : CLF σ σ0 := (CLF.of F1 (by decide)).trans (CLF.ofT g3)
  have hx : ∀ x, x ∈ hsR4 → x.2 ≤ 999 ∧ (5 ≤ x.1 ∧ x.1 ≤ 17) ∧ lo x.1 ≤ 8 := by decide
  refine ok_mono (NS (n := 4) (t2 := 0) (by decide) (by decide) (by decide) (by decide) hsR4 0 KF σ0 _ k0 s0 e0 v0 T2 K2 b2 (by decide) (by decide) (by decide) (fun x q => ⟨(hx x q).1, (hx x q).2.1, Nat.le_trans (hx x q).2.2 (Nat.le_add_right 8 h)⟩) (by decide)) (fun τ1 hO => ?_)
  rw [ok_some]
  have n0 : ms τ1 5 5 (τ1 5 5 + nI 1) 0 = τ1 0 := ms_ne (by decide)
  have L3 : ∀ τ2 : Mem, RLF τ2 (ms τ2 5 5 (τ2 5 5 + nI 1)) := fun τ2 => RLF.rfl.put (by decide) (by decide)
  have W3 : ∀ σ2 : Mem, CLF σ2 (WHn h σ2) ∧ WHn h σ2 3 = σ2 3 ∧ WHn h σ2 4 = σ2 4 := fun σ2 => ⟨(((CLF.rfl.put ⟨by decide, by decide⟩).put ⟨by decide, by decide⟩).put ⟨by decide, by decide⟩).put ⟨by decide, by decide⟩, by unfold WHn; rw [ms_ne (by decide), ms_ne (by decide), ms_ne (by decide), ms_ne (by decide)], by unfold WHn; rw [ms_ne (by decide), ms_ne (by decide), ms_ne (by decide), ms_ne (by decide)]⟩
  rcases hO with ⟨f, σf, p1, p2, p3, p4, p5, p6, p7⟩ | ⟨σf, k2, s2, e2, v2, p1, p2, p3, p4, p5, p6, p7, p8, p9, p10, p11⟩
  · rw [p3, sbind, bad_mark (f := f) ⟨p1, by omega⟩ (by rw [n0]; exact p6), ok_some]
    exact Or.inl ⟨f, WHn h σf, p1, p2, Or.inl rfl, (C2.trans p4).trans (W3 σf).1, (L2.trans p5).trans (L3 τ1), by rw [n0]; exact p6, by rw [n0, (W3 σf).2.1]; exact p7⟩
  · rw [p1, sbind]
    obtain ⟨w0, -, l0, x0, y0⟩ := p7 0 (by decide)
    obtain ⟨w1, -, l1, x1, y1⟩ := p7 1 (by decide)
    obtain ⟨w2, -, l2, x2, y2⟩ := p7 2 (by decide)
    obtain ⟨w3, -, l3, x3, y3⟩ := p7 3 (by decide)
    have x0 : σf 21 0 = nI w0 := x0
    have x1 : σf 21 1 = nI w1 := x1
    have x2 : σf 21 2 = nI w2 := x2
    have x3 : σf 21 3 = nI w3 := x3
    have y0 : τ1 6 (8 + h) = nI w0 := y0
    have y1 : τ1 8 (8 + h) = nI w1 := y1
    have y2 : τ1 9 (8 + h) = nI w2 := y2
    have y3 : τ1 10 (8 + h) = nI w3 := y3
    have l0 : w0 ≤ 99 := l0
    have l1 : w1 ≤ 60 := l1
    have l2 : w2 ≤ 9 := l2
    have l3 : w3 ≤ 5 := l3
    have cf : ∀ c, c ≠ 3 → c ≠ 21 → σf c = ms (ms σ 9 0 (nI (h + 1))) 11 h (nI i) c := fun c q1 q2 => by rw [p2 c (by simp; exact ⟨q1, q2⟩), g3.1 c (by simp; exact q1)]
    have t5 : τ1 5 = τ 5 := by rw [p6.1 5 (by decide), ms_ne (by decide), g4.1 5 (by decide)]
    refine TAIL rfl (p8.of (W3 σf).2.1 (W3 σf).2.2 (by rw [n0]) (ms_ne (by decide))) (p9.of (W3 σf).2.1 n0) (by rw [n0, p6.2.1 28 (by decide)]; exact b2) ?_ ((C2.trans ⟨p2.mono (by decide), p3, p4⟩).trans (W3 σf).1) ((L2.trans p11).trans (L3 τ1)) (by omega)
    have tF : ∀ c, c ∉ [0, 5, 7, 6, 8, 9, 10] → ms τ1 5 5 (τ1 5 5 + nI 1) c = τ c := fun c hc => by
      simp at hc
      rw [ms_ne (by omega), p6.1 c (by simp [hsR4]; omega), ms_ne (by omega), g4.1 c (by simp; omega)]
    have tJ : ∀ c, c ∈ [7, 6, 8, 9, 10] → ∀ j, j ≠ 8 + h → ms τ1 5 5 (τ1 5 5 + nI 1) c j = τ c j := fun c hc j hj => by
      simp at hc
      rw [ms_ne (by omega), p6.2.2 c (by omega) j hj]
      by_cases d : c = 7
      · subst d; rw [ms_same, pk_un hj, g4.1 _ (by decide)]
      · rw [ms_ne d, g4.1 c (by simp; omega)]
    have tB : ms τ1 5 5 (τ1 5 5 + nI 1) 7 (8 + h) = nI i := by rw [ms_ne (by decide), p6.1 7 (by decide), ms_at]
    have t0 : ms τ1 5 5 (τ1 5 5 + nI 1) 6 (8 + h) = nI w0 := by rw [ms_ne (by decide)]; exact y0
    have t1 : ms τ1 5 5 (τ1 5 5 + nI 1) 8 (8 + h) = nI w1 := by rw [ms_ne (by decide)]; exact y1
    have t2 : ms τ1 5 5 (τ1 5 5 + nI 1) 9 (8 + h) = nI w2 := by rw [ms_ne (by decide)]; exact y2
    have t3 : ms τ1 5 5 (τ1 5 5 + nI 1) 10 (8 + h) = nI w3 := by rw [ms_ne (by decide)]; exact y3
    have t5' : ms τ1 5 5 (τ1 5 5 + nI 1) 5 = upd (τ 5) 5 (nI (h + 1)) := by rw [ms_same, t5, a4, nI_add]
    have sF : ∀ c, c ∉ [3, 9, 10, 11, 20, 21] → WHn h σf c = σ c := fun c hc => by
      simp at hc
      unfold WHn
      rw [ms_ne (by omega), ms_ne (by omega), ms_ne (by omega), ms_ne (by omega), cf c (by omega) (by omega), ms_ne (by omega), ms_ne (by omega)]
    have s9 : WHn h σf 9 = upd (σ 9) 0 (nI (h + 1)) := by
      unfold WHn
      rw [ms_ne (by decide), ms_ne (by decide), ms_ne (by decide), ms_ne (by decide), cf 9 (by decide) (by decide), ms_ne (by decide), ms_same]
    have sB : WHn h σf 11 = upd (σ 11) h (nI i) := by
      unfold WHn
      rw [ms_ne (by decide), ms_ne (by decide), ms_ne (by decide), ms_ne (by decide), cf 11 (by decide) (by decide), ms_same, ms_ne (by decide)]
    have sX : WHn h σf 10 = upd (σ 10) h (nI w0) := by
      unfold WHn
      rw [ms_ne (by decide), ms_ne (by decide), ms_ne (by decide), ms_same, x0, cf 10 (by decide) (by decide), ms_ne (by decide), ms_ne (by decide)]
    have s20 : WHn h σf 20 = upd (upd (upd (σ 20) h (nI w1)) (8 + h) (nI w2)) (16 + h) (nI w3) := by
      unfold WHn
      rw [ms_same, ms_same, ms_same, ms_ne (by decide), x1, x2, x3, cf 20 (by decide) (by decide), ms_ne (by decide), ms_ne (by decide)]
    have e20 : ∀ j, j ≠ h → j ≠ 8 + h → j ≠ 16 + h → WHn h σf 20 j = σ 20 j := fun j q1 q2 q3 => by rw [s20, pk_un q3, pk_un q2, pk_un q1]
    generalize WHn h σf = σF at sF s9 sB sX s20 e20 ⊢
    generalize ms τ1 5 5 (τ1 5 5 + nI 1) = τF at tF tJ tB t0 t1 t2 t3 t5' ⊢
    refine ⟨⟨by omega, a2, ?_, ?_, ?_, ?_, ?_, a8, ?_, a10, a11, ?_, ?_⟩, fun j hj => ?_, fun j hj => ?_, fun j hj => ?_⟩
    · rw [s9, pk_us]
    · rw [t5', pk_us]
    · rw [s9, pk_un (by decide)]; exact a5
    · rw [t5', pk_un (by decide)]; exact a6
    · rw [s9, t5', pk_un (by decide), pk_un (by decide)]; exact a7
    · rw [sF 1 (by decide)]; exact a9
    · exact a12.keep (sF _ (by decide)) (sF _ (by decide)) (by rw [t5', pk_un (by decide)]) (tF _ (by decide))
    · exact a13.keep (sF _ (by decide)) (sF _ (by decide)) (by rw [t5', pk_un (by decide)]) (tF _ (by decide))
    · by_cases d : j = h
      · subst d
        exact ⟨by rw [sX, pk_us, t0], by rw [sB, pk_us, tB], ⟨w1, l1, t1, by rw [s20, pk_un (by omega), pk_un (by omega), pk_us]⟩, by rw [s20, pk_un (by omega), pk_us, t2], w3, l3, t3, by rw [s20, pk_us]⟩
      · have := H2 j (by omega)
        rw [sX, pk_un d, sB, pk_un d, e20 j (by omega) (by omega) (by omega), e20 (8 + j) (by omega) (by omega) (by omega), e20 (16 + j) (by omega) (by omega) (by omega), tJ 6 (by decide) _ (by omega), tJ 7 (by decide) _ (by omega), tJ 8 (by decide) _ (by omega), tJ 9 (by decide) _ (by omega), tJ 10 (by decide) _ (by omega)]
        exact this
    · have := H3 j hj
      rw [sF 12 (by decide), sF 13 (by decide), e20 (40 + j) (by omega) (by omega) (by omega), e20 (47 + j) (by omega) (by omega) (by omega), e20 (54 + j) (by omega) (by omega) (by omega), tF 11 (by decide), tF 12 (by decide), tF 13 (by decide), tF 14 (by decide), tF 15 (by decide)]
      exact this
    · rcases H4 j hj with q | q
      · exact Or.inl (by omega)
      · by_cases d : j = h ∨ j = 8 + h ∨ j = 16 + h
        · exact Or.inl (by omega)
        · rw [e20 j (by omega) (by omega) (by omega)]
          exact Or.inr q
theorem TENANT {i : Nat} (hi : i ≤ 1) (hT : TP E b σ τ) (hK : TK E b σ τ k s e v) (hk : k ≠ 0) (hb : τ 0 28 = nI 0) (hP : PLR h t N1 N2 dn σ τ) (hw : WD b k s e 13 = decide (i = 1)) : ∃ t', OK ((m_X11_sayTenant τ (nI i)).bind fun q => m_X11_mark q (nI 59)) (LO E b s h t' N1 N2 dn σ τ (m_X3_readTenant σ)) := by
  obtain ⟨hse, he⟩ := hK.se hk
  obtain ⟨⟨a1, a2, a3, a4, a5, a6, a7, a8, a9, a10, a11, a12, a13⟩, H2, H3, H4⟩ := hP
  by_cases c8 : t = 7
  · refine ⟨7, ?_⟩
    subst c8
    have e28 : ms (ms τ 0 28 (nI 2)) 0 29 (τ 0 26) 0 28 = nI 2 := by rw [ms_same, pk_un (by decide), ms_at]
    have hcl : m_X3_readTenant σ = some (nI 2, σ) := by
      unfold m_X3_readTenant
      simp only [pu_lit]
      rw [ltE, a5, if_neg (show ¬ nI 7 < nI 7 by decide)]
    rw [hcl]
    unfold m_X11_sayTenant
    simp only [pu_lit]
    rw [R_another (a := 1) (i := 7) (by decide) (by decide) (by decide) a6 hb, if_pos rfl, sbind]
    dsimp only
    rw [if_pos rfl, sbind, bad_mark (f := 2) ⟨by decide, by decide⟩ e28, ok_some]
    exact Or.inl ⟨2, σ, by decide, by decide, Or.inl rfl, CLF.rfl, (RLF.rfl.put0 (by decide)).put0 (by decide), e28, by rw [ms_at, hK.2.2.2.1, hK.1]⟩
  have hh : t < 7 := by omega
  refine ⟨t + 1, ?_⟩
  have F1 : fr [9, 13] σ (ms (ms σ 9 1 (nI (t + 1))) 13 t (nI i)) := (fr.rfl.ms (by decide)).ms (by decide)
  have T1 : TP E b (ms (ms σ 9 1 (nI (t + 1))) 13 t (nI i)) τ := hT.of (F1 3 (by decide)) (F1 4 (by decide)) rfl rfl
  have K1 : TK E b (ms (ms σ 9 1 (nI (t + 1))) 13 t (nI i)) τ k s e v := hK.of (F1 3 (by decide)) rfl
  obtain ⟨σ0, τ0, k0, s0, e0, v0, g1, g2, g3, g4, g5, g6⟩ := lex T1 he K1.2.1 K1.2.2.2.2.2.1
  have hcl : m_X3_readTenant σ = (f_X3_readNumbers_9 1 (nI 0) KF σ0 (nI 0)).bind fun q => some (q.1, WTn t q.2) := by
    have T0 : TP E b (ms σ 9 1 (nI (t + 1))) τ := hT.of (ms_ne (by decide)) (ms_ne (by decide)) rfl rfl
    have K0 : TK E b (ms σ 9 1 (nI (t + 1))) τ k s e v := hK.of (ms_ne (by decide)) rfl
    have r : ∀ x, x = nI i → f_X3_readTenant_54 (ms σ 9 1 (nI (t + 1))) (nI t) (nI t) x = (f_X3_readNumbers_9 1 (nI 0) KF σ0 (nI 0)).bind fun q => some (q.1, WTn t q.2) := fun x hx => by
      rw [hx, C_tenant54 hh]
      unfold m_X3_readNumbers
      rw [g1, sbind]; rfl
    unfold m_X3_readTenant
    simp only [pu_lit]
    rw [ltE, a5, if_pos (nI_lt hh (by decide)), nI_add, ltE, C_isWord T0 K0, sbind, ite_bI, hw]
    by_cases d : i = 1
    · rw [decide_eq_true d, if_pos rfl]; exact r _ (by rw [d])
    · rw [decide_eq_false d, if_neg (by decide)]; exact r _ (by rw [show i = 0 by omega])
  rw [R_sayTenant hh a6 hb g2 (g4.1 5 (by decide)), hcl, ok_bind, ok_bind]
  have e0' : ms τ0 11 (7 + t) (nI i) 0 = τ0 0 := ms_ne (by decide)
  have T2 : TP E b σ0 (ms τ0 11 (7 + t) (nI i)) := (T1.f g3 g4).of rfl rfl (by rw [e0']) (ms_ne (by decide))
  have K2 : TK E b σ0 (ms τ0 11 (7 + t) (nI i)) k0 s0 e0 v0 := g6.of rfl e0'
  have b2 : ms τ0 11 (7 + t) (nI i) 0 28 = nI 0 := by rw [e0', g4.2 28 (by decide)]; exact hb
  have L2 : RLF τ (ms τ0 11 (7 + t) (nI i)) := (RLF.ofT g4).put (by decide) (Nat.le_add_right 7 t)
  have C2 : CLF σ σ0 := (CLF.of F1 (by decide)).trans (CLF.ofT g3)
  have hx : ∀ x, x ∈ tnR4 → x.2 ≤ 999 ∧ (5 ≤ x.1 ∧ x.1 ≤ 17) ∧ lo x.1 ≤ 7 := by decide
  refine ok_mono (NS (n := 4) (t2 := 1) (by decide) (by decide) (by decide) (by decide) tnR4 0 KF σ0 _ k0 s0 e0 v0 T2 K2 b2 (by decide) (by decide) (by decide) (fun x q => ⟨(hx x q).1, (hx x q).2.1, Nat.le_trans (hx x q).2.2 (Nat.le_add_right 7 t)⟩) (by decide)) (fun τ1 hO => ?_)
  rw [ok_some]
  have n0 : ms τ1 5 6 (τ1 5 6 + nI 1) 0 = τ1 0 := ms_ne (by decide)
  have L3 : ∀ τ2 : Mem, RLF τ2 (ms τ2 5 6 (τ2 5 6 + nI 1)) := fun τ2 => RLF.rfl.put (by decide) (by decide)
  have W3 : ∀ σ2 : Mem, CLF σ2 (WTn t σ2) ∧ WTn t σ2 3 = σ2 3 ∧ WTn t σ2 4 = σ2 4 := fun σ2 => ⟨(((CLF.rfl.put ⟨by decide, by decide⟩).put ⟨by decide, by decide⟩).put ⟨by decide, by decide⟩).put ⟨by decide, by decide⟩, by unfold WTn; rw [ms_ne (by decide), ms_ne (by decide), ms_ne (by decide), ms_ne (by decide)], by unfold WTn; rw [ms_ne (by decide), ms_ne (by decide), ms_ne (by decide), ms_ne (by decide)]⟩
  rcases hO with ⟨f, σf, p1, p2, p3, p4, p5, p6, p7⟩ | ⟨σf, k2, s2, e2, v2, p1, p2, p3, p4, p5, p6, p7, p8, p9, p10, p11⟩
  · rw [p3, sbind, bad_mark (f := f) ⟨p1, by omega⟩ (by rw [n0]; exact p6), ok_some]
    exact Or.inl ⟨f, WTn t σf, p1, p2, Or.inl rfl, (C2.trans p4).trans (W3 σf).1, (L2.trans p5).trans (L3 τ1), by rw [n0]; exact p6, by rw [n0, (W3 σf).2.1]; exact p7⟩
  · rw [p1, sbind]
    obtain ⟨w0, -, l0, x0, y0⟩ := p7 0 (by decide)
    obtain ⟨w1, -, l1, x1, y1⟩ := p7 1 (by decide)
    obtain ⟨w2, -, l2, x2, y2⟩ := p7 2 (by decide)
    obtain ⟨w3, -, l3, x3, y3⟩ := p7 3 (by decide)
    have x0 : σf 21 0 = nI w0 := x0
    have x1 : σf 21 1 = nI w1 := x1
    have x2 : σf 21 2 = nI w2 := x2
    have x3 : σf 21 3 = nI w3 := x3
    have y0 : τ1 13 (7 + t) = nI w0 := y0
    have y1 : τ1 12 (7 + t) = nI w1 := y1
    have y2 : τ1 14 (7 + t) = nI w2 := y2
    have y3 : τ1 15 (7 + t) = nI w3 := y3
    have l0 : w0 ≤ 20 := l0
    have l1 : w1 ≤ 9 := l1
    have l2 : w2 ≤ 3 := l2
    have l3 : w3 ≤ 999 := l3
    have cf : ∀ c, c ≠ 3 → c ≠ 21 → σf c = ms (ms σ 9 1 (nI (t + 1))) 13 t (nI i) c := fun c q1 q2 => by rw [p2 c (by simp; exact ⟨q1, q2⟩), g3.1 c (by simp; exact q1)]
    have t5 : τ1 5 = τ 5 := by rw [p6.1 5 (by decide), ms_ne (by decide), g4.1 5 (by decide)]
    refine TAIL rfl (p8.of (W3 σf).2.1 (W3 σf).2.2 (by rw [n0]) (ms_ne (by decide))) (p9.of (W3 σf).2.1 n0) (by rw [n0, p6.2.1 28 (by decide)]; exact b2) ?_ ((C2.trans ⟨p2.mono (by decide), p3, p4⟩).trans (W3 σf).1) ((L2.trans p11).trans (L3 τ1)) (by omega)
    have tF : ∀ c, c ∉ [0, 5, 11, 13, 12, 14, 15] → ms τ1 5 6 (τ1 5 6 + nI 1) c = τ c := fun c hc => by
      simp at hc
      rw [ms_ne (by omega), p6.1 c (by simp [tnR4]; omega), ms_ne (by omega), g4.1 c (by simp; omega)]
    have tJ : ∀ c, c ∈ [11, 13, 12, 14, 15] → ∀ j, j ≠ 7 + t → ms τ1 5 6 (τ1 5 6 + nI 1) c j = τ c j := fun c hc j hj => by
      simp at hc
      rw [ms_ne (by omega), p6.2.2 c (by omega) j hj]
      by_cases d : c = 11
      · subst d; rw [ms_same, pk_un hj, g4.1 _ (by decide)]
      · rw [ms_ne d, g4.1 c (by simp; omega)]
    have tB : ms τ1 5 6 (τ1 5 6 + nI 1) 11 (7 + t) = nI i := by rw [ms_ne (by decide), p6.1 11 (by decide), ms_at]
    have t0 : ms τ1 5 6 (τ1 5 6 + nI 1) 13 (7 + t) = nI w0 := by rw [ms_ne (by decide)]; exact y0
    have t1 : ms τ1 5 6 (τ1 5 6 + nI 1) 12 (7 + t) = nI w1 := by rw [ms_ne (by decide)]; exact y1
    have t2 : ms τ1 5 6 (τ1 5 6 + nI 1) 14 (7 + t) = nI w2 := by rw [ms_ne (by decide)]; exact y2
    have t3 : ms τ1 5 6 (τ1 5 6 + nI 1) 15 (7 + t) = nI w3 := by rw [ms_ne (by decide)]; exact y3
    have t5' : ms τ1 5 6 (τ1 5 6 + nI 1) 5 = upd (τ 5) 6 (nI (t + 1)) := by rw [ms_same, t5, a6, nI_add]
    have sF : ∀ c, c ∉ [3, 9, 12, 13, 20, 21] → WTn t σf c = σ c := fun c hc => by
      simp at hc
      unfold WTn
      rw [ms_ne (by omega), ms_ne (by omega), ms_ne (by omega), ms_ne (by omega), cf c (by omega) (by omega), ms_ne (by omega), ms_ne (by omega)]
    have s9 : WTn t σf 9 = upd (σ 9) 1 (nI (t + 1)) := by
      unfold WTn
      rw [ms_ne (by decide), ms_ne (by decide), ms_ne (by decide), ms_ne (by decide), cf 9 (by decide) (by decide), ms_ne (by decide), ms_same]
    have sB : WTn t σf 13 = upd (σ 13) t (nI i) := by
      unfold WTn
      rw [ms_ne (by decide), ms_ne (by decide), ms_ne (by decide), ms_ne (by decide), cf 13 (by decide) (by decide), ms_same, ms_ne (by decide)]
    have sX : WTn t σf 12 = upd (σ 12) t (nI w1) := by
      unfold WTn
      rw [ms_ne (by decide), ms_ne (by decide), ms_same, ms_ne (by decide), x1, cf 12 (by decide) (by decide), ms_ne (by decide), ms_ne (by decide)]
    have s20 : WTn t σf 20 = upd (upd (upd (σ 20) (40 + t) (nI w0)) (47 + t) (nI w2)) (54 + t) (nI w3) := by
      unfold WTn
      rw [ms_same, ms_same, ms_ne (by decide), ms_same, x0, x2, x3, cf 20 (by decide) (by decide), ms_ne (by decide), ms_ne (by decide)]
    have e20 : ∀ j, j ≠ 40 + t → j ≠ 47 + t → j ≠ 54 + t → WTn t σf 20 j = σ 20 j := fun j q1 q2 q3 => by rw [s20, pk_un q3, pk_un q2, pk_un q1]
    generalize WTn t σf = σF at sF s9 sB sX s20 e20 ⊢
    generalize ms τ1 5 6 (τ1 5 6 + nI 1) = τF at tF tJ tB t0 t1 t2 t3 t5' ⊢
    refine ⟨⟨a1, by omega, ?_, ?_, ?_, ?_, ?_, a8, ?_, a10, a11, ?_, ?_⟩, fun j hj => ?_, fun j hj => ?_, fun j hj => ?_⟩
    · rw [s9, pk_un (by decide)]; exact a3
    · rw [t5', pk_un (by decide)]; exact a4
    · rw [s9, pk_us]
    · rw [t5', pk_us]
    · rw [s9, t5', pk_un (by decide), pk_un (by decide)]; exact a7
    · rw [sF 1 (by decide)]; exact a9
    · exact a12.keep (sF _ (by decide)) (sF _ (by decide)) (by rw [t5', pk_un (by decide)]) (tF _ (by decide))
    · exact a13.keep (sF _ (by decide)) (sF _ (by decide)) (by rw [t5', pk_un (by decide)]) (tF _ (by decide))
    · have := H2 j hj
      rw [sF 10 (by decide), sF 11 (by decide), e20 j (by omega) (by omega) (by omega), e20 (8 + j) (by omega) (by omega) (by omega), e20 (16 + j) (by omega) (by omega) (by omega), tF 6 (by decide), tF 7 (by decide), tF 8 (by decide), tF 9 (by decide), tF 10 (by decide)]
      exact this
    · by_cases d : j = t
      · subst d
        exact ⟨by rw [tB]; rcases (show i = 0 ∨ i = 1 by omega) with q | q <;> rw [q] <;> simp, by rw [sB, pk_us, tB], by rw [sX, pk_us, t1], by rw [s20, pk_un (by omega), pk_un (by omega), pk_us, t0], by rw [s20, pk_un (by omega), pk_us, t2], by rw [s20, pk_us, t3]⟩
      · have := H3 j (by omega)
        rw [sX, pk_un d, sB, pk_un d, e20 (40 + j) (by omega) (by omega) (by omega), e20 (47 + j) (by omega) (by omega) (by omega), e20 (54 + j) (by omega) (by omega) (by omega), tJ 11 (by decide) _ (by omega), tJ 12 (by decide) _ (by omega), tJ 13 (by decide) _ (by omega), tJ 14 (by decide) _ (by omega), tJ 15 (by decide) _ (by omega)]
        exact this
    · rcases H4 j hj with q | q
      · exact Or.inl (by omega)
      · by_cases d : j = 40 + t ∨ j = 47 + t ∨ j = 54 + t
        · exact Or.inl (by omega)
        · rw [e20 j (by omega) (by omega) (by omega)]
          exact Or.inr q
end LINES2

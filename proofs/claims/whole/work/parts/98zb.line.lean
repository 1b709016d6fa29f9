/-! any line of a terrace -/
theorem bt1 : ∀ d, d < 8 → (d % 2 = 0 → nI 1 &&& nI d = nI 0 ∧ nI d ||| nI 1 = nI (d + 1) ∧ (d + 1) % 2 = 1 ∧ (d + 1) / 2 % 2 = d / 2 % 2 ∧ (d + 1) / 4 % 2 = d / 4 % 2 ∧ d + 1 < 8) ∧ (¬ d % 2 = 0 → ¬ nI 1 &&& nI d = nI 0) := by decide +kernel
theorem bt2 : ∀ d, d < 8 → (d / 2 % 2 = 0 → nI 2 &&& nI d = nI 0 ∧ nI d ||| nI 2 = nI (d + 2) ∧ (d + 2) % 2 = d % 2 ∧ (d + 2) / 2 % 2 = 1 ∧ (d + 2) / 4 % 2 = d / 4 % 2 ∧ d + 2 < 8) ∧ (¬ d / 2 % 2 = 0 → ¬ nI 2 &&& nI d = nI 0) := by decide +kernel
theorem bt4 : ∀ d, d < 8 → (d / 4 % 2 = 0 → nI 4 &&& nI d = nI 0 ∧ nI d ||| nI 4 = nI (d + 4) ∧ (d + 4) % 2 = d % 2 ∧ (d + 4) / 2 % 2 = d / 2 % 2 ∧ (d + 4) / 4 % 2 = 1 ∧ d + 4 < 8) ∧ (¬ d / 4 % 2 = 0 → ¬ nI 4 &&& nI d = nI 0) := by decide +kernel
theorem bt0 : ∀ d, d < 8 → nI 0 &&& nI d = nI 0 ∧ nI d ||| nI 0 = nI d := by decide +kernel
section LINES3
variable {E : Nat} {b : Nat → Nat} {σ τ : Mem} {k s e v h t N1 N2 dn : Nat}
theorem bz_wrong {f : Nat} : ms (ms τ 0 28 (nI f)) 0 29 (τ 0 26) 0 28 = nI f := by rw [ms_same, pk_un (by decide), ms_at]
theorem RL_house {i : Nat} {x3 : Int32} (hd : dn < 8) (hi : i ≤ 1) : f_X11_readLine_61 τ (nI dn) (nI i) x3 (nI 0) = ((m_X11_sayHouse τ (nI i)).bind fun q => m_X11_mark q (nI 59)).bind fun q => some (nI dn, q) := by
  unfold f_X11_readLine_61 f_X11_readLine_75 f_X11_readLine_190
  simp only [pu_lit]
  rw [(bt0 dn hd).1, if_pos rfl, if_pos nI_le_self, if_neg (show ¬ nI i = -nI 1 by rw [nI_nm1 (by omega)]; exact id), (bt0 dn hd).2]
  cases m_X11_sayHouse τ (nI i) <;> rfl
theorem RL_tenant {i : Nat} (hd : dn < 8) (hi : i ≤ 1) : f_X11_readLine_61 τ (nI dn) (-nI 1) (nI i) (nI 0) = ((m_X11_sayTenant τ (nI i)).bind fun q => m_X11_mark q (nI 59)).bind fun q => some (nI dn, q) := by
  unfold f_X11_readLine_61 f_X11_readLine_75 f_X11_readLine_190
  simp only [pu_lit]
  rw [(bt0 dn hd).1, if_pos rfl, if_pos nI_le_self]
  simp only [if_true]
  rw [if_neg (show ¬ nI i = -nI 1 by rw [nI_nm1 (by omega)]; exact id), (bt0 dn hd).2]
  cases m_X11_sayTenant τ (nI i) <;> rfl
theorem RL_none (hd : dn < 8) (hb : τ 0 28 = nI 0) : f_X11_readLine_61 τ (nI dn) (-nI 1) (-nI 1) (nI 0) = some (nI dn, ms (ms τ 0 28 (nI 1)) 0 29 (τ 0 26)) := by
  unfold f_X11_readLine_61 f_X11_readLine_75 f_X11_readLine_190
  simp only [pu_lit]
  rw [(bt0 dn hd).1, if_pos rfl, if_pos nI_le_self]
  simp only [if_true]
  rw [R_wrong hb, sbind, bad_mark (f := 1) ⟨by decide, by decide⟩ bz_wrong, sbind, (bt0 dn hd).2]
theorem RL_91 {x1 : Int32} {z0 z : Nat} (hz : (z0 = 1 ∧ z = 0) ∨ (z0 = 2 ∧ z = 0) ∨ (z0 = 4 ∧ z = 1)) : f_X11_readLine_91 τ x1 (nI z0) = f_X11_readLine_128 (ms (ms τ 0 31 (nI z)) 0 4 (nI z)) x1 (nI z0) := by
  unfold f_X11_readLine_91
  simp only [pu_lit]
  rcases hz with ⟨rfl, rfl⟩ | ⟨rfl, rfl⟩ | ⟨rfl, rfl⟩
  · rw [if_neg (show ¬ nI 1 = nI 4 by decide), pu_gz0, ltE, ms_at, if_pos rfl, ltE]
  · rw [if_neg (show ¬ nI 2 = nI 4 by decide), pu_gz0, ltE, ms_at, if_pos rfl, ltE]
  · rw [if_pos rfl, pu_gz1, ltE, ms_at, if_neg (show ¬ nI 1 = nI 0 by decide), ltE]
/-- the line of a thing told before -/
theorem RL_twice {x2 x3 : Int32} {z0 : Nat} (hz : z0 = 1 ∨ z0 = 2 ∨ z0 = 4) (hb : τ 0 28 = nI 0) (hd : ¬ nI z0 &&& nI dn = nI 0) : OK (f_X11_readLine_61 τ (nI dn) x2 x3 (nI z0)) (fun q => q.2 0 28 = nI 5 ∧ q.2 0 29 = τ 0 26 ∧ RLF τ q.2) := by
  obtain ⟨z, hz'⟩ : ∃ z, (z0 = 1 ∧ z = 0) ∨ (z0 = 2 ∧ z = 0) ∨ (z0 = 4 ∧ z = 1) := by
    rcases hz with q | q | q
    · exact ⟨0, by omega⟩
    · exact ⟨0, by omega⟩
    · exact ⟨1, by omega⟩
  unfold f_X11_readLine_61 f_X11_readLine_75
  simp only [pu_lit]
  rw [if_neg hd, R_wrong hb, sbind, if_neg (show ¬ nI z0 ≤ nI 0 from nle' (by omega) (by omega)), bz_wrong, if_neg (show ¬ nI 5 = nI 0 by decide), RL_91 hz']
  have L0 : RLF τ (ms (ms (ms (ms τ 0 28 (nI 5)) 0 29 (τ 0 26)) 0 31 (nI z)) 0 4 (nI z)) := (((RLF.rfl.put0 (by decide)).put0 (by decide)).put0 (by decide)).put0 (by decide)
  have e28 : ms (ms (ms (ms τ 0 28 (nI 5)) 0 29 (τ 0 26)) 0 31 (nI z)) 0 4 (nI z) 0 28 = nI 5 := by rw [ms_same, pk_un (by decide), ms_same, pk_un (by decide)]; exact bz_wrong
  have e29 : ms (ms (ms (ms τ 0 28 (nI 5)) 0 29 (τ 0 26)) 0 31 (nI z)) 0 4 (nI z) 0 29 = τ 0 26 := by rw [ms_same, pk_un (by decide), ms_same, pk_un (by decide), ms_at]
  generalize ms (ms (ms (ms τ 0 28 (nI 5)) 0 29 (τ 0 26)) 0 31 (nI z)) 0 4 (nI z) = τ1 at L0 e28 e29 ⊢
  unfold f_X11_readLine_128 f_X11_readLine_190
  simp only [pu_lit]
  by_cases c : z0 = 1
  · rw [if_pos (show nI z0 = nI 1 by rw [c]), R_num_bad (f := 5) ⟨by decide, by decide⟩ e28, sbind, pu_gd (k := 7) (by decide) (by decide), ltE, nI_clamp (n := 7) (by decide), bad_mark (f := 5) ⟨by decide, by decide⟩ (by rw [ms_ne (by decide)]; exact e28), sbind, ok_some]
    dsimp only
    exact ⟨by rw [ms_ne (by decide)]; exact e28, by rw [ms_ne (by decide)]; exact e29, L0.put (by decide) (by decide)⟩
  · rw [if_neg (show ¬ nI z0 = nI 1 by rw [nI_eq (by omega) (by omega)]; exact c), bad_expr (d := 7) (f := 5) ⟨by decide, by decide⟩ e28, sbind, bad_mark (f := 5) ⟨by decide, by decide⟩ e28, sbind, ok_some]
    exact ⟨e28, e29, L0⟩
theorem RL_75 {x2 x3 : Int32} {z0 z : Nat} {τ0 : Mem} (hz : (z0 = 1 ∧ z = 0) ∨ (z0 = 2 ∧ z = 0) ∨ (z0 = 4 ∧ z = 1)) (hb : τ 0 28 = nI 0) (hd : nI z0 &&& nI dn = nI 0) (h0 : m_X11_stepOn τ = some τ0) : f_X11_readLine_61 τ (nI dn) x2 x3 (nI z0) = f_X11_readLine_128 (ms (ms τ0 0 31 (nI z)) 0 4 (nI z)) (nI dn) (nI z0) := by
  unfold f_X11_readLine_61 f_X11_readLine_75
  simp only [pu_lit]
  rw [if_pos hd, if_neg (show ¬ nI z0 ≤ nI 0 from nle' (by omega) (by omega)), hb, if_pos rfl, h0, sbind, RL_91 hz]
def lfR1 : List (Nat × Nat) := [(5, 99)]
/-- the line of the life -/
theorem LIFE {x2 x3 : Int32} (hT : TP E b σ τ) (hK : TK E b σ τ k s e v) (hk : k ≠ 0) (hb : τ 0 28 = nI 0) (hP : PLR h t N1 N2 dn σ τ) : ∃ d, OK (f_X11_readLine_61 τ (nI dn) x2 x3 (nI 1)) (fun q => (q.2 0 28 = nI 0 → q.1 = nI d) ∧ LO E b s h t N1 N2 d σ τ (m_X3_readLife σ) q.2) := by
  obtain ⟨hse, he⟩ := hK.se hk
  obtain ⟨⟨a1, a2, a3, a4, a5, a6, a7, a8, a9, a10, a11, a12, a13⟩, H2, H3, H4⟩ := hP
  refine ⟨dn + 1, ?_⟩
  by_cases c : dn % 2 = 0
  · obtain ⟨o1, o2, o3, o4, o5, o6⟩ := (bt1 dn a8).1 c
    have F1 : fr [1] σ (ms σ 1 4 (nI 1)) := fr.rfl.ms (by decide)
    have T1 : TP E b (ms σ 1 4 (nI 1)) τ := hT.of (F1 3 (by decide)) (F1 4 (by decide)) rfl rfl
    have K1 : TK E b (ms σ 1 4 (nI 1)) τ k s e v := hK.of (F1 3 (by decide)) rfl
    obtain ⟨σ0, τ0, k0, s0, e0, v0, g1, g2, g3, g4, g5, g6⟩ := lex T1 he K1.2.1 K1.2.2.2.2.2.1
    have hcl : m_X3_readLife σ = (f_X3_readNumbers_9 2 (nI 1) KF σ0 (nI 0)).bind fun q => some (q.1, ms q.2 9 2 (q.2 21 0)) := by
      unfold m_X3_readLife m_X3_readNumbers
      simp only [pu_lit]
      rw [a9, c, if_pos rfl, pu_gz1, ltE, g1, sbind]
      simp only [pu_gd (k := 0) (n := 4) (by decide) (by decide), nI_clamp (n := 0) (by decide)]
      rfl
    have w0 : ∀ j, j ≠ 31 → j ≠ 4 → ms (ms τ0 0 31 (nI 0)) 0 4 (nI 0) 0 j = τ0 0 j := fun j a b => by rw [ms_same, pk_un b, ms_same, pk_un a]
    have wn : ∀ c, c ≠ 0 → ms (ms τ0 0 31 (nI 0)) 0 4 (nI 0) c = τ0 c := fun c a => by rw [ms_ne a, ms_ne a]
    have L2 : RLF τ (ms (ms τ0 0 31 (nI 0)) 0 4 (nI 0)) := ((RLF.ofT g4).put0 (by decide)).put0 (by decide)
    rw [RL_75 (Or.inl ⟨rfl, rfl⟩) hb o1 g2, hcl]
    generalize ms (ms τ0 0 31 (nI 0)) 0 4 (nI 0) = τ' at w0 wn L2 ⊢
    have T2 : TP E b σ0 τ' := (T1.f g3 g4).of rfl rfl (w0 23 (by decide) (by decide)) (wn 19 (by decide))
    have K2 : TK E b σ0 τ' k0 s0 e0 v0 := g6.sl (fun j hj => w0 j (fun q => by rw [q] at hj; exact absurd hj (by decide)) (fun q => by rw [q] at hj; exact absurd hj (by decide)))
    have b2 : τ' 0 28 = nI 0 := by rw [w0 28 (by decide) (by decide), g4.2 28 (by decide)]; exact hb
    have C2 : CLF σ σ0 := (CLF.of F1 (by decide)).trans (CLF.ofT g3)
    have hx : ∀ x, x ∈ lfR1 → x.2 ≤ 999 ∧ (5 ≤ x.1 ∧ x.1 ≤ 17) ∧ lo x.1 ≤ 7 := by decide
    have hr : f_X11_readLine_128 τ' (nI dn) (nI 1) = (RNs 1 7 some lfR1 τ').bind fun q => (m_X11_mark q (nI 59)).bind fun q1 => some (nI dn ||| nI 1, q1) := by
      unfold f_X11_readLine_128 f_X11_readLine_190
      simp only [pu_lit, if_true, pu_gd (k := 7) (n := 10) (by decide) (by decide), nI_clamp (n := 7) (by decide)]
      show _ = ((m_X11_readNumber τ' (nI 1) (nI 99)).bind fun q => some (ms q.2 5 7 q.1)).bind _
      cases m_X11_readNumber τ' (nI 1) (nI 99) <;> rfl
    rw [hr, o2, ok_bind]
    refine ok_mono (NS (n := 1) (t2 := 2) (by decide) (by decide) (by decide) (by decide) lfR1 0 KF σ0 _ k0 s0 e0 v0 T2 K2 b2 (by decide) (by decide) (by decide) hx (by decide)) (fun τ1 hO => ?_)
    rw [ok_bind]
    have W3 : ∀ σ2 : Mem, CLF σ2 (ms σ2 9 2 (σ2 21 0)) ∧ ms σ2 9 2 (σ2 21 0) 3 = σ2 3 ∧ ms σ2 9 2 (σ2 21 0) 4 = σ2 4 := fun σ2 => ⟨CLF.rfl.put ⟨by decide, by decide⟩, ms_ne (by decide), ms_ne (by decide)⟩
    rcases hO with ⟨f, σf, p1, p2, p3, p4, p5, p6, p7⟩ | ⟨σf, k2, s2, e2, v2, p1, p2, p3, p4, p5, p6, p7, p8, p9, p10, p11⟩
    · rw [p3, sbind, bad_mark (f := f) ⟨p1, by omega⟩ p6, ok_some, ok_some]
      exact ⟨fun _ => rfl, Or.inl ⟨f, _, p1, p2, Or.inl rfl, (C2.trans p4).trans (W3 σf).1, L2.trans p5, p6, by rw [(W3 σf).2.1]; exact p7⟩⟩
    · rw [p1, sbind]
      obtain ⟨w, l0, l1, x0, y0⟩ := p7 0 (by decide)
      have x0 : σf 21 0 = nI w := x0
      have y0 : τ1 5 7 = nI w := y0
      have l1 : w ≤ 99 := l1
      have cf : ∀ c, c ≠ 3 → c ≠ 21 → σf c = ms σ 1 4 (nI 1) c := fun c q1 q2 => by rw [p2 c (by simp; exact ⟨q1, q2⟩), g3.1 c (by simp; exact q1)]
      refine ok_mono (TAIL (σ := σ) (τ := τ) (s := s) (h := h) (t := t) (N1 := N1) (N2 := N2) (dn := dn + 1) rfl (p8.of (W3 σf).2.1 (W3 σf).2.2 rfl rfl) (p9.of (W3 σf).2.1 rfl) (by rw [p6.2.1 28 (by decide)]; exact b2) ?_ ((C2.trans ⟨p2.mono (by decide), p3, p4⟩).trans (W3 σf).1) (L2.trans p11) (by omega)) (fun τ2 hL => ok_some.mpr ⟨fun _ => rfl, hL⟩)
      have sF : ∀ c, c ≠ 1 → c ≠ 3 → c ≠ 9 → c ≠ 21 → ms σf 9 2 (σf 21 0) c = σ c := fun c q1 q2 q3 q4 => by rw [ms_ne q3, cf c q2 q4, ms_ne q1]
      have s9 : ms σf 9 2 (σf 21 0) 9 = upd (σ 9) 2 (nI w) := by rw [ms_same, x0, cf 9 (by decide) (by decide), ms_ne (by decide)]
      have s1 : ms σf 9 2 (σf 21 0) 1 4 = nI 1 := by rw [ms_ne (by decide), cf 1 (by decide) (by decide), ms_at]
      have tF : ∀ c, c ≠ 0 → c ≠ 5 → τ1 c = τ c := fun c q1 q2 => by rw [p6.1 c (by simp [lfR1]; exact ⟨q1, q2⟩), wn c q1, g4.1 c (by simp; exact q1)]
      have t5 : ∀ j, j ≠ 7 → τ1 5 j = τ 5 j := fun j q => by rw [p6.2.2 5 (by decide) j q, wn 5 (by decide), g4.1 5 (by decide)]
      generalize ms σf 9 2 (σf 21 0) = σF at sF s9 s1 ⊢
      refine ⟨⟨a1, a2, ?_, ?_, ?_, ?_, ⟨w, l0, l1, by rw [s9, pk_us], y0⟩, o6, by rw [s1, o3], by rw [o4]; exact a10, by rw [o5]; exact a11, ?_, ?_⟩, H2.keep (sF _ (by decide) (by decide) (by decide) (by decide)) (sF _ (by decide) (by decide) (by decide) (by decide)) (sF _ (by decide) (by decide) (by decide) (by decide)) (fun c q _ => tF c (by omega) (by omega)), H3.keep (sF _ (by decide) (by decide) (by decide) (by decide)) (sF _ (by decide) (by decide) (by decide) (by decide)) (sF _ (by decide) (by decide) (by decide) (by decide)) (fun c q _ => tF c (by omega) (by omega)), ?_⟩
      · rw [s9, pk_un (by decide)]; exact a3
      · rw [t5 5 (by decide)]; exact a4
      · rw [s9, pk_un (by decide)]; exact a5
      · rw [t5 6 (by decide)]; exact a6
      · exact a12.keep (sF _ (by decide) (by decide) (by decide) (by decide)) (sF _ (by decide) (by decide) (by decide) (by decide)) (t5 _ (by decide)) (tF _ (by decide) (by decide))
      · exact a13.keep (sF _ (by decide) (by decide) (by decide) (by decide)) (sF _ (by decide) (by decide) (by decide) (by decide)) (t5 _ (by decide)) (tF _ (by decide) (by decide))
      · unfold PLZ; rw [sF 20 (by decide) (by decide) (by decide) (by decide)]; exact H4
  · have hcl : m_X3_readLife σ = some (nI 5, σ) := by
      unfold m_X3_readLife
      simp only [pu_lit]
      rw [a9, if_neg (show ¬ nI (dn % 2) = nI 0 by rw [nI_eq (by omega) (by omega)]; exact c)]
    rw [hcl]
    refine ok_mono (RL_twice (z0 := 1) (Or.inl rfl) hb ((bt1 dn a8).2 c)) (fun q hq => ⟨fun x => ?_, Or.inl ⟨5, σ, by decide, by decide, Or.inl rfl, CLF.rfl, hq.2.2, hq.1, ?_⟩⟩)
    · rw [hq.1] at x; exact absurd x (by decide)
    · rw [hq.2.1, hK.2.2.2.1, hK.1]
/-- a rule told before: the class -/
theorem C_twice {z N : Nat} (h0 : 0 < N) (hN : N ≤ 700) (hz : z ≤ 1) (u : σ (14 + 3 * z) 2 = nI N) {x : Int32} : m_X5_read (14 + 3 * z) σ x = some (nI 5, σ) := by
  unfold m_X5_read
  rw [C_isTold, sbind, u, if_neg (nle' h0 (by omega))]
  simp only [pu_lit]
  rw [if_neg (show ¬ nI 1 = nI 0 by decide)]
theorem RULE0 {x2 x3 : Int32} (hT : TP E b σ τ) (hK : TK E b σ τ k s e v) (hk : k ≠ 0) (hb : τ 0 28 = nI 0) (hP : PLR h t N1 N2 dn σ τ) : OK (f_X11_readLine_61 τ (nI dn) x2 x3 (nI 2)) (fun q => ∃ d M, (q.2 0 28 = nI 0 → q.1 = nI d) ∧ LO E b s h t M N2 d σ τ (m_X5_read 14 σ (nI 1)) q.2) := by
  obtain ⟨⟨a1, a2, a3, a4, a5, a6, a7, a8, a9, a10, a11, a12, a13⟩, H2, H3, H4⟩ := hP
  by_cases c : dn / 2 % 2 = 0
  · obtain ⟨o1, o2, o3, o4, o5, o6⟩ := (bt2 dn a8).1 c
    have hN : N1 = 0 := by omega
    subst hN
    obtain ⟨τ0, r0, g4, r1⟩ := RULE (z := 0) (by decide) hT hK hk hb a12
    have L2 : RLF τ (ms (ms τ0 0 31 (nI 0)) 0 4 (nI 0)) := ((RLF.ofT g4).put0 (by decide)).put0 (by decide)
    have wn : ∀ c, c ≠ 0 → ms (ms τ0 0 31 (nI 0)) 0 4 (nI 0) c = τ0 c := fun c a => by rw [ms_ne a, ms_ne a]
    rw [RL_75 (Or.inr (Or.inl ⟨rfl, rfl⟩)) hb o1 r0]
    generalize ms (ms τ0 0 31 (nI 0)) 0 4 (nI 0) = τ' at r1 L2 wn ⊢
    have hr : f_X11_readLine_128 τ' (nI dn) (nI 2) = ((m_X11_readExpression 8 τ' (nI 0)).bind fun q => m_X11_mark q (nI 59)).bind fun q => some (nI (dn + 2), q) := by
      unfold f_X11_readLine_128 f_X11_readLine_190
      simp only [pu_lit]
      rw [if_neg (show ¬ nI 2 = nI 1 by decide), o2]
      cases m_X11_readExpression 8 τ' (nI 0) <;> rfl
    rw [hr, ok_bind]
    refine ok_mono r1 (fun τ1 hO => ?_)
    rw [ok_some]
    dsimp only
    rcases hO with ⟨f, σf, p1, p2, p3, p4, p5, p6, p7⟩ | ⟨σf, σ2, N, k2, s2, e2, v2, p1, p2, p3, p4, p5, p6, p7, p8, p9, p10, p11, p12, p13, p14⟩
    · exact ⟨dn + 2, 0, fun _ => rfl, Or.inl ⟨f, σf, p1, p2, Or.inl p3, p4, L2.trans (RLF.ofF (by decide) p7), p5, p6⟩⟩
    · have C2 : CLF σ σ2 := CLF.trans ⟨p4.mono (by decide), p6, p7⟩ (CLF.ofT p5)
      have sF : ∀ c, c ∉ [2, 3, 5, 6, 8, 14, 15] → σ2 c = σ c := fun c hc => by
        simp at hc
        rw [p5.1 c (by simp; omega), p4 c (by simp; omega)]
      have tF : ∀ c, c ∉ [0, 5, 16] → τ1 c = τ c := fun c hc => by
        simp at hc
        rw [p8.1 c (by simp; omega), wn c (by omega), g4.1 c (by simp; omega)]
      have t5 : ∀ j, j ≠ 8 → τ1 5 j = τ 5 j := fun j q => by rw [p8.2.2.1 j q, wn 5 (by decide), g4.1 5 (by decide)]
      refine ⟨dn + 2, N, fun _ => rfl, Or.inr ⟨σf, σ2, k2, s2, e2, v2, p1, p2, p3, C2, L2.trans (RLF.ofF (by decide) p8), p9, ⟨⟨a1, a2, ?_, ?_, ?_, ?_, ?_, o6, ?_, ?_, ?_, p11, ?_⟩, H2.keep (sF _ (by decide)) (sF _ (by decide)) (sF _ (by decide)) (fun c _ _ => tF c (by simp; omega)), H3.keep (sF _ (by decide)) (sF _ (by decide)) (sF _ (by decide)) (fun c _ _ => tF c (by simp; omega)), ?_⟩, p12, p13, p14⟩⟩
      · rw [sF 9 (by decide)]; exact a3
      · rw [t5 5 (by decide)]; exact a4
      · rw [sF 9 (by decide)]; exact a5
      · rw [t5 6 (by decide)]; exact a6
      · rw [sF 9 (by decide), t5 7 (by decide)]; exact a7
      · rw [sF 1 (by decide), o3]; exact a9
      · rw [o4]; exact ⟨fun _ => rfl, fun _ => p10⟩
      · rw [o5]; exact a11
      · exact a13.keep (sF _ (by decide)) (sF _ (by decide)) (t5 _ (by decide)) (tF _ (by decide))
      · unfold PLZ; rw [sF 20 (by decide)]; exact H4
  · have hcl : m_X5_read 14 σ (nI 1) = some (nI 5, σ) := C_twice (z := 0) (by omega) a12.2.2.1 (by decide) a12.1
    rw [hcl]
    refine ok_mono (RL_twice (z0 := 2) (Or.inr (Or.inl rfl)) hb ((bt2 dn a8).2 c)) (fun q hq => ⟨0, 0, fun x => ?_, Or.inl ⟨5, σ, by decide, by decide, Or.inl rfl, CLF.rfl, hq.2.2, hq.1, ?_⟩⟩)
    · rw [hq.1] at x; exact absurd x (by decide)
    · rw [hq.2.1, hK.2.2.2.1, hK.1]
theorem RULE1 {x2 x3 : Int32} (hT : TP E b σ τ) (hK : TK E b σ τ k s e v) (hk : k ≠ 0) (hb : τ 0 28 = nI 0) (hP : PLR h t N1 N2 dn σ τ) : OK (f_X11_readLine_61 τ (nI dn) x2 x3 (nI 4)) (fun q => ∃ d M, (q.2 0 28 = nI 0 → q.1 = nI d) ∧ LO E b s h t N1 M d σ τ (m_X5_read 17 σ (nI 0)) q.2) := by
  obtain ⟨⟨a1, a2, a3, a4, a5, a6, a7, a8, a9, a10, a11, a12, a13⟩, H2, H3, H4⟩ := hP
  by_cases c : dn / 4 % 2 = 0
  · obtain ⟨o1, o2, o3, o4, o5, o6⟩ := (bt4 dn a8).1 c
    have hN : N2 = 0 := by omega
    subst hN
    obtain ⟨τ0, r0, g4, r1⟩ := RULE (z := 1) (by decide) hT hK hk hb a13
    have L2 : RLF τ (ms (ms τ0 0 31 (nI 1)) 0 4 (nI 1)) := ((RLF.ofT g4).put0 (by decide)).put0 (by decide)
    have wn : ∀ c, c ≠ 0 → ms (ms τ0 0 31 (nI 1)) 0 4 (nI 1) c = τ0 c := fun c a => by rw [ms_ne a, ms_ne a]
    rw [RL_75 (Or.inr (Or.inr ⟨rfl, rfl⟩)) hb o1 r0]
    generalize ms (ms τ0 0 31 (nI 1)) 0 4 (nI 1) = τ' at r1 L2 wn ⊢
    have hr : f_X11_readLine_128 τ' (nI dn) (nI 4) = ((m_X11_readExpression 8 τ' (nI 0)).bind fun q => m_X11_mark q (nI 59)).bind fun q => some (nI (dn + 4), q) := by
      unfold f_X11_readLine_128 f_X11_readLine_190
      simp only [pu_lit]
      rw [if_neg (show ¬ nI 4 = nI 1 by decide), o2]
      cases m_X11_readExpression 8 τ' (nI 0) <;> rfl
    rw [hr, ok_bind]
    refine ok_mono r1 (fun τ1 hO => ?_)
    rw [ok_some]
    dsimp only
    rcases hO with ⟨f, σf, p1, p2, p3, p4, p5, p6, p7⟩ | ⟨σf, σ2, N, k2, s2, e2, v2, p1, p2, p3, p4, p5, p6, p7, p8, p9, p10, p11, p12, p13, p14⟩
    · exact ⟨dn + 4, 0, fun _ => rfl, Or.inl ⟨f, σf, p1, p2, Or.inl p3, p4, L2.trans (RLF.ofF (by decide) p7), p5, p6⟩⟩
    · have C2 : CLF σ σ2 := CLF.trans ⟨p4.mono (by decide), p6, p7⟩ (CLF.ofT p5)
      have sF : ∀ c, c ∉ [2, 3, 5, 6, 8, 17, 18] → σ2 c = σ c := fun c hc => by
        simp at hc
        rw [p5.1 c (by simp; omega), p4 c (by simp; omega)]
      have tF : ∀ c, c ∉ [0, 5, 17] → τ1 c = τ c := fun c hc => by
        simp at hc
        rw [p8.1 c (by simp; omega), wn c (by omega), g4.1 c (by simp; omega)]
      have t5 : ∀ j, j ≠ 9 → τ1 5 j = τ 5 j := fun j q => by rw [p8.2.2.1 j q, wn 5 (by decide), g4.1 5 (by decide)]
      refine ⟨dn + 4, N, fun _ => rfl, Or.inr ⟨σf, σ2, k2, s2, e2, v2, p1, p2, p3, C2, L2.trans (RLF.ofF (by decide) p8), p9, ⟨⟨a1, a2, ?_, ?_, ?_, ?_, ?_, o6, ?_, ?_, ?_, ?_, p11⟩, H2.keep (sF _ (by decide)) (sF _ (by decide)) (sF _ (by decide)) (fun c _ _ => tF c (by simp; omega)), H3.keep (sF _ (by decide)) (sF _ (by decide)) (sF _ (by decide)) (fun c _ _ => tF c (by simp; omega)), ?_⟩, p12, p13, p14⟩⟩
      · rw [sF 9 (by decide)]; exact a3
      · rw [t5 5 (by decide)]; exact a4
      · rw [sF 9 (by decide)]; exact a5
      · rw [t5 6 (by decide)]; exact a6
      · rw [sF 9 (by decide), t5 7 (by decide)]; exact a7
      · rw [sF 1 (by decide), o3]; exact a9
      · rw [o4]; exact a10
      · rw [o5]; exact ⟨fun _ => rfl, fun _ => p10⟩
      · exact a12.keep (sF _ (by decide)) (sF _ (by decide)) (t5 _ (by decide)) (tF _ (by decide))
      · unfold PLZ; rw [sF 20 (by decide)]; exact H4
  · have hcl : m_X5_read 17 σ (nI 0) = some (nI 5, σ) := C_twice (z := 1) (by omega) a13.2.2.1 (by decide) a13.1
    rw [hcl]
    refine ok_mono (RL_twice (z0 := 4) (Or.inr (Or.inr rfl)) hb ((bt4 dn a8).2 c)) (fun q hq => ⟨0, 0, fun x => ?_, Or.inl ⟨5, σ, by decide, by decide, Or.inl rfl, CLF.rfl, hq.2.2, hq.1, ?_⟩⟩)
    · rw [hq.1] at x; exact absurd x (by decide)
    · rw [hq.2.1, hK.2.2.2.1, hK.1]
theorem LINE (hT : TP E b σ τ) (hK : TK E b σ τ k s e v) (hk : k ≠ 0) (hb : τ 0 28 = nI 0) (hP : PLR h t N1 N2 dn σ τ) : OK (m_X11_readLine τ (nI dn)) (fun q => ∃ h' t' M1 M2 d, (q.2 0 28 = nI 0 → q.1 = nI d) ∧ LO E b s h' t' M1 M2 d σ τ (m_X3_readLine σ) q.2) := by
  have a8 := hP.1.2.2.2.2.2.2.2.1
  rw [R_line hT hK hb, C_line hT hK]
  rcases W7 (b := b) (k := k) (s := s) (e := e) with ⟨i, hi, w⟩ | w
  · have w0 : WD b k s e 10 = decide (0 = i) := w 0 (by decide)
    have w1 : WD b k s e 11 = decide (1 = i) := w 1 (by decide)
    have w2 : WD b k s e 12 = decide (2 = i) := w 2 (by decide)
    have w3 : WD b k s e 13 = decide (3 = i) := w 3 (by decide)
    have w4 : WD b k s e 14 = decide (4 = i) := w 4 (by decide)
    have w5 : WD b k s e 15 = decide (5 = i) := w 5 (by decide)
    have w6 : WD b k s e 16 = decide (6 = i) := w 6 (by decide)
    rcases (show i = 0 ∨ i = 1 ∨ i = 2 ∨ i = 3 ∨ i = 4 ∨ i = 5 ∨ i = 6 by omega) with rfl | rfl | rfl | rfl | rfl | rfl | rfl
    · simp only [vw, w0, w1, w2, w3, w4, w5, w6, enc, decide_true, decide_false, if_true, Bool.false_eq_true, if_false, Nat.reduceEqDiff, Nat.reduceAdd]
      obtain ⟨h', q⟩ := HOUSE (i := 0) (by decide) hT hK hk hb hP (w1.trans (by decide))
      rw [RL_house a8 (by decide), ok_bind]
      exact ok_mono q (fun τ1 hO => ok_some.mpr ⟨h', t, N1, N2, dn, fun _ => rfl, hO⟩)
    · simp only [vw, w0, w1, w2, w3, w4, w5, w6, enc, decide_true, decide_false, if_true, Bool.false_eq_true, if_false, Nat.reduceEqDiff, Nat.reduceAdd]
      obtain ⟨h', q⟩ := HOUSE (i := 1) (by decide) hT hK hk hb hP (w1.trans (by decide))
      rw [RL_house a8 (by decide), ok_bind]
      exact ok_mono q (fun τ1 hO => ok_some.mpr ⟨h', t, N1, N2, dn, fun _ => rfl, hO⟩)
    · simp only [vw, w0, w1, w2, w3, w4, w5, w6, enc, decide_true, decide_false, if_true, Bool.false_eq_true, if_false, Nat.reduceEqDiff, Nat.reduceAdd]
      obtain ⟨t', q⟩ := TENANT (i := 0) (by decide) hT hK hk hb hP (w3.trans (by decide))
      rw [RL_tenant a8 (by decide), ok_bind]
      exact ok_mono q (fun τ1 hO => ok_some.mpr ⟨h, t', N1, N2, dn, fun _ => rfl, hO⟩)
    · simp only [vw, w0, w1, w2, w3, w4, w5, w6, enc, decide_true, decide_false, if_true, Bool.false_eq_true, if_false, Nat.reduceEqDiff, Nat.reduceAdd]
      obtain ⟨t', q⟩ := TENANT (i := 1) (by decide) hT hK hk hb hP (w3.trans (by decide))
      rw [RL_tenant a8 (by decide), ok_bind]
      exact ok_mono q (fun τ1 hO => ok_some.mpr ⟨h, t', N1, N2, dn, fun _ => rfl, hO⟩)
    · simp only [vw, w0, w1, w2, w3, w4, w5, w6, enc, decide_true, decide_false, if_true, Bool.false_eq_true, if_false, Nat.reduceEqDiff, Nat.reduceAdd]
      obtain ⟨d, q⟩ := LIFE (x2 := -nI 1) (x3 := -nI 1) hT hK hk hb hP
      exact ok_mono q (fun τ1 hO => ⟨h, t, N1, N2, d, hO⟩)
    · simp only [vw, w0, w1, w2, w3, w4, w5, w6, enc, decide_true, decide_false, if_true, Bool.false_eq_true, if_false, Nat.reduceEqDiff, Nat.reduceAdd]
      exact ok_mono (RULE0 (x2 := -nI 1) (x3 := -nI 1) hT hK hk hb hP) (fun τ1 ⟨d, M, hO⟩ => ⟨h, t, M, N2, d, hO⟩)
    · simp only [vw, w0, w1, w2, w3, w4, w5, w6, enc, decide_true, decide_false, if_true, Bool.false_eq_true, if_false, Nat.reduceEqDiff, Nat.reduceAdd]
      exact ok_mono (RULE1 (x2 := -nI 1) (x3 := -nI 1) hT hK hk hb hP) (fun τ1 ⟨d, M, hO⟩ => ⟨h, t, N1, M, d, hO⟩)
  · have w0 : WD b k s e 10 = false := w 0 (by decide)
    have w1 : WD b k s e 11 = false := w 1 (by decide)
    have w2 : WD b k s e 12 = false := w 2 (by decide)
    have w3 : WD b k s e 13 = false := w 3 (by decide)
    have w4 : WD b k s e 14 = false := w 4 (by decide)
    have w5 : WD b k s e 15 = false := w 5 (by decide)
    have w6 : WD b k s e 16 = false := w 6 (by decide)
    simp only [vw, w0, w1, w2, w3, w4, w5, w6, enc, Bool.false_eq_true, if_false]
    rw [RL_none a8 hb, ok_some]
    refine ⟨h, t, N1, N2, dn, fun _ => rfl, Or.inl ⟨1, σ, by decide, by decide, Or.inl rfl, CLF.rfl, (RLF.rfl.put0 (by decide)).put0 (by decide), bz_wrong (τ := τ) (f := 1), ?_⟩⟩
    dsimp only
    rw [ms_at, hK.2.2.2.1, hK.1]
end LINES3

/-! buy, cats, lead, temper, see -/
theorem ms_at {σ : Mem} {k j : Nat} {x : Int32} : ms σ k j x k j = x := by rw [ms_same, pk_us]
section ACTS2
variable {H T : Nat} {σ τ : Mem}
theorem po_refuse {c : Nat → Nat → Prop} {i : Nat} (hi : i < 3) (R : RelH H T σ τ) (h5 : τ 0 5 = nI 0) : PO c ((m_X1_refuse 42 σ (nI i)).bind fun q4 => some (.inr (q4.1, q4.2))) ((m_X11_refuse τ (nI i)).bind fun q6 => some (q6.1, q6.2)) := by
  rw [C_refuse hi, R_refuse hi]
  exact po_val ⟨H, T, R.refuse⟩ (by rw [ms_ne (by decide)]; exact h5) rfl rfl
theorem C_actTo {u : Mem} {j : Nat} {v : Int32} (hj : j < 64) (eu : m_X1_beginAct 42 σ = some u) : m_X1_actTo 42 σ (nI j) v = some (σ 43 j, ms u 43 j v) := by
  unfold m_X1_actTo
  simp only [Nat.reduceAdd]
  rw [pu_gd hj (by decide), nI_clamp (by omega), ltE, eu, sbind, pu_gd hj (by decide), ltE]
theorem S_buy : SIM_buy Rel := by
  intro σ τ p0 p1 ⟨H, T, R⟩
  have h8 := R.1.1
  have h7 := R.1.2.1
  refine sim_N ?_
  have R1 : RelH H T σ (ms τ 0 5 (nI 0)) := R.code
  have h5 : ms τ 0 5 (nI 0) 0 5 = nI 0 := by rw [ms_same, pk_us]
  unfold m_X10_buy m_X11_buy
  simp only [pu_lit]
  rcases ix_dec p0 T (by omega) with hb | ⟨t, ht, rfl⟩
  · exact po_throw ⟨H, T, R⟩ ⟨rfl, rfl⟩ (by rw [C_needTenant_f (c1_23 R) hb]; rfl) (by
      rw [ltE, R_isTenant_f R1.2.1.2.1 h7 hb]; rfl)
  rw [ltE, C_needTenant_t (c1_23 R) ht h7, R_isTenant_t R1.2.1.2.1 h7 ht, xb_inr, sbind, if_neg (show ¬ nI 1 = nI 0 by decide)]
  generalize ms τ 0 5 (nI 0) = w at *
  rcases ix_rng p1 1 9 (by decide) (by decide) with hb | ⟨n, hn1, hn2, rfl⟩
  · rw [R_isIn_f (a := 1) (b := 9) (A := 1) (B := 9) (by decide) (by decide) hb, sbind, if_pos rfl]
    by_cases c : p1 < nI 1
    · rw [if_pos c]; exact po_refuse (by decide) R1 h5
    · rw [if_neg c, if_pos (hb.resolve_left c)]; exact po_refuse (by decide) R1 h5
  · rw [R_isIn_t (a := 1) (b := 9) (A := 1) (B := 9) (by decide) (by decide) ⟨hn1, hn2⟩ (by decide), sbind, if_neg (show ¬ nI 1 = nI 0 by decide), if_neg (nI_nlt hn1 (by omega)), if_neg (nI_nlt hn2 (by omega))]
    simp only [nI_add]
    rw [pu_gd (k := 54 + t) (by omega) (by decide), nI_clamp (n := 54 + t) (by omega), pu_gd (k := t) (n := 7) (by omega) (by decide), nI_clamp (n := t) (by omega), R1.2.2.1.g27 (by omega) (by omega)]
    by_cases c : nI 3 * nI n ≤ σ 43 (54 + t)
    · rw [if_pos c, if_pos c]
      obtain ⟨u, k, eu, ek, e43, K, k5, _⟩ := keep_rel R1
      rw [eu, sbind, ek, sbind, ltE]
      have K2 := (K.r27 (t := t) (v := u 43 (54 + t) - nI 3 * nI n) (by omega))
      have K3 := (K2.r25 (t := t) (v := imin (nI 20) (ms u 43 (54 + t) (u 43 (54 + t) - nI 3 * nI n) 43 (40 + t) + nI n)) (by omega))
      rw [pu_gd (k := 54 + t) (by omega) (by decide), pu_gd (k := 54 + t) (by omega) (by decide), nI_clamp (n := 54 + t) (by omega), ltE, pu_gd (k := 40 + t) (by omega) (by decide), pu_gd (k := 40 + t) (by omega) (by decide), nI_clamp (n := 40 + t) (by omega), ltE, pu_gd (k := 40 + t) (by omega) (by decide)]
      rw [pu_gd (k := t) (n := 7) (by omega) (by decide), pu_gd (k := t) (n := 7) (by omega) (by decide), ltE, pu_gd (k := t) (n := 7) (by omega) (by decide), pu_gd (k := t) (n := 7) (by omega) (by decide), ltE, pu_gd (k := t) (n := 7) (by omega) (by decide), K.2.2.1.g27 (by omega) (by omega), K2.2.2.1.g25 (by omega) (by omega)]
      refine po_val ⟨H, T, K3⟩ ?_ rfl ?_
      · rw [ms_ne (by decide), ms_ne (by decide), k5]; exact h5
      · rw [ms_at, ms_at]
    · rw [if_neg c, if_neg c]; exact po_refuse (by decide) R1 h5
theorem S_cats : SIM_cats Rel := by
  intro σ τ p0 p1 ⟨H, T, R⟩
  have h8 := R.1.1
  have h7 := R.1.2.1
  refine sim_N ?_
  have R1 : RelH H T σ (ms τ 0 5 (nI 0)) := R.code
  have h5 : ms τ 0 5 (nI 0) 0 5 = nI 0 := by rw [ms_same, pk_us]
  unfold m_X10_cats m_X11_cats
  simp only [pu_lit]
  rcases ix_dec p0 T (by omega) with hb | ⟨t, ht, rfl⟩
  · exact po_throw ⟨H, T, R⟩ ⟨rfl, rfl⟩ (by rw [C_needTenant_f (c1_23 R) hb]; rfl) (by
      rw [ltE, R_isTenant_f R1.2.1.2.1 h7 hb]; rfl)
  rw [ltE, C_needTenant_t (c1_23 R) ht h7, R_isTenant_t R1.2.1.2.1 h7 ht, xb_inr, sbind, if_neg (show ¬ nI 1 = nI 0 by decide)]
  generalize ms τ 0 5 (nI 0) = w at *
  rcases ix_rng p1 0 3 (by decide) (by decide) with hb | ⟨n, hn1, hn2, rfl⟩
  · rw [R_isIn_f (a := 0) (b := 3) (A := 0) (B := 3) (by decide) (by decide) hb, sbind, if_pos rfl]
    by_cases c : p1 < nI 0
    · rw [if_pos c]; exact po_refuse (by decide) R1 h5
    · rw [if_neg c, if_neg (Int32.not_le.mpr (hb.resolve_left c))]; exact po_refuse (by decide) R1 h5
  · rw [R_isIn_t (a := 0) (b := 3) (A := 0) (B := 3) (by decide) (by decide) ⟨hn1, hn2⟩ (by decide), sbind, if_neg (show ¬ nI 1 = nI 0 by decide), if_neg (nn0 (by omega)), if_pos (nI_le hn2 (by omega)), nI_add]
    obtain ⟨u, k, eu, ek, e43, K, k5, _⟩ := keep_rel R1
    rw [C_actTo (by omega) eu, sbind, ek, sbind, pu_gd (k := t) (n := 7) (by omega) (by decide), nI_clamp (n := t) (by omega), ltE, pu_gd (k := t) (n := 7) (by omega) (by decide), ltE, K.2.2.1.g26 (by omega) (by omega), e43]
    refine po_val ⟨H, T, K.r26 (by omega)⟩ ?_ rfl rfl
    rw [ms_ne (by decide), k5]; exact h5
theorem S_temper : SIM_temper Rel := by
  intro σ τ p0 p1 ⟨H, T, R⟩
  have h8 := R.1.1
  have h7 := R.1.2.1
  refine sim_N ?_
  have R1 : RelH H T σ (ms τ 0 5 (nI 0)) := R.code
  have h5 : ms τ 0 5 (nI 0) 0 5 = nI 0 := by rw [ms_same, pk_us]
  unfold m_X10_temper m_X11_temper
  simp only [pu_lit]
  rcases ix_dec p0 H (by omega) with hb | ⟨h, hh, rfl⟩
  · exact po_throw ⟨H, T, R⟩ ⟨rfl, rfl⟩ (by rw [C_needHouse_f (c0_23 R) hb]; rfl) (by
      rw [ltE, R_isHouse_f R1.2.1.1 h8 hb]; rfl)
  rw [ltE, C_needHouse_t (c0_23 R) hh h8, R_isHouse_t R1.2.1.1 h8 hh, xb_inr, sbind, if_neg (show ¬ nI 1 = nI 0 by decide)]
  generalize ms τ 0 5 (nI 0) = w at *
  rw [R1.2.2.1.gS (by omega), R_isOf, sbind, C_sealedNow, sbind]
  have refn : PO cN (if p1 < nI 0 then ((m_X1_refuse 42 σ (nI 1)).bind fun q4 => some (.inr (q4.1, q4.2))) else if nI 9 < p1 then ((m_X1_refuse 42 σ (nI 1)).bind fun q6 => some (.inr (q6.1, q6.2))) else ((m_X1_refuse 42 σ (nI 1)).bind fun q10 => some (.inr (q10.1, q10.2)))) ((m_X11_refuse w (nI 1)).bind fun q6 => some (q6.1, q6.2)) := by
    by_cases c : p1 < nI 0
    · rw [if_pos c]; exact po_refuse (by decide) R1 h5
    · rw [if_neg c]
      by_cases d : nI 9 < p1
      · rw [if_pos d]; exact po_refuse (by decide) R1 h5
      · rw [if_neg d]; exact po_refuse (by decide) R1 h5
  by_cases cs : bt (σ 43 62) h = nI 1
  · rw [if_pos cs, if_neg (show ¬ nI 1 = nI 0 by decide), if_neg (show ¬ nI 1 = nI 0 by decide)]
    exact refn
  rw [if_neg cs, if_pos rfl, if_pos rfl]
  rcases ix_rng p1 0 9 (by decide) (by decide) with hb | ⟨n, hn1, hn2, rfl⟩
  · rw [R_isIn_f (a := 0) (b := 9) (A := 0) (B := 9) (by decide) (by decide) hb, sbind, if_pos rfl]
    by_cases c : p1 < nI 0
    · rw [if_pos c]; exact po_refuse (by decide) R1 h5
    · rw [if_neg c, if_pos (hb.resolve_left c)]; exact po_refuse (by decide) R1 h5
  · rw [R_isIn_t (a := 0) (b := 9) (A := 0) (B := 9) (by decide) (by decide) ⟨hn1, hn2⟩ (by decide), sbind, if_neg (show ¬ nI 1 = nI 0 by decide), if_neg (nn0 (by omega)), if_neg (nI_nlt hn2 (by omega)), nI_add]
    obtain ⟨u, k, eu, ek, e43, K, k5, _⟩ := keep_rel R1
    rw [C_actTo (by omega) eu, sbind, ek, sbind, pu_gd (k := h) (n := 8) (by omega) (by decide), nI_clamp (n := h) (by omega), ltE, pu_gd (k := h) (n := 8) (by omega) (by decide), ltE, K.2.2.1.g21 (by omega) (by omega), e43]
    refine po_val ⟨H, T, K.r21 (by omega)⟩ ?_ rfl rfl
    rw [ms_ne (by decide), k5]; exact h5
theorem and_b1 {x : Int32} {h : Nat} (hh : h < 32) : x &&& b1 h = nI 0 ↔ bt x h = nI 0 := by
  rw [bt_gb hh]
  constructor
  · intro e
    have : gb (x &&& b1 h) h = gb (nI 0) h := by rw [e]
    rw [gb_and, b1_gb hh hh, gb_0] at this
    simp at this
    rw [this]
    rfl
  · intro e
    have g : gb x h = false := by
      by_cases q : gb x h
      · rw [if_pos q] at e; exact absurd e (by decide)
      · simpa using q
    apply gb_ext
    intro i hi
    rw [gb_and, b1_gb hh hi, gb_0]
    by_cases q : i = h
    · subst q; rw [g]; rfl
    · simp [q]
/-- lead answers 0 or 1 -/
def POL (x : Option ((Nat × Mem) ⊕ (Int32 × Mem))) (y : Option (Int32 × Mem)) : Prop :=
  (∃ u t, x = some (.inl (0, u)) ∧ y = some (nI 0, t) ∧ t 0 5 = nI 1 ∧ Rel u t) ∨ (∃ v u t, (v = nI 0 ∨ v = nI 1) ∧ x = some (.inr (v, u)) ∧ y = some (v, t) ∧ t 0 5 = nI 0 ∧ Rel u t)
theorem sim_L {x : Option ((Nat × Mem) ⊕ (Int32 × Mem))} {y : Option (Int32 × Mem)} (h : POL x y) : ∃ (q : Int32) (σ1 : Mem) (b : Int32) (τ1 : Mem), hb x (fun k u => (if k = 0 then (some ((1 : Int32), u)) else none)) (fun v u => (if v = (0 : Int32) then (gd (0 : Int32) 1 (lt (ms u 59 (Int32.toNatClampNeg (0 : Int32)) (0 : Int32)) fun σ3 => (some ((0 : Int32), σ3)))) else (gd (0 : Int32) 1 (lt (ms u 59 (Int32.toNatClampNeg (0 : Int32)) (1 : Int32)) fun σ4 => (some ((0 : Int32), σ4)))))) = some (q, σ1) ∧ y = some (b, τ1) ∧ τ1 0 5 = q ∧ (q = 0 → σ1 59 0 = b) ∧ Rel σ1 τ1 ∧ (b = 0 ∨ b = 1) := by
  rcases h with ⟨u, t, hx, hy, h5, R⟩ | ⟨v, u, t, hv, hx, hy, h5, R⟩
  · refine ⟨1, u, nI 0, t, by rw [hx]; rfl, hy, h5, fun q => absurd q (by decide), R, Or.inl rfl⟩
  · rcases hv with rfl | rfl
    · refine ⟨0, ms u 59 0 0, nI 0, t, by rw [hx]; rfl, hy, h5, fun _ => by rw [ms_same, pk_us]; rfl, ?_, Or.inl rfl⟩
      obtain ⟨H, T, R⟩ := R; exact ⟨H, T, R.out⟩
    · refine ⟨0, ms u 59 0 1, nI 1, t, by rw [hx]; rfl, hy, h5, fun _ => by rw [ms_same, pk_us]; rfl, ?_, Or.inr rfl⟩
      obtain ⟨H, T, R⟩ := R; exact ⟨H, T, R.out⟩
theorem S_lead : SIM_lead Rel := by
  intro σ τ p0 p1 ⟨H, T, R⟩ hp1
  have h8 := R.1.1
  have h7 := R.1.2.1
  refine sim_L ?_
  have R1 : RelH H T σ (ms τ 0 5 (nI 0)) := R.code
  have h5 : ms τ 0 5 (nI 0) 0 5 = nI 0 := by rw [ms_same, pk_us]
  unfold m_X10_lead m_X11_lead
  simp only [pu_lit]
  rcases ix_dec p0 H (by omega) with hb | ⟨h, hh, rfl⟩
  · refine Or.inl ⟨σ, ms (ms τ 0 5 (nI 0)) 0 5 (nI 1), by rw [C_needHouse_f (c0_23 R) hb]; rfl, ?_, by rw [ms_same, pk_us], H, T, R1.code⟩
    rw [ltE, R_isHouse_f R1.2.1.1 h8 hb]
    rfl
  rw [ltE, C_needHouse_t (c0_23 R) hh h8, R_isHouse_t R1.2.1.1 h8 hh, xb_inr, sbind, if_neg (show ¬ nI 1 = nI 0 by decide)]
  generalize ms τ 0 5 (nI 0) = w at *
  rw [R1.2.2.1.gS (by omega), R_isOf, sbind, R1.2.2.1.gL, R_isOf, sbind, ltE, pu_gd (k := 61) (by decide) (by decide), nI_clamp (n := 61) (by decide), pu_gd (k := 1) (n := 3) (by decide) (by decide), pu_gd (k := 1) (n := 3) (by decide) (by decide), nI_clamp (n := 1) (by decide), ltE]
  have ref : ∀ z : Int32, POL ((m_X1_refuse 42 σ (nI 1)).bind fun q2 => some (.inr (nI 0, q2.2))) (some (nI 0, ms w 18 1 (w 18 1 + nI 1))) := fun _ => by
    rw [C_refuse (by decide)]
    exact Or.inr ⟨nI 0, _, _, Or.inl rfl, rfl, rfl, by rw [ms_ne (by decide)]; exact h5, H, T, R1.refuse⟩
  have eb : nI 1 <<< (nI h &&& nI 31) = b1 h := rfl
  rw [eb]
  have go : ∀ z : Int32, (if bt (σ 43 61) h = nI 1 then nI 1 else nI 0) = z → POL (f_X10_lead_29 σ (nI h) p1 (b1 h) z) (if (if bt (σ 43 62) h = nI 1 then nI 1 else nI 0) = nI 0 then (if (if bt (σ 43 61) h = nI 1 then nI 1 else nI 0) = p1 then some (nI 0, ms w 18 1 (w 18 1 + nI 1)) else (m_X11_keep w).bind fun q9 => lt (ms q9 0 43 (q9 0 43 ^^^ b1 h)) fun σ10 => some (nI 1, σ10)) else some (nI 0, ms w 18 1 (w 18 1 + nI 1))) := by
    intro z hz
    rw [hz]
    unfold f_X10_lead_29
    simp only [pu_lit]
    rw [C_sealedNow, sbind]
    by_cases cs : bt (σ 43 62) h = nI 1
    · rw [if_pos cs, if_neg (show ¬ nI 1 = nI 0 by decide), if_neg (show ¬ nI 1 = nI 0 by decide)]
      by_cases c : z = p1
      · rw [if_pos c]; exact ref z
      · rw [if_neg c]; exact ref z
    · rw [if_neg cs, if_pos rfl, if_pos rfl]
      by_cases c : z = p1
      · rw [if_pos c, if_pos c]; exact ref z
      · rw [if_neg c, if_neg c]
        obtain ⟨u, k, eu, ek, e43, K, k5, _⟩ := keep_rel R1
        rw [pu_gd (k := 61) (by decide) (by decide), nI_clamp (n := 61) (by decide), C_actTo (by decide) eu, sbind, ek, sbind, ltE, K.2.2.1.gL, e43]
        exact Or.inr ⟨nI 1, _, _, Or.inr rfl, rfl, rfl, by rw [ms_same, pk_un (by decide), k5]; exact h5, H, T, K.rL⟩
  by_cases c : σ 43 61 &&& b1 h = nI 0
  · rw [if_pos c]
    exact go (nI 0) (by rw [(and_b1 (by omega)).mp c]; rfl)
  · rw [if_neg c]
    refine go (nI 1) ?_
    rw [if_pos ((bt_n0 (by omega)).mp (fun q => c ((and_b1 (by omega)).mpr q)))]
theorem S_see : SIM_see Rel := by
  intro σ τ p0 p1 p2 p3 ⟨H, T, R⟩ hp3
  have h8 := R.1.1
  have h7 := R.1.2.1
  refine sim_N ?_
  have R1 : RelH H T σ (ms τ 0 5 (nI 0)) := R.code
  have h5 : ms τ 0 5 (nI 0) 0 5 = nI 0 := by rw [ms_same, pk_us]
  unfold m_X10_see m_X11_see
  simp only [pu_lit]
  rcases ix_dec p0 T (by omega) with hb | ⟨t, ht, rfl⟩
  · exact po_throw ⟨H, T, R⟩ ⟨rfl, rfl⟩ (by rw [C_needTenant_f (c1_23 R) hb]; rfl) (by
      rw [ltE, R_isTenant_f R1.2.1.2.1 h7 hb]; rfl)
  rw [ltE, C_needTenant_t (c1_23 R) ht h7, R_isTenant_t R1.2.1.2.1 h7 ht, xb_inr, sbind, if_neg (show ¬ nI 1 = nI 0 by decide)]
  rcases ix_dec p1 H (by omega) with hb | ⟨h, hh, rfl⟩
  · exact po_throw ⟨H, T, R⟩ ⟨rfl, rfl⟩ (by rw [C_needHouse_f (c0_23 R) hb]; rfl) (by
      rw [R_isHouse_f R1.2.1.1 h8 hb]; rfl)
  rw [C_needHouse_t (c0_23 R) hh h8, R_isHouse_t R1.2.1.1 h8 hh, xb_inr, sbind, if_neg (show ¬ nI 1 = nI 0 by decide)]
  generalize ms τ 0 5 (nI 0) = w at *
  obtain ⟨a1, a2, a3, a4, a5, ⟨S, hS, eS, eS', hSr, hSb⟩, a7, a8, a9, a10⟩ := R1
  have R1 : RelH H T σ w := ⟨a1, a2, a3, a4, a5, ⟨S, hS, eS, eS', hSr, hSb⟩, a7, a8, a9, a10⟩
  rw [eS, eS']
  by_cases cS : S = 8
  · subst cS
    rw [if_pos nI_le_self, if_pos rfl]
    exact po_refuse (by decide) R1 h5
  rw [if_neg (nI_ge (by omega) (by omega)), if_neg (show ¬ nI S = nI 8 by rw [nI_eq (by omega) (by omega)]; exact cS)]
  rcases ix_rng p2 1 12 (by decide) (by decide) with hb | ⟨n, hn1, hn2, rfl⟩
  · rw [R_isIn_f (a := 1) (b := 12) (A := 1) (B := 12) (by decide) (by decide) hb, sbind, if_pos rfl]
    by_cases c : p2 < nI 1
    · rw [if_pos c]; exact po_refuse (by decide) R1 h5
    · rw [if_neg c, if_neg (Int32.not_le.mpr (hb.resolve_left c))]; exact po_refuse (by decide) R1 h5
  · rw [R_isIn_t (a := 1) (b := 12) (A := 1) (B := 12) (by decide) (by decide) ⟨hn1, hn2⟩ (by decide), sbind, if_neg (show ¬ nI 1 = nI 0 by decide), if_neg (nI_nlt hn1 (by omega)), if_pos (nI_le hn2 (by omega))]
    have hp3' : p3 = nI 0 ∨ p3 = nI 1 := hp3
    have cls : m_X6_add 46 σ (nI t) (nI h) (nI n) p3 = some (ms (ms (ms (ms (ms σ 47 (4 * S) (nI t)) 47 (4 * S + 1) (nI h)) 47 (4 * S + 2) (nI n)) 47 (4 * S + 3) p3) 46 1 (nI (S + 1))) := by
      unfold m_X6_add
      simp only [pu_lit, Nat.reduceAdd]
      rw [eS, if_neg (nI_ge (by omega) (by omega)), ltE, pk_mul, Nat.mul_comm S 4, pu_gd (k := 4 * S) (by omega) (by decide), nI_clamp (n := 4 * S) (by omega), ltE]
      simp only [nI_add]
      rw [pu_gd (k := 4 * S + 1) (by omega) (by decide), nI_clamp (n := 4 * S + 1) (by omega), ltE, pu_gd (k := 4 * S + 2) (by omega) (by decide), nI_clamp (n := 4 * S + 2) (by omega), ltE, nI_clamp (n := 4 * S + 3) (by omega)]
      rcases hp3' with rfl | rfl
      · rw [if_pos rfl, pu_gd (k := 4 * S + 3) (by omega) (by decide), ltE, ltE, ms_ne (by decide), ms_ne (by decide), ms_ne (by decide), ms_ne (by decide), eS, nI_add]
      · rw [if_neg (show ¬ nI 1 = nI 0 by decide), pu_gd (k := 4 * S + 3) (by omega) (by decide), ltE, ltE, ms_ne (by decide), ms_ne (by decide), ms_ne (by decide), ms_ne (by decide), eS, nI_add]
    have gz3 : ∀ {α : Type} {x : Option α}, gz p3 x = x := by
      intro α x
      rcases hp3' with rfl | rfl <;> rfl
    rw [cls, sbind, ms_at, pu_gd (k := S) (n := 8) (by omega) (by decide), nI_clamp (n := S) (by omega), ltE, ms_ne (by decide), eS', pu_gd (k := S) (n := 8) (by omega) (by decide), nI_clamp (n := S) (by omega), ltE, ms_ne (by decide), ms_ne (by decide), eS', pu_gd (k := S) (n := 8) (by omega) (by decide), nI_clamp (n := S) (by omega), ltE, ms_ne (by decide), ms_ne (by decide), ms_ne (by decide), eS', pu_gd (k := S) (n := 8) (by omega) (by decide), nI_clamp (n := S) (by omega), gz3, ltE, ltE, ms_at, ms_ne (by decide), ms_ne (by decide), ms_ne (by decide), ms_ne (by decide), eS', nI_add]
    refine po_val ⟨H, T, ?_⟩ ?_ rfl rfl
    · have hPE : PE σ (ms (ms (ms (ms (ms σ 47 (4 * S) (nI t)) 47 (4 * S + 1) (nI h)) 47 (4 * S + 2) (nI n)) 47 (4 * S + 3) p3) 46 1 (nI (S + 1))) := fun k h1 h2 h3 h4 => by
        rw [ms_ne (by omega), ms_ne (by omega), ms_ne (by omega), ms_ne (by omega), ms_ne (by omega)]
      have hc : fr [46, 47] σ (ms (ms (ms (ms (ms σ 47 (4 * S) (nI t)) 47 (4 * S + 1) (nI h)) 47 (4 * S + 2) (nI n)) 47 (4 * S + 3) p3) 46 1 (nI (S + 1))) := ((((fr.rfl.ms (by simp)).ms (by simp)).ms (by simp)).ms (by simp)).ms (by simp)
      have hr : fr [0, 37, 38, 39, 41] w (ms (ms (ms (ms (ms w 37 S (nI t)) 38 S (nI h)) 39 S (nI n)) 41 S p3) 0 45 (nI (S + 1))) := ((((fr.rfl.ms (by simp)).ms (by simp)).ms (by simp)).ms (by simp)).ms (by simp)
      have hs : ∀ s, s ≠ 45 → ms (ms (ms (ms (ms w 37 S (nI t)) 38 S (nI h)) 39 S (nI n)) 41 S p3) 0 45 (nI (S + 1)) 0 s = w 0 s := fun s z => by
        rw [ms_same, pk_un z, ms_ne (by decide), ms_ne (by decide), ms_ne (by decide), ms_ne (by decide)]
      refine ⟨a1.of hPE, (a2.of hPE).fr hr (by decide), ?_, ?_, ?_, ?_, ?_, ?_, ?_, ?_⟩
      · rw [hc 43 (by decide)]
        exact a3.keep0 (L := [37, 38, 39, 41]) hr (by decide) ⟨hs 41 (by decide), hs 42 (by decide), hs 43 (by decide)⟩
      · rw [hc 43 (by decide)]; exact a4
      · exact a5.of (hc 44 (by decide)) (hc 45 (by decide)) (hs 44 (by decide)) (hr 28 (by decide))
      · refine ⟨S + 1, by omega, by rw [ms_same, pk_us], by rw [ms_same, pk_us], fun i hi => ?_, fun i hi => ?_⟩
        · rw [ms_ne (show 37 ≠ 0 by decide), ms_ne (show 37 ≠ 41 by decide), ms_ne (show 37 ≠ 39 by decide), ms_ne (show 37 ≠ 38 by decide), ms_same, ms_ne (show 38 ≠ 0 by decide), ms_ne (show 38 ≠ 41 by decide), ms_ne (show 38 ≠ 39 by decide), ms_same, ms_ne (show 38 ≠ 37 by decide), ms_ne (show 39 ≠ 0 by decide), ms_ne (show 39 ≠ 41 by decide), ms_same, ms_ne (show 39 ≠ 38 by decide), ms_ne (show 39 ≠ 37 by decide), ms_ne (show 41 ≠ 0 by decide), ms_same, ms_ne (show 41 ≠ 39 by decide), ms_ne (show 41 ≠ 38 by decide), ms_ne (show 41 ≠ 37 by decide), ms_ne (show 46 + 1 ≠ 46 by decide), ms_same, ms_same, ms_same, ms_same]
          by_cases c : i = S
          · subst c
            rw [pk_us, pk_us, pk_us, pk_us, pk_un (show 4 * i ≠ 4 * i + 3 by omega), pk_un (show 4 * i ≠ 4 * i + 2 by omega), pk_un (show 4 * i ≠ 4 * i + 1 by omega), pk_us, pk_un (show 4 * i + 1 ≠ 4 * i + 3 by omega), pk_un (show 4 * i + 1 ≠ 4 * i + 2 by omega), pk_us, pk_un (show 4 * i + 2 ≠ 4 * i + 3 by omega), pk_us, pk_us]
            exact ⟨rfl, rfl, rfl, rfl, ⟨h, hh, rfl⟩, n, hn1, hn2, rfl⟩
          · rw [pk_un c, pk_un c, pk_un c, pk_un c]
            have up4 : ∀ q, q < 4 → upd (upd (upd (upd (σ 47) (4 * S) (nI t)) (4 * S + 1) (nI h)) (4 * S + 2) (nI n)) (4 * S + 3) p3 (4 * i + q) = σ 47 (4 * i + q) := fun q hq => by
              rw [pk_un (by omega), pk_un (by omega), pk_un (by omega), pk_un (by omega)]
            have e0 := up4 0 (by decide)
            simp only [Nat.add_zero] at e0
            rw [e0, up4 1 (by decide), up4 2 (by decide), up4 3 (by decide)]
            exact hSr i (by omega)
        · rw [ms_ne (show 41 ≠ 0 by decide), ms_same, ms_ne (show 41 ≠ 39 by decide), ms_ne (show 41 ≠ 38 by decide), ms_ne (show 41 ≠ 37 by decide)]
          by_cases c : i = S
          · subst c; rw [pk_us]; exact hp3'
          · rw [pk_un c]; exact hSb i hi
      · rw [hc 48 (by decide), hr 18 (by decide)]; exact a7
      · exact a8.of (fun k h1 h2 => hc k (by simp; omega)) (by rw [hc 0 (by decide)]) (fun k h1 h2 => hr k (by simp; omega)) ⟨hs 64 (by decide), hs 65 (by decide), hs 66 (by decide)⟩
      · rw [hc 0 (by decide), hs 30 (by decide)]; exact a9
      · exact a10.of (by rw [hc 3 (by decide)]) (hc 4 (by decide)) (hs 21 (by decide)) (hr 19 (by decide))
    · rw [ms_same, pk_un (by decide), ms_ne (by decide), ms_ne (by decide), ms_ne (by decide), ms_ne (by decide)]; exact h5
end ACTS2

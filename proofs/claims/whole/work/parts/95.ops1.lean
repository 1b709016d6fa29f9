/-! the calls, one by one: those that only tell -/
theorem c0_23 {σ τ : Mem} {H T : Nat} (R : RelH H T σ τ) : σ 23 0 = nI H := R.1.2.2.1
theorem c1_23 {σ τ : Mem} {H T : Nat} (R : RelH H T σ τ) : σ 23 1 = nI T := R.1.2.2.2.1
theorem PE.self {σ : Mem} : PE σ σ := fun _ _ _ _ _ => rfl
theorem S_fault : SIM_fault Rel := by
  intro σ τ ⟨H, T, R⟩
  refine ⟨σ 0 8, ms τ 0 5 (nI 0), rfl, ?_, H, T, R.code⟩
  unfold m_X11_fault
  show some (ms τ 0 5 (nI 0) 0 30, ms τ 0 5 (nI 0)) = _
  rw [ms_same, pk_un (by decide), R.2.2.2.2.2.2.2.2.1]
theorem S_count : SIM_count Rel := by
  intro σ τ p0 ⟨H, T, R⟩
  have h8 := R.1.1
  have h7 := R.1.2.1
  refine sim_N ?_
  have R1 : RelH H T σ (ms τ 0 5 (nI 0)) := R.code
  have h5 : ms τ 0 5 (nI 0) 0 5 = nI 0 := by rw [ms_same, pk_us]
  have val : ∀ v w : Int32, v = w → PO cN (some (.inr (v, σ))) (some (w, ms τ 0 5 (nI 0))) := fun v w e => po_val ⟨H, T, R1⟩ h5 rfl (by rw [e])
  unfold m_X10_count m_X11_count
  simp only [pu_lit]
  show PO cN _ (if p0 = nI 0 then _ else _)
  obtain ⟨A, F, _, _, _, eA, eA', _⟩ := R1.2.2.2.2.1
  obtain ⟨S, _, eS, eS', _⟩ := R1.2.2.2.2.2.1
  obtain ⟨n, _, en, en', _⟩ := R1.2.2.2.2.2.2.2.2.2
  have gX := R1.2.2.1
  have gP := R1.2.1
  have gS := R1.2.2.2.2.2.2.1
  generalize ms τ 0 5 (nI 0) = t at *
  by_cases c0 : p0 = nI 0
  · subst c0; rw [if_pos rfl, if_pos rfl, pu_gd (by decide) (by decide), nI_clamp (by decide), gP.1, c0_23 R]; exact val _ _ rfl
  rw [if_neg c0, if_neg c0]
  by_cases c1 : p0 = nI 1
  · subst c1; rw [if_pos rfl, if_pos rfl, pu_gd (by decide) (by decide), nI_clamp (by decide), gP.2.1, c1_23 R]; exact val _ _ rfl
  rw [if_neg c1, if_neg c1]
  by_cases c2 : p0 = nI 2
  · subst c2; rw [if_pos rfl, if_pos rfl, pu_gd (by decide) (by decide), nI_clamp (by decide), gP.2.2.1]; exact val _ _ rfl
  rw [if_neg c2, if_neg c2]
  by_cases c3 : p0 = nI 3
  · subst c3; rw [if_pos rfl, if_pos rfl, pu_gd (by decide) (by decide), nI_clamp (by decide), gX.gQ (by omega)]; exact val _ _ rfl
  rw [if_neg c3, if_neg c3]
  by_cases c4 : p0 = nI 4
  · subst c4; rw [if_pos rfl, if_pos rfl, pu_gd (by decide) (by decide), nI_clamp (by decide), gX.gS (by omega)]; exact val _ _ rfl
  rw [if_neg c4, if_neg c4]
  by_cases c5 : p0 = nI 5
  · subst c5; rw [if_pos rfl, if_pos rfl, C_housesOf PE.self R.1, R_nobodys gP.1 h8 (fun h hh => gX.g23 (by omega) (by omega) (by omega))]; exact val _ _ rfl
  rw [if_neg c5, if_neg c5]
  by_cases c6 : p0 = nI 6
  · subst c6; rw [if_pos rfl, if_pos rfl, pu_gd (by decide) (by decide), nI_clamp (by decide), gX.gL]; exact val _ _ rfl
  rw [if_neg c6, if_neg c6]
  by_cases c7 : p0 = nI 7
  · subst c7; rw [if_pos rfl, if_pos rfl, C_coins PE.self R.1, R_coins gP.2.1 h7 (fun h hh => gX.g27 (by omega) hh)]; exact val _ _ rfl
  rw [if_neg c7, if_neg c7]
  by_cases c8 : p0 = nI 8
  · subst c8; rw [if_pos rfl, if_pos rfl, eA, eA']; exact val _ _ rfl
  rw [if_neg c8, if_neg c8]
  by_cases c9 : p0 = nI 9
  · subst c9; rw [if_pos rfl, if_pos rfl, eS, eS']; exact val _ _ rfl
  rw [if_neg c9, if_neg c9]
  by_cases c10 : p0 = nI 10
  · subst c10; rw [if_pos rfl, if_pos rfl, en, en']; exact val _ _ rfl
  rw [if_neg c10, if_neg c10]
  by_cases c11 : p0 = nI 11
  · subst c11; rw [if_pos rfl, if_pos rfl, pk_sub (by decide), pu_gd (by decide) (by decide), pu_gd (by decide) (by decide), nI_clamp (by decide)]; exact val _ _ (gS 0 (by decide))
  rw [if_neg c11, if_neg c11]
  by_cases c12 : p0 = nI 12
  · subst c12; rw [if_pos rfl, if_pos rfl, pk_sub (by decide), pu_gd (by decide) (by decide), pu_gd (by decide) (by decide), nI_clamp (by decide)]; exact val _ _ (gS 1 (by decide))
  rw [if_neg c12, if_neg c12]
  by_cases c13 : p0 = nI 13
  · subst c13; rw [if_pos rfl, if_pos rfl, pk_sub (by decide), pu_gd (by decide) (by decide), pu_gd (by decide) (by decide), nI_clamp (by decide)]; exact val _ _ (gS 2 (by decide))
  rw [if_neg c13, if_neg c13]
  exact Or.inl ⟨0, 1, σ, nI 0, ms t 0 5 (nI 1), rfl, rfl, ⟨rfl, rfl⟩, by rw [ms_same, pk_us], H, T, R1.code⟩
theorem fr_slot {τ : Mem} {s : Nat} {v : Int32} : fr RS τ (ms τ 0 s v) := fr.rfl.ms (by decide)
theorem S_tenant : SIM_tenant Rel := by
  intro σ τ p0 p1 ⟨H, T, R⟩
  have h8 := R.1.1
  have h7 := R.1.2.1
  refine sim_N ?_
  have R1 : RelH H T σ (ms τ 0 5 (nI 0)) := R.code
  have h5 : ms τ 0 5 (nI 0) 0 5 = nI 0 := by rw [ms_same, pk_us]
  have val : ∀ v w : Int32, v = w → PO cN (some (.inr (v, σ))) (some (w, ms τ 0 5 (nI 0))) := fun v w e => po_val ⟨H, T, R1⟩ h5 rfl (by rw [e])
  unfold m_X10_tenant m_X11_tenant
  simp only [pu_lit]
  rcases ix_dec p0 T (by omega) with hb | ⟨t, ht, rfl⟩
  · exact po_throw ⟨H, T, R⟩ ⟨rfl, rfl⟩ (by rw [C_needTenant_f (c1_23 R) hb]; rfl) (by
      show (m_X11_isTenant (ms τ 0 5 (nI 0)) p0).bind _ = _
      rw [R_isTenant_f R1.2.1.2.1 h7 hb]; rfl)
  show PO cN _ ((m_X11_isTenant (ms τ 0 5 (nI 0)) (nI t)).bind _)
  rw [C_needTenant_t (c1_23 R) ht h7, R_isTenant_t R1.2.1.2.1 h7 ht, xb_inr, sbind, if_neg (show ¬ nI 1 = nI 0 by decide)]
  have gX := R1.2.2.1
  have gP := R1.2.1
  simp only [nI_add]
  generalize ms τ 0 5 (nI 0) = u at *
  by_cases c0 : p1 = nI 0
  · rw [if_pos c0, if_pos c0, pu_gd (by omega) (by decide), nI_clamp (by omega), pu_gd (by omega) (by decide), nI_clamp (by omega), gX.g25 (by omega) (by omega)]; exact val _ _ rfl
  rw [if_neg c0, if_neg c0]
  by_cases c1 : p1 = nI 1
  · rw [if_pos c1, if_pos c1, pu_gd (by omega) (by decide), nI_clamp (by omega), pu_gd (by omega) (by decide), gP.2.2.2.2.2.2.2.1 t ht]; exact val _ _ rfl
  rw [if_neg c1, if_neg c1]
  by_cases c2 : p1 = nI 2
  · rw [if_pos c2, if_pos c2, pu_gd (by omega) (by decide), nI_clamp (by omega), pu_gd (by omega) (by decide), nI_clamp (by omega), gX.g26 (by omega) (by omega)]; exact val _ _ rfl
  rw [if_neg c2, if_neg c2]
  by_cases c3 : p1 = nI 3
  · rw [if_pos c3, if_pos c3, pu_gd (by omega) (by decide), nI_clamp (by omega), pu_gd (by omega) (by decide), nI_clamp (by omega), gX.g27 (by omega) (by omega)]; exact val _ _ rfl
  rw [if_neg c3, if_neg c3]
  by_cases c4 : p1 = nI 4
  · rw [if_pos c4, if_pos c4, C_housesOf PE.self R.1, R_housesOf gP.1 h8 (fun h hh => gX.g23 (by omega) (by omega) (by omega))]; exact val _ _ rfl
  rw [if_neg c4, if_neg c4]
  by_cases c5 : p1 = nI 5
  · rw [if_pos c5, if_pos c5, pu_gd (by omega) (by decide), nI_clamp (by omega), pu_gd (by omega) (by decide), gP.2.2.2.2.2.2.2.2.1 t ht]; exact val _ _ rfl
  rw [if_neg c5, if_neg c5]
  exact Or.inl ⟨0, 1, σ, nI 0, ms u 0 5 (nI 1), rfl, rfl, ⟨rfl, rfl⟩, by rw [ms_same, pk_us], H, T, R1.code⟩
theorem C_sealedNow {σ : Mem} {h : Nat} : m_X10_isSealedNow σ (nI h) = some (if bt (σ 43 62) h = nI 1 then nI 1 else nI 0) := by
  unfold m_X10_isSealedNow
  simp only [pu_lit]
  rw [pu_gd (by decide) (by decide), nI_clamp (by decide), ite_some]
  rfl
theorem S_house : SIM_house Rel := by
  intro σ τ p0 p1 ⟨H, T, R⟩
  have h8 := R.1.1
  have h7 := R.1.2.1
  refine sim_N ?_
  have R1 : RelH H T σ (ms τ 0 5 (nI 0)) := R.code
  have h5 : ms τ 0 5 (nI 0) 0 5 = nI 0 := by rw [ms_same, pk_us]
  have val : ∀ v w : Int32, v = w → PO cN (some (.inr (v, σ))) (some (w, ms τ 0 5 (nI 0))) := fun v w e => po_val ⟨H, T, R1⟩ h5 rfl (by rw [e])
  unfold m_X10_house m_X11_house
  simp only [pu_lit]
  rcases ix_dec p0 H (by omega) with hb | ⟨h, hh, rfl⟩
  · exact po_throw ⟨H, T, R⟩ ⟨rfl, rfl⟩ (by rw [C_needHouse_f (c0_23 R) hb]; rfl) (by
      show (m_X11_isHouse (ms τ 0 5 (nI 0)) p0).bind _ = _
      rw [R_isHouse_f R1.2.1.1 h8 hb]; rfl)
  show PO cN _ ((m_X11_isHouse (ms τ 0 5 (nI 0)) (nI h)).bind _)
  rw [C_needHouse_t (c0_23 R) hh h8, R_isHouse_t R1.2.1.1 h8 hh, xb_inr, sbind, if_neg (show ¬ nI 1 = nI 0 by decide)]
  have gX := R1.2.2.1
  have gP := R1.2.1
  simp only [nI_add, Nat.zero_add]
  generalize ms τ 0 5 (nI 0) = u at *
  by_cases c0 : p1 = nI 0
  · rw [if_pos c0, if_pos c0, pu_gd (by omega) (by decide), nI_clamp (by omega), pu_gd (by omega) (by decide), gP.2.2.2.2.2.1 h hh]; exact val _ _ rfl
  rw [if_neg c0, if_neg c0]
  by_cases c1 : p1 = nI 1
  · rw [if_pos c1, if_pos c1, pu_gd (by omega) (by decide), nI_clamp (by omega), pu_gd (by omega) (by decide), gX.g20 (by omega) (by omega)]; exact val _ _ rfl
  rw [if_neg c1, if_neg c1]
  by_cases c2 : p1 = nI 2
  · rw [if_pos c2, if_pos c2, pu_gd (by omega) (by decide), nI_clamp (by omega), pu_gd (by omega) (by decide), nI_clamp (by omega), gX.g21 (by omega) (by omega)]; exact val _ _ rfl
  rw [if_neg c2, if_neg c2]
  by_cases c3 : p1 = nI 3
  · rw [if_pos c3, if_pos c3, pu_gd (by omega) (by decide), nI_clamp (by omega), pu_gd (by omega) (by decide), nI_clamp (by omega), gX.g22 (by omega) (by omega)]; exact val _ _ rfl
  rw [if_neg c3, if_neg c3]
  by_cases c4 : p1 = nI 4
  · rw [if_pos c4, if_pos c4, pu_gd (by omega) (by decide), nI_clamp (by omega), pu_gd (by omega) (by decide), nI_clamp (by omega), gX.g23 (by omega) (by omega) (by omega)]; exact val _ _ rfl
  rw [if_neg c4, if_neg c4]
  by_cases c5 : p1 = nI 5
  · rw [if_pos c5, if_pos c5, pu_gd (by omega) (by decide), nI_clamp (by omega), pu_gd (by omega) (by decide), nI_clamp (by omega), gX.g24 (by omega) (by omega)]; exact val _ _ rfl
  rw [if_neg c5, if_neg c5]
  by_cases c6 : p1 = nI 6
  · rw [if_pos c6, if_pos c6, pu_gd (by omega) (by decide), nI_clamp (by omega), pu_gd (by omega) (by decide), gP.2.2.2.2.2.2.1 h hh]; exact val _ _ rfl
  rw [if_neg c6, if_neg c6]
  by_cases c7 : p1 = nI 7
  · rw [if_pos c7, if_pos c7, C_sealedNow, gX.gS (by omega), R_isOf]
    by_cases cs : bt (σ 43 62) h = nI 1
    · rw [if_pos cs]; exact val _ _ rfl
    rw [if_neg cs]
    refine po_ok ?_
    rw [ok_bind, ok_some, if_pos rfl, ok_bind]
    refine ok_mono (C_isAsleep (P := σ) PE.self R.1 (Or.inl rfl) (by omega)) (fun q hq => ?_)
    have fin : ∀ v, OK (some (Sum.inr (v, q.2) : (Nat × Mem) ⊕ (Int32 × Mem))) (fun z => ∃ v u_1, z = .inr (v, u_1) ∧ OK ((some (nI 0)).bind fun q12 => if q12 = nI 0 then (m_X11_isAsleep u (nI h)).bind fun q14 => if q14.1 = nI 0 then some (nI 0, q14.2) else some (nI 1, q14.2) else some (nI 0, u)) (fun w => w.1 = v ∧ w.2 0 5 = nI 0 ∧ Rel u_1 w.2)) ↔ OK (m_X11_isAsleep u (nI h)) (fun q14 => (if q14.1 = nI 0 then nI 0 else nI 1) = v ∧ q14.2 0 5 = nI 0 ∧ Rel q.2 q14.2) := by
      intro v
      rw [ok_some]
      constructor
      · rintro ⟨v1, u1, e, h2⟩
        cases e
        rw [ok_bind, ok_some, if_pos rfl, ok_bind] at h2
        refine ok_mono h2 (fun a ha => ?_)
        by_cases c : a.1 = nI 0
        · rw [if_pos c] at ha ⊢; rw [ok_some] at ha; exact ha
        · rw [if_neg c] at ha ⊢; rw [ok_some] at ha; exact ha
      · intro h2
        refine ⟨v, q.2, rfl, ?_⟩
        rw [ok_bind, ok_some, if_pos rfl, ok_bind]
        refine ok_mono h2 (fun a ha => ?_)
        by_cases c : a.1 = nI 0
        · rw [if_pos c] at ha ⊢; rw [ok_some]; exact ha
        · rw [if_neg c] at ha ⊢; rw [ok_some]; exact ha
    have hfin : OK (m_X11_isAsleep u (nI h)) (fun q14 => (if q14.1 = nI 0 then nI 0 else nI 1) = (if q.1 = nI 0 then nI 0 else nI 1) ∧ q14.2 0 5 = nI 0 ∧ Rel q.2 q14.2) := by
      refine ok_mono (R_isAsleep gX (Or.inr rfl) gP R.1 hh) (fun q14 h14 => ⟨by rw [h14.1, hq.1], by rw [h14.2 0 (by decide)]; exact h5, H, T, ?_⟩)
      exact R1.keep (hq.2.1.mono (by decide)) (gX.keep h14.2 (by decide)) (h14.2.mono (by decide)) (fun s _ => by rw [h14.2 0 (by decide)])
    by_cases c : q.1 = nI 0
    · rw [if_pos c] at hfin ⊢; exact (fin _).mpr hfin
    · rw [if_neg c] at hfin ⊢; exact (fin _).mpr hfin
  rw [if_neg c7, if_neg c7]
  exact Or.inl ⟨0, 1, σ, nI 0, ms u 0 5 (nI 1), rfl, rfl, ⟨rfl, rfl⟩, by rw [ms_same, pk_us], H, T, R1.code⟩
theorem S_forget : SIM_forget Rel := by
  intro σ τ ⟨H, T, R⟩
  refine ⟨ms σ 46 1 (nI 0), ms (ms τ 0 5 (nI 0)) 0 45 (nI 0), rfl, rfl, H, T, ?_⟩
  obtain ⟨a1, a2, a3, a4, a5, a6, a7, a8, a9, a10⟩ := R.code (v := nI 0)
  have hPE : PE σ (ms σ 46 1 (nI 0)) := fun k h1 h2 h3 h4 => ms_ne (by omega)
  have hs : ∀ s, s ≠ 45 → ms (ms τ 0 5 (nI 0)) 0 45 (nI 0) 0 s = ms τ 0 5 (nI 0) 0 s := fun s hs => by rw [ms_same, pk_un hs]
  generalize ms τ 0 5 (nI 0) = t at *
  refine ⟨a1.of hPE, (a2.of hPE).fr (fr.rfl.ms (k := 0) (L := [0]) (by decide)) (by decide), ?_, ?_, ?_, ?_, ?_, ?_, ?_, ?_⟩
  · rw [ms_ne (by decide)]; exact a3.slot (by decide)
  · rw [ms_ne (by decide)]; exact a4
  · exact a5.of (ms_ne (by decide)) (ms_ne (by decide)) (hs 44 (by decide)) (ms_ne (by decide))
  · obtain ⟨S, _, _, _, _, h5⟩ := a6
    refine ⟨0, by decide, by rw [ms_same, pk_us], by rw [ms_same, pk_us], fun i hi => absurd hi (by omega), fun i hi => ?_⟩
    rw [ms_ne (by decide)]; exact h5 i hi
  · rw [ms_ne (by decide), ms_ne (by decide)]; exact a7
  · exact a8.of (fun k h1 h2 => ms_ne (by omega)) (by rw [ms_ne (by decide)]) (fun k h1 h2 => ms_ne (by omega)) ⟨hs 64 (by decide), hs 65 (by decide), hs 66 (by decide)⟩
  · rw [ms_ne (by decide), hs 30 (by decide)]; exact a9
  · exact a10.of (by rw [ms_ne (by decide)]) (ms_ne (by decide)) (hs 21 (by decide)) (ms_ne (by decide))

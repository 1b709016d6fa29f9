/-! shares: who has which; the call -/
section SHARE4
variable {H T each : Nat} {lk : Nat → Nat → Nat}
theorem least_joint {σ τ : Mem} {t s : Nat} (h8 : H ≤ 8) (h7 : T ≤ 7) (he : each ≤ 8) (hl : ∀ t h, lk t h ≤ 1001) (hS : TS lk H T each σ) (hB : BT lk H T each 0 (σ 41)) (hM : LM lk H T each τ) (hR : BT lk H T each 0 (τ 35)) (ht : t < T) (hs : s < 2 ^ H) : ∃ p, p ≤ s ∧ Sub p s ∧ m_X7_leastPart σ (nI t) (nI s) = some (nI p) ∧ m_X11_goingTo τ (nI t) (nI s) = some (nI p) := by
  have h256 := p2_256 h8
  have ej : T - t = (T - (t + 1)) + 1 := by omega
  obtain ⟨q0, a1, a2, a3⟩ := bS_att (lk := lk) (each := each) (j := T - (t + 1)) (t := t) (s := s) (by omega)
  rw [← ej] at a3
  have hbb : ∀ q, bS lk each (T - (t + 1)) (t + 1) q ≤ 100000 := fun q => by
    have := bS_le (each := each) hl (T - (t + 1)) (t + 1) q
    omega
  have hbt : bS lk each (T - t) t s ≤ 100000 := by
    have := bS_le (each := each) hl (T - t) t s
    omega
  have hbC : ∀ q, q < 2 ^ H → σ 41 ((t + 1) * 256 + q) = nI (bS lk each (T - (t + 1)) (t + 1) q) := fun q hq => hB (t + 1) (by omega) (by omega) q hq
  have hbR : ∀ q, q < 2 ^ H → τ 35 ((t + 1) * 256 + q) = nI (bS lk each (T - (t + 1)) (t + 1) q) := fun q hq => hR (t + 1) (by omega) (by omega) q hq
  -- the class at x
  have cls : ∀ (n x : Nat), x ≤ s → f_X7_leastPart_2 (nI t) (nI s) (n + 1) σ (nI x) = if nI x &&& (nI s ^^^ -nI 1) = nI 0 ∧ gO (wO (lk t) each) (bS lk each (T - (t + 1)) (t + 1)) s x = some (bS lk each (T - t) t s) then some (nI x) else f_X7_leastPart_2 (nI t) (nI s) n σ (nI (x + 1)) := by
    intro n x hx
    have hxx : s ^^^ x < 2 ^ H := Nat.xor_lt_two_pow hs (by omega)
    rw [f_X7_leastPart_2, hS.1, if_neg (nI_ge (by omega) (by omega)), C_worth h8 h7 hl hS ht (s := x) (by omega), sbind]
    unfold f_X7_leastPart_37
    simp only [pu_lit, if_true]
    rw [nI_add]
    by_cases c : nI x &&& (nI s ^^^ -nI 1) = nI 0
    · rw [if_pos c]
      cases ew : wO (lk t) each x with
      | none =>
        rw [if_pos (by rfl), if_neg (fun z => by have := z.2; unfold gO at this; rw [ew] at this; cases this)]
      | some a =>
        have ha := wO_le (hl t) ew
        have hb2 := hbb (s ^^^ x)
        have e1 : ¬ enc (some a) = -nI 1 := fun z => (nI_nm1 (show a < 2147483648 by omega)).mp z
        have eg : gO (wO (lk t) each) (bS lk each (T - (t + 1)) (t + 1)) s x = some (a + bS lk each (T - (t + 1)) (t + 1) (s ^^^ x)) := by unfold gO; rw [ew]; rfl
        rw [if_neg e1, if_neg (show ¬ nI 1 = nI 0 by decide), nI_add, nI_xor, pk_mul, pk_mul, nI_add, nI_add, pu_gd (k := (t + 1) * 256 + (s ^^^ x)) (by omega) (by decide), nI_clamp (n := (t + 1) * 256 + (s ^^^ x)) (by omega), pu_gd (k := t * 256 + s) (by omega) (by decide), nI_clamp (n := t * 256 + s) (by omega), hbC _ hxx, hB t (by omega) (by omega) s hs, eg]
        show (if nI a + nI (bS lk each (T - (t + 1)) (t + 1) (s ^^^ x)) = nI (bS lk each (T - t) t s) then some (nI x) else _) = _
        rw [nI_add]
        by_cases d : a + bS lk each (T - (t + 1)) (t + 1) (s ^^^ x) = bS lk each (T - t) t s
        · rw [if_pos (by rw [d]), if_pos ⟨c, by rw [d]⟩]
        · rw [if_neg (by rw [nI_eq (by omega) (by omega)]; exact d), if_neg (fun z => d (Option.some.inj z.2))]
    · rw [if_neg c, if_neg (fun z => c z.1)]
  have ref : ∀ (m x : Nat), x < s → f_X11_goingTo_2 (nI t) (nI s) (m + 1) τ (nI x) = if nI x &&& (nI s ^^^ -nI 1) = nI 0 ∧ gO (wO (lk t) each) (bS lk each (T - (t + 1)) (t + 1)) s x = some (bS lk each (T - t) t s) then some (nI x) else f_X11_goingTo_2 (nI t) (nI s) m τ (nI (x + 1)) := by
    intro m x hx
    rw [f_X11_goingTo_2, if_neg (nI_ge (by omega) (by omega))]
    simp only [pu_lit]
    rw [nI_add]
    by_cases c : nI x &&& (nI s ^^^ -nI 1) = nI 0
    · rw [if_pos c, sh8 (by omega), nI_add, nI_add, pu_gd (k := t * 256 + x) (by omega) (by decide), nI_clamp (n := t * 256 + x) (by omega), hM.2.2 t ht x (by omega)]
      cases ew : wO (lk t) each x with
      | none =>
        rw [if_pos (by rfl), if_neg (fun z => by have := z.2; unfold gO at this; rw [ew] at this; cases this)]
      | some a =>
        have ha := wO_le (hl t) ew
        have hb2 := hbb (s ^^^ x)
        have e1 : ¬ enc (some a) = -nI 1 := fun z => (nI_nm1 (show a < 2147483648 by omega)).mp z
        have eg : gO (wO (lk t) each) (bS lk each (T - (t + 1)) (t + 1)) s x = some (a + bS lk each (T - (t + 1)) (t + 1) (s ^^^ x)) := by unfold gO; rw [ew]; rfl
        rw [if_neg e1, R_by h8 h7 hM ht hs (by omega) c ew hbR, sbind, pu_gd (k := t * 256 + s) (by omega) (by decide), nI_clamp (n := t * 256 + s) (by omega), hR t (by omega) (by omega) s hs, eg]
        by_cases d : a + bS lk each (T - (t + 1)) (t + 1) (s ^^^ x) = bS lk each (T - t) t s
        · rw [if_pos (by rw [d]), if_pos ⟨c, by rw [d]⟩]
        · rw [if_neg (by rw [nI_eq (by omega) (by omega)]; exact d), if_neg (fun z => d (Option.some.inj z.2))]
    · rw [if_neg c, if_neg (fun z => c z.1)]
  have loop : ∀ (k n m x : Nat), x + k = s → k < n → k < m → (∀ y, y < x → ¬ (Sub y s ∧ gO (wO (lk t) each) (bS lk each (T - (t + 1)) (t + 1)) s y = some (bS lk each (T - t) t s))) → ∃ p, p ≤ s ∧ Sub p s ∧ f_X7_leastPart_2 (nI t) (nI s) n σ (nI x) = some (nI p) ∧ f_X11_goingTo_2 (nI t) (nI s) m τ (nI x) = some (nI p) := by
    intro k
    induction k with
    | zero =>
      intro n m x hk hn hm hy
      obtain ⟨n, rfl⟩ : ∃ q, n = q + 1 := ⟨n - 1, by omega⟩
      obtain ⟨m, rfl⟩ : ∃ q, m = q + 1 := ⟨m - 1, by omega⟩
      have e : x = s := by omega
      subst e
      have hq : q0 = x := by
        rcases Nat.lt_or_ge q0 x with q | q
        · exact absurd ⟨a2, a3⟩ (hy q0 q)
        · omega
      subst hq
      refine ⟨q0, Nat.le_refl _, a2, ?_, ?_⟩
      · rw [cls n q0 (Nat.le_refl _), if_pos ⟨a2, a3⟩]
      · rw [f_X11_goingTo_2, if_pos nI_le_self]
    | succ k ih =>
      intro n m x hk hn hm hy
      obtain ⟨n, rfl⟩ : ∃ q, n = q + 1 := ⟨n - 1, by omega⟩
      obtain ⟨m, rfl⟩ : ∃ q, m = q + 1 := ⟨m - 1, by omega⟩
      rw [cls n x (by omega), ref m x (by omega)]
      by_cases c : nI x &&& (nI s ^^^ -nI 1) = nI 0 ∧ gO (wO (lk t) each) (bS lk each (T - (t + 1)) (t + 1)) s x = some (bS lk each (T - t) t s)
      · rw [if_pos c, if_pos c]
        exact ⟨x, by omega, c.1, rfl, rfl⟩
      · rw [if_neg c, if_neg c]
        refine ih n m (x + 1) (by omega) (by omega) (by omega) (fun y h => ?_)
        by_cases d : y = x
        · subst d; exact c
        · exact hy y (by omega)
  exact loop s KF KF 0 (by omega) (by unfold KF; omega) (by unfold KF; omega) (fun y hy => absurd hy (by omega))
theorem who_joint {σ τ : Mem} {h : Nat} (h8 : H ≤ 8) (h7 : T ≤ 7) (he : each ≤ 8) (hl : ∀ t h, lk t h ≤ 1001) (hS : TS lk H T each σ) (hB : BT lk H T each 0 (σ 41)) (hM : LM lk H T each τ) (hR : BT lk H T each 0 (τ 35)) : ∀ (k n m t s : Nat), t + k = T → k < n → k < m → s < 2 ^ H → ∃ v, f_X7_whoHas_9 (nI h) n σ (nI s) (nI t) = some v ∧ f_X11_share_88 (nI h) m τ (nI s) (nI t) = some (v, τ) := by
  intro k
  induction k with
  | zero =>
    intro n m t s hk hn hm hs
    obtain ⟨n, rfl⟩ : ∃ q, n = q + 1 := ⟨n - 1, by omega⟩
    obtain ⟨m, rfl⟩ : ∃ q, m = q + 1 := ⟨m - 1, by omega⟩
    refine ⟨-nI 1, ?_, ?_⟩
    · rw [f_X7_whoHas_9, hS.2.1, if_pos (nI_le (by omega) (by omega))]
      simp only [pu_lit]
    · rw [f_X11_share_88]
      simp only [pu_lit]
      rw [pu_gd (by decide) (by decide), nI_clamp (by decide), hM.2.1, if_pos (nI_le (by omega) (by omega))]
  | succ k ih =>
    intro n m t s hk hn hm hs
    obtain ⟨n, rfl⟩ : ∃ q, n = q + 1 := ⟨n - 1, by omega⟩
    obtain ⟨m, rfl⟩ : ∃ q, m = q + 1 := ⟨m - 1, by omega⟩
    obtain ⟨p, p1, p2, p3, p4⟩ := least_joint h8 h7 he hl hS hB hM hR (t := t) (by omega) hs
    rw [f_X7_whoHas_9, hS.2.1, if_neg (nI_ge (by omega) (by omega)), p3, sbind, f_X11_share_88]
    simp only [pu_lit]
    rw [pu_gd (by decide) (by decide), nI_clamp (by decide), hM.2.1, if_neg (nI_ge (by omega) (by omega)), p4, sbind, R_isOf, sbind, p2.x, nI_add]
    show ∃ v, (if bt (nI p) h = nI 1 then some (nI t) else _) = some v ∧ _
    by_cases c : bt (nI p) h = nI 1
    · rw [if_pos c, if_pos c, if_neg (show ¬ nI 1 = nI 0 by decide)]
      exact ⟨nI t, rfl, rfl⟩
    · rw [if_neg c, if_neg c, if_pos rfl, ltE, ltE]
      exact ih n m (t + 1) _ (by omega) (by omega) (by omega) (Nat.xor_lt_two_pow hs (by omega))
/-- the class is told the likings -/
def TL (σ : Mem) (H u x : Nat) (σ1 : Mem) : Prop := (∀ t, t < u → ∀ h, h < H → σ1 39 (t * 8 + h) = lnS σ (σ 43) h t) ∧ ∀ h, h < x → σ1 39 (u * 8 + h) = lnS σ (σ 43) h u
def CH : List Nat := [30, 33, 35, 36, 37, 38, 39]
theorem pe_ch {σ σ1 : Mem} (hf : fr CH σ σ1) : PE σ σ1 := fun k h1 h2 h3 h4 => hf k (by unfold CH; simp; omega)
theorem C_told_in {k55 : Mem → Int32 → Option ((Nat × Mem) ⊕ (Int32 × Mem))} {σ σb : Mem} {x1 : Int32} {t : Nat} (hW : PW σ H T) (ht : t < T) : ∀ (k n h : Nat) (σ1 : Mem), h + k = H → k < n → fr CH σ σ1 → σ1 38 = σb 38 → TL σ H t h σ1 → ∃ σ2, fr CH σ σ2 ∧ σ2 38 = σb 38 ∧ TL σ H (t + 1) 0 σ2 ∧ f_X10_share_69 k55 x1 (nI t) n σ1 (nI h) = k55 σ2 (nI (t + 1)) := by
  have h8 := hW.1
  have h7 := hW.2.1
  intro k
  induction k with
  | zero =>
    intro n h σ1 hk hn hf e38 hL
    obtain ⟨n, rfl⟩ : ∃ q, n = q + 1 := ⟨n - 1, by omega⟩
    have e0 : σ1 23 0 = nI H := by rw [hf 23 (by decide)]; exact hW.2.2.1
    refine ⟨σ1, hf, e38, ⟨fun u hu j hj => ?_, fun j hj => absurd hj (by omega)⟩, ?_⟩
    · by_cases c : u = t
      · subst c; exact hL.2 j (by omega)
      · exact hL.1 u (by omega) j hj
    · rw [f_X10_share_69, e0, if_pos (nI_le (by omega) (by omega))]
      simp only [pu_lit]
      rw [nI_add]
  | succ k ih =>
    intro n h σ1 hk hn hf e38 hL
    obtain ⟨n, rfl⟩ : ∃ q, n = q + 1 := ⟨n - 1, by omega⟩
    have e0 : σ1 23 0 = nI H := by rw [hf 23 (by decide)]; exact hW.2.2.1
    obtain ⟨q, eq, q1, q2⟩ := C_likingNow (r1 := 43) (pe_ch hf) hW (Or.inl rfl) (h := h) (t := t) (by omega) (by omega)
    have e43 : σ1 43 = σ 43 := hf 43 (by decide)
    rw [e43] at q1
    have q1' : q.1 = lnS σ (σ 43) h t := q1
    have tl : m_X7_tell q.2 (nI t) (nI h) q.1 = some (ms q.2 39 (t * 8 + h) (lnS σ (σ 43) h t)) := by
      unfold m_X7_tell
      simp only [pu_lit]
      rw [pk_mul, nI_add, pu_gd (by omega) (by decide), nI_clamp (by omega), ltE, q1']
    rw [f_X10_share_69, e0, if_neg (nI_ge (by omega) (by omega)), eq, sbind, tl, sbind, nI_1]
    refine ih n (h + 1) _ (by omega) (by omega) ((hf.trans (q2.mono (by decide))).ms (by decide)) ?_ ⟨fun u hu j hj => ?_, fun j hj => ?_⟩
    · rw [ms_ne (by decide), q2 38 (by decide)]; exact e38
    · rw [ms_same, pk_un (by omega), q2 39 (by decide)]; exact hL.1 u hu j hj
    · rw [ms_same]
      by_cases c : j = h
      · subst c; exact pk_us
      · rw [pk_un (by omega), q2 39 (by decide)]; exact hL.2 j (by omega)
theorem C_told {σ σb : Mem} {x1 : Int32} {Q : (Nat × Mem) ⊕ (Int32 × Mem) → Prop} (hW : PW σ H T) (kk : ∀ q, fr CH σ q → q 38 = σb 38 → TL σ H T 0 q → OK ((m_X7_weigh q).bind fun q2 => if x1 = -nI 1 then (m_X7_howMuch q2).bind fun q5 => some (.inr (q5, q2)) else (m_X7_whoHas q2 x1).bind fun q4 => some (.inr (q4, q2))) Q) : ∀ (k n t : Nat) (σ1 : Mem), t + k = T → k < n → fr CH σ σ1 → σ1 38 = σb 38 → TL σ H t 0 σ1 → OK (f_X10_share_55 x1 n σ1 (nI t)) Q := by
  have h8 := hW.1
  have h7 := hW.2.1
  intro k
  induction k with
  | zero =>
    intro n t σ1 hk hn hf e38 hL
    obtain ⟨n, rfl⟩ : ∃ q, n = q + 1 := ⟨n - 1, by omega⟩
    have e1 : σ1 23 1 = nI T := by rw [hf 23 (by decide)]; exact hW.2.2.2.1
    have e : t = T := by omega
    subst e
    rw [f_X10_share_55, e1, if_pos nI_le_self]
    simp only [pu_lit]
    exact kk σ1 hf e38 hL
  | succ k ih =>
    intro n t σ1 hk hn hf e38 hL
    obtain ⟨n, rfl⟩ : ∃ q, n = q + 1 := ⟨n - 1, by omega⟩
    have e1 : σ1 23 1 = nI T := by rw [hf 23 (by decide)]; exact hW.2.2.2.1
    rw [f_X10_share_55, e1, if_neg (nI_ge (by omega) (by omega))]
    obtain ⟨σ2, g1, g2, g3, g4⟩ := C_told_in (k55 := f_X10_share_55 x1 n) (x1 := x1) (σb := σb) hW (t := t) (by omega) H KF 0 σ1 (by omega) (by unfold KF; omega) hf e38 hL
    have g4' : f_X10_share_69 (f_X10_share_55 x1 n) x1 (nI t) KF σ1 0 = _ := g4
    rw [g4']
    exact ih n (t + 1) σ2 (by omega) (by omega) g1 g2 g3
theorem lt_m1 {x : Int32} (h : x < nI 0) (h2 : ¬ x = -nI 1) : x < -nI 1 := by
  have h1 := Int32.lt_iff_toInt_lt.mp h
  have e0 : (nI 0 : Int32).toInt = 0 := by decide
  have e1 : (-nI 1 : Int32).toInt = -1 := by decide
  rw [e0] at h1
  apply Int32.lt_iff_toInt_lt.mpr
  rw [e1]
  have : ¬ x.toInt = -1 := fun z => h2 (Int32.toInt_inj.mp (by rw [z, e1]))
  omega
theorem S_share : SIM_share Rel := by
  intro σ τ p0 p1 ⟨H, T, R⟩
  have h8 := R.1.1
  have h7 := R.1.2.1
  have h256 := p2_256 h8
  refine sim_NI ?_
  have R1 : RelH H T σ (ms τ 0 5 (nI 0)) := R.code
  have key : ∀ (hp : p0 = -nI 1 ∨ ∃ h, h < H ∧ p0 = nI h), PO cNI (f_X10_share_10 σ p0 p1) ((m_X11_isIn (ms τ 0 5 (nI 0)) (Int32.toInt64 p1) 1 8).bind fun q4 => if q4 = nI 0 then (m_X11_fail (ms τ 0 5 (nI 0)) (nI 2)).bind fun q11 => some (q11.1, q11.2) else (m_X11_tellBegun (ms τ 0 5 (nI 0))).bind fun q6 => (m_X11_tellLiked q6 p1).bind fun q7 => (m_X11_tellMost q7).bind fun q8 => gd (nI 0) 10 (lt ((nI 1 <<< ((q8 5 (nI 0).toNatClampNeg) &&& nI 31)) - nI 1) fun y9 => if p0 = -nI 1 then gd y9 2048 (some (q8 35 y9.toNatClampNeg, q8)) else f_X11_share_88 p0 KF q8 y9 (nI 0))) := by
    intro hp
    unfold f_X10_share_10
    simp only [pu_lit]
    rcases ix_rng p1 1 8 (by decide) (by decide) with hb | ⟨each, he1, he, rfl⟩
    · refine po_throw ⟨H, T, R⟩ (Or.inr ⟨rfl, rfl⟩) ?_ (by
        rw [R_isIn_f (a := 1) (b := 8) (A := 1) (B := 8) (by decide) (by decide) hb]; rfl)
      by_cases c : p1 < nI 1
      · rw [if_pos c]
      · rw [if_neg c, if_neg (Int32.not_le.mpr (hb.resolve_left c))]
    rw [R_isIn_t (a := 1) (b := 8) (A := 1) (B := 8) (by decide) (by decide) ⟨he1, he⟩ (by decide), sbind, if_neg (show ¬ nI 1 = nI 0 by decide), if_neg (nI_nlt he1 (by omega)), if_pos (nI_le he (by omega)), c0_23 R, c1_23 R]
    have bg : m_X7_begin σ (nI H) (nI T) (nI each) = some (ms (ms (ms σ 38 4 (nI (2 ^ H))) 38 3 (nI T)) 38 5 (nI each)) := by
      unfold m_X7_begin
      simp only [pu_lit]
      rw [b1_p2 H (by omega), ltE, ltE, ltE]
    rw [bg, sbind]
    -- the reference
    obtain ⟨u6, x6, f6, B6⟩ := R_begunB R1.2.1.1 h8 R1.2.2.1
    have S6 : RQs (ms τ 0 5 (nI 0)) u6 := RQs.of f6 (by decide)
    have X6 : LX σ H T (σ 43) u6 := ⟨R1.2.1.s S6, R1.2.2.1.keep f6 (by decide), B6⟩
    obtain ⟨u7, x7, f7, X7, L7⟩ := R_liked (each := each) R.1 R.2.2.2.1 he X6
    have S7 : RQs u6 u7 := RQs.of f7 (by decide)
    have hl : ∀ t h, LK σ (σ 43) t h ≤ 1001 := fun t h => lk_ok.1
    have M7 : LM (LK σ (σ 43)) H T each u7 := ⟨X7.1.1, X7.1.2.1, fun t ht s hs => L7.1 t ht s hs⟩
    obtain ⟨u8, x8, f8, M8, B8⟩ := R_most h8 h7 he hl M7
    have S8 : RQs u7 u8 := RQs.of f8 (by decide)
    have Rx : RX H 64 (σ 43) u8 := X7.2.1.keep f8 (by decide)
    have Sall := (S6.trans S7).trans S8
    rw [x6, sbind, x7, sbind, x8, sbind, pu_gd (by decide) (by decide), nI_clamp (by decide), M8.1, b1_p2 H (by omega), ltE, pk_sub (Nat.two_pow_pos H)]
    -- the class
    refine po_ok (C_told (σ := σ) (σb := ms (ms (ms σ 38 4 (nI (2 ^ H))) 38 3 (nI T)) 38 5 (nI each)) (x1 := p0) R.1 (fun q g1 g2 g3 => ?_) T KF 0 _ (by omega) (by unfold KF; omega) (((fr.rfl.ms (by decide)).ms (by decide)).ms (by decide)) rfl ⟨fun t ht => absurd ht (by omega), fun h hh => absurd hh (by omega)⟩)
    have hTS : TS (LK σ (σ 43)) H T each q := by
      refine ⟨by rw [g2, ms_same, pk_un (by decide), ms_same, pk_un (by decide), ms_same, pk_us], by rw [g2, ms_same, pk_un (by decide), ms_same, pk_us], by rw [g2, ms_same, pk_us], fun t ht h hh => ?_⟩
      rw [g3.1 t ht h hh]
      exact ⟨lk_ok.2.1, lk_ok.2.2⟩
    obtain ⟨w, ew, w1, w2, w3⟩ := C_weigh h8 h7 hl hTS
    rw [ew, sbind]
    have fc : fr CS σ w := (g1.mono (by decide)).trans (w1.mono (by decide))
    obtain ⟨d5, dR⟩ := R.done fc Rx Sall
    have hN : 0 < 2 ^ H := Nat.two_pow_pos H
    rcases hp with rfl | ⟨h, hh, rfl⟩
    · simp only [if_true]
      have hm : m_X7_howMuch w = some (w 41 (2 ^ H - 1)) := by
        unfold m_X7_howMuch
        simp only [pu_lit]
        rw [w2.1, pk_sub hN, pu_gd (by omega) (by decide), nI_clamp (by omega)]
      rw [hm, sbind, ok_some, pu_gd (by omega) (by decide), nI_clamp (by omega)]
      refine ⟨_, _, rfl, (_, u8), rfl, ?_, d5, dR⟩
      have b1 := B8 0 (by omega) (by omega) (2 ^ H - 1) (by omega)
      have b2 := w3 0 (by omega) (by omega) (2 ^ H - 1) (by omega)
      rw [Nat.zero_mul, Nat.zero_add] at b1 b2
      show u8 35 (2 ^ H - 1) = w 41 (2 ^ H - 1)
      rw [b1, b2]
    · have hn : ¬ nI h = -nI 1 := fun z => (nI_nm1 (by omega)).mp z
      rw [if_neg hn, if_neg hn]
      obtain ⟨v, v1, v2⟩ := who_joint (h := h) h8 h7 he hl w2 w3 M8 B8 T KF KF 0 (2 ^ H - 1) (by omega) (by unfold KF; omega) (by unfold KF; omega) (by omega)
      have hw : m_X7_whoHas w (nI h) = some v := by
        unfold m_X7_whoHas
        simp only [pu_lit]
        rw [w2.1, pk_sub hN, ltE]
        exact v1
      rw [hw, sbind, ok_some, v2]
      exact ⟨_, _, rfl, (v, u8), rfl, rfl, d5, dR⟩
  unfold m_X10_share m_X11_share
  simp only [pu_lit]
  rw [ltE, pu_gd (by decide) (by decide), nI_clamp (by decide), R1.2.1.1, R_isIn (a := -nI 1) (b := nI H - nI 1) (by decide) rfl, sbind]
  have el : (nI H - nI 1 < p0) = (nI H ≤ p0) := propext (lt_pred (by omega))
  simp only [el]
  by_cases c : p0 = -nI 1
  · have e1 : (if p0 < -nI 1 then nI 0 else if nI H ≤ p0 then nI 0 else nI 1) = nI 1 := by
      rw [if_neg (show ¬ p0 < -nI 1 by rw [c]; decide), if_neg (show ¬ nI H ≤ p0 by rw [c]; exact fun z => absurd (Int32.lt_of_le_of_lt z m1_lt0) (nn0 (by omega)))]
    rw [if_pos c, e1, if_neg (show ¬ nI 1 = nI 0 by decide)]
    exact key (Or.inl c)
  rw [if_neg c]
  rcases ix_dec p0 H (by omega) with hb | ⟨h, hh, rfl⟩
  · refine po_throw (b := nI 0) ⟨H, T, R⟩ (Or.inl ⟨rfl, rfl⟩) (by rw [C_needHouse_f (c0_23 R) hb]; rfl) ?_
    by_cases d : p0 < -nI 1
    · rw [if_pos d]; rfl
    · have hH : nI H ≤ p0 := hb.resolve_left (fun z => d (lt_m1 z c))
      rw [if_neg d, if_pos hH]; rfl
  · have e1 : (if nI h < -nI 1 then nI 0 else if nI H ≤ nI h then nI 0 else nI 1) = nI 1 := by
      rw [if_neg (show ¬ nI h < -nI 1 from fun z => nn0 (show h < 2147483648 by omega) (Int32.lt_trans z m1_lt0)), if_neg (nI_ge hh (by omega))]
    rw [C_needHouse_t (c0_23 R) hh h8, xb_inr, e1, if_neg (show ¬ nI 1 = nI 0 by decide)]
    exact key (Or.inr ⟨h, hh, rfl⟩)
end SHARE4

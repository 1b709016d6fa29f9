/-! gets, loses, sealed -/
section FIRST
variable {P : Mem} {H T : Nat} {r0 : Rw}
theorem gets_loop (hW : PW P H T) {h t : Nat} (hh : h < H) (ht : t < T) : ∀ (k n m i : Nat) (σ1 τ1 : Mem) (r : Rw), i + k = 41 → k < n → k + 1 < m → σ1 56 = r → PE P σ1 → RX H 64 r τ1 → RW r H T → PR P τ1 H T → (∀ j, j < 64 → owc H j → τ1 34 (0 + po j) = r0 j) →
    ∃ (v : Int32) (σ2 τ2 : Mem), f_X10_firstWhen_7 (nI h) (nI t) (nI 1) n σ1 (nI i) = some (v, σ2) ∧ f_X11_gets_41 (nI t) (nI h) m τ1 (-nI 1) (nI i) = some (v, τ2) ∧ fr CS σ1 σ2 ∧ RX H 64 r0 τ2 ∧ RQs τ1 τ2 := by
  have h8 := hW.1
  have h7 := hW.2.1
  intro k
  induction k with
  | zero =>
    intro n m i σ1 τ1 r hk hn hm er hP R hr hPR h34
    obtain ⟨n, rfl⟩ : ∃ q, n = q + 1 := ⟨n - 1, by omega⟩
    obtain ⟨m, rfl⟩ : ∃ q, m = q + 1 := ⟨m - 1, by omega⟩
    obtain ⟨q, eq, Rq, Sq⟩ := R_unpackT h34
    refine ⟨-nI 1, σ1, q, ?_, ?_, fr.rfl, Rq, Sq⟩
    · rw [f_X10_firstWhen_7]
      simp only [pu_lit, if_true]
      rw [if_pos (nI_lt (by omega) (by omega))]
    · rw [f_X11_gets_41]
      simp only [pu_lit, if_true]
      rw [if_pos (nI_lt (by omega) (by omega)), eq, sbind]
  | succ k ih =>
    intro n m i σ1 τ1 r hk hn hm er hP R hr hPR h34
    obtain ⟨n, rfl⟩ : ∃ q, n = q + 1 := ⟨n - 1, by omega⟩
    obtain ⟨m, rfl⟩ : ∃ q, m = q + 1 := ⟨m - 1, by omega⟩
    obtain ⟨q, eq, Rq, Fq, _⟩ := R_quarter hW hPR R hr
    have h34q : ∀ j, j < 64 → owc H j → q 34 (0 + po j) = r0 j := fun j hj ho => by rw [Fq.c34]; exact h34 j hj ho
    rw [f_X10_firstWhen_7, f_X11_gets_41]
    simp only [pu_lit, if_true]
    rw [if_neg (nI_nlt (by omega) (by omega)), if_neg (nI_nlt (by omega) (by omega)), nI_add, nI_add, pu_gd (k := 24 + h) (by omega) (by decide), nI_clamp (n := 24 + h) (by omega), pu_gd (k := h) (by omega) (by decide), nI_clamp (n := h) (by omega), er, R.g23 (by omega) (by omega) (by omega)]
    by_cases c : r (24 + h) = nI t
    · rw [if_pos c, if_pos c, eq, sbind]
      obtain ⟨m, rfl⟩ : ∃ q, m = q + 1 := ⟨m - 1, by omega⟩
      obtain ⟨q2, e2, R2, S2⟩ := R_unpackT h34q
      refine ⟨nI i, σ1, q2, rfl, ?_, fr.rfl, R2, (RQs.ofQ Fq).trans S2⟩
      rw [f_X11_gets_41]
      simp only [pu_lit, if_true]
      rw [e2, sbind, if_neg (fun z => (nI_nm1 (by omega)).mp z)]
      split <;> rfl
    · rw [if_neg c, if_neg c, if_neg (show ¬ nI 0 = nI 1 by decide), eq, sbind]
      by_cases c40 : i = 40
      · subst c40
        rw [if_pos nI_le_self]
        have hk0 : k = 0 := by omega
        subst hk0
        obtain ⟨n, rfl⟩ : ∃ q, n = q + 1 := ⟨n - 1, by omega⟩
        obtain ⟨m, rfl⟩ : ∃ q, m = q + 1 := ⟨m - 1, by omega⟩
        obtain ⟨q2, e2, R2, S2⟩ := R_unpackT h34q
        refine ⟨-nI 1, σ1, q2, ?_, ?_, fr.rfl, R2, (RQs.ofQ Fq).trans S2⟩
        · rw [f_X10_firstWhen_7]
          simp only [pu_lit, if_true]
          rw [if_pos (nI_lt (by omega) (by omega))]
        · rw [f_X11_gets_41]
          simp only [pu_lit, if_true]
          rw [if_pos (nI_lt (by omega) (by omega)), e2, sbind]
      · rw [if_neg (nI_ge (by omega) (by omega))]
        obtain ⟨u, eu, hu1, hu2, _⟩ := C_quarter (r1 := 56) (Or.inr rfl) hW hP
        rw [eu, sbind]
        rw [er] at hu1
        obtain ⟨v, σ2, τ2, a1, a2, a3, a4, a5⟩ := ih n m (i + 1) u q (qS P H T r) (by omega) (by omega) (by omega) hu1 (hP.fr hu2 (by decide)) Rq (qS_W hW hr) (hPR.q Fq) h34q
        exact ⟨v, σ2, τ2, a1, a2, (hu2.mono (by decide)).trans a3, a4, (RQs.ofQ Fq).trans a5⟩
theorem loses_loop (hW : PW P H T) {h o : Nat} (hh : h < H) (ho : o < T) : ∀ (k n m i : Nat) (σ1 τ1 : Mem) (r : Rw), i + k = 40 → k + 1 < n → k + 1 < m → σ1 56 = r → r (24 + h) = nI o → PE P σ1 → RX H 64 r τ1 → RW r H T → PR P τ1 H T → (∀ j, j < 64 → owc H j → τ1 34 (0 + po j) = r0 j) →
    ∃ (v : Int32) (σ2 τ2 : Mem), f_X10_firstWhen_7 (nI h) (nI o) (nI 0) n σ1 (nI i) = some (v, σ2) ∧ f_X11_loses_40 (nI h) (nI o) m τ1 (-nI 1) (nI (i + 1)) = some (v, τ2) ∧ fr CS σ1 σ2 ∧ RX H 64 r0 τ2 ∧ RQs τ1 τ2 := by
  have h8 := hW.1
  have h7 := hW.2.1
  intro k
  induction k with
  | zero =>
    intro n m i σ1 τ1 r hk hn hm er hro hP R hr hPR h34
    obtain ⟨n, rfl⟩ : ∃ q, n = q + 1 + 1 := ⟨n - 2, by omega⟩
    obtain ⟨m, rfl⟩ : ∃ q, m = q + 1 := ⟨m - 1, by omega⟩
    obtain ⟨q, eq, Rq, Sq⟩ := R_unpackT h34
    refine ⟨-nI 1, σ1, q, ?_, ?_, fr.rfl, Rq, Sq⟩
    · rw [f_X10_firstWhen_7]
      simp only [pu_lit, if_true]
      rw [if_neg (nI_nlt (by omega) (by omega)), nI_add, nI_add, pu_gd (k := 24 + h) (by omega) (by decide), nI_clamp (n := 24 + h) (by omega), er, if_pos hro, if_neg (show ¬ nI 1 = nI 0 by decide), if_pos (nI_le (by omega) (by omega)), f_X10_firstWhen_7]
      simp only [pu_lit, if_true]
      rw [if_pos (nI_lt (by omega) (by omega))]
    · rw [f_X11_loses_40]
      simp only [pu_lit, if_true]
      rw [if_pos (nI_lt (by omega) (by omega)), eq, sbind]
  | succ k ih =>
    intro n m i σ1 τ1 r hk hn hm er hro hP R hr hPR h34
    obtain ⟨n, rfl⟩ : ∃ q, n = q + 1 := ⟨n - 1, by omega⟩
    obtain ⟨m, rfl⟩ : ∃ q, m = q + 1 := ⟨m - 1, by omega⟩
    obtain ⟨q, eq, Rq, Fq, _⟩ := R_quarter hW hPR R hr
    have h34q : ∀ j, j < 64 → owc H j → q 34 (0 + po j) = r0 j := fun j hj ho => by rw [Fq.c34]; exact h34 j hj ho
    obtain ⟨u, eu, hu1, hu2, _⟩ := C_quarter (r1 := 56) (Or.inr rfl) hW hP
    rw [er] at hu1
    rw [f_X10_firstWhen_7, f_X11_loses_40]
    simp only [pu_lit, if_true]
    rw [if_neg (nI_nlt (by omega) (by omega)), if_neg (nI_nlt (by omega) (by omega)), if_neg (fun z => (nI_nm1 (by omega)).mp z), nI_add, nI_add, pu_gd (k := 24 + h) (by omega) (by decide), nI_clamp (n := 24 + h) (by omega), er, if_pos hro, if_neg (show ¬ nI 1 = nI 0 by decide), if_neg (nI_ge (by omega) (by omega)), eu, sbind, eq, sbind, pu_gd (k := h) (by omega) (by decide), nI_clamp (n := h) (by omega), Rq.g23 (by omega) (by omega) (by omega), nI_add]
    by_cases c : qS P H T r (24 + h) = nI o
    · rw [if_pos c]
      obtain ⟨v, σ2, τ2, a1, a2, a3, a4, a5⟩ := ih n m (i + 1) u q (qS P H T r) (by omega) (by omega) (by omega) hu1 c (hP.fr hu2 (by decide)) Rq (qS_W hW hr) (hPR.q Fq) h34q
      exact ⟨v, σ2, τ2, a1, a2, (hu2.mono (by decide)).trans a3, a4, (RQs.ofQ Fq).trans a5⟩
    · rw [if_neg c]
      obtain ⟨n, rfl⟩ : ∃ q, n = q + 1 := ⟨n - 1, by omega⟩
      obtain ⟨m, rfl⟩ : ∃ q, m = q + 1 := ⟨m - 1, by omega⟩
      obtain ⟨q2, e2, R2, S2⟩ := R_unpackT h34q
      refine ⟨nI (i + 1), u, q2, ?_, ?_, hu2.mono (by decide), R2, (RQs.ofQ Fq).trans S2⟩
      · rw [f_X10_firstWhen_7]
        simp only [pu_lit, if_true]
        rw [if_neg (nI_nlt (by omega) (by omega)), nI_add, pu_gd (k := 24 + h) (by omega) (by decide), nI_clamp (n := 24 + h) (by omega), hu1, if_neg c]
      · rw [f_X11_loses_40]
        simp only [pu_lit, if_true]
        rw [e2, sbind, if_neg (fun z => (nI_nm1 (by omega)).mp z)]
        split <;> rfl
end FIRST
theorem S_gets : SIM_gets Rel := by
  intro σ τ p0 p1 ⟨H, T, R⟩
  have h8 := R.1.1
  have h7 := R.1.2.1
  refine sim_N ?_
  have R1 : RelH H T σ (ms τ 0 5 (nI 0)) := R.code
  unfold m_X10_gets m_X11_gets
  simp only [pu_lit, if_true]
  rcases ix_dec p0 T (by omega) with hb | ⟨t, ht, rfl⟩
  · exact po_throw ⟨H, T, R⟩ ⟨rfl, rfl⟩ (by rw [C_needTenant_f (c1_23 R) hb]; rfl) (by
      rw [ltE, R_isTenant_f R1.2.1.2.1 h7 hb]; rfl)
  rw [ltE, C_needTenant_t (c1_23 R) ht h7, R_isTenant_t R1.2.1.2.1 h7 ht, xb_inr, sbind, if_neg (show ¬ nI 1 = nI 0 by decide)]
  rcases ix_dec p1 H (by omega) with hb | ⟨h, hh, rfl⟩
  · exact po_throw ⟨H, T, R⟩ ⟨rfl, rfl⟩ (by rw [C_needHouse_f (c0_23 R) hb]; rfl) (by
      rw [R_isHouse_f R1.2.1.1 h8 hb]; rfl)
  rw [C_needHouse_t (c0_23 R) hh h8, R_isHouse_t R1.2.1.1 h8 hh, xb_inr, sbind, if_neg (show ¬ nI 1 = nI 0 by decide)]
  obtain ⟨u, eu, hu1, hu2⟩ := C_copy (σ := σ)
  obtain ⟨q6, e6, hf6, h6⟩ := R_packT R1.2.2.1
  have S6 : RQs (ms τ 0 5 (nI 0)) q6 := RQs.of hf6 (by decide)
  obtain ⟨v, σ2, τ2, a1, a2, a3, a4, a5⟩ := gets_loop (P := σ) R.1 hh ht 41 KF KF 0 u q6 (u 56) (by omega) (by decide) (by decide) rfl (PE.self.fr hu1 (by decide)) ((R1.2.2.1.keep hf6 (by decide)).e64 hu2) (R.2.2.2.1.e64 h8 hu2) (R1.2.1.s S6) h6
  have e0 : m_X10_firstWhen σ (nI h) (nI t) (nI 1) = some (v, σ2) := by
    unfold m_X10_firstWhen
    rw [eu, sbind]
    exact a1
  rw [e0, e6, sbind, sbind, a2]
  obtain ⟨d5, dR⟩ := R.done ((hu1.mono (by decide)).trans a3) a4 (S6.trans a5)
  exact po_val dR d5 rfl rfl
theorem S_loses : SIM_loses Rel := by
  intro σ τ p0 ⟨H, T, R⟩
  have h8 := R.1.1
  have h7 := R.1.2.1
  refine sim_N ?_
  have R1 : RelH H T σ (ms τ 0 5 (nI 0)) := R.code
  unfold m_X10_loses m_X11_loses
  simp only [pu_lit, if_true]
  rcases ix_dec p0 H (by omega) with hb | ⟨h, hh, rfl⟩
  · exact po_throw ⟨H, T, R⟩ ⟨rfl, rfl⟩ (by rw [C_needHouse_f (c0_23 R) hb]; rfl) (by
      rw [ltE, R_isHouse_f R1.2.1.1 h8 hb]; rfl)
  rw [ltE, C_needHouse_t (c0_23 R) hh h8, R_isHouse_t R1.2.1.1 h8 hh, xb_inr, sbind, if_neg (show ¬ nI 1 = nI 0 by decide), nI_add, pu_gd (k := 24 + h) (by omega) (by decide), nI_clamp (n := 24 + h) (by omega), pu_gd (k := h) (by omega) (by decide), nI_clamp (n := h) (by omega), ltE, ltE, R1.2.2.1.g23 (by omega) (by omega) (by omega)]
  obtain ⟨q6, e6, hf6, h6⟩ := R_packT R1.2.2.1
  have S6 : RQs (ms τ 0 5 (nI 0)) q6 := RQs.of hf6 (by decide)
  rw [e6, sbind]
  rcases R.2.2.2.1.1 h (by omega) with c | ⟨o, ho, c⟩
  · rw [if_pos c, c]
    obtain ⟨q, eq, Rq, Sq⟩ := R_unpackT h6
    obtain ⟨d5, dR⟩ := R.done fr.rfl Rq (S6.trans Sq)
    refine po_val dR d5 rfl ?_
    unfold KF
    rw [f_X11_loses_40]
    simp only [pu_lit, if_true]
    rw [if_neg (nI_nlt (by omega) (by omega)), eq, sbind]
  · rw [c, if_neg (fun z => (nI_nm1 (by omega)).mp z)]
    obtain ⟨u, eu, hu1, hu2⟩ := C_copy (σ := σ)
    obtain ⟨v, σ2, τ2, a1, a2, a3, a4, a5⟩ := loses_loop (P := σ) R.1 hh ho 40 KF KF 0 u q6 (u 56) (by omega) (by decide) (by decide) rfl (by rw [hu2 _ (by omega)]; exact c) (PE.self.fr hu1 (by decide)) ((R1.2.2.1.keep hf6 (by decide)).e64 hu2) (R.2.2.2.1.e64 h8 hu2) (R1.2.1.s S6) h6
    have e0 : m_X10_firstWhen σ (nI h) (nI o) (nI 0) = some (v, σ2) := by
      unfold m_X10_firstWhen
      rw [eu, sbind]
      exact a1
    rw [e0, sbind, a2]
    obtain ⟨d5, dR⟩ := R.done ((hu1.mono (by decide)).trans a3) a4 (S6.trans a5)
    exact po_val dR d5 rfl rfl
/-! how a dog grows old -/
section OLD
variable {P : Mem} {H T : Nat}
theorem buS_ne {r : Rw} {h j : Nat} (hh : h < 8) (hj : j < 8) (n : j ≠ h) : buS r h j = r j ∧ buS r h (16 + j) = r (16 + j) ∧ bt (buS r h 62) j = bt (r 62) j := by
  unfold buS
  by_cases c : r (16 + h) ≤ nI 0
  · rw [if_pos c]
    refine ⟨?_, ?_, ?_⟩
    · rw [pk_un (by omega), pk_un (by omega), pk_un (by omega)]
    · rw [pk_un (by omega), pk_un (by omega), pk_un (by omega)]
    · rw [pk_un (by omega), pk_un (by omega), pk_us, bt_or_ne (by omega) (by omega) n]
  · rw [if_neg c]
    refine ⟨?_, ?_, ?_⟩
    · rw [pk_un (by omega), pk_un (by omega)]
    · rw [pk_un (by omega), pk_un (by omega)]
    · rw [pk_un (by omega), pk_un (by omega)]
theorem olS_ne {r : Rw} {h j : Nat} (hh : h < 8) (hj : j < 8) (n : j ≠ h) : olS P r h j = r j ∧ olS P r h (16 + j) = r (16 + j) ∧ bt (olS P r h 62) j = bt (r 62) j := by
  unfold olS
  by_cases c : bt (r 62) h = nI 0
  · rw [if_pos c]
    by_cases c2 : r h + nI 1 < lifeS P h
    · rw [if_pos c2, pk_un n, pk_un (by omega), pk_un (by omega)]
      exact ⟨rfl, rfl, rfl⟩
    · rw [if_neg c2]
      obtain ⟨b1, b2, b3⟩ := buS_ne (r := upd r h (r h + nI 1)) hh hj n
      rw [b1, b2, b3, pk_un n, pk_un (by omega), pk_un (by omega)]
      exact ⟨rfl, rfl, rfl⟩
  · rw [if_neg c]; exact ⟨rfl, rfl, rfl⟩
def sameAt (j : Nat) (a b : Rw) : Prop := a j = b j ∧ a (16 + j) = b (16 + j) ∧ bt (a 62) j = bt (b 62) j
theorem olS_same {a b : Rw} {j : Nat} (hj : j < 8) (h : sameAt j a b) : sameAt j (olS P a j) (olS P b j) := by
  obtain ⟨h1, h2, h3⟩ := h
  unfold olS
  rw [h3]
  by_cases c : bt (b 62) j = nI 0
  · rw [if_pos c, if_pos c, h1]
    by_cases c2 : b j + nI 1 < lifeS P j
    · rw [if_pos c2, if_pos c2]
      refine ⟨by rw [pk_us, pk_us], ?_, ?_⟩
      · rw [pk_un (by omega), pk_un (by omega)]; exact h2
      · rw [pk_un (by omega), pk_un (by omega)]; exact h3
    · rw [if_neg c2, if_neg c2]
      unfold buS
      rw [pk_un (show 16 + j ≠ j by omega), pk_un (show 16 + j ≠ j by omega), h2]
      by_cases c3 : b (16 + j) ≤ nI 0
      · rw [if_pos c3, if_pos c3]
        refine ⟨?_, ?_, ?_⟩
        · rw [pk_un (by omega), pk_un (by omega), pk_un (by omega), pk_us, pk_un (by omega), pk_un (by omega), pk_un (by omega), pk_us]
        · rw [pk_un (by omega), pk_un (by omega), pk_un (by omega), pk_un (by omega), pk_un (by omega), pk_un (by omega), pk_un (by omega), pk_un (by omega)]; exact h2
        · have e9 : ∀ q : Rw, bt (upd (upd (upd q 62 (q 62 ||| b1 j)) (24 + j) (-nI 1)) (32 + j) (nI 0) 62) j = nI 1 := fun q => by rw [pk_un (by omega), pk_un (by omega), pk_us, bt_or_same (by omega)]
          rw [e9, e9]
      · rw [if_neg c3, if_neg c3]
        refine ⟨by rw [pk_us, pk_us], ?_, ?_⟩
        · rw [pk_un (by omega), pk_us, pk_un (by omega), pk_us]
        · rw [pk_un (by omega), pk_un (by omega), pk_un (by omega), pk_un (by omega), pk_un (by omega), pk_un (by omega)]; exact h3
  · rw [if_neg c, if_neg c]; exact ⟨h1, h2, h3⟩
theorem grL_at : ∀ (k h : Nat) (r : Rw) (j : Nat), h + k ≤ 8 → h ≤ j → j < h + k → sameAt j (grL P k h r) (olS P r j)
  | 0, h, r, j, _, h1, h2 => absurd h2 (by omega)
  | k + 1, h, r, j, h8, h1, h2 => by
    show sameAt j (grL P k (h + 1) (olS P r h)) (olS P r j)
    by_cases c : j = h
    · subst c
      have : ∀ (k h : Nat) (r : Rw), h + k ≤ 8 → j < h → sameAt j (grL P k h r) r := by
        intro k
        induction k with
        | zero => intro h r _ _; exact ⟨rfl, rfl, rfl⟩
        | succ k ih =>
          intro h r hk hj
          obtain ⟨i1, i2, i3⟩ := ih (h + 1) (olS P r h) (by omega) (by omega)
          obtain ⟨o1, o2, o3⟩ := olS_ne (P := P) (r := r) (h := h) (j := j) (by omega) (by omega) (by omega)
          exact ⟨i1.trans o1, i2.trans o2, i3.trans o3⟩
      exact this k (j + 1) _ (by omega) (by omega)
    · obtain ⟨i1, i2, i3⟩ := grL_at k (h + 1) (olS P r h) j (by omega) (by omega) (by omega)
      obtain ⟨o1, o2, o3⟩ := olS_same (P := P) (j := j) (by omega) (olS_ne (P := P) (r := r) (h := h) (j := j) (by omega) (by omega) c)
      exact ⟨i1.trans o1, i2.trans o2, i3.trans o3⟩
theorem siL_at {ob mb : Rw} (h7 : T ≤ 7) : ∀ (k h : Nat) (r : Rw) (j : Nat), h + k ≤ 8 → (j < 24 ∨ j = 62) → siL P T ob mb k h r j = r j
  | 0, _, _, _, _, _ => rfl
  | k + 1, h, r, j, h8, hj => by
    show siL P T ob mb k (h + 1) _ j = r j
    rw [siL_at h7 k (h + 1) _ j (by omega) hj]
    by_cases c : bt (r 62) h = nI 0
    · rw [if_pos c]
      refine seS_62 (by omega) ?_ (by omega)
      rcases siS_cases (P := P) (T := T) (r := r) (ob := ob) (mb := mb) (h := h) with q | ⟨t, ht, q⟩
      · exact Or.inl q
      · exact Or.inr ⟨t, by omega, q⟩
    · rw [if_neg c]
theorem paL_at (h7 : T ≤ 7) : ∀ (k t : Nat) (r : Rw) (j : Nat), t + k ≤ 7 → (j < 40 ∨ j = 62) → paL P H k t r j = r j
  | 0, _, _, _, _, _ => rfl
  | k + 1, t, r, j, hk, hj => by
    show paL P H k (t + 1) (pyS P H r t) j = r j
    rw [paL_at h7 k (t + 1) _ j (by omega) hj]
    unfold pyS
    rw [pk_un (by omega), pk_un (by omega)]
theorem qS_at (hW : PW P H T) {r : Rw} {h : Nat} (hh : h < H) : sameAt h (qS P H T r) (olS P r h) := by
  have h8 := hW.1
  have h7 := hW.2.1
  have key : ∀ j, (j < 24 ∨ j = 62) → qS P H T r j = grL P H 0 r j := by
    intro j hj
    unfold qS
    rw [pk_un (by omega), pk_un (by omega), paL_at h7 T 0 _ j (by omega) (by omega), siL_at h7 H 0 _ j (by omega) hj]
  obtain ⟨g1, g2, g3⟩ := grL_at (P := P) H 0 r h (by omega) (by omega) (by omega)
  exact ⟨(key h (by omega)).trans g1, (key (16 + h) (by omega)).trans g2, by rw [key 62 (by omega)]; exact g3⟩
/-- in how many quarters a house is sealed -/
def wh (L a p : Nat) : Nat := max 1 (L - a) + p * L
theorem sealed_loop (hW : PW P H T) {h : Nat} (hh : h < H) {L : Nat} (hL : lifeS P h = nI L) (hL1 : 1 ≤ L) (hL2 : L ≤ 198) {r0 : Rw} : ∀ (k m i : Nat) (τ1 : Mem) (r : Rw) (a p : Nat), i + k = 100 → k + 1 < m → RX H 64 r τ1 → RW r H T → PR P τ1 H T → (∀ j, j < 64 → owc H j → τ1 34 (0 + po j) = r0 j) → bt (r 62) h = nI 0 → r h = nI a → a < 198 → r (16 + h) = nI p → p ≤ 5 →
    ∃ (τ2 : Mem), f_X11_sealed_32 (nI h) m τ1 (-nI 1) (nI i) = some (if i + wh L a p ≤ 99 then nI (i + wh L a p) else -nI 1, τ2) ∧ RX H 64 r0 τ2 ∧ RQs τ1 τ2 := by
  have h8 := hW.1
  intro k
  induction k with
  | zero =>
    intro m i τ1 r a p hk hm R hr hPR h34 hb ea ha ep hp
    obtain ⟨m, rfl⟩ : ∃ q, m = q + 1 := ⟨m - 1, by omega⟩
    obtain ⟨q, eq, Rq, Sq⟩ := R_unpackT h34
    refine ⟨q, ?_, Rq, Sq⟩
    rw [f_X11_sealed_32]
    simp only [pu_lit, if_true]
    rw [if_pos (nI_lt (by omega) (by omega)), eq, sbind, if_neg (by unfold wh; omega)]
  | succ k ih =>
    intro m i τ1 r a p hk hm R hr hPR h34 hb ea ha ep hp
    obtain ⟨m, rfl⟩ : ∃ q, m = q + 1 := ⟨m - 1, by omega⟩
    obtain ⟨q, eq, Rq, Fq, _⟩ := R_quarter hW hPR R hr
    have h34q : ∀ j, j < 64 → owc H j → q 34 (0 + po j) = r0 j := fun j hj ho => by rw [Fq.c34]; exact h34 j hj ho
    obtain ⟨s1, s2, s3⟩ := qS_at hW (r := r) hh
    rw [f_X11_sealed_32]
    simp only [pu_lit, if_true]
    rw [if_neg (nI_nlt (by omega) (by omega)), R.gS (by omega), R_isOf, hb, if_neg (show ¬ nI 0 = nI 1 by decide), sbind, if_pos (Eq.refl _), eq, sbind, nI_add]
    have next : ∀ a1 p1 : Nat, bt (qS P H T r 62) h = nI 0 → qS P H T r h = nI a1 → a1 < 198 → qS P H T r (16 + h) = nI p1 → p1 ≤ 5 → wh L a p = wh L a1 p1 + 1 → ∃ (τ2 : Mem), f_X11_sealed_32 (nI h) m q (-nI 1) (nI (i + 1)) = some (if i + wh L a p ≤ 99 then nI (i + wh L a p) else -nI 1, τ2) ∧ RX H 64 r0 τ2 ∧ RQs τ1 τ2 := by
      intro a1 p1 n1 n2 n3 n4 n5 n6
      obtain ⟨τ2, z1, z2, z3⟩ := ih m (i + 1) q (qS P H T r) a1 p1 (by omega) (by omega) Rq (qS_W hW hr) (hPR.q Fq) h34q n1 n2 n3 n4 n5
      refine ⟨τ2, ?_, z2, (RQs.ofQ Fq).trans z3⟩
      rw [z1, show i + 1 + wh L a1 p1 = i + wh L a p by omega]
    unfold olS at s1 s2 s3
    rw [if_pos hb, ea, nI_add, hL] at s1 s2 s3
    by_cases c : nI (a + 1) < nI L
    · have c' := (nI_ltI (by omega) (by omega)).mp c
      rw [if_pos c] at s1 s2 s3
      rw [pk_us] at s1
      rw [pk_un (by omega), ep] at s2
      rw [pk_un (by omega), hb] at s3
      exact next (a + 1) p s3 s1 (by omega) s2 hp (by unfold wh; omega)
    · have c' : ¬ a + 1 < L := fun z => c (nI_lt z (by omega))
      rw [if_neg c] at s1 s2 s3
      unfold buS at s1 s2 s3
      rw [pk_un (show 16 + h ≠ h by omega), ep] at s1 s2 s3
      rcases Nat.eq_zero_or_pos p with p0 | p0
      · subst p0
        rw [if_pos nI_le_self] at s3
        rw [pk_un (by omega), pk_un (by omega), pk_us, bt_or_same (by omega)] at s3
        have w1 : wh L a 0 = 1 := by unfold wh; omega
        rw [w1]
        obtain ⟨m, rfl⟩ : ∃ q, m = q + 1 := ⟨m - 1, by omega⟩
        rcases Nat.lt_or_ge i 99 with i9 | i9
        · obtain ⟨m, rfl⟩ : ∃ q, m = q + 1 := ⟨m - 1, by omega⟩
          obtain ⟨q3, e3, R3, F3, _⟩ := R_quarter hW (hPR.q Fq) Rq (qS_W hW hr)
          obtain ⟨q2, e2, R2, S2⟩ := R_unpackT (τ := q3) (r := r0) (fun j hj ho => by rw [F3.c34]; exact h34q j hj ho)
          refine ⟨q2, ?_, R2, ((RQs.ofQ Fq).trans (RQs.ofQ F3)).trans S2⟩
          rw [f_X11_sealed_32]
          simp only [pu_lit, if_true]
          rw [if_neg (nI_nlt (by omega) (by omega)), Rq.gS (by omega), R_isOf, s3, if_pos (Eq.refl _), sbind, if_neg (show ¬ nI 1 = nI 0 by decide), e3, sbind, f_X11_sealed_32]
          simp only [pu_lit, if_true]
          rw [if_neg (fun z => (nI_nm1 (by omega)).mp z), e2, sbind, if_pos (show i + 1 ≤ 99 by omega)]
          split <;> rfl
        · obtain ⟨q2, e2, R2, S2⟩ := R_unpackT h34q
          refine ⟨q2, ?_, R2, (RQs.ofQ Fq).trans S2⟩
          rw [f_X11_sealed_32]
          simp only [pu_lit, if_true]
          rw [if_pos (nI_lt (by omega) (by omega)), e2, sbind, if_neg (by omega)]
      · rw [if_neg (nle' p0 (by omega))] at s1 s2 s3
        rw [pk_us] at s1
        rw [pk_un (by omega), pk_us, pk_sub (by omega)] at s2
        rw [pk_un (by omega), pk_un (by omega), pk_un (by omega), hb] at s3
        refine next 0 (p - 1) s3 s1 (by omega) s2 (by omega) ?_
        obtain ⟨p, rfl⟩ : ∃ q, p = q + 1 := ⟨p - 1, by omega⟩
        have e1 : (p + 1) * L = p * L + L := Nat.succ_mul p L
        unfold wh
        rw [Nat.add_sub_cancel]
        omega
theorem life_of (hW : PW P H T) (h : Nat) : ∃ L, 1 ≤ L ∧ L ≤ 198 ∧ lifeS P h = nI L := by
  obtain ⟨L, h1, h2, e⟩ := hW.2.2.2.2.1
  unfold lifeS
  rw [e]
  by_cases c : P 25 h = nI 1
  · rw [if_pos c, pk_mul]; exact ⟨2 * L, by omega, by omega, rfl⟩
  · rw [if_neg c]; exact ⟨L, h1, by omega, rfl⟩
theorem bur_of {L a : Nat} (hL : L ≤ 198) (ha : a < 198) : imax (nI 1) (nI L - nI a) = nI (max 1 (L - a)) := by
  unfold imax
  rcases Nat.lt_or_ge a L with h | h
  · rw [pk_sub (by omega)]
    by_cases c : 1 < L - a
    · rw [if_pos (nI_lt c (by omega)), Nat.max_eq_right (by omega)]
    · rw [if_neg (nI_nlt (by omega) (by omega)), Nat.max_eq_left (by omega)]
  · have e : (nI L - nI a : Int32).toInt = (L : Int) - a := pk_sub_toInt (by omega) (by omega)
    rw [if_neg (fun q => by
      have := Int32.lt_iff_toInt_lt.mp q
      rw [e, nI_toInt (by omega)] at this
      omega), Nat.max_eq_left (by omega)]
end OLD
theorem S_sealed : SIM_sealed Rel := by
  intro σ τ p0 ⟨H, T, R⟩
  have h8 := R.1.1
  have h7 := R.1.2.1
  refine sim_N ?_
  have R1 : RelH H T σ (ms τ 0 5 (nI 0)) := R.code
  unfold m_X10_sealed m_X11_sealed
  simp only [pu_lit, if_true]
  rcases ix_dec p0 H (by omega) with hb | ⟨h, hh, rfl⟩
  · exact po_throw ⟨H, T, R⟩ ⟨rfl, rfl⟩ (by rw [C_needHouse_f (c0_23 R) hb]; rfl) (by
      rw [ltE, R_isHouse_f R1.2.1.1 h8 hb]; rfl)
  rw [ltE, C_needHouse_t (c0_23 R) hh h8, R_isHouse_t R1.2.1.1 h8 hh, xb_inr, sbind, if_neg (show ¬ nI 1 = nI 0 by decide), C_sealedNow, sbind]
  obtain ⟨q6, e6, hf6, h6⟩ := R_packT R1.2.2.1
  have S6 : RQs (ms τ 0 5 (nI 0)) q6 := RQs.of hf6 (by decide)
  have R6 := R1.2.2.1.keep hf6 (by decide)
  rw [e6, sbind]
  by_cases cs : bt (σ 43 62) h = nI 1
  · rw [if_pos cs, if_neg (show ¬ nI 1 = nI 0 by decide)]
    obtain ⟨q3, e3, R3, F3, _⟩ := R_quarter R.1 (R1.2.1.s S6) R6 R.2.2.2.1
    obtain ⟨q2, e2, R2, S2⟩ := R_unpackT (τ := q3) (r := σ 43) (fun j hj ho => by rw [F3.c34]; exact h6 j hj ho)
    obtain ⟨d5, dR⟩ := R.done fr.rfl R2 ((S6.trans (RQs.ofQ F3)).trans S2)
    refine po_val dR d5 rfl ?_
    unfold KF
    rw [f_X11_sealed_32]
    simp only [pu_lit, if_true]
    rw [if_neg (nI_nlt (by omega) (by omega)), R6.gS (by omega), R_isOf, cs, if_pos (Eq.refl _), sbind, if_neg (show ¬ nI 1 = nI 0 by decide), e3, sbind, f_X11_sealed_32]
    simp only [pu_lit, if_true]
    rw [if_neg (fun z => (nI_nm1 (by omega)).mp z), e2, sbind]
    split <;> rfl
  · have cs0 := (bt_n1 (by omega)).mp cs
    rw [if_neg cs, if_pos (Eq.refl _), C_buriedIn PE.self (by omega), sbind, C_lifeOf PE.self (by omega), nI_add, pu_gd (by omega) (by decide), nI_clamp (by omega), sbind]
    obtain ⟨L, l1, l2, el⟩ := life_of R.1 h
    obtain ⟨a, ha, ea⟩ := R.2.2.2.1.2.2.2.1 h hh cs0
    obtain ⟨p, hp, ep⟩ := R.2.2.2.1.2.2.2.2 h hh
    obtain ⟨τ2, z1, z2, z3⟩ := sealed_loop R.1 hh el l1 l2 100 KF 0 q6 (σ 43) a p (by omega) (by decide) R6 R.2.2.2.1 (R1.2.1.s S6) h6 cs0 ea ha ep hp
    obtain ⟨d5, dR⟩ := R.done fr.rfl z2 (S6.trans z3)
    have hpl : p * L ≤ 5 * 198 := Nat.mul_le_mul hp l2
    rw [ltE, el, ea, ep, bur_of l2 ha, pk_mul, nI_add, z1]
    rw [Nat.zero_add]
    unfold wh
    by_cases c : max 1 (L - a) + p * L ≤ 99
    · rw [if_neg (nI_nlt (by omega) (by omega)), if_pos c]
      exact po_val dR d5 rfl rfl
    · rw [if_pos (nI_lt (by omega) (by omega)), if_neg c]
      exact po_val dR d5 rfl rfl

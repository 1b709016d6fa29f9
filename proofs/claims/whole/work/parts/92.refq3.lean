/-! the reference's quarter: the whole of it -/
def RW (r : Rw) (H T : Nat) : Prop := (∀ h, h < 8 → r (24 + h) = -nI 1 ∨ ∃ t, t < T ∧ r (24 + h) = nI t) ∧ (∀ h, H ≤ h → h < 8 → r (24 + h) = -nI 1) ∧ (∃ s, s < 256 ∧ r 62 = nI s) ∧ (∀ h, h < H → bt (r 62) h = nI 0 → ∃ a, a < 198 ∧ r h = nI a) ∧ (∀ h, h < H → ∃ p, p ≤ 5 ∧ r (16 + h) = nI p)
theorem RW.nobody {r : Rw} {H T : Nat} (h : RW r H T) : ∀ t, t < 2147483648 → ∀ j, H ≤ j → j < 8 → ¬ r (24 + j) = nI t := fun t ht j h1 h2 q => by
  rw [h.2.1 j h1 h2] at q
  exact (m1_nI ht).mp q
section RQ3
variable {P τ : Mem} {H T e : Nat} {r r0 : Rw}
theorem R_pay_in {t : Nat} {k74 : Mem → Int32 → Option Mem} {Q : Mem → Prop} (h7 : T ≤ 7) (h8 : H ≤ 8) (ht : t < T) (hP : PR P τ H T) (R : RX H 61 r τ) (kk : OK (k74 (ms (ms τ 27 t (imin (nI 9999) (r (54 + t) + rnL P r (nI t) H 0 (nI 0)))) 25 t (imin (nI 20) (r (40 + t) + P 26 t))) (nI (t + 1))) Q) : ∀ (k n h : Nat) (a : Int32), h + k = H → k < n → rnL P r (nI t) k h a = rnL P r (nI t) H 0 (nI 0) → OK (f_X11_aQuarter_88 k74 (nI t) n τ a (nI h)) Q := by
  intro k
  induction k with
  | zero =>
    intro n h a hk hn ha
    obtain ⟨n, rfl⟩ : ∃ q, n = q + 1 := ⟨n - 1, by omega⟩
    rw [f_X11_aQuarter_88]
    simp only [pu_lit]
    rw [pu_gd (k := 0) (by decide) (by decide), nI_clamp (n := 0) (by decide), hP.1, if_pos (nI_le (by omega) (by omega)), pu_gd (k := t) (by omega) (by decide), pu_gd (k := t) (by omega) (by decide), nI_clamp (n := t) (by omega), ok_lt, pu_gd (k := t) (by omega) (by decide), pu_gd (k := t) (by omega) (by decide), pu_gd (k := t) (by omega) (by decide), ok_lt, R.g27 (by omega) (by omega), ms_ne (by decide), ms_ne (by decide), R.g25 (by omega) (by omega), hP.2.2.2.2.2.2.2.1 t ht, nI_add]
    have ha' : a = rnL P r (nI t) H 0 (nI 0) := ha
    rw [ha']
    exact kk
  | succ k ih =>
    intro n h a hk hn ha
    obtain ⟨n, rfl⟩ : ∃ q, n = q + 1 := ⟨n - 1, by omega⟩
    rw [f_X11_aQuarter_88]
    simp only [pu_lit]
    rw [pu_gd (k := 0) (by decide) (by decide), nI_clamp (n := 0) (by decide), hP.1, if_neg (nI_ge (by omega) (by omega)), pu_gd (k := h) (by omega) (by decide), nI_clamp (n := h) (by omega), R.g23 (by omega) (by omega) (by omega), pu_gd (k := h) (by omega) (by decide), hP.2.2.2.2.2.1 h (by omega), nI_add, add_0]
    have ha2 : rnL P r (nI t) k (h + 1) (if r (24 + h) = nI t then a + P 24 h else a) = rnL P r (nI t) H 0 (nI 0) := ha
    by_cases c : r (24 + h) = nI t
    · rw [if_pos c] at ha2 ⊢; exact ih n (h + 1) _ (by omega) (by omega) ha2
    · rw [if_neg c] at ha2 ⊢; exact ih n (h + 1) _ (by omega) (by omega) ha2
theorem R_pay_loop (h7 : T ≤ 7) (h8 : H ≤ 8) : ∀ (k n t : Nat) (τ : Mem) (r : Rw), t + k = T → k < n → PR P τ H T → RX H 61 r τ → OK (f_X11_aQuarter_74 n τ (nI t)) (fun q => RX H 64 (upd (upd (paL P H k t r) 61 (nI 0)) 63 (paL P H k t r 63 + nI 1)) q ∧ FQ τ q ∧ q 31 = τ 31) := by
  intro k
  induction k with
  | zero =>
    intro n t τ r hk hn hP R
    obtain ⟨n, rfl⟩ : ∃ q, n = q + 1 := ⟨n - 1, by omega⟩
    rw [f_X11_aQuarter_74]
    simp only [pu_lit]
    rw [pu_gd (by decide) (by decide), nI_clamp (by decide), hP.2.1, if_pos (nI_le (by omega) (by omega)), ok_lt, ok_lt, ok_some]
    refine ⟨?_, (FQ.rfl.put0 (by simp)).put0 (by simp), by rw [ms_ne (by decide), ms_ne (by decide)]⟩
    have e : ms τ 0 43 (nI 0) 0 41 = r 63 := by rw [ms_same, pk_un (by decide)]; exact R.gQ (by omega)
    rw [e]
    exact (R.led').pQua
  | succ k ih =>
    intro n t τ r hk hn hP R
    obtain ⟨n, rfl⟩ : ∃ q, n = q + 1 := ⟨n - 1, by omega⟩
    rw [f_X11_aQuarter_74]
    simp only [pu_lit]
    rw [pu_gd (by decide) (by decide), nI_clamp (by decide), hP.2.1, if_neg (nI_ge (by omega) (by omega))]
    refine R_pay_in (T := T) h7 h8 (by omega) hP R ?_ H KF 0 (nI 0) (by omega) (by unfold KF; omega) (Eq.refl _)
    have F1 : FQ τ (ms (ms τ 27 t (imin (nI 9999) (r (54 + t) + rnL P r (nI t) H 0 (nI 0)))) 25 t (imin (nI 20) (r (40 + t) + P 26 t))) := (FQ.rfl.put (by simp)).put (by simp)
    have R1 : RX H 61 (pyS P H r t) (ms (ms τ 27 t (imin (nI 9999) (r (54 + t) + rnL P r (nI t) H 0 (nI 0)))) 25 t (imin (nI 20) (r (40 + t) + P 26 t))) := by
      unfold pyS
      rw [pk_un (show 40 + t ≠ 54 + t by omega)]
      exact (R.p27 (by omega)).p25 (by omega)
    refine ok_mono (ih n (t + 1) _ _ (by omega) (by omega) (hP.q F1) R1) (fun q hq => ⟨hq.1, F1.trans hq.2.1, ?_⟩)
    rw [hq.2.2, ms_ne (by decide), ms_ne (by decide)]
theorem R_sit_loop (hW : PW P H T) (hn : ∀ t, t < T → ∀ j, H ≤ j → j < 8 → ¬ r0 (24 + j) = nI t) : ∀ (k n h : Nat) (τ : Mem) (r : Rw), h + k = H → k < n → QJ P H T h r0 r τ → OK (f_X11_aQuarter_40 n τ (nI h)) (fun q => RX H 64 (upd (upd (paL P H T 0 (siL P T (fun h => r0 (24 + h)) (fun t => mbN r0 t 8) k h r)) 61 (nI 0)) 63 (paL P H T 0 (siL P T (fun h => r0 (24 + h)) (fun t => mbN r0 t 8) k h r) 63 + nI 1)) q ∧ FQ τ q ∧ ∀ j, j < H → q 31 j = r0 (24 + j)) := by
  have h8 := hW.1
  have h7 := hW.2.1
  intro k
  induction k with
  | zero =>
    intro n h τ r hk hn2 J
    obtain ⟨n, rfl⟩ : ∃ q, n = q + 1 := ⟨n - 1, by omega⟩
    rw [f_X11_aQuarter_40]
    simp only [pu_lit]
    rw [pu_gd (by decide) (by decide), nI_clamp (by decide), J.2.1.1, if_pos (nI_le (by omega) (by omega))]
    refine ok_mono (R_pay_loop h7 h8 T KF 0 τ r (by omega) (by unfold KF; omega) J.2.1 J.1) (fun q hq => ⟨hq.1, hq.2.1, fun j hj => ?_⟩)
    rw [hq.2.2]
    exact J.2.2.1 j hj
  | succ k ih =>
    intro n h τ r hk hn2 J
    obtain ⟨n, rfl⟩ : ∃ q, n = q + 1 := ⟨n - 1, by omega⟩
    rw [f_X11_aQuarter_40]
    simp only [pu_lit]
    rw [pu_gd (by decide) (by decide), nI_clamp (by decide), J.2.1.1, if_neg (nI_ge (by omega) (by omega)), ok_bind, J.1.gS (by omega), R_isOf, ok_some, nI_add]
    by_cases c : bt (r 62) h = nI 0
    · have e : siL P T (fun h => r0 (24 + h)) (fun t => mbN r0 t 8) (k + 1) h r = siL P T (fun h => r0 (24 + h)) (fun t => mbN r0 t 8) k (h + 1) (seS r (fun h => r0 (24 + h)) h (siS P T r (fun h => r0 (24 + h)) (fun t => mbN r0 t 8) h)) := by
        show siL P T _ _ k (h + 1) _ = _
        rw [if_pos c]
      rw [e, if_neg (show ¬ bt (r 62) h = nI 1 by rw [c]; decide), if_pos (Eq.refl _), ok_bind]
      refine ok_mono (R_sits hW (by omega) c hn J) (fun q hq => ?_)
      exact ok_mono (ih n (h + 1) q _ (by omega) (by omega) hq.1) (fun q2 h2 => ⟨h2.1, hq.2.trans h2.2.1, h2.2.2⟩)
    · have e : siL P T (fun h => r0 (24 + h)) (fun t => mbN r0 t 8) (k + 1) h r = siL P T (fun h => r0 (24 + h)) (fun t => mbN r0 t 8) k (h + 1) r := by
        show siL P T _ _ k (h + 1) _ = _
        rw [if_neg c]
      rw [e, if_pos ((bt_n0 (by omega)).mp c), if_neg (by decide)]
      refine ih n (h + 1) τ r (by omega) (by omega) ⟨J.1, J.2.1, J.2.2.1, J.2.2.2.1, J.2.2.2.2.1, fun j hm => J.2.2.2.2.2 j (by omega)⟩
theorem R_old_loop (hW : PW P H T) (hn : ∀ t, t < T → ∀ j, H ≤ j → j < 8 → ¬ r0 (24 + j) = nI t) : ∀ (k n h : Nat) (τ : Mem) (r : Rw), h + k = H → k < n → QJ P H T 0 r0 r τ → OK (f_X11_aQuarter_6 n τ (nI h)) (fun q => RX H 64 (upd (upd (paL P H T 0 (siL P T (fun h => r0 (24 + h)) (fun t => mbN r0 t 8) H 0 (grL P k h r))) 61 (nI 0)) 63 (paL P H T 0 (siL P T (fun h => r0 (24 + h)) (fun t => mbN r0 t 8) H 0 (grL P k h r)) 63 + nI 1)) q ∧ FQ τ q ∧ ∀ j, j < H → q 31 j = r0 (24 + j)) := by
  have h8 := hW.1
  have h7 := hW.2.1
  intro k
  induction k with
  | zero =>
    intro n h τ r hk hn2 J
    obtain ⟨n, rfl⟩ : ∃ q, n = q + 1 := ⟨n - 1, by omega⟩
    rw [f_X11_aQuarter_6]
    simp only [pu_lit]
    rw [pu_gd (by decide) (by decide), nI_clamp (by decide), J.2.1.1, if_pos (nI_le (by omega) (by omega))]
    exact R_sit_loop hW hn H KF 0 τ r (by omega) (by unfold KF; omega) J
  | succ k ih =>
    intro n h τ r hk hn2 J
    obtain ⟨n, rfl⟩ : ∃ q, n = q + 1 := ⟨n - 1, by omega⟩
    rw [f_X11_aQuarter_6]
    simp only [pu_lit]
    rw [pu_gd (by decide) (by decide), nI_clamp (by decide), J.2.1.1, if_neg (nI_ge (by omega) (by omega)), ok_bind, J.1.gS (by omega), R_isOf, ok_some, nI_add]
    have e : grL P (k + 1) h r = grL P k (h + 1) (olS P r h) := rfl
    rw [e]
    by_cases c : bt (r 62) h = nI 0
    · rw [if_neg (show ¬ bt (r 62) h = nI 1 by rw [c]; decide), if_pos (Eq.refl _), ok_bind]
      refine ok_mono (R_older J h8 (by omega) c) (fun q hq => ?_)
      exact ok_mono (ih n (h + 1) q _ (by omega) (by omega) hq.1) (fun q2 h2 => ⟨h2.1, hq.2.trans h2.2.1, h2.2.2⟩)
    · rw [if_pos ((bt_n0 (by omega)).mp c), if_neg (by decide)]
      have e2 : olS P r h = r := by unfold olS; rw [if_neg c]
      rw [e2]
      exact ih n (h + 1) τ r (by omega) (by omega) J
theorem R_quarter (hW : PW P H T) (hP : PR P τ H T) (R : RX H 64 r τ) (hr : RW r H T) : OK (m_X11_aQuarter τ) (fun q => RX H 64 (qS P H T r) q ∧ FQ τ q ∧ ∀ j, j < H → q 31 j = r (24 + j)) := by
  have h8 := hW.1
  have h7 := hW.2.1
  unfold m_X11_aQuarter
  rw [ok_bind]
  refine ok_mono (R_begun (r := r) hP.1 h8 (fun h hh => R.g23 (by omega) (by omega) (by omega))) (fun q hq => ?_)
  obtain ⟨hf, q1, q2, q3⟩ := hq
  have J : QJ P H T 0 r r q := by
    refine ⟨(R.weak).keep hf (by decide), hP.fr hf (by decide), ?_, q3, ?_, ?_⟩
    · intro j hj; rw [q1 j (by omega)]; exact R.g23 (by omega) (by omega) (by omega)
    · intro j hj _; rw [hf 0 (by decide), R.gL]
    · intro j _ hj _; rw [q2 j hj]; exact R.g24 (by omega) hj
  exact ok_mono (R_old_loop hW (fun t ht => hr.nobody t (by omega)) H KF 0 q r (by omega) (by unfold KF; omega) J) (fun q4 h4 => ⟨h4.1, (FQ.of hf (by decide)).trans h4.2.1, h4.2.2⟩)
/-! rows stay well -/
theorem olS_W (hW : PW P H T) {h : Nat} (hh : h < H) (hr : RW r H T) : RW (olS P r h) H T := by
  have h8 := hW.1
  obtain ⟨w1, w2, ⟨s, hs, e62⟩, w4, w5⟩ := hr
  unfold olS
  by_cases c : bt (r 62) h = nI 0
  · rw [if_pos c]
    obtain ⟨L, hL1, hL2, eL⟩ := hW.2.2.2.2.1
    obtain ⟨a, ha, ea⟩ := w4 h hh c
    obtain ⟨p, hp, ep⟩ := w5 h hh
    have eo : ∃ M, M ≤ 198 ∧ lifeS P h = nI M := by
      unfold lifeS
      rw [eL]
      by_cases c2 : P 25 h = nI 1
      · rw [if_pos c2, pk_mul]; exact ⟨2 * L, by omega, Eq.refl _⟩
      · rw [if_neg c2]; exact ⟨L, by omega, Eq.refl _⟩
    obtain ⟨M, hM, eM⟩ := eo
    rw [eM, ea, nI_add]
    by_cases c2 : nI (a + 1) < nI M
    · rw [if_pos c2]
      have c3 := (nI_ltI (by omega) (by omega)).mp c2
      refine ⟨fun j hj => ?_, fun j h1 h2 => ?_, ⟨s, hs, ?_⟩, fun j hj hb => ?_, fun j hj => ?_⟩
      · rw [pk_un (by omega)]; exact w1 j hj
      · rw [pk_un (by omega)]; exact w2 j h1 h2
      · rw [pk_un (by omega)]; exact e62
      · rw [pk_un (by omega)] at hb
        by_cases ej : j = h
        · subst ej; rw [pk_us]; exact ⟨a + 1, by omega, Eq.refl _⟩
        · rw [pk_un ej]; exact w4 j hj hb
      · rw [pk_un (by omega)]; exact w5 j hj
    · rw [if_neg c2]
      unfold buS
      rw [pk_un (show 16 + h ≠ h by omega), ep, pk_un (show 62 ≠ h by omega)]
      by_cases c4 : nI p ≤ nI 0
      · rw [if_pos c4]
        refine ⟨fun j hj => ?_, fun j h1 h2 => ?_, ⟨(nI s ||| b1 h).toNatClampNeg, (or_bit s hs h (by omega)).1, ?_⟩, fun j hj hb => ?_, fun j hj => ?_⟩
        · rw [pk_un (by omega)]
          by_cases ej : j = h
          · subst ej; rw [pk_us]; exact Or.inl rfl
          · rw [pk_un (by omega), pk_un (by omega), pk_un (by omega)]; exact w1 j hj
        · rw [pk_un (by omega)]
          by_cases ej : j = h
          · subst ej; rw [pk_us]
          · rw [pk_un (by omega), pk_un (by omega), pk_un (by omega)]; exact w2 j h1 h2
        · rw [pk_un (by omega), pk_un (by omega), pk_us, e62]; exact (or_bit s hs h (by omega)).2
        · rw [pk_un (by omega), pk_un (by omega), pk_us] at hb
          by_cases ej : j = h
          · subst ej
            rw [bt_or_same (by omega)] at hb
            exact absurd hb (by decide)
          · rw [bt_or_ne (by omega) (by omega) ej] at hb
            rw [pk_un (by omega), pk_un (by omega), pk_un (by omega), pk_un ej]; exact w4 j hj hb
        · rw [pk_un (by omega), pk_un (by omega), pk_un (by omega), pk_un (by omega)]; exact w5 j hj
      · rw [if_neg c4]
        have hp0 : 0 < p := by
          rcases Nat.eq_zero_or_pos p with q | q
          · subst q; exact absurd nI_le_self c4
          · exact q
        refine ⟨fun j hj => ?_, fun j h1 h2 => ?_, ⟨s, hs, ?_⟩, fun j hj hb => ?_, fun j hj => ?_⟩
        · rw [pk_un (by omega), pk_un (by omega), pk_un (by omega)]; exact w1 j hj
        · rw [pk_un (by omega), pk_un (by omega), pk_un (by omega)]; exact w2 j h1 h2
        · rw [pk_un (by omega), pk_un (by omega), pk_un (by omega)]; exact e62
        · rw [pk_un (by omega), pk_un (by omega), pk_un (by omega)] at hb
          by_cases ej : j = h
          · subst ej; rw [pk_us]; exact ⟨0, by omega, Eq.refl _⟩
          · rw [pk_un ej, pk_un (by omega), pk_un ej]; exact w4 j hj hb
        · rw [pk_un (by omega)]
          by_cases ej : j = h
          · subst ej; rw [pk_us, pk_sub (by omega)]; exact ⟨p - 1, by omega, Eq.refl _⟩
          · rw [pk_un (by omega), pk_un (by omega)]; exact w5 j hj
  · rw [if_neg c]; exact ⟨w1, w2, ⟨s, hs, e62⟩, w4, w5⟩
theorem grL_W (hW : PW P H T) : ∀ (k h : Nat) (r : Rw), h + k = H → RW r H T → RW (grL P k h r) H T
  | 0, _, _, _, hr => hr
  | k + 1, h, r, hk, hr => grL_W hW k (h + 1) (olS P r h) (by omega) (olS_W hW (by omega) hr)
theorem seS_W {ob : Rw} (h8 : H ≤ 8) (h7 : T ≤ 7) {h : Nat} (hh : h < H) {w : Int32} (hw : w = -nI 1 ∨ ∃ t, t < T ∧ w = nI t) (hr : RW r H T) : RW (seS r ob h w) H T := by
  obtain ⟨w1, w2, ⟨s, hs, e62⟩, w4, w5⟩ := hr
  have hw7 : w = -nI 1 ∨ ∃ t, t < 7 ∧ w = nI t := hw.imp id (fun ⟨t, ht, q⟩ => ⟨t, by omega, q⟩)
  have own : ∀ j, j < 8 → seS r ob h w (24 + j) = if j = h then w else r (24 + j) := by
    intro j hj
    by_cases ej : j = h
    · subst ej
      rw [if_pos rfl]
      unfold seS
      by_cases c : w = -nI 1
      · rw [if_pos c, pk_us]
      · rw [if_neg c, pk_us]
    · rw [if_neg ej]
      unfold seS
      rcases hw7 with rfl | ⟨t, ht, rfl⟩
      · rw [if_pos rfl, pk_un (by omega), pk_un (by omega)]
      · rw [if_neg (fun q => (nI_nm1 (by omega)).mp q), nI_clamp (by omega), pk_un (by omega), pk_un (by omega), pk_un (by omega)]
  refine ⟨fun j hj => ?_, fun j h1 h2 => ?_, ⟨s, hs, ?_⟩, fun j hj hb => ?_, fun j hj => ?_⟩
  · rw [own j hj]
    by_cases ej : j = h
    · rw [if_pos ej]; exact hw
    · rw [if_neg ej]; exact w1 j hj
  · rw [own j h2, if_neg (by omega)]; exact w2 j h1 h2
  · rw [seS_62 (by omega) hw7 (by omega)]; exact e62
  · rw [seS_62 (by omega) hw7 (by omega)] at hb ⊢
    exact w4 j hj hb
  · rw [seS_62 (by omega) hw7 (by omega)]; exact w5 j hj
theorem siL_W {ob mb : Rw} (h8 : H ≤ 8) (h7 : T ≤ 7) : ∀ (k h : Nat) (r : Rw), h + k = H → RW r H T → RW (siL P T ob mb k h r) H T
  | 0, _, _, _, hr => hr
  | k + 1, h, r, hk, hr => by
    show RW (siL P T ob mb k (h + 1) _) H T
    refine siL_W h8 h7 k (h + 1) _ (by omega) ?_
    by_cases c : bt (r 62) h = nI 0
    · rw [if_pos c]; exact seS_W h8 h7 (by omega) siS_cases hr
    · rw [if_neg c]; exact hr
theorem RW.eq {r1 : Rw} (hr : RW r H T) (h8 : H ≤ 8) (h1 : ∀ j, j < 40 → r1 j = r j) (h2 : r1 62 = r 62) : RW r1 H T := by
  obtain ⟨w1, w2, w3, w4, w5⟩ := hr
  refine ⟨fun j hj => ?_, fun j a b => ?_, ?_, fun j hj hb => ?_, fun j hj => ?_⟩
  · rw [h1 _ (by omega)]; exact w1 j hj
  · rw [h1 _ (by omega)]; exact w2 j a b
  · rw [h2]; exact w3
  · rw [h2] at hb; rw [h1 _ (by omega)]; exact w4 j hj hb
  · rw [h1 _ (by omega)]; exact w5 j hj
theorem paL_W (h8 : H ≤ 8) (h7 : T ≤ 7) : ∀ (k t : Nat) (r : Rw), t + k = T → RW r H T → RW (paL P H k t r) H T
  | 0, _, _, _, hr => hr
  | k + 1, t, r, hk, hr => by
    refine paL_W h8 h7 k (t + 1) (pyS P H r t) (by omega) (hr.eq h8 (fun j hj => ?_) ?_)
    · unfold pyS; rw [pk_un (by omega), pk_un (by omega)]
    · unfold pyS; rw [pk_un (by omega), pk_un (by omega)]
theorem qS_W (hW : PW P H T) (hr : RW r H T) : RW (qS P H T r) H T := by
  have h8 := hW.1
  have h7 := hW.2.1
  unfold qS
  refine (paL_W (P := P) h8 h7 T 0 _ (by omega) (siL_W (P := P) (ob := fun h => r (24 + h)) (mb := fun t => mbN r t 8) h8 h7 H 0 _ (by omega) (grL_W hW H 0 r (by omega) hr))).eq h8 (fun j hj => ?_) ?_
  · rw [pk_un (by omega), pk_un (by omega)]
  · rw [pk_un (by omega), pk_un (by omega)]
theorem qN_W (hW : PW P H T) : ∀ (n : Nat) (r : Rw), RW r H T → RW (qN P H T n r) H T
  | 0, _, hr => hr
  | n + 1, r, hr => qN_W hW n _ (qS_W hW hr)
theorem R_goOn_loop (hW : PW P H T) {M : Nat} (hM : M < 4000) : ∀ (k n i : Nat) (τ : Mem) (r : Rw), i + k = M → k < n → PR P τ H T → RX H 64 r τ → RW r H T → OK (f_X11_goOn_2 (nI M) n τ (nI i)) (fun q => RX H 64 (qN P H T k r) q ∧ FQ τ q) := by
  intro k
  induction k with
  | zero =>
    intro n i τ r hk hn hP R hr
    obtain ⟨n, rfl⟩ : ∃ q, n = q + 1 := ⟨n - 1, by omega⟩
    rw [f_X11_goOn_2, if_pos (nI_le (by omega) (by omega)), ok_some]
    exact ⟨R, FQ.rfl⟩
  | succ k ih =>
    intro n i τ r hk hn hP R hr
    obtain ⟨n, rfl⟩ : ∃ q, n = q + 1 := ⟨n - 1, by omega⟩
    rw [f_X11_goOn_2, if_neg (nI_ge (by omega) (by omega)), ok_bind]
    refine ok_mono (R_quarter hW hP R hr) (fun q hq => ?_)
    simp only [pu_lit]
    rw [nI_add]
    exact ok_mono (ih n (i + 1) q _ (by omega) (by omega) (hP.q hq.2.1) hq.1 (qS_W hW hr)) (fun q2 h2 => ⟨h2.1, hq.2.1.trans h2.2⟩)
theorem R_goOn (hW : PW P H T) {M : Nat} (hM : M < 4000) (hP : PR P τ H T) (R : RX H 64 r τ) (hr : RW r H T) : OK (m_X11_goOn τ (nI M)) (fun q => RX H 64 (qN P H T M r) q ∧ FQ τ q) :=
  R_goOn_loop hW hM M KF 0 τ r (by omega) (by unfold KF; omega) hP R hr
end RQ3

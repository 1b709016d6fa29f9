/-! the reference's quarter: older, sits, pays -/
def QJ (P : Mem) (H T m : Nat) (r0 r : Rw) (τ : Mem) : Prop := RX H 61 r τ ∧ PR P τ H T ∧ (∀ j, j < H → τ 31 j = r0 (24 + j)) ∧ (∀ t, t < 7 → τ 33 t = hsL r0 (nI t) H 0 (nI 0)) ∧ (∀ j, j < 8 → bt (r 62) j = nI 0 → bt (τ 0 43) j = bt (r 61) j) ∧ (∀ j, m ≤ j → j < 8 → bt (r 62) j = nI 0 → τ 32 j = r (32 + j))
section RQ2
variable {P τ : Mem} {H T e : Nat} {r r0 : Rw}
theorem R_lifeOf (hP : PR P τ H T) {h : Nat} (hh : h < H) (h8 : H ≤ 8) : m_X11_lifeOf τ (nI h) = some (lifeS P h) := by
  unfold m_X11_lifeOf lifeS
  simp only [pu_lit]
  rw [pu_gd (k := h) (by omega) (by decide), nI_clamp (n := h) (by omega), pu_gd (k := 2) (by decide) (by decide), pu_gd (k := 2) (by decide) (by decide), nI_clamp (n := 2) (by decide), hP.2.2.1, hP.2.2.2.2.2.2.1 h hh, ite_some]
theorem QJ.fr {m : Nat} {τ1 : Mem} (J : QJ P H T m r0 r τ) (hf : fr [29, 30] τ τ1) : QJ P H T m r0 r τ1 := by
  obtain ⟨j1, j2, j3, j4, j5, j6⟩ := J
  refine ⟨j1.keep hf (by decide), j2.fr hf (by decide), ?_, ?_, ?_, ?_⟩
  · intro j hj; rw [hf 31 (by decide)]; exact j3 j hj
  · intro t ht; rw [hf 33 (by decide)]; exact j4 t ht
  · intro j hj hb; rw [hf 0 (by decide)]; exact j5 j hj hb
  · intro j hm hj hb; rw [hf 32 (by decide)]; exact j6 j hm hj hb
theorem R_older (J : QJ P H T 0 r0 r τ) (h8 : H ≤ 8) {h : Nat} (hh : h < H) (hb : bt (r 62) h = nI 0) : OK (m_X11_older τ (nI h)) (fun q => QJ P H T 0 r0 (olS P r h) q ∧ FQ τ q) := by
  obtain ⟨j1, j2, j3, j4, j5, j6⟩ := J
  unfold m_X11_older
  simp only [pu_lit]
  have a20 := j1.g20 (h := h) (by omega) (by omega)
  rw [pu_gd (k := h) (by omega) (by decide), pu_gd (k := h) (by omega) (by decide), nI_clamp (n := h) (by omega), a20, ok_lt, pu_gd (k := h) (by omega) (by decide)]
  have R1 : RX H 61 (upd r h (r h + nI 1)) (ms τ 20 h (r h + nI 1)) := j1.p20 (by omega)
  have F1 : FQ τ (ms τ 20 h (r h + nI 1)) := FQ.rfl.put (by simp)
  rw [ok_bind, R_lifeOf (j2.q F1) hh h8, ok_some, R1.g20 (h := h) (by omega) (by omega), pk_us]
  unfold olS
  rw [if_pos hb]
  by_cases c : lifeS P h ≤ r h + nI 1
  · have c' : ¬ r h + nI 1 < lifeS P h := Int32.not_lt.mpr c
    rw [if_pos c, if_neg c', pu_gd (k := h) (by omega) (by decide), R1.g22 (h := h) (by omega) (by omega)]
    unfold buS
    have e16 : upd r h (r h + nI 1) (16 + h) = r (16 + h) := pk_un (by omega)
    have e62 : upd r h (r h + nI 1) 62 = r 62 := pk_un (by omega)
    rw [e16]
    by_cases c2 : r (16 + h) ≤ nI 0
    · rw [if_pos c2, if_pos c2, ok_lt, R1.gS (by omega), e62, ok_lt, pu_gd (k := h) (by omega) (by decide), ok_lt, pu_gd (k := h) (by omega) (by decide), ok_lt, ok_some]
      have F2 : FQ τ (ms (ms (ms (ms (ms τ 20 h (r h + nI 1)) 0 42 (r 62 ||| nI 1 <<< (nI h &&& nI 31))) 0 43 (ms (ms τ 20 h (r h + nI 1)) 0 42 (r 62 ||| nI 1 <<< (nI h &&& nI 31)) 0 43 &&& (nI 1 <<< (nI h &&& nI 31) ^^^ -nI 1))) 23 h (-nI 1)) 24 h (nI 0)) := (((F1.put0 (by simp)).put0 (by simp)).put (by simp)).put (by simp)
      refine ⟨⟨((((R1.pSea).led).p23 (by omega)).p24 (by omega)), j2.q F2, ?_, ?_, ?_, ?_⟩, F2⟩
      · intro j hj
        rw [ms_ne (by decide), ms_ne (by decide), ms_ne (by decide), ms_ne (by decide), ms_ne (by decide)]
        exact j3 j hj
      · intro t ht
        rw [ms_ne (by decide), ms_ne (by decide), ms_ne (by decide), ms_ne (by decide), ms_ne (by decide)]
        exact j4 t ht
      · intro j hj hbj
        rw [pk_un (by omega), pk_un (by omega), pk_us] at hbj
        rw [pk_un (by omega), pk_un (by omega), pk_un (by omega), pk_un (by omega)]
        rw [ms_ne (by decide), ms_ne (by decide), ms_same, pk_us, ms_same, pk_un (by decide), ms_ne (by decide)]
        by_cases ej : j = h
        · subst ej
          rw [bt_or_same (by omega)] at hbj
          exact absurd hbj (by decide)
        · rw [bt_or_ne (by omega) (by omega) ej] at hbj
          rw [show (nI 1 <<< (nI h &&& nI 31) : Int32) = b1 h from Eq.refl _, bt_clr_ne (by omega) (by omega) ej]
          exact j5 j hj hbj
      · intro j _ hj hbj
        rw [pk_un (by omega), pk_un (by omega), pk_us] at hbj
        rw [ms_ne (by decide), ms_ne (by decide), ms_ne (by decide), ms_ne (by decide), ms_ne (by decide)]
        by_cases ej : j = h
        · subst ej
          rw [bt_or_same (by omega)] at hbj
          exact absurd hbj (by decide)
        · rw [bt_or_ne (by omega) (by omega) ej] at hbj
          rw [pk_un (by omega), pk_un (by omega), pk_un (by omega), pk_un (by omega)]
          exact j6 j (by omega) hj hbj
    · rw [if_neg c2, if_neg c2, pu_gd (k := h) (by omega) (by decide), pu_gd (k := h) (by omega) (by decide), ok_lt, pu_gd (k := h) (by omega) (by decide), ok_lt, ok_some]
      have F2 : FQ τ (ms (ms (ms τ 20 h (r h + nI 1)) 22 h (r (16 + h) - nI 1)) 20 h (nI 0)) := (F1.put (by simp)).put (by simp)
      refine ⟨⟨((R1.p22 (by omega)).p20 (by omega)), j2.q F2, ?_, ?_, ?_, ?_⟩, F2⟩
      · intro j hj
        rw [ms_ne (by decide), ms_ne (by decide), ms_ne (by decide)]
        exact j3 j hj
      · intro t ht
        rw [ms_ne (by decide), ms_ne (by decide), ms_ne (by decide)]
        exact j4 t ht
      · intro j hj hbj
        rw [pk_un (by omega), pk_un (by omega), pk_un (by omega)] at hbj
        rw [pk_un (by omega), pk_un (by omega), pk_un (by omega), ms_ne (by decide), ms_ne (by decide), ms_ne (by decide)]
        exact j5 j hj hbj
      · intro j _ hj hbj
        rw [pk_un (by omega), pk_un (by omega), pk_un (by omega)] at hbj
        rw [pk_un (by omega), pk_un (by omega), pk_un (by omega), ms_ne (by decide), ms_ne (by decide), ms_ne (by decide)]
        exact j6 j (by omega) hj hbj
  · have c' : r h + nI 1 < lifeS P h := Int32.not_le.mp c
    rw [if_neg c, if_pos c', ok_some]
    refine ⟨⟨R1, j2.q F1, ?_, ?_, ?_, ?_⟩, F1⟩
    · intro j hj
      rw [ms_ne (by decide)]
      exact j3 j hj
    · intro t ht
      rw [ms_ne (by decide)]
      exact j4 t ht
    · intro j hj hbj
      rw [pk_un (by omega)] at hbj
      rw [pk_un (by omega), ms_ne (by decide)]
      exact j5 j hj hbj
    · intro j _ hj hbj
      rw [pk_un (by omega)] at hbj
      rw [pk_un (by omega), ms_ne (by decide)]
      exact j6 j (by omega) hj hbj
theorem upd_comm {r : Rw} {a b : Nat} {x y : Int32} (h : a ≠ b) : upd (upd r a x) b y = upd (upd r b y) a x := by
  funext j
  unfold upd
  by_cases c : j = a
  · subst c
    simp [h]
  · by_cases d : j = b
    · subst d; simp [c]
    · simp [c, d]
theorem seS_62 {ob : Rw} {h j : Nat} {w : Int32} (hh : h < 8) (hw : w = -nI 1 ∨ ∃ t, t < 7 ∧ w = nI t) (hj : j = 61 ∨ j = 62 ∨ j = 63 ∨ j < 24 ∨ (32 ≤ j ∧ j < 40 ∧ j ≠ 32 + h)) : seS r ob h w j = r j := by
  unfold seS
  rcases hw with rfl | ⟨t, ht, rfl⟩
  · rw [if_pos rfl, pk_un (by omega), pk_un (by omega)]
  · rw [if_neg (fun q => (nI_nm1 (by omega)).mp q), nI_clamp (by omega), pk_un (by omega), pk_un (by omega), pk_un (by omega)]
theorem R_sits79 {h : Nat} (J : QJ P H T h r0 r τ) (h8 : H ≤ 8) (hT : T ≤ 7) (hh : h < H) (hb : bt (r 62) h = nI 0) {w : Int32} (hw : w = -nI 1 ∨ ∃ t, t < T ∧ w = nI t) : OK (f_X11_sits_79 τ (nI h) w) (fun q => QJ P H T (h + 1) r0 (seS r (fun h => r0 (24 + h)) h w) q ∧ FQ τ q) := by
  obtain ⟨j1, j2, j3, j4, j5, j6⟩ := J
  have hw7 : w = -nI 1 ∨ ∃ t, t < 7 ∧ w = nI t := hw.imp id (fun ⟨t, ht, q⟩ => ⟨t, by omega, q⟩)
  have fin : ∀ q : Mem, RX H 61 (seS r (fun h => r0 (24 + h)) h w) q → fr [23, 24, 25] τ q → QJ P H T (h + 1) r0 (seS r (fun h => r0 (24 + h)) h w) q ∧ FQ τ q := by
    intro q R hf
    refine ⟨⟨R, j2.fr hf (by decide), ?_, ?_, ?_, ?_⟩, FQ.of hf (by decide)⟩
    · intro j hj; rw [hf 31 (by decide)]; exact j3 j hj
    · intro t ht; rw [hf 33 (by decide)]; exact j4 t ht
    · intro j hj hbj
      rw [seS_62 (by omega) hw7 (by omega)] at hbj ⊢
      rw [hf 0 (by decide)]; exact j5 j hj hbj
    · intro j hm hj hbj
      rw [seS_62 (by omega) hw7 (by omega)] at hbj
      rw [seS_62 (by omega) hw7 (by omega), hf 32 (by decide)]; exact j6 j (by omega) hj hbj
  unfold f_X11_sits_79 f_X11_sits_115
  rcases hw with rfl | ⟨t, ht, rfl⟩
  · simp (disch := omega) only [pu_lit, nI_add, pu_gd, nI_clamp, nI_leI, nI_ltI, nI_eq, ok_some, ok_bind, ok_ite, ok_lt, pu_gz1, pu_gz0, pu_gnz, false_imp_iff, true_imp_iff, not_true_eq_false, not_false_eq_true, true_and, and_true, and_self, ↓reduceIte]
    refine fin _ ?_ ((fr.rfl.ms (by simp)).ms (by simp))
    unfold seS
    rw [if_pos (Eq.refl _)]
    exact (j1.p24 (by omega)).p23 (by omega)
  · have a25 := j1.g25 (t := t) (by omega) (by omega)
    have a31 := j3 h (by omega)
    have a32 := j6 h (Nat.le_refl _) (by omega) hb
    have hm : ¬ nI t = -nI 1 := fun q => (nI_nm1 (by omega)).mp q
    simp (disch := omega) only [pu_lit, nI_add, pu_gd, nI_clamp, nI_leI, nI_ltI, nI_eq, ok_some, ok_bind, ok_ite, ok_lt, pu_gz1, pu_gz0, pu_gnz, false_imp_iff, true_imp_iff, not_true_eq_false, not_false_eq_true, true_and, and_true, and_self, hm, a31, a32, ms_ne, a25]
    refine ⟨fun c => fin _ ?_ (((fr.rfl.ms (by simp)).ms (by simp)).ms (by simp)), fun c => fin _ ?_ (((fr.rfl.ms (by simp)).ms (by simp)).ms (by simp))⟩
    · unfold seS
      rw [if_neg hm, if_pos c, nI_clamp (by omega), pk_un (show 40 + t ≠ 32 + h by omega), upd_comm (show 40 + t ≠ 24 + h by omega)]
      exact ((j1.p24 (by omega)).p23 (by omega)).p25 (by omega)
    · unfold seS
      rw [if_neg hm, if_neg c, nI_clamp (by omega), pk_un (show 40 + t ≠ 32 + h by omega), upd_comm (show 40 + t ≠ 24 + h by omega)]
      exact ((j1.p24 (by omega)).p23 (by omega)).p25 (by omega)
theorem R_sits_loop {h : Nat} (hW : PW P H T) (hh : h < H) (hb : bt (r 62) h = nI 0) (hn : ∀ t, t < T → ∀ j, H ≤ j → j < 8 → ¬ r0 (24 + j) = nI t) : ∀ (k n t : Nat) (b m : Int32) (τ : Mem), t + k = T → k < n → QJ P H T h r0 r τ → (b = -nI 1 ∨ ∃ t, t < T ∧ b = nI t) →
    OK (f_X11_sits_33 (nI h) (nI 1) n τ b m (nI t)) (fun q => QJ P H T (h + 1) r0 (seS r (fun h => r0 (24 + h)) h (bsL (lkS P r (fun h => r0 (24 + h)) (fun t => mbN r0 t 8) h) k t b m)) q ∧ FQ τ q) := by
  have h8 := hW.1
  have h7 := hW.2.1
  intro k
  induction k with
  | zero =>
    intro n t b m τ hk hn2 J hbb
    obtain ⟨n, rfl⟩ : ∃ q, n = q + 1 := ⟨n - 1, by omega⟩
    rw [f_X11_sits_33]
    simp only [pu_lit]
    rw [pu_gd (by decide) (by decide), nI_clamp (by decide), J.2.1.2.1, if_pos (nI_le (by omega) (by omega))]
    exact R_sits79 J h8 h7 hh hb hbb
  | succ k ih =>
    intro n t b m τ hk hn2 J hbb
    obtain ⟨n, rfl⟩ : ∃ q, n = q + 1 := ⟨n - 1, by omega⟩
    rw [f_X11_sits_33]
    simp only [pu_lit]
    rw [pu_gd (by decide) (by decide), nI_clamp (by decide), J.2.1.2.1, if_neg (nI_ge (by omega) (by omega)), if_neg (by decide), ok_bind]
    refine ok_mono (R_likes J.1 (Or.inl rfl) J.2.1 hW hh (t := t) (by omega) (J.2.2.1 h (by omega)) (J.2.2.2.2.2 h (Nat.le_refl _) (by omega) hb) (J.2.2.2.1 t (by omega)) (hn t (by omega))) (fun q hq => ?_)
    obtain ⟨q1, q2⟩ := hq
    rw [nI_add, q1]
    unfold bsL
    by_cases c : lkS P r (fun h => r0 (24 + h)) (fun t => mbN r0 t 8) h t ≤ m
    · rw [if_pos c, if_neg (Int32.not_lt.mpr c)]
      exact ok_mono (ih n (t + 1) b m q.2 (by omega) (by omega) (J.fr q2) hbb) (fun q3 h3 => ⟨h3.1, (FQ.of q2 (by decide)).trans h3.2⟩)
    · rw [if_neg c, if_pos (Int32.not_le.mp c)]
      exact ok_mono (ih n (t + 1) _ _ q.2 (by omega) (by omega) (J.fr q2) (Or.inr ⟨t, by omega, Eq.refl _⟩)) (fun q3 h3 => ⟨h3.1, (FQ.of q2 (by decide)).trans h3.2⟩)
theorem R_sits0 {h : Nat} (hW : PW P H T) (hh : h < H) (hb : bt (r 62) h = nI 0) (J : QJ P H T h r0 r τ) : OK (f_X11_sits_33 (nI h) (nI 0) KF τ (-nI 1) (nI 0) (nI 0)) (fun q => QJ P H T (h + 1) r0 (seS r (fun h => r0 (24 + h)) h (-nI 1)) q ∧ FQ τ q) := by
  have h8 := hW.1
  have h7 := hW.2.1
  unfold KF
  rw [f_X11_sits_33]
  simp only [pu_lit]
  rw [pu_gd (by decide) (by decide), nI_clamp (by decide), if_pos trivial, ok_ite]
  exact ⟨fun _ => R_sits79 J h8 h7 hh hb (Or.inl rfl), fun _ => R_sits79 J h8 h7 hh hb (Or.inl rfl)⟩
theorem R_sits {h : Nat} (hW : PW P H T) (hh : h < H) (hb : bt (r 62) h = nI 0) (hn : ∀ t, t < T → ∀ j, H ≤ j → j < 8 → ¬ r0 (24 + j) = nI t) (J : QJ P H T h r0 r τ) : OK (m_X11_sits τ (nI h)) (fun q => QJ P H T (h + 1) r0 (seS r (fun h => r0 (24 + h)) h (siS P T r (fun h => r0 (24 + h)) (fun t => mbN r0 t 8) h)) q ∧ FQ τ q) := by
  have h8 := hW.1
  unfold m_X11_sits siS
  simp only [pu_lit]
  rw [ok_bind, R_isOf, ok_some, J.2.2.2.2.1 h (by omega) hb]
  by_cases c : bt (r 61) h = nI 1
  · rw [if_pos c, if_pos c, if_neg (by decide)]
    exact R_sits0 hW hh hb J
  · rw [if_neg c, if_neg c, if_pos (Eq.refl _), ok_bind]
    refine ok_mono (R_isAsleep J.1 (Or.inl rfl) J.2.1 hW hh) (fun q hq => ?_)
    rw [hq.1]
    by_cases c2 : slS P r h = nI 0
    · rw [if_pos c2, if_pos c2]
      exact ok_mono (R_sits_loop hW hh hb hn T KF 0 (-nI 1) (nI 0) q.2 (by omega) (by unfold KF; have := hW.2.1; omega) (J.fr hq.2) (Or.inl (Eq.refl _))) (fun q3 h3 => ⟨h3.1, (FQ.of hq.2 (by decide)).trans h3.2⟩)
    · rw [if_neg c2, if_neg c2]
      exact ok_mono (R_sits0 hW hh hb (J.fr hq.2)) (fun q3 h3 => ⟨h3.1, (FQ.of hq.2 (by decide)).trans h3.2⟩)
end RQ2

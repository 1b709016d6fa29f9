/-! shares: the reference, and both -/
theorem sh8 {t : Nat} (h : t < 1000) : nI t <<< (nI 8 &&& nI 31) = nI (t * 256) := pk_shlN (nI 8 &&& nI 31) 8 (by decide +kernel) (by omega)
theorem b1_p2 : ∀ H, H < 9 → nI 1 <<< (nI H &&& nI 31) = nI (2 ^ H) := by decide +kernel
section SHARE3
variable {P : Mem} {H T each : Nat} {r : Rw}
def LX (P : Mem) (H T : Nat) (r : Rw) (τ : Mem) : Prop := PR P τ H T ∧ RX H 64 r τ ∧ BG H r τ
theorem LX.fr3 {τ τ1 : Mem} (h : LX P H T r τ) (hf : fr [29, 30, 36] τ τ1) : LX P H T r τ1 :=
  ⟨h.1.fr hf (by decide), h.2.1.keep hf (by decide), fun j hj => by rw [hf 31 (by decide)]; exact h.2.2.1 j hj, fun j hj => by rw [hf 32 (by decide)]; exact h.2.2.2.1 j hj, fun j hj => by rw [hf 33 (by decide)]; exact h.2.2.2.2 j hj⟩
theorem R_lk_in {k2 k14 : Mem → Int32 → Option Mem} {x1 : Int32} {t s : Nat} (hW : PW P H T) (hr : RW r H T) (ht : t < T) (hs : s < 256) : ∀ (k m h : Nat) (τ1 : Mem) (o : Option Nat), h + k = H → k + 1 < m → (∀ a, o = some a → a ≤ 1001 * h) → LX P H T r τ1 → ∃ τ2, fr [29, 30] τ1 τ2 ∧ f_X11_tellLiked_44 k2 k14 x1 (nI t) (nI s) m τ1 (enc o) (nI h) = k14 (ms τ2 36 (t * 256 + s) (enc (o.bind (wk (LK P r t) s k h)))) (nI (s + 1)) := by
  have h8 := hW.1
  have h7 := hW.2.1
  have non : ∀ (m h : Nat) (τ1 : Mem), h ≤ 8 → LX P H T r τ1 → f_X11_tellLiked_44 k2 k14 x1 (nI t) (nI s) (m + 1) τ1 (-nI 1) (nI h) = k14 (ms τ1 36 (t * 256 + s) (-nI 1)) (nI (s + 1)) := by
    intro m h τ1 hh hX
    rw [f_X11_tellLiked_44]
    simp only [pu_lit, if_true]
    rw [pu_gd (k := 0) (by decide) (by decide), sh8 (by omega), nI_add, pu_gd (k := t * 256 + s) (by omega) (by decide), nI_clamp (n := t * 256 + s) (by omega), ltE, nI_add, ite_self]
  intro k
  induction k with
  | zero =>
    intro m h τ1 o hk hm ho hX
    obtain ⟨m, rfl⟩ : ∃ q, m = q + 1 := ⟨m - 1, by omega⟩
    cases o with
    | none => exact ⟨τ1, fr.rfl, non m h τ1 (by omega) hX⟩
    | some a =>
      refine ⟨τ1, fr.rfl, ?_⟩
      rw [f_X11_tellLiked_44]
      simp only [pu_lit]
      rw [pu_gd (k := 0) (by decide) (by decide), nI_clamp (n := 0) (by decide), hX.1.1, if_pos (nI_le (by omega) (by omega)), sh8 (by omega), nI_add, pu_gd (k := t * 256 + s) (by omega) (by decide), nI_clamp (n := t * 256 + s) (by omega), ltE, nI_add]
      rfl
  | succ k ih =>
    intro m h τ1 o hk hm ho hX
    obtain ⟨m, rfl⟩ : ∃ q, m = q + 1 := ⟨m - 1, by omega⟩
    cases o with
    | none => exact ⟨τ1, fr.rfl, non m h τ1 (by omega) hX⟩
    | some a =>
      have ha := ho a rfl
      have e1 : ¬ enc (some a) = -nI 1 := fun z => (nI_nm1 (show a < 2147483648 by omega)).mp z
      rw [f_X11_tellLiked_44]
      simp only [pu_lit]
      rw [pu_gd (k := 0) (by decide) (by decide), nI_clamp (n := 0) (by decide), hX.1.1, if_neg (nI_ge (by omega) (by omega)), if_neg e1, R_isOf, sbind, nI_add]
      show ∃ τ2, fr [29, 30] τ1 τ2 ∧ _ = k14 (ms τ2 36 (t * 256 + s) (enc (if bt (nI s) h = nI 1 then (if LK P r t h = 0 then none else wk (LK P r t) s k (h + 1) (a + LK P r t h)) else wk (LK P r t) s k (h + 1) a))) _
      by_cases c : bt (nI s) h = nI 1
      · obtain ⟨q, eq, q1, q2⟩ := R_liking hW hX.1 hX.2.1 hr hX.2.2 (h := h) (by omega) ht
        obtain ⟨l1, l2, l3⟩ := lk_ok (P := P) (r := r) (t := t) (h := h)
        have hX2 := hX.fr3 (q2.mono (by decide))
        rw [if_pos c, if_neg (show ¬ nI 1 = nI 0 by decide), if_pos c, eq, sbind, q1]
        by_cases d : nI 0 < lnS P r h t
        · obtain ⟨d1, d2⟩ := l2 d
          rw [if_neg (Int32.not_le.mpr d), if_neg d2, ltE, d1]
          have e3 : enc (some a) + nI (LK P r t h) = enc (some (a + LK P r t h)) := nI_add a (LK P r t h)
          rw [e3]
          obtain ⟨τ2, g1, g2⟩ := ih m (h + 1) q.2 (some (a + LK P r t h)) (by omega) (by omega) (fun b eb => by cases eb; omega) hX2
          exact ⟨τ2, q2.trans g1, g2⟩
        · rw [if_pos (Int32.not_lt.mp d), if_pos (l3 d)]
          obtain ⟨m, rfl⟩ : ∃ q, m = q + 1 := ⟨m - 1, by omega⟩
          exact ⟨q.2, q2, non m (h + 1) q.2 (by omega) hX2⟩
      · rw [if_neg c, if_pos rfl, if_neg c]
        exact ih m (h + 1) τ1 (some a) (by omega) (by omega) (fun b eb => by cases eb; omega) hX
def L36 (P : Mem) (r : Rw) (H each u x : Nat) (τ : Mem) : Prop := (∀ t, t < u → ∀ s, s < 2 ^ H → τ 36 (t * 256 + s) = enc (wO (LK P r t) each s)) ∧ ∀ s, s < x → τ 36 (u * 256 + s) = enc (wO (LK P r u) each s)
theorem R_lk_mid {k2 : Mem → Int32 → Option Mem} {τ : Mem} {t : Nat} (hW : PW P H T) (hr : RW r H T) (he : each ≤ 8) (ht : t < T) : ∀ (k m x : Nat) (τ1 : Mem), x + k = 2 ^ H → k < m → fr [29, 30, 36] τ τ1 → LX P H T r τ1 → L36 P r H each t x τ1 → ∃ τ2, fr [29, 30, 36] τ τ2 ∧ LX P H T r τ2 ∧ L36 P r H each (t + 1) 0 τ2 ∧ f_X11_tellLiked_14 k2 (nI each) (nI t) m τ1 (nI x) = k2 τ2 (nI (t + 1)) := by
  have h8 := hW.1
  have h256 := p2_256 h8
  intro k
  induction k with
  | zero =>
    intro m x τ1 hk hm hf hX hL
    obtain ⟨m, rfl⟩ : ∃ q, m = q + 1 := ⟨m - 1, by omega⟩
    refine ⟨τ1, hf, hX, ⟨fun u hu s hs => ?_, fun s hs => absurd hs (by omega)⟩, ?_⟩
    · by_cases c : u = t
      · subst c; exact hL.2 s (by omega)
      · exact hL.1 u (by omega) s hs
    · rw [f_X11_tellLiked_14]
      simp only [pu_lit]
      rw [pu_gd (by decide) (by decide), nI_clamp (by decide), hX.1.1, b1_p2 H (by omega), if_pos (nI_le (by omega) (by omega)), nI_add]
  | succ k ih =>
    intro m x τ1 hk hm hf hX hL
    obtain ⟨m, rfl⟩ : ∃ q, m = q + 1 := ⟨m - 1, by omega⟩
    rw [f_X11_tellLiked_14]
    simp only [pu_lit]
    rw [pu_gd (by decide) (by decide), nI_clamp (by decide), hX.1.1, b1_p2 H (by omega), if_neg (nI_ge (by omega) (by omega)), R_bits (by omega), sbind]
    have go : ∀ o : Option Nat, (∀ a, o = some a → a ≤ 1001 * 0) → o.bind (wk (LK P r t) x H 0) = wO (LK P r t) each x → ∃ τ2, fr [29, 30, 36] τ τ2 ∧ LX P H T r τ2 ∧ L36 P r H each (t + 1) 0 τ2 ∧ f_X11_tellLiked_44 k2 (f_X11_tellLiked_14 k2 (nI each) (nI t) m) (nI each) (nI t) (nI x) KF τ1 (enc o) (nI 0) = k2 τ2 (nI (t + 1)) := by
      intro o ho eo
      obtain ⟨τ2, g1, g2⟩ := R_lk_in (k2 := k2) (k14 := f_X11_tellLiked_14 k2 (nI each) (nI t) m) (x1 := nI each) (s := x) hW hr ht (by omega) H KF 0 τ1 o (by omega) (by unfold KF; omega) ho hX
      rw [g2, eo]
      have f2 : fr [29, 30, 36] τ1 (ms τ2 36 (t * 256 + x) (enc (wO (LK P r t) each x))) := (g1.mono (by decide)).ms (by simp)
      refine ih m (x + 1) _ (by omega) (by omega) (hf.trans f2) (hX.fr3 f2) ⟨fun u hu s hs => ?_, fun s hs => ?_⟩
      · rw [ms_same, pk_un (by omega), g1 36 (by decide)]; exact hL.1 u hu s hs
      · rw [ms_same]
        by_cases c : s = x
        · subst c; exact pk_us
        · rw [pk_un (by omega), g1 36 (by decide)]; exact hL.2 s (by omega)
    by_cases c : pop (nI x) ≤ nI each
    · rw [if_pos c]
      exact go (some 0) (fun a e => by cases e; omega) (by unfold wO; rw [if_pos c, wk_H h8 (by omega)]; rfl)
    · rw [if_neg c]
      exact go none (fun a e => by cases e) (by unfold wO; rw [if_neg c]; rfl)
theorem R_liked {τ : Mem} (hW : PW P H T) (hr : RW r H T) (he : each ≤ 8) (hX : LX P H T r τ) : OK (m_X11_tellLiked τ (nI each)) (fun q => fr [29, 30, 36] τ q ∧ LX P H T r q ∧ L36 P r H each T 0 q) := by
  have h8 := hW.1
  have h7 := hW.2.1
  have h256 := p2_256 h8
  have z : ∀ (k m t : Nat) (τ1 : Mem), t + k = T → k < m → fr [29, 30, 36] τ τ1 → LX P H T r τ1 → L36 P r H each t 0 τ1 → OK (f_X11_tellLiked_2 (nI each) m τ1 (nI t)) (fun q => fr [29, 30, 36] τ q ∧ LX P H T r q ∧ L36 P r H each T 0 q) := by
    intro k
    induction k with
    | zero =>
      intro m t τ1 hk hm hf hX hL
      obtain ⟨m, rfl⟩ : ∃ q, m = q + 1 := ⟨m - 1, by omega⟩
      have e : t = T := by omega
      subst e
      rw [f_X11_tellLiked_2]
      simp only [pu_lit]
      rw [pu_gd (by decide) (by decide), nI_clamp (by decide), hX.1.2.1, if_pos nI_le_self, ok_some]
      exact ⟨hf, hX, hL⟩
    | succ k ih =>
      intro m t τ1 hk hm hf hX hL
      obtain ⟨m, rfl⟩ : ∃ q, m = q + 1 := ⟨m - 1, by omega⟩
      rw [f_X11_tellLiked_2]
      simp only [pu_lit]
      rw [pu_gd (by decide) (by decide), nI_clamp (by decide), hX.1.2.1, if_neg (nI_ge (by omega) (by omega))]
      obtain ⟨τ2, g1, g2, g3, g4⟩ := R_lk_mid (k2 := f_X11_tellLiked_2 (nI each) m) (τ := τ) hW hr he (t := t) (by omega) (2 ^ H) KF 0 τ1 (by omega) (by unfold KF; omega) hf hX hL
      rw [g4]
      exact ih m (t + 1) τ2 (by omega) (by omega) g1 g2 g3
  exact z T KF 0 τ (by omega) (by unfold KF; omega) fr.rfl hX ⟨fun t ht => absurd ht (by omega), fun s hs => absurd hs (by omega)⟩
variable {lk : Nat → Nat → Nat}
def LM (lk : Nat → Nat → Nat) (H T each : Nat) (τ : Mem) : Prop := τ 5 0 = nI H ∧ τ 5 1 = nI T ∧ ∀ t, t < T → ∀ s, s < 2 ^ H → τ 36 (t * 256 + s) = enc (wO (lk t) each s)
theorem LM.fr {τ τ1 : Mem} (h : LM lk H T each τ) (hf : fr [35] τ τ1) : LM lk H T each τ1 := by
  unfold LM
  rw [hf 5 (by decide), hf 36 (by decide)]
  exact h
theorem R_by {τ : Mem} {t s p a : Nat} {b : Nat → Nat} (h8 : H ≤ 8) (h7 : T ≤ 7) (hM : LM lk H T each τ) (ht : t < T) (hs : s < 2 ^ H) (hp : p < 2 ^ H) (hsub : Sub p s) (ew : wO (lk t) each p = some a) (hb : ∀ q, q < 2 ^ H → τ 35 ((t + 1) * 256 + q) = nI (b q)) : m_X11_by τ (nI t) (nI s) (nI p) = some (nI (a + b (s ^^^ p))) := by
  have h256 := p2_256 h8
  have hx : s ^^^ p < 2 ^ H := Nat.xor_lt_two_pow hs hp
  unfold m_X11_by
  simp only [pu_lit]
  rw [hsub.x, sh8 (by omega), nI_add, nI_add, sh8 (by omega), nI_add, pu_gd (k := t * 256 + p) (by omega) (by decide), nI_clamp (n := t * 256 + p) (by omega), pu_gd (k := (t + 1) * 256 + (s ^^^ p)) (by omega) (by decide), nI_clamp (n := (t + 1) * 256 + (s ^^^ p)) (by omega), hM.2.2 t ht p hp, ew, hb _ hx]
  show some (nI a + nI (b (s ^^^ p))) = _
  rw [nI_add]
theorem R_most_in {k48 k54 : Mem → Int32 → Option Mem} {x1 : Int32} {τ : Mem} {t s : Nat} {b : Nat → Nat} (h8 : H ≤ 8) (h7 : T ≤ 7) (hl : ∀ t h, lk t h ≤ 1001) (hM : LM lk H T each τ) (ht : t < T) (hs : s < 2 ^ H) (hb : ∀ q, q < 2 ^ H → τ 35 ((t + 1) * 256 + q) = nI (b q)) (hbl : ∀ q, b q ≤ 100000) : ∀ (k m p y : Nat), p < k → p < m → p ≤ s → Sub p s → y ≤ 200000 → f_X11_tellMost_71 k48 k54 x1 (nI t) (nI s) m τ (nI y) (nI p) = k54 (ms τ 35 (t * 256 + s) (nI (dnR (gO (wO (lk t) each) b s) s k p y))) (nI (s + 1)) := by
  have h256 := p2_256 h8
  intro k
  induction k with
  | zero => intro m p y h; exact absurd h (by omega)
  | succ k ih =>
    intro m p y hp hm hps hsub hy
    obtain ⟨m, rfl⟩ : ∃ q, m = q + 1 := ⟨m - 1, by omega⟩
    rw [f_X11_tellMost_71]
    simp only [pu_lit]
    show _ = k54 (ms τ 35 (t * 256 + s) (nI (if p = 0 then y else dnR (gO (wO (lk t) each) b s) s k ((p - 1) &&& s) (stM (gO (wO (lk t) each) b s p) y)))) _
    by_cases c : p = 0
    · subst c
      rw [if_pos nI_le_self, if_pos rfl, sh8 (by omega), nI_add, pu_gd (k := t * 256 + s) (by omega) (by decide), nI_clamp (n := t * 256 + s) (by omega), ltE, nI_add]
    · have := down (s := s) c
      rw [if_neg (nle' (by omega) (by omega)), if_neg c, sh8 (by omega), nI_add, pu_gd (k := t * 256 + p) (by omega) (by decide), nI_clamp (n := t * 256 + p) (by omega), hM.2.2 t ht p (by omega), pk_sub (by omega), nI_and]
      cases ew : wO (lk t) each p with
      | none =>
        rw [if_pos (by rfl), ltE]
        have e : stM (gO (wO (lk t) each) b s p) y = y := by unfold gO; rw [ew]; rfl
        rw [e]
        exact ih m _ y (by omega) (by omega) (Nat.and_le_right) (sub_and _ _) hy
      | some a =>
        have ha := wO_le (hl t) ew
        have hbb := hbl (s ^^^ p)
        have e1 : ¬ enc (some a) = -nI 1 := fun z => (nI_nm1 (show a < 2147483648 by omega)).mp z
        have e2 : stM (gO (wO (lk t) each) b s p) y = max y (a + b (s ^^^ p)) := by unfold gO; rw [ew]; rfl
        rw [if_neg e1, R_by h8 h7 hM ht hs (by omega) hsub ew hb, sbind, ltE, ltE, imax_nI (by omega) (by omega), e2]
        exact ih m _ _ (by omega) (by omega) (Nat.and_le_right) (sub_and _ _) (by omega)
theorem R_most_mid {k48 : Mem → Int32 → Option Mem} {τ0 : Mem} {t : Nat} (h8 : H ≤ 8) (h7 : T ≤ 7) (he : each ≤ 8) (hl : ∀ t h, lk t h ≤ 1001) (ht : t < T) : ∀ (k m x : Nat) (τ : Mem), x + k = 2 ^ H → k < m → fr [35] τ0 τ → LM lk H T each τ → BT lk H T each (t + 1) (τ 35) → (∀ s, s < x → τ 35 (t * 256 + s) = nI (bS lk each (T - t) t s)) → ∃ q, fr [35] τ0 q ∧ BT lk H T each t (q 35) ∧ f_X11_tellMost_54 k48 (nI (2 ^ H)) (nI t) m τ (nI x) = k48 q (nI t + -nI 1) := by
  have h256 := p2_256 h8
  intro k
  induction k with
  | zero =>
    intro m x τ hk hm hf hM hB hx
    obtain ⟨m, rfl⟩ : ∃ q, m = q + 1 := ⟨m - 1, by omega⟩
    refine ⟨τ, hf, fun u h1 h2 s hs => ?_, ?_⟩
    · by_cases c : u = t
      · subst c; exact hx s (by omega)
      · exact hB u (by omega) h2 s hs
    · rw [f_X11_tellMost_54, if_pos (nI_le (by omega) (by omega))]
      simp only [pu_lit]
  | succ k ih =>
    intro m x τ hk hm hf hM hB hx
    obtain ⟨m, rfl⟩ : ∃ q, m = q + 1 := ⟨m - 1, by omega⟩
    have hbb : ∀ q, bS lk each (T - (t + 1)) (t + 1) q ≤ 100000 := fun q => by
      have := bS_le (each := each) hl (T - (t + 1)) (t + 1) q
      omega
    have hb : ∀ q, q < 2 ^ H → τ 35 ((t + 1) * 256 + q) = nI (bS lk each (T - (t + 1)) (t + 1) q) := fun q hq => hB (t + 1) (Nat.le_refl _) (by omega) q hq
    have w0 : wO (lk t) each 0 = some 0 := wO_0 (by omega)
    have hx0 := hbb (x ^^^ 0)
    rw [f_X11_tellMost_54, if_neg (nI_ge (by omega) (by omega))]
    simp only [pu_lit]
    rw [R_by h8 h7 hM ht (by omega) (Nat.two_pow_pos H) (sub_zero x) w0 hb, sbind, R_most_in h8 h7 hl hM ht (by omega) hb hbb (x + 1) KF x _ (by omega) (by unfold KF; omega) (Nat.le_refl _) (sub_self x) (by omega)]
    have g0 : gO (wO (lk t) each) (bS lk each (T - (t + 1)) (t + 1)) x 0 = some (0 + bS lk each (T - (t + 1)) (t + 1) (x ^^^ 0)) := by unfold gO; rw [w0]; rfl
    have ej : T - t = (T - (t + 1)) + 1 := by omega
    have ev : dnR (gO (wO (lk t) each) (bS lk each (T - (t + 1)) (t + 1)) x) x (x + 1) x (0 + bS lk each (T - (t + 1)) (t + 1) (x ^^^ 0)) = bS lk each (T - t) t x := by
      rw [ej]
      show _ = dnC _ x (x + 1) x 0
      rw [dn_eq g0 (x + 1) x 0 (by omega), Nat.max_eq_right (by omega)]
    rw [ev]
    refine ih m (x + 1) _ (by omega) (by omega) (hf.ms (by simp)) (hM.fr (fr.rfl.ms (by simp))) (fun u h1 h2 s hs => ?_) (fun s hs => ?_)
    · rw [ms_same, pk_un (by omega)]; exact hB u h1 h2 s hs
    · rw [ms_same]
      by_cases c : s = x
      · subst c; exact pk_us
      · rw [pk_un (by omega)]; exact hx s (by omega)
theorem R_most_out {τ0 : Mem} (h8 : H ≤ 8) (h7 : T ≤ 7) (he : each ≤ 8) (hl : ∀ t h, lk t h ≤ 1001) : ∀ (t m : Nat) (τ : Mem) (x : Int32), t ≤ T → t < m → x = nI t + -nI 1 → fr [35] τ0 τ → LM lk H T each τ → BT lk H T each t (τ 35) → OK (f_X11_tellMost_48 (nI (2 ^ H)) m τ x) (fun q => fr [35] τ0 q ∧ LM lk H T each q ∧ BT lk H T each 0 (q 35)) := by
  intro t
  induction t with
  | zero =>
    intro m τ x ht hm hx hf hM hB
    obtain ⟨m, rfl⟩ : ∃ q, m = q + 1 := ⟨m - 1, by omega⟩
    subst hx
    rw [f_X11_tellMost_48, if_pos (by decide), ok_some]
    exact ⟨hf, hM, hB⟩
  | succ t ih =>
    intro m τ x ht hm hx hf hM hB
    obtain ⟨m, rfl⟩ : ∃ q, m = q + 1 := ⟨m - 1, by omega⟩
    have ex : x = nI t := by
      rw [hx]
      exact pu_m1
    subst ex
    rw [f_X11_tellMost_48]
    simp only [pu_lit]
    rw [if_neg (nn0 (by omega))]
    have h256 := p2_256 h8
    obtain ⟨q, q1, q2, q3⟩ := R_most_mid (k48 := f_X11_tellMost_48 (nI (2 ^ H)) m) (τ0 := τ) h8 h7 he hl (t := t) (by omega) (2 ^ H) KF 0 τ (by omega) (by unfold KF; omega) fr.rfl hM hB (fun s hs => absurd hs (by omega))
    rw [q3]
    exact ih m q _ (by omega) (by omega) rfl (hf.trans q1) (hM.fr q1) q2
theorem R_most {τ : Mem} (h8 : H ≤ 8) (h7 : T ≤ 7) (he : each ≤ 8) (hl : ∀ t h, lk t h ≤ 1001) (hM : LM lk H T each τ) : OK (m_X11_tellMost τ) (fun q => fr [35] τ q ∧ LM lk H T each q ∧ BT lk H T each 0 (q 35)) := by
  have h256 := p2_256 h8
  have z : ∀ (k m x : Nat) (τ1 : Mem), x + k = 2 ^ H → k < m → fr [35] τ τ1 → (∀ s, s < x → τ1 35 (T * 256 + s) = nI 0) → OK (f_X11_tellMost_11 (nI (2 ^ H)) m τ1 (nI x)) (fun q => fr [35] τ q ∧ LM lk H T each q ∧ BT lk H T each 0 (q 35)) := by
    intro k
    induction k with
    | zero =>
      intro m x τ1 hk hm hf h0
      obtain ⟨m, rfl⟩ : ∃ q, m = q + 1 := ⟨m - 1, by omega⟩
      have hM1 := hM.fr hf
      rw [f_X11_tellMost_11, if_pos (nI_le (by omega) (by omega))]
      simp only [pu_lit]
      rw [pu_gd (by decide) (by decide), nI_clamp (by decide), hM1.2.1, ok_lt]
      refine R_most_out h8 h7 he hl T KF τ1 _ (Nat.le_refl _) (by unfold KF; omega) ?_ hf hM1 (fun u h1 h2 s hs => ?_)
      · rw [Int32.sub_eq_add_neg]
      · have : u = T := by omega
        subst this
        rw [Nat.sub_self]
        exact h0 s (by omega)
    | succ k ih =>
      intro m x τ1 hk hm hf h0
      obtain ⟨m, rfl⟩ : ∃ q, m = q + 1 := ⟨m - 1, by omega⟩
      have hM1 := hM.fr hf
      rw [f_X11_tellMost_11, if_neg (nI_ge (by omega) (by omega))]
      simp only [pu_lit]
      rw [pu_gd (k := 1) (by decide) (by decide), nI_clamp (n := 1) (by decide), hM1.2.1, sh8 (by omega), nI_add, pu_gd (k := T * 256 + x) (by omega) (by decide), nI_clamp (n := T * 256 + x) (by omega), ok_lt, nI_add]
      refine ih m (x + 1) _ (by omega) (by omega) (hf.ms (by simp)) (fun s hs => ?_)
      rw [ms_same]
      by_cases c : s = x
      · subst c; exact pk_us
      · rw [pk_un (by omega)]; exact h0 s (by omega)
  unfold m_X11_tellMost
  simp only [pu_lit]
  rw [pu_gd (by decide) (by decide), nI_clamp (by decide), hM.1, b1_p2 H (by omega), ok_lt]
  exact z (2 ^ H) KF 0 τ (by omega) (by unfold KF; omega) fr.rfl (fun s hs => absurd hs (by omega))
end SHARE3

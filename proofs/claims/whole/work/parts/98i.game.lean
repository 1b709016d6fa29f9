/-! the game of two -/
def chS (r : Rw) (t c : Nat) : Rw := if c = 0 then upd r (40 + t) (imin (nI 20) (r (40 + t) + nI 3)) else upd r (47 + t) (imax (nI 0) (r (47 + t) - nI 1))
theorem cpl : ∀ x, x < 4 → (nI x ^^^ nI 2 = nI (x ^^^ 2) ∧ x ^^^ 2 < 4 ∧ nI x ^^^ nI 1 = nI (x ^^^ 1) ∧ x ^^^ 1 < 4 ∧ nI x >>> (nI 1 &&& nI 31) = nI (x / 2) ∧ nI x &&& nI 1 = nI (x % 2)) := by decide +kernel
theorem chS_e64 {a b : Rw} {t c : Nat} (ht : t < 7) (h : E64 a b) : E64 (chS a t c) (chS b t c) := by
  unfold chS
  by_cases q : c = 0
  · rw [if_pos q, if_pos q, h (40 + t) (by omega)]; exact h.up
  · rw [if_neg q, if_neg q, h (47 + t) (by omega)]; exact h.up
theorem chS_W {r : Rw} {H T t c : Nat} (h8 : H ≤ 8) (ht : t < 7) (hr : RW r H T) : RW (chS r t c) H T := by
  unfold chS
  by_cases q : c = 0
  · rw [if_pos q]; exact hr.up h8 (by omega)
  · rw [if_neg q]; exact hr.up h8 (by omega)
theorem rnL_e64 {P : Mem} {a b : Rw} {t : Int32} (h : E64 a b) : ∀ (k j : Nat) (x : Int32), j + k ≤ 8 → rnL P a t k j x = rnL P b t k j x
  | 0, _, _, _ => rfl
  | k + 1, j, x, hk => by
    show rnL P a t k (j + 1) _ = rnL P b t k (j + 1) _
    rw [h (24 + j) (by omega), rnL_e64 h k (j + 1) _ (by omega)]
def gnS (P : Mem) (H : Nat) (r : Rw) (t c : Nat) : Int32 := if c = 0 then rnL P r (nI t) H 0 (nI 0) - nI 6 else rnL P r (nI t) H 0 (nI 0)
section GAME
variable {P : Mem} {H T : Nat}
theorem C_choose {σ : Mem} {t c : Nat} (ht : t < 7) (hc : c < 2) : OK (m_X10_choose σ (nI t) (nI c)) (fun q => q 56 = chS (σ 56) t c ∧ fr [56] σ q) := by
  unfold m_X10_choose chS
  simp only [pu_lit, nI_add]
  by_cases q : c = 0
  · subst q
    rw [if_pos rfl, if_pos rfl, pu_gd (by omega) (by decide), pu_gd (by omega) (by decide), nI_clamp (by omega), ok_lt, ok_some]
    exact ⟨by rw [ms_same], fr.rfl.ms (by simp)⟩
  · rw [if_neg (nz' (by omega) (by omega)), if_neg q, pu_gd (by omega) (by decide), pu_gd (by omega) (by decide), nI_clamp (by omega), ok_lt, ok_some]
    exact ⟨by rw [ms_same], fr.rfl.ms (by simp)⟩
theorem R_choose {τ : Mem} {r : Rw} {t c : Nat} (ht : t < 7) (hc : c < 2) (R : RX H 64 r τ) : OK (m_X11_choose τ (nI t) (nI c)) (fun q => RX H 64 (chS r t c) q ∧ fr [25, 26] τ q) := by
  unfold m_X11_choose chS
  simp only [pu_lit]
  by_cases q : c = 0
  · subst q
    rw [if_neg (show ¬ nI 0 = nI 1 by decide), if_pos rfl, pu_gd (by omega) (by decide), pu_gd (by omega) (by decide), nI_clamp (by omega), ok_lt, ok_some, R.g25 (by omega) ht]
    exact ⟨R.p25 ht, fr.rfl.ms (by simp)⟩
  · have : c = 1 := by omega
    subst this
    rw [if_pos rfl, if_neg (by decide), pu_gd (by omega) (by decide), pu_gd (by omega) (by decide), nI_clamp (by omega), ok_lt, ok_some, R.g26 (by omega) ht]
    exact ⟨R.p26 ht, fr.rfl.ms (by simp)⟩
theorem C_gain {σ : Mem} {t c : Nat} (hP : PE P σ) (hW : PW P H T) (hc : c < 2) : m_X10_gainOf σ (nI t) (nI c) = some (gnS P H (σ 56) t c) := by
  unfold m_X10_gainOf gnS
  simp only [pu_lit]
  rw [C_rentOf hP hW, sbind]
  by_cases q : c = 0
  · subst q; rw [if_pos rfl, if_pos rfl]
  · rw [if_neg (nz' (by omega) (by omega)), if_neg q]
theorem R_rents {τ : Mem} {r : Rw} {t : Nat} (h8 : H ≤ 8) (hP : PR P τ H T) : ∀ (k m h : Nat) (a : Int32), h + k = H → k < m → f_X11_rents_4 (hsL r (nI t) H 0 (nI 0)) m τ a (nI h) = some (rnL P r (nI t) k h a) := by
  intro k
  induction k with
  | zero =>
    intro m h a hk hm
    obtain ⟨m, rfl⟩ : ∃ q, m = q + 1 := ⟨m - 1, by omega⟩
    rw [f_X11_rents_4]
    simp only [pu_lit]
    rw [pu_gd (by decide) (by decide), nI_clamp (by decide), hP.1, if_pos (nI_le (by omega) (by omega))]
    rfl
  | succ k ih =>
    intro m h a hk hm
    obtain ⟨m, rfl⟩ : ∃ q, m = q + 1 := ⟨m - 1, by omega⟩
    rw [f_X11_rents_4]
    simp only [pu_lit]
    rw [pu_gd (k := 0) (by decide) (by decide), nI_clamp (n := 0) (by decide), hP.1, if_neg (nI_ge (by omega) (by omega)), R_isOf, sbind, bt_hsL h8 (by omega), pu_gd (k := h) (n := 16) (by omega) (by decide), nI_clamp (n := h) (by omega), ltE, ltE, add_0, hP.2.2.2.2.2.1 h (by omega), nI_add]
    show _ = some (rnL P r (nI t) k (h + 1) (if r (24 + h) = nI t then a + P 24 h else a))
    by_cases c : r (24 + h) = nI t
    · rw [if_pos c, if_pos rfl, if_neg (show ¬ nI 1 = nI 0 by decide), if_pos c]; exact ih m (h + 1) _ (by omega) (by omega)
    · rw [if_neg c, if_neg (show ¬ nI 0 = nI 1 by decide), if_pos rfl, if_neg c]; exact ih m (h + 1) _ (by omega) (by omega)
def GR (σ : Mem) (H T t o x : Nat) : Rw := qS σ H T (chS (chS (σ 43) t (x / 2)) o (x % 2))
def CG : List Nat := [30, 33, 35, 36, 37, 56, 58]
theorem pe_cg {σ σ1 : Mem} (hf : fr CG σ σ1) : PE σ σ1 := fun k h1 h2 h3 h4 => hf k (by unfold CG; simp; omega)
def G58 (σ : Mem) (H T t o x : Nat) (σ1 : Mem) : Prop := ∀ y, y < x → σ1 58 y = gnS σ H (GR σ H T t o y) t (y / 2) ∧ σ1 58 (4 + y) = gnS σ H (GR σ H T t o y) o (y % 2)
theorem C_couple {σ σ1 τ : Mem} {t o x : Nat} (hW : PW σ H T) (hP : PR σ τ H T) (hr : RW (σ 43) H T) (ht : t < 7) (ho : o < 7) (hx : x < 4) (hf : fr CG σ σ1) (hG : G58 σ H T t o x σ1) : OK (m_X10_playCouple σ1 (nI t) (nI o) (nI x)) (fun q => fr CG σ q ∧ G58 σ H T t o (x + 1) q) := by
  have h8 := hW.1
  obtain ⟨c1, c2, c3, c4, c5, c6⟩ := cpl x hx
  unfold m_X10_playCouple
  simp only [pu_lit]
  rw [c5, c6, ok_bind]
  refine ok_mono C_copy (fun q1 h1 => ?_)
  rw [ok_bind]
  refine ok_mono (C_choose ht (c := x / 2) (by omega)) (fun q2 h2 => ?_)
  rw [ok_bind]
  refine ok_mono (C_choose ho (c := x % 2) (by omega)) (fun q3 h3 => ?_)
  have f3 : fr [56] σ1 q3 := (h1.1.trans h2.2).trans h3.2
  have F3 : fr CG σ q3 := hf.trans (f3.mono (by decide))
  rw [ok_bind]
  refine ok_mono (C_quarter (r1 := 56) (Or.inr rfl) hW (pe_cg F3)) (fun q4 h4 => ?_)
  have F4 : fr CG σ q4 := F3.trans (h4.2.1.mono (by decide))
  have e1 : E64 (q1 56) (σ 43) := by
    have := h1.2
    rw [hf 43 (by decide)] at this
    exact this
  have e2 : E64 (q3 56) (chS (chS (σ 43) t (x / 2)) o (x % 2)) := by
    rw [h3.1, h2.1]
    exact chS_e64 ho (chS_e64 ht e1)
  have w2 : RW (chS (chS (σ 43) t (x / 2)) o (x % 2)) H T := chS_W h8 ho (chS_W h8 ht hr)
  have e4 : E64 (q4 56) (GR σ H T t o x) := by
    rw [h4.1]
    exact qS_e64 hW hP (w2.e64 h8 e2) e2
  have gn : ∀ a c, gnS σ H (q4 56) a c = gnS σ H (GR σ H T t o x) a c := fun a c => by
    unfold gnS
    rw [rnL_e64 e4 H 0 _ (by omega)]
  rw [C_gain (pe_cg F4) hW (by omega), ok_bind, ok_some, pu_gd (k := x) (n := 8) (by omega) (by decide), nI_clamp (n := x) (by omega), ok_lt]
  have F5 : ∀ v, fr CG σ (ms q4 58 x v) := fun v => F4.ms (by decide)
  rw [C_gain (pe_cg (F5 _)) hW (by omega), ok_bind, ok_some, nI_add, pu_gd (k := 4 + x) (n := 8) (by omega) (by decide), nI_clamp (n := 4 + x) (by omega), ok_lt, ok_some, ms_ne (by decide), gn, gn]
  refine ⟨(F5 _).ms (by decide), fun y hy => ?_⟩
  rw [ms_same, ms_same]
  by_cases c : y = x
  · subst c
    rw [pk_un (show y ≠ 4 + y by omega), pk_us, pk_us]
    exact ⟨rfl, rfl⟩
  · rw [pk_un (show y ≠ 4 + x by omega), pk_un c, pk_un (show 4 + y ≠ 4 + x by omega), pk_un (show 4 + y ≠ x by omega), h4.2.1 58 (by decide), f3 58 (by decide)]
    exact hG y (by omega)
theorem C_couples {σ τ : Mem} {t o : Nat} {x3 : Int32} {Q : (Nat × Mem) ⊕ (Int32 × Mem) → Prop} (hW : PW σ H T) (hP : PR σ τ H T) (hr : RW (σ 43) H T) (ht : t < 7) (ho : o < 7) (kk : ∀ q, fr CG σ q → G58 σ H T t o 4 q → OK (f_X10_game_64 x3 KF q (nI 0) (-nI 1) (nI 0)) Q) : ∀ (k n x : Nat) (σ1 : Mem), x + k = 4 → k < n → fr CG σ σ1 → G58 σ H T t o x σ1 → OK (f_X10_game_35 (nI t) (nI o) x3 n σ1 (nI x)) Q := by
  intro k
  induction k with
  | zero =>
    intro n x σ1 hk hn hf hG
    obtain ⟨n, rfl⟩ : ∃ q, n = q + 1 := ⟨n - 1, by omega⟩
    have e : x = 4 := by omega
    subst e
    rw [f_X10_game_35]
    simp only [pu_lit]
    rw [if_pos nI_le_self]
    exact kk σ1 hf hG
  | succ k ih =>
    intro n x σ1 hk hn hf hG
    obtain ⟨n, rfl⟩ : ∃ q, n = q + 1 := ⟨n - 1, by omega⟩
    rw [f_X10_game_35]
    simp only [pu_lit]
    rw [if_neg (nI_ge (by omega) (by omega)), ok_bind]
    refine ok_mono (C_couple hW hP hr ht ho (by omega) hf hG) (fun q hq => ?_)
    rw [nI_add]
    exact ih n (x + 1) q (by omega) (by omega) hq.1 hq.2
def G44 (σ : Mem) (H T t o x : Nat) (τ : Mem) : Prop := ∀ y, y < x → τ 44 (2 * y) = gnS σ H (GR σ H T t o y) t (y / 2) ∧ τ 44 (2 * y + 1) = gnS σ H (GR σ H T t o y) o (y % 2)
def FG (τ τ1 : Mem) : Prop := fr [0, 20, 21, 22, 23, 24, 25, 26, 27, 29, 30, 31, 32, 33, 44] τ τ1 ∧ ∀ s, s ≠ 41 → s ≠ 42 → s ≠ 43 → τ1 0 s = τ 0 s
theorem sub_0 (x : Int32) : x - nI 0 = x := Int32.sub_zero x
theorem R_gains {σ τ : Mem} {t o : Nat} (hW : PW σ H T) (hr : RW (σ 43) H T) (ht : t < T) (ho : o < T) : ∀ (k m x : Nat) (τ1 : Mem), x + k = 4 → k < m → FG τ τ1 → PR σ τ1 H T → RX H 64 (σ 43) τ1 → (∀ j, j < 64 → owc H j → τ1 34 (0 + po j) = σ 43 j) → G44 σ H T t o x τ1 → OK (f_X11_tellGains_11 (nI t) (nI o) m τ1 (nI x)) (fun q => FG τ q ∧ RX H 64 (σ 43) q ∧ G44 σ H T t o 4 q) := by
  have h8 := hW.1
  have h7 := hW.2.1
  intro k
  induction k with
  | zero =>
    intro m x τ1 hk hm hf hP R h34 hG
    obtain ⟨m, rfl⟩ : ∃ q, m = q + 1 := ⟨m - 1, by omega⟩
    have e : x = 4 := by omega
    subst e
    rw [f_X11_tellGains_11]
    simp only [pu_lit]
    rw [if_pos nI_le_self, ok_some]
    exact ⟨hf, R, hG⟩
  | succ k ih =>
    intro m x τ1 hk hm hf hP R h34 hG
    obtain ⟨m, rfl⟩ : ∃ q, m = q + 1 := ⟨m - 1, by omega⟩
    rw [f_X11_tellGains_11]
    simp only [pu_lit]
    rw [if_neg (nI_ge (by omega) (by omega)), pu_gnz (by decide) (by decide), pk_rem (by omega) (by decide) (by decide), pk_div (by omega) (by decide) (by decide), ok_bind]
    refine ok_mono (R_choose (t := t) (by omega) (c := x / 2) (by omega) R) (fun q2 h2 => ?_)
    rw [pu_gnz (by decide) (by decide), ok_bind]
    refine ok_mono (R_choose (t := o) (by omega) (c := x % 2) (by omega) h2.1) (fun q3 h3 => ?_)
    have f3 : fr [25, 26] τ1 q3 := h2.2.trans h3.2
    have A3 : FA τ1 q3 := FA.of f3 (by decide)
    have w2 : RW (chS (chS (σ 43) t (x / 2)) o (x % 2)) H T := chS_W h8 (by omega) (chS_W h8 (by omega) hr)
    rw [ok_bind]
    refine ok_mono (R_quarter hW (hP.a A3) h3.1 w2) (fun q4 h4 => ?_)
    have A4 := A3.trans (FA.ofQ h4.2.1)
    have hP4 := hP.a A4
    have f4 : fr [0, 20, 21, 22, 23, 24, 25, 26, 27, 29, 30, 31, 32, 33] τ1 q4 := (f3.mono (by decide)).trans h4.2.1.1
    have RR : ∀ a (τ2 : Mem), fr [44] q4 τ2 → m_X11_housesOf τ2 (nI a) = some (hsL (GR σ H T t o x) (nI a) H 0 (nI 0)) := fun a τ2 hf2 => R_housesOf (by rw [hf2 5 (by decide)]; exact hP4.1) h8 (fun h hh => by rw [hf2 23 (by decide)]; exact h4.1.g23 (by omega) (by omega) (by omega))
    have RN : ∀ a (τ2 : Mem), fr [44] q4 τ2 → m_X11_rents τ2 (hsL (GR σ H T t o x) (nI a) H 0 (nI 0)) = some (rnL σ (GR σ H T t o x) (nI a) H 0 (nI 0)) := fun a τ2 hf2 => R_rents (T := T) h8 (hP4.fr hf2 (by decide)) H KF 0 (nI 0) (by omega) (by unfold KF; omega)
    rw [RR t q4 fr.rfl, ok_bind, ok_some, RN t q4 fr.rfl, ok_bind, ok_some, pu_gnz (by decide) (by decide)]
    have fin : ∀ v1 v2, v1 = gnS σ H (GR σ H T t o x) t (x / 2) → v2 = gnS σ H (GR σ H T t o x) o (x % 2) → OK ((m_X11_unpack 34 64 (ms (ms q4 44 (2 * x) v1) 44 (2 * x + 1) v2) (nI 0)).bind fun q8 => f_X11_tellGains_11 (nI t) (nI o) m q8 (nI x + nI 1)) (fun q => FG τ q ∧ RX H 64 (σ 43) q ∧ G44 σ H T t o 4 q) := by
      intro v1 v2 e1 e2
      rw [ok_bind]
      refine ok_mono (R_unpack (k := 34) (b := 0) (r := σ 43) (by decide) (by decide) (by decide) (fun j hj ho => by rw [ms_ne (by decide), ms_ne (by decide), f4 34 (by decide)]; exact h34 j hj ho)) (fun w hw => ?_)
      have e0 : ∀ s, s ≠ 41 → s ≠ 42 → s ≠ 43 → w 0 s = τ1 0 s := fun s a b c => by rw [hw.2.2 s a b c, ms_ne (by decide), ms_ne (by decide), A4.2 s a b c]
      have fw : fr [0, 20, 21, 22, 23, 24, 25, 26, 27, 29, 30, 31, 32, 33, 44] τ1 w := (((f4.mono (by decide)).ms (by decide)).ms (by decide)).trans (hw.2.1.mono (by decide))
      rw [nI_add]
      refine ih m (x + 1) w (by omega) (by omega) ⟨hf.1.trans fw, fun s a b c => (e0 s a b c).trans (hf.2 s a b c)⟩ (hP.fr fw (by decide)) hw.1 (fun j hj ho => by rw [fw 34 (by decide)]; exact h34 j hj ho) (fun y hy => ?_)
      rw [hw.2.1 44 (by decide), ms_same, ms_same]
      by_cases c : y = x
      · subst c
        rw [pk_un (show 2 * y ≠ 2 * y + 1 by omega), pk_us, pk_us]
        exact ⟨e1, e2⟩
      · rw [pk_un (show 2 * y ≠ 2 * x + 1 by omega), pk_un (show 2 * y ≠ 2 * x by omega), pk_un (show 2 * y + 1 ≠ 2 * x + 1 by omega), pk_un (show 2 * y + 1 ≠ 2 * x by omega), f4 44 (by decide)]
        exact hG y (by omega)
    have t64 : ∀ z3 : Int32, rnL σ (GR σ H T t o x) (nI t) H 0 (nI 0) - z3 = gnS σ H (GR σ H T t o x) t (x / 2) → OK (f_X11_tellGains_64 (f_X11_tellGains_11 (nI t) (nI o) m) (nI t) (nI o) q4 (nI x) (nI 2 * nI x) (rnL σ (GR σ H T t o x) (nI t) H 0 (nI 0)) z3) (fun q => FG τ q ∧ RX H 64 (σ 43) q ∧ G44 σ H T t o 4 q) := by
      intro z3 ez
      unfold f_X11_tellGains_64
      simp only [pu_lit]
      have ff : fr [44] q4 (ms q4 44 (2 * x) (rnL σ (GR σ H T t o x) (nI t) H 0 (nI 0) - z3)) := fr.rfl.ms (by simp)
      rw [pk_mul, nI_add, pk_rem (by omega) (by decide) (by decide), pu_gd (k := 2 * x) (n := 8) (by omega) (by decide), nI_clamp (n := 2 * x) (by omega), ok_lt, RR o _ ff, ok_bind, ok_some, RN o _ ff, ok_bind, ok_some, pu_gnz (by decide) (by decide), pu_gd (k := 2 * x + 1) (n := 8) (by omega) (by decide), pu_gd (k := 2 * x + 1) (n := 8) (by omega) (by decide), nI_clamp (n := 2 * x + 1) (by omega)]
      by_cases c : x % 2 = 0
      · rw [if_pos (by rw [c]), ok_lt]
        exact fin _ _ ez (by unfold gnS; rw [if_pos c])
      · rw [if_neg (nz' (by omega) (by omega)), ok_lt, sub_0]
        exact fin _ _ ez (by unfold gnS; rw [if_neg c])
    by_cases c : x / 2 = 0
    · rw [if_pos (by rw [c])]
      exact t64 _ (by unfold gnS; rw [if_pos c])
    · rw [if_neg (nz' (by omega) (by omega))]
      exact t64 _ (by unfold gnS; rw [if_neg c, sub_0])
theorem game_loop {σ τ : Mem} {g1 g2 : Nat → Int32} {x3 : Int32} (hc : ∀ y, y < 4 → σ 58 y = g1 y ∧ σ 58 (4 + y) = g2 y) (hr : ∀ y, y < 4 → τ 44 (2 * y) = g1 y ∧ τ 44 (2 * y + 1) = g2 y) : ∀ (k n m x c : Nat) (f : Int32), x + k = 4 → k < n → k < m → c ≤ x → (c = 0 ↔ f = -nI 1) → ∃ v : Int32, f_X10_game_64 x3 n σ (nI c) f (nI x) = some (.inr (v, σ)) ∧ f_X11_game_62 x3 m τ (nI c) f (nI x) = some (v, τ) := by
  intro k
  induction k with
  | zero =>
    intro n m x c f hk hn hm hcx hcf
    obtain ⟨n, rfl⟩ : ∃ q, n = q + 1 := ⟨n - 1, by omega⟩
    obtain ⟨m, rfl⟩ : ∃ q, m = q + 1 := ⟨m - 1, by omega⟩
    rw [f_X10_game_64, f_X11_game_62]
    simp only [pu_lit]
    rw [if_pos (nI_le (by omega) (by omega)), if_pos (nI_le (by omega) (by omega))]
    by_cases d : x3 = nI 0
    · rw [if_pos d, if_pos d]; exact ⟨_, rfl, rfl⟩
    · rw [if_neg d, if_neg d]; exact ⟨_, rfl, rfl⟩
  | succ k ih =>
    intro n m x c f hk hn hm hcx hcf
    obtain ⟨n, rfl⟩ : ∃ q, n = q + 1 := ⟨n - 1, by omega⟩
    obtain ⟨m, rfl⟩ : ∃ q, m = q + 1 := ⟨m - 1, by omega⟩
    obtain ⟨c1, c2, c3, c4, c5, c6⟩ := cpl x (by omega)
    obtain ⟨p1, p2⟩ := hc x (by omega)
    obtain ⟨p3, _⟩ := hc (x ^^^ 2) c2
    obtain ⟨_, p4⟩ := hc (x ^^^ 1) c4
    obtain ⟨r1, r2⟩ := hr x (by omega)
    obtain ⟨r3, _⟩ := hr (x ^^^ 2) c2
    obtain ⟨_, r4⟩ := hr (x ^^^ 1) c4
    rw [f_X10_game_64, f_X11_game_62]
    unfold f_X10_game_117
    simp only [pu_lit]
    rw [if_neg (nI_ge (by omega) (by omega)), if_neg (nI_ge (by omega) (by omega)), c1, c3, c5, c6, pk_rem (a := x) (d := 2) (by omega) (by decide) (by decide), pk_div (a := x) (d := 2) (by omega) (by decide) (by decide)]
    simp only [pk_mul, nI_add]
    rw [pu_gd (k := x) (n := 8) (by omega) (by decide), pu_gd (k := x ^^^ 2) (n := 8) (by omega) (by decide), nI_clamp (n := x) (by omega), nI_clamp (n := x ^^^ 2) (by omega), pu_gd (k := 4 + x) (n := 8) (by omega) (by decide), pu_gd (k := 4 + (x ^^^ 1)) (n := 8) (by omega) (by decide), nI_clamp (n := 4 + x) (by omega), nI_clamp (n := 4 + (x ^^^ 1)) (by omega), pu_gd (k := 2 * (x ^^^ 2)) (n := 8) (by omega) (by decide), pu_gd (k := 2 * x) (n := 8) (by omega) (by decide), nI_clamp (n := 2 * (x ^^^ 2)) (by omega), nI_clamp (n := 2 * x) (by omega), pu_gd (k := 2 * (x ^^^ 1) + 1) (n := 8) (by omega) (by decide), pu_gd (k := 2 * x + 1) (n := 8) (by omega) (by decide), nI_clamp (n := 2 * (x ^^^ 1) + 1) (by omega), nI_clamp (n := 2 * x + 1) (by omega), p1, p2, p3, p4, r1, r2, r3, r4]
    by_cases d1 : g1 x < g1 (x ^^^ 2)
    · rw [if_pos d1, if_pos d1]
      simp only [if_true]
      exact ih n m (x + 1) c f (by omega) (by omega) (by omega) (by omega) hcf
    · rw [if_neg d1, if_neg d1]
      by_cases d2 : g2 x < g2 (x ^^^ 1)
      · rw [if_pos d2, if_neg (Int32.not_le.mpr d2)]
        simp only [if_true]
        exact ih n m (x + 1) c f (by omega) (by omega) (by omega) (by omega) hcf
      · rw [if_neg d2, if_pos (Int32.not_lt.mp d2), if_neg (show ¬ nI 1 = nI 0 by decide)]
        by_cases d3 : c = 0
        · subst d3
          rw [if_pos rfl, if_pos (hcf.mp rfl), pu_gnz (by decide) (by decide), pu_gnz (by decide) (by decide), ltE, ltE]
          refine ih n m (x + 1) (0 + 1) _ (by omega) (by omega) (by omega) (by omega) ⟨fun z => absurd z (by omega), fun z => absurd z (fun z => (nI_nm1 (by omega)).mp z)⟩
        · rw [if_neg (nz' (by omega) (by omega)), if_neg (fun z => d3 (hcf.mpr z))]
          exact ih n m (x + 1) (c + 1) f (by omega) (by omega) (by omega) (by omega) ⟨fun z => absurd z (by omega), fun z => absurd (hcf.mpr z) d3⟩
theorem S_game : SIM_game Rel := by
  intro σ τ p0 p1 p2 ⟨H, T, R⟩
  have h8 := R.1.1
  have h7 := R.1.2.1
  refine sim_NI ?_
  have R1 : RelH H T σ (ms τ 0 5 (nI 0)) := R.code
  unfold m_X10_game m_X11_game
  simp only [pu_lit]
  rcases ix_dec p0 T (by omega) with hb | ⟨t, ht, rfl⟩
  · exact po_throw ⟨H, T, R⟩ (Or.inl ⟨rfl, rfl⟩) (by rw [C_needTenant_f (c1_23 R) hb]; rfl) (by
      rw [ltE, R_isTenant_f R1.2.1.2.1 h7 hb]; rfl)
  rw [ltE, C_needTenant_t (c1_23 R) ht h7, R_isTenant_t R1.2.1.2.1 h7 ht, xb_inr, sbind, if_neg (show ¬ nI 1 = nI 0 by decide)]
  rcases ix_dec p1 T (by omega) with hb | ⟨o, ho, rfl⟩
  · exact po_throw ⟨H, T, R⟩ (Or.inl ⟨rfl, rfl⟩) (by rw [C_needTenant_f (c1_23 R) hb]; rfl) (by
      rw [R_isTenant_f R1.2.1.2.1 h7 hb]; rfl)
  rw [C_needTenant_t (c1_23 R) ho h7, R_isTenant_t R1.2.1.2.1 h7 ho, xb_inr, sbind, if_neg (show ¬ nI 1 = nI 0 by decide)]
  rcases ix_dec1 p2 1 (by omega) with hb | ⟨w, hw, rfl⟩
  · exact po_throw ⟨H, T, R⟩ (Or.inl ⟨rfl, rfl⟩) (by rw [C_needWhat_f hb]; rfl) (by
      by_cases c : p2 < nI 0
      · rw [if_pos c]; rfl
      · rw [if_neg c, if_neg (Int32.not_le.mpr (hb.resolve_left c))]; rfl)
  rw [C_needWhat_t hw (by decide), xb_inr, if_neg (nn0 (by omega)), if_pos (nI_le hw (by omega))]
  by_cases c : nI t = nI o
  · rw [if_pos c, if_pos c]
    exact po_throw ⟨H, T, R⟩ (Or.inr ⟨rfl, rfl⟩) rfl rfl
  rw [if_neg c, if_neg c]
  obtain ⟨u, eu, u1, u2⟩ := R_packT R1.2.2.1
  have Su : RQs (ms τ 0 5 (nI 0)) u := RQs.of u1 (by decide)
  obtain ⟨q, eq, q1, q2, q3⟩ := R_gains (τ := u) R.1 R.2.2.2.1 ht ho 4 KF 0 u (by omega) (by decide) ⟨fr.rfl, fun _ _ _ _ => rfl⟩ (R1.2.1.s Su) (R1.2.2.1.keep u1 (by decide)) u2 (fun y hy => absurd hy (by omega))
  have eg : m_X11_tellGains (ms τ 0 5 (nI 0)) (nI t) (nI o) = some q := by
    unfold m_X11_tellGains
    simp only [pu_lit]
    rw [eu, sbind]
    exact eq
  rw [eg, sbind]
  have S3 : RQs u q := ⟨q1.1.mono (by decide), fun s hs => q1.2 s (fun q => by subst q; exact absurd hs (by decide)) (fun q => by subst q; exact absurd hs (by decide)) (fun q => by subst q; exact absurd hs (by decide))⟩
  refine po_ok (C_couples (x3 := nI w) R.1 R1.2.1 R.2.2.2.1 (t := t) (o := o) (by omega) (by omega) (fun z z1 z2 => ?_) 4 KF 0 σ (by omega) (by decide) fr.rfl (fun y hy => absurd hy (by omega)))
  obtain ⟨v, v1, v2⟩ := game_loop (x3 := nI w) (σ := z) (τ := q) z2 q3 4 KF KF 0 0 (-nI 1) (by omega) (by decide) (by decide) (by omega) ⟨fun _ => rfl, fun _ => rfl⟩
  obtain ⟨d5, dR⟩ := R.done (z1.mono (by decide)) q2 (Su.trans S3)
  exact ⟨_, v1, v, z, rfl, (v, q), v2, rfl, d5, dR⟩
end GAME

/-! a street: what is told of a row (64 ints: ages, tempers, pups, owners, held, chops, cats, coins, led, sealed, quarter) by a plan (cells 23 to 34) -/
abbrev Rw : Type := Nat → Int32
def bt (x : Int32) (h : Nat) : Int32 := (x >>> (nI h &&& nI 31)) &&& nI 1
def b1 (h : Nat) : Int32 := nI 1 <<< (nI h &&& nI 31)
def PW (P : Mem) (H T : Nat) : Prop := H ≤ 8 ∧ T ≤ 7 ∧ P 23 0 = nI H ∧ P 23 1 = nI T ∧ (∃ L, 1 ≤ L ∧ L ≤ 99 ∧ P 23 2 = nI L) ∧ (∀ t, t < T → P 27 t = nI 0 ∨ P 27 t = nI 1) ∧ (∃ N, N ≤ 700 ∧ P 28 2 = nI N ∧ (0 < N → dpN 10 (P 29) N 1)) ∧ (∃ N, N ≤ 700 ∧ P 31 2 = nI N ∧ (0 < N → dpN 4 (P 32) N 1))
def PE (P σ : Mem) : Prop := ∀ k, 23 ≤ k → k < 35 → k ≠ 30 → k ≠ 33 → σ k = P k
theorem PE.fr {P σ σ1 : Mem} {L : List Nat} (h : PE P σ) (hf : fr L σ σ1) (hL : ∀ k, k ∈ L → k < 23 ∨ 35 ≤ k ∨ k = 30 ∨ k = 33) : PE P σ1 := fun k h1 h2 h3 h4 => by
  rw [hf k (fun q => by rcases hL k q with q | q | q | q <;> omega)]
  exact h k h1 h2 h3 h4
def lifeS (P : Mem) (h : Nat) : Int32 := if P 25 h = nI 1 then nI 2 * P 23 2 else P 23 2
def vH (P : Mem) (r : Rw) (h : Nat) : Nat → Int32 := fun j => if j = 0 then r h else if j = 1 then r (8 + h) else if j = 2 then r 63 else P 24 h
def slS (P : Mem) (r : Rw) (h : Nat) : Int32 := if P 31 2 ≤ nI 0 then (if r h < nI 30 then nI 0 else nI 1) else (if (evN (vH P r h) (P 32) (P 31 2).toNatClampNeg).headD (nI 0) ≤ nI 0 then nI 0 else nI 1)
def bsS (ob : Rw) (h t : Nat) : Int32 := if 7 ≤ h then (if h = 0 then nI 0 else if ob (h - 1) = nI t then nI 1 else nI 0) else if ob (h + 1) = nI t then (if h = 0 then nI 0 else if ob (h - 1) = nI t then nI 1 else nI 0) + nI 1 else (if h = 0 then nI 0 else if ob (h - 1) = nI t then nI 1 else nI 0)
def hdS (r ob : Rw) (h t : Nat) : Int32 := if ob h = nI t then r (32 + h) else nI 0
def vT (P : Mem) (r ob mb : Rw) (h t : Nat) : Nat → Int32 := fun j => if j < 4 then vH P r h j else if j = 4 then r (40 + t) else if j = 5 then r (47 + t) else if j = 6 then r (54 + t) else if j = 7 then hdS r ob h t else if j = 8 then mb t else bsS ob h t
def lvS (P : Mem) (r ob mb : Rw) (h t : Nat) : Int32 := if P 28 2 ≤ nI 0 then nI 3 * r (40 + t) + hdS r ob h t - r (47 + t) * r (8 + h) else (evN (vT P r ob mb h t) (P 29) (P 28 2).toNatClampNeg).headD (nI 0)
def lkS (P : Mem) (r ob mb : Rw) (h t : Nat) : Int32 := if P 27 t = nI 1 then imax (-nI 999) (imin (nI 999) (lvS P r ob mb h t)) + nI 2 else imax (-nI 999) (imin (nI 999) (lvS P r ob mb h t))
def bsL (f : Nat → Int32) : Nat → Nat → Int32 → Int32 → Int32
  | 0, _, b, _ => b
  | k + 1, t, b, m => if f t ≤ m then bsL f k (t + 1) b m else bsL f k (t + 1) (nI t) (f t)
def siS (P : Mem) (T : Nat) (r ob mb : Rw) (h : Nat) : Int32 := if bt (r 61) h = nI 1 then -nI 1 else if slS P r h = nI 0 then bsL (lkS P r ob mb h) T 0 (-nI 1) (nI 0) else -nI 1
def seS (r ob : Rw) (h : Nat) (w : Int32) : Rw :=
  if w = -nI 1 then upd (upd r (32 + h) (nI 0)) (24 + h) w
  else upd (upd (upd r (32 + h) (if w = ob h then r (32 + h) + nI 1 else nI 1)) (40 + w.toNatClampNeg) (imax (nI 0) (upd r (32 + h) (if w = ob h then r (32 + h) + nI 1 else nI 1) (40 + w.toNatClampNeg) - nI 1))) (24 + h) w
def siL (P : Mem) (T : Nat) (ob mb : Rw) : Nat → Nat → Rw → Rw
  | 0, _, r => r
  | k + 1, h, r => siL P T ob mb k (h + 1) (if bt (r 62) h = nI 0 then seS r ob h (siS P T r ob mb h) else r)
def buS (r : Rw) (h : Nat) : Rw := if r (16 + h) ≤ nI 0 then upd (upd (upd r 62 (r 62 ||| b1 h)) (24 + h) (-nI 1)) (32 + h) (nI 0) else upd (upd r (16 + h) (r (16 + h) - nI 1)) h (nI 0)
def olS (P : Mem) (r : Rw) (h : Nat) : Rw := if bt (r 62) h = nI 0 then (if r h + nI 1 < lifeS P h then upd r h (r h + nI 1) else buS (upd r h (r h + nI 1)) h) else r
def grL (P : Mem) : Nat → Nat → Rw → Rw
  | 0, _, r => r
  | k + 1, h, r => grL P k (h + 1) (olS P r h)
def rnL (P : Mem) (r : Rw) (t : Int32) : Nat → Nat → Int32 → Int32
  | 0, _, a => a
  | k + 1, h, a => rnL P r t k (h + 1) (if r (24 + h) = t then a + P 24 h else a)
def pyS (P : Mem) (H : Nat) (r : Rw) (t : Nat) : Rw :=
  upd (upd r (54 + t) (imin (nI 9999) (r (54 + t) + rnL P r (nI t) H 0 (nI 0)))) (40 + t) (imin (nI 20) (upd r (54 + t) (imin (nI 9999) (r (54 + t) + rnL P r (nI t) H 0 (nI 0))) (40 + t) + P 26 t))
def paL (P : Mem) (H : Nat) : Nat → Nat → Rw → Rw
  | 0, _, r => r
  | k + 1, t, r => paL P H k (t + 1) (pyS P H r t)
def mbN (r : Rw) (t : Nat) : Nat → Int32
  | 0 => nI 0
  | h + 1 => if r (24 + h) = nI t then mbN r t h + nI 1 else mbN r t h
def qS (P : Mem) (H T : Nat) (r : Rw) : Rw :=
  upd (upd (paL P H T 0 (siL P T (fun h => r (24 + h)) (fun t => mbN r t 8) H 0 (grL P H 0 r))) 61 (nI 0)) 63 (paL P H T 0 (siL P T (fun h => r (24 + h)) (fun t => mbN r t 8) H 0 (grL P H 0 r)) 63 + nI 1)
def hsL (r : Rw) (o : Int32) : Nat → Nat → Int32 → Int32
  | 0, _, a => a
  | k + 1, h, a => hsL r o k (h + 1) (if r (24 + h) = o then a ||| b1 h else a)
def coL (r : Rw) : Nat → Nat → Int32 → Int32
  | 0, _, a => a
  | k + 1, t, a => coL r k (t + 1) (a + r (54 + t))
/-! the class' street -/
section CSTREET
variable {P σ : Mem} {H T r1 : Nat}
theorem C_lifeOf (hP : PE P σ) {h : Nat} (hh : h < 8) : m_X8_lifeOf σ (nI h) = some (lifeS P h) := by
  unfold m_X8_lifeOf lifeS
  simp only [pu_lit]
  rw [pu_gd hh (by decide), nI_clamp (by omega), hP 25 (by decide) (by decide) (by decide) (by decide), hP 23 (by decide) (by decide) (by decide) (by decide)]
  split <;> rfl
theorem C_buriedIn (hP : PE P σ) {h : Nat} (hh : h < 8) : m_X8_buriedIn r1 σ (nI h) = some (imax (nI 1) (lifeS P h - σ r1 h)) := by
  unfold m_X8_buriedIn
  rw [C_lifeOf hP hh]
  simp only [pu_lit]
  rw [nI_add, Nat.zero_add]
  show gd (nI h) 64 _ = _
  rw [pu_gd (by omega) (by decide), nI_clamp (by omega)]
theorem C_housesOf_loop (hP : PE P σ) (hW : PW P H T) {o : Int32} : ∀ (k n h : Nat) (a : Int32), h + k = H → k < n → f_X8_housesOf_5 r1 o n σ a (nI h) = some (hsL (σ r1) o k h a) := by
  intro k
  have h8 := hW.1
  have e0 : σ 23 0 = nI H := by rw [hP 23 (by decide) (by decide) (by decide) (by decide)]; exact hW.2.2.1
  induction k with
  | zero =>
    intro n h a hk hn
    obtain ⟨n, rfl⟩ : ∃ q, n = q + 1 := ⟨n - 1, by omega⟩
    rw [f_X8_housesOf_5, e0, if_pos (nI_le (by omega) (by omega))]
    rfl
  | succ k ih =>
    intro n h a hk hn
    obtain ⟨n, rfl⟩ : ∃ q, n = q + 1 := ⟨n - 1, by omega⟩
    rw [f_X8_housesOf_5, e0, if_neg (nI_ge (by omega) (by omega))]
    simp only [pu_lit]
    rw [nI_add, nI_add, pu_gd (by omega) (by decide), nI_clamp (by omega)]
    unfold hsL
    by_cases c : σ r1 (24 + h) = o
    · rw [if_pos c, if_pos c]; exact ih n (h + 1) _ (by omega) (by omega)
    · rw [if_neg c, if_neg c]; exact ih n (h + 1) _ (by omega) (by omega)
theorem C_housesOf (hP : PE P σ) (hW : PW P H T) {o : Int32} : m_X8_housesOf r1 σ o = some (hsL (σ r1) o H 0 (nI 0)) :=
  C_housesOf_loop hP hW H KF 0 (nI 0) (by omega) (by unfold KF; have := hW.1; omega)
theorem C_rentOf_loop (hP : PE P σ) (hW : PW P H T) {o : Int32} : ∀ (k n h : Nat) (a : Int32), h + k = H → k < n → f_X8_rentOf_5 r1 o n σ a (nI h) = some (rnL P (σ r1) o k h a) := by
  intro k
  have h8 := hW.1
  have e0 : σ 23 0 = nI H := by rw [hP 23 (by decide) (by decide) (by decide) (by decide)]; exact hW.2.2.1
  have e1 : σ 24 = P 24 := hP 24 (by decide) (by decide) (by decide) (by decide)
  induction k with
  | zero =>
    intro n h a hk hn
    obtain ⟨n, rfl⟩ : ∃ q, n = q + 1 := ⟨n - 1, by omega⟩
    rw [f_X8_rentOf_5, e0, if_pos (nI_le (by omega) (by omega))]
    rfl
  | succ k ih =>
    intro n h a hk hn
    obtain ⟨n, rfl⟩ : ∃ q, n = q + 1 := ⟨n - 1, by omega⟩
    rw [f_X8_rentOf_5, e0, if_neg (nI_ge (by omega) (by omega))]
    simp only [pu_lit]
    rw [nI_add, nI_add, pu_gd (k := 24 + h) (by omega) (by decide), nI_clamp (n := 24 + h) (by omega), pu_gd (k := h) (by omega) (by decide), nI_clamp (n := h) (by omega), e1]
    unfold rnL
    by_cases c : σ r1 (24 + h) = o
    · rw [if_pos c, if_pos c]; exact ih n (h + 1) _ (by omega) (by omega)
    · rw [if_neg c, if_neg c]; exact ih n (h + 1) _ (by omega) (by omega)
theorem C_rentOf (hP : PE P σ) (hW : PW P H T) {o : Int32} : m_X8_rentOf r1 σ o = some (rnL P (σ r1) o H 0 (nI 0)) :=
  C_rentOf_loop hP hW H KF 0 (nI 0) (by omega) (by unfold KF; have := hW.1; omega)
theorem C_coins_loop (hP : PE P σ) (hW : PW P H T) : ∀ (k n t : Nat) (a : Int32), t + k = T → k < n → f_X8_coinsOfAll_4 r1 n σ a (nI t) = some (coL (σ r1) k t a) := by
  intro k
  have h8 := hW.2.1
  have e0 : σ 23 1 = nI T := by rw [hP 23 (by decide) (by decide) (by decide) (by decide)]; exact hW.2.2.2.1
  induction k with
  | zero =>
    intro n h a hk hn
    obtain ⟨n, rfl⟩ : ∃ q, n = q + 1 := ⟨n - 1, by omega⟩
    rw [f_X8_coinsOfAll_4, e0, if_pos (nI_le (by omega) (by omega))]
    rfl
  | succ k ih =>
    intro n h a hk hn
    obtain ⟨n, rfl⟩ : ∃ q, n = q + 1 := ⟨n - 1, by omega⟩
    rw [f_X8_coinsOfAll_4, e0, if_neg (nI_ge (by omega) (by omega))]
    simp only [pu_lit]
    rw [nI_add, nI_add, pu_gd (by omega) (by decide), nI_clamp (by omega)]
    exact ih n (h + 1) _ (by omega) (by omega)
theorem C_coins (hP : PE P σ) (hW : PW P H T) : m_X8_coinsOfAll r1 σ = some (coL (σ r1) T 0 (nI 0)) :=
  C_coins_loop hP hW T KF 0 (nI 0) (by omega) (by unfold KF; have := hW.2.1; omega)
theorem C_tellHouse (hP : PE P σ) (hr : r1 = 43 ∨ r1 = 56) {h : Nat} (hh : h < 8) : OK (m_X8_tellHouse r1 σ (nI h)) (fun q => fr [35] σ q ∧ ∀ j, j < 4 → q 35 j = vH P (σ r1) h j) := by
  unfold m_X8_tellHouse
  have e1 : σ 24 = P 24 := hP 24 (by decide) (by decide) (by decide) (by decide)
  simp (disch := omega) only [pu_lit, nI_add, pu_gd, nI_clamp, nI_leI, nI_ltI, nI_eq, ok_some, ok_bind, ok_ite, ok_lt, pu_gz1, pu_gz0, pu_gnz, ms_ne, ms_same, e1]
  refine ⟨(((fr.rfl.ms (by simp)).ms (by simp)).ms (by simp)).ms (by simp), fun j hj => ?_⟩
  rcases (show j = 0 ∨ j = 1 ∨ j = 2 ∨ j = 3 by omega) with rfl | rfl | rfl | rfl <;> simp [upd, vH]
end CSTREET

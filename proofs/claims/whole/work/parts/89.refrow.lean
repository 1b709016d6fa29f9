/-! the reference: its plan and its row against the class' -/
def PR (P τ : Mem) (H T : Nat) : Prop := τ 5 0 = nI H ∧ τ 5 1 = nI T ∧ τ 5 2 = P 23 2 ∧ τ 5 3 = P 28 2 ∧ τ 5 4 = P 31 2 ∧ (∀ h, h < H → τ 6 h = P 24 h) ∧ (∀ h, h < H → τ 7 h = P 25 h) ∧ (∀ t, t < T → τ 12 t = P 26 t) ∧ (∀ t, t < T → τ 11 t = P 27 t) ∧ (∀ j, j < (P 28 2).toNatClampNeg → cr (τ 16 j) (P 29 j)) ∧ (∀ j, j < (P 31 2).toNatClampNeg → cr (τ 17 j) (P 32 j))
theorem PR.fr {P τ τ1 : Mem} {H T : Nat} {L : List Nat} (h : PR P τ H T) (hf : fr L τ τ1) (hL : ∀ k, k ∈ L → k ≠ 5 ∧ k ≠ 6 ∧ k ≠ 7 ∧ k ≠ 11 ∧ k ≠ 12 ∧ k ≠ 16 ∧ k ≠ 17) : PR P τ1 H T := by
  unfold PR
  rw [hf 5 (fun q => absurd rfl (hL _ q).1), hf 6 (fun q => absurd rfl (hL _ q).2.1), hf 7 (fun q => absurd rfl (hL _ q).2.2.1), hf 11 (fun q => absurd rfl (hL _ q).2.2.2.1), hf 12 (fun q => absurd rfl (hL _ q).2.2.2.2.1), hf 16 (fun q => absurd rfl (hL _ q).2.2.2.2.2.1), hf 17 (fun q => absurd rfl (hL _ q).2.2.2.2.2.2)]
  exact h
def pc (j : Nat) : Nat := if j < 8 then 20 else if j < 16 then 21 else if j < 24 then 22 else if j < 32 then 23 else if j < 40 then 24 else if j < 47 then 25 else if j < 54 then 26 else if j < 61 then 27 else 0
def pi (j : Nat) : Nat := if j < 8 then j else if j < 16 then j - 8 else if j < 24 then j - 16 else if j < 32 then j - 24 else if j < 40 then j - 32 else if j < 47 then j - 40 else if j < 54 then j - 47 else if j < 61 then j - 54 else if j = 61 then 43 else if j = 62 then 42 else 41
theorem pc_inj : ∀ a, a < 64 → ∀ b, b < 64 → pc a = pc b → pi a = pi b → a = b := by decide +kernel
theorem pc_cells : ∀ a, a < 64 → pc a ∈ [0, 20, 21, 22, 23, 24, 25, 26, 27] := by decide +kernel
theorem pc_0 : ∀ a, a < 64 → pc a = 0 → pi a = 41 ∨ pi a = 42 ∨ pi a = 43 := by decide +kernel
theorem pc_61 : ∀ a, a < 64 → pc a = 0 → pi a = 43 → a = 61 := by decide +kernel
/-- the owners count only where there are houses -/
def owc (H j : Nat) : Prop := 24 ≤ j → j < 32 → ¬ H = 0
def RX (H e : Nat) (r : Rw) (τ : Mem) : Prop := ∀ j, j < 64 → j ≠ e → owc H j → τ (pc j) (pi j) = r j
theorem RX.up {H e j : Nat} {r : Rw} {τ : Mem} {v : Int32} (h : RX H e r τ) (hj : j < 64) : RX H e (upd r j v) (ms τ (pc j) (pi j) v) := by
  intro i hi he ho
  by_cases c : i = j
  · subst c
    rw [ms_same, pk_us, pk_us]
  · rw [pk_un c]
    by_cases d : pc i = pc j
    · rw [d, ms_same, pk_un (fun q => c (pc_inj i hi j hj d q)), ← d]
      exact h i hi he ho
    · rw [ms_ne d]; exact h i hi he ho
theorem RX.p20 {H e h : Nat} {r : Rw} {τ : Mem} {v : Int32} (R : RX H e r τ) (hh : h < 8) : RX H e (upd r h v) (ms τ 20 h v) := by
  have := R.up (j := h) (v := v) (by omega)
  rwa [show pc h = 20 by simp (disch := omega) [pc, hh], show pi h = h by simp (disch := omega) [pi, hh]] at this
theorem pc_eq : (∀ h, h < 8 → pc h = 20 ∧ pi h = h ∧ pc (8 + h) = 21 ∧ pi (8 + h) = h ∧ pc (16 + h) = 22 ∧ pi (16 + h) = h ∧ pc (24 + h) = 23 ∧ pi (24 + h) = h ∧ pc (32 + h) = 24 ∧ pi (32 + h) = h) ∧ (∀ t, t < 7 → pc (40 + t) = 25 ∧ pi (40 + t) = t ∧ pc (47 + t) = 26 ∧ pi (47 + t) = t ∧ pc (54 + t) = 27 ∧ pi (54 + t) = t) := by decide +kernel
section RXS
variable {H e h t : Nat} {r : Rw} {τ : Mem} {v : Int32}
theorem RX.p21 (R : RX H e r τ) (hh : h < 8) : RX H e (upd r (8 + h) v) (ms τ 21 h v) := by
  have := R.up (j := 8 + h) (v := v) (by omega)
  rwa [(pc_eq.1 h hh).2.2.1, (pc_eq.1 h hh).2.2.2.1] at this
theorem RX.p22 (R : RX H e r τ) (hh : h < 8) : RX H e (upd r (16 + h) v) (ms τ 22 h v) := by
  have := R.up (j := 16 + h) (v := v) (by omega)
  rwa [(pc_eq.1 h hh).2.2.2.2.1, (pc_eq.1 h hh).2.2.2.2.2.1] at this
theorem RX.p23 (R : RX H e r τ) (hh : h < 8) : RX H e (upd r (24 + h) v) (ms τ 23 h v) := by
  have := R.up (j := 24 + h) (v := v) (by omega)
  rwa [(pc_eq.1 h hh).2.2.2.2.2.2.1, (pc_eq.1 h hh).2.2.2.2.2.2.2.1] at this
theorem RX.p24 (R : RX H e r τ) (hh : h < 8) : RX H e (upd r (32 + h) v) (ms τ 24 h v) := by
  have := R.up (j := 32 + h) (v := v) (by omega)
  rwa [(pc_eq.1 h hh).2.2.2.2.2.2.2.2.1, (pc_eq.1 h hh).2.2.2.2.2.2.2.2.2] at this
theorem RX.p25 (R : RX H e r τ) (ht : t < 7) : RX H e (upd r (40 + t) v) (ms τ 25 t v) := by
  have := R.up (j := 40 + t) (v := v) (by omega)
  rwa [(pc_eq.2 t ht).1, (pc_eq.2 t ht).2.1] at this
theorem RX.p26 (R : RX H e r τ) (ht : t < 7) : RX H e (upd r (47 + t) v) (ms τ 26 t v) := by
  have := R.up (j := 47 + t) (v := v) (by omega)
  rwa [(pc_eq.2 t ht).2.2.1, (pc_eq.2 t ht).2.2.2.1] at this
theorem RX.p27 (R : RX H e r τ) (ht : t < 7) : RX H e (upd r (54 + t) v) (ms τ 27 t v) := by
  have := R.up (j := 54 + t) (v := v) (by omega)
  rwa [(pc_eq.2 t ht).2.2.2.2.1, (pc_eq.2 t ht).2.2.2.2.2] at this
theorem RX.pLed (R : RX H e r τ) : RX H e (upd r 61 v) (ms τ 0 43 v) := R.up (j := 61) (v := v) (by omega)
theorem RX.pSea (R : RX H e r τ) : RX H e (upd r 62 v) (ms τ 0 42 v) := R.up (j := 62) (v := v) (by omega)
theorem RX.pQua (R : RX H e r τ) : RX H e (upd r 63 v) (ms τ 0 41 v) := R.up (j := 63) (v := v) (by omega)
theorem RX.led (R : RX H 61 r τ) : RX H 61 r (ms τ 0 43 v) := by
  intro i hi he ho
  by_cases c : pc i = 0
  · have hq : pi i ≠ 43 := fun q => he (pc_61 i hi c q)
    have := R i hi he ho
    rw [c] at this ⊢
    rw [ms_same, pk_un hq]
    exact this
  · rw [ms_ne c]; exact R i hi he ho
theorem RX.led' (R : RX H 61 r τ) : RX H 64 (upd r 61 v) (ms τ 0 43 v) := by
  intro i hi he ho
  by_cases c : i = 61
  · subst c; rw [pk_us]; show ms τ 0 43 v 0 43 = v; rw [ms_same]; exact pk_us
  · rw [pk_un c]; exact (R.led (v := v)) i hi c ho
theorem RX.weak (R : RX H 64 r τ) : RX H 61 r τ := fun i hi _ ho => R i hi (by omega) ho
theorem RX.slot {s : Nat} (R : RX H e r τ) (hs : s ≠ 41 ∧ s ≠ 42 ∧ s ≠ 43) : RX H e r (ms τ 0 s v) := by
  intro i hi he ho
  by_cases c : pc i = 0
  · have hq : pi i ≠ s := by rcases pc_0 i hi c with q | q | q <;> omega
    have := R i hi he ho
    rw [c] at this ⊢
    rw [ms_same, pk_un hq]
    exact this
  · rw [ms_ne c]; exact R i hi he ho
theorem RX.keep {L : List Nat} {τ1 : Mem} (R : RX H e r τ) (hf : fr L τ τ1) (hL : ∀ k, k ∈ L → k ∉ [0, 20, 21, 22, 23, 24, 25, 26, 27]) : RX H e r τ1 := by
  intro i hi he ho
  rw [hf (pc i) (fun q => hL _ q (pc_cells i hi))]
  exact R i hi he ho
/-- frame with the object's slots -/
theorem RX.keep0 {L : List Nat} {τ1 : Mem} (R : RX H e r τ) (hf : fr (0 :: L) τ τ1) (hL : ∀ k, k ∈ L → k ∉ [20, 21, 22, 23, 24, 25, 26, 27]) (h0 : τ1 0 41 = τ 0 41 ∧ τ1 0 42 = τ 0 42 ∧ τ1 0 43 = τ 0 43) : RX H e r τ1 := by
  intro i hi he ho
  by_cases c : pc i = 0
  · have := R i hi he ho
    rw [c] at this ⊢
    rcases pc_0 i hi c with q | q | q <;> rw [q] at this ⊢
    · rw [h0.1]; exact this
    · rw [h0.2.1]; exact this
    · rw [h0.2.2]; exact this
  · have hm := pc_cells i hi
    rw [hf (pc i) (fun q => by
      rcases List.mem_cons.mp q with q | q
      · exact c q
      · exact hL _ q ((List.mem_cons.mp hm).resolve_left c))]
    exact R i hi he ho
theorem RX.g20 (R : RX H e r τ) (he : 61 ≤ e) (hh : h < 8) : τ 20 h = r h := by
  have := R h (by omega) (by omega) (fun a b => by omega)
  rwa [(pc_eq.1 h hh).1, (pc_eq.1 h hh).2.1] at this
theorem RX.g21 (R : RX H e r τ) (he : 61 ≤ e) (hh : h < 8) : τ 21 h = r (8 + h) := by
  have := R (8 + h) (by omega) (by omega) (fun a b => by omega)
  rwa [(pc_eq.1 h hh).2.2.1, (pc_eq.1 h hh).2.2.2.1] at this
theorem RX.g22 (R : RX H e r τ) (he : 61 ≤ e) (hh : h < 8) : τ 22 h = r (16 + h) := by
  have := R (16 + h) (by omega) (by omega) (fun a b => by omega)
  rwa [(pc_eq.1 h hh).2.2.2.2.1, (pc_eq.1 h hh).2.2.2.2.2.1] at this
theorem RX.g23 (R : RX H e r τ) (he : 61 ≤ e) (hh : h < 8) (hH : ¬ H = 0) : τ 23 h = r (24 + h) := by
  have := R (24 + h) (by omega) (by omega) (fun _ _ => hH)
  rwa [(pc_eq.1 h hh).2.2.2.2.2.2.1, (pc_eq.1 h hh).2.2.2.2.2.2.2.1] at this
theorem RX.g24 (R : RX H e r τ) (he : 61 ≤ e) (hh : h < 8) : τ 24 h = r (32 + h) := by
  have := R (32 + h) (by omega) (by omega) (fun a b => by omega)
  rwa [(pc_eq.1 h hh).2.2.2.2.2.2.2.2.1, (pc_eq.1 h hh).2.2.2.2.2.2.2.2.2] at this
theorem RX.g25 (R : RX H e r τ) (he : 61 ≤ e) (ht : t < 7) : τ 25 t = r (40 + t) := by
  have := R (40 + t) (by omega) (by omega) (fun a b => by omega)
  rwa [(pc_eq.2 t ht).1, (pc_eq.2 t ht).2.1] at this
theorem RX.g26 (R : RX H e r τ) (he : 61 ≤ e) (ht : t < 7) : τ 26 t = r (47 + t) := by
  have := R (47 + t) (by omega) (by omega) (fun a b => by omega)
  rwa [(pc_eq.2 t ht).2.2.1, (pc_eq.2 t ht).2.2.2.1] at this
theorem RX.g27 (R : RX H e r τ) (he : 61 ≤ e) (ht : t < 7) : τ 27 t = r (54 + t) := by
  have := R (54 + t) (by omega) (by omega) (fun a b => by omega)
  rwa [(pc_eq.2 t ht).2.2.2.2.1, (pc_eq.2 t ht).2.2.2.2.2] at this
theorem RX.gQ (R : RX H e r τ) (he : e = 61 ∨ e = 64) : τ 0 41 = r 63 := R 63 (by omega) (by omega) (fun a b => by omega)
theorem RX.gS (R : RX H e r τ) (he : e = 61 ∨ e = 64) : τ 0 42 = r 62 := R 62 (by omega) (by omega) (fun a b => by omega)
theorem RX.gL (R : RX H 64 r τ) : τ 0 43 = r 61 := R 61 (by omega) (by omega) (fun a b => by omega)
end RXS
/-! what the reference tells of its row -/
section RTELL
variable {P τ : Mem} {H T e : Nat} {r : Rw}
theorem R_isOf {x : Int32} {h : Nat} : m_X11_isOf τ x (nI h) = some (if bt x h = nI 1 then nI 1 else nI 0) := by
  unfold m_X11_isOf
  simp only [pu_lit, ite_some]
  rfl
theorem R_housesOf_loop (h0 : τ 5 0 = nI H) (h8 : H ≤ 8) {o : Int32} (ho : ∀ h, h < H → τ 23 h = r (24 + h)) : ∀ (k n h : Nat) (a : Int32), h + k = H → k < n → f_X11_housesOf_4 o n τ a (nI h) = some (hsL r o k h a) := by
  intro k
  induction k with
  | zero =>
    intro n h a hk hn
    obtain ⟨n, rfl⟩ : ∃ q, n = q + 1 := ⟨n - 1, by omega⟩
    rw [f_X11_housesOf_4]
    simp only [pu_lit]
    rw [pu_gd (by decide) (by decide), nI_clamp (by decide), h0, if_pos (nI_le (by omega) (by omega))]
    rfl
  | succ k ih =>
    intro n h a hk hn
    obtain ⟨n, rfl⟩ : ∃ q, n = q + 1 := ⟨n - 1, by omega⟩
    rw [f_X11_housesOf_4]
    simp only [pu_lit]
    rw [pu_gd (k := 0) (by decide) (by decide), nI_clamp (n := 0) (by decide), h0, if_neg (nI_ge (by omega) (by omega)), nI_add, pu_gd (k := h) (by omega) (by decide), nI_clamp (n := h) (by omega), ho h (by omega), or_0]
    unfold hsL
    by_cases c : r (24 + h) = o
    · rw [if_pos c, if_pos c]; exact ih n (h + 1) _ (by omega) (by omega)
    · rw [if_neg c, if_neg c]; exact ih n (h + 1) _ (by omega) (by omega)
theorem R_housesOf (h0 : τ 5 0 = nI H) (h8 : H ≤ 8) {o : Int32} (ho : ∀ h, h < H → τ 23 h = r (24 + h)) : m_X11_housesOf τ o = some (hsL r o H 0 (nI 0)) :=
  R_housesOf_loop h0 h8 ho H KF 0 (nI 0) (by omega) (by unfold KF; omega)
theorem R_nobodys_loop (h0 : τ 5 0 = nI H) (h8 : H ≤ 8) (ho : ∀ h, h < H → τ 23 h = r (24 + h)) : ∀ (k n h : Nat) (a : Int32), h + k = H → k < n → f_X11_nobodys_4 n τ a (nI h) = some (hsL r (-nI 1) k h a) := by
  intro k
  induction k with
  | zero =>
    intro n h a hk hn
    obtain ⟨n, rfl⟩ : ∃ q, n = q + 1 := ⟨n - 1, by omega⟩
    rw [f_X11_nobodys_4]
    simp only [pu_lit]
    rw [pu_gd (by decide) (by decide), nI_clamp (by decide), h0, if_pos (nI_le (by omega) (by omega))]
    rfl
  | succ k ih =>
    intro n h a hk hn
    obtain ⟨n, rfl⟩ : ∃ q, n = q + 1 := ⟨n - 1, by omega⟩
    rw [f_X11_nobodys_4]
    simp only [pu_lit]
    rw [pu_gd (k := 0) (by decide) (by decide), nI_clamp (n := 0) (by decide), h0, if_neg (nI_ge (by omega) (by omega)), nI_add, pu_gd (k := h) (by omega) (by decide), nI_clamp (n := h) (by omega), ho h (by omega), or_0]
    unfold hsL
    by_cases c : r (24 + h) = -nI 1
    · rw [if_pos c, if_pos c]; exact ih n (h + 1) _ (by omega) (by omega)
    · rw [if_neg c, if_neg c]; exact ih n (h + 1) _ (by omega) (by omega)
theorem R_nobodys (h0 : τ 5 0 = nI H) (h8 : H ≤ 8) (ho : ∀ h, h < H → τ 23 h = r (24 + h)) : m_X11_nobodys τ = some (hsL r (-nI 1) H 0 (nI 0)) :=
  R_nobodys_loop h0 h8 ho H KF 0 (nI 0) (by omega) (by unfold KF; omega)
theorem R_coins_loop (h0 : τ 5 1 = nI T) (h8 : T ≤ 7) (ho : ∀ t, t < 7 → τ 27 t = r (54 + t)) : ∀ (k n t : Nat) (a : Int32), t + k = T → k < n → f_X11_allCoins_4 n τ a (nI t) = some (coL r k t a) := by
  intro k
  induction k with
  | zero =>
    intro n h a hk hn
    obtain ⟨n, rfl⟩ : ∃ q, n = q + 1 := ⟨n - 1, by omega⟩
    rw [f_X11_allCoins_4]
    simp only [pu_lit]
    rw [pu_gd (by decide) (by decide), nI_clamp (by decide), h0, if_pos (nI_le (by omega) (by omega))]
    rfl
  | succ k ih =>
    intro n h a hk hn
    obtain ⟨n, rfl⟩ : ∃ q, n = q + 1 := ⟨n - 1, by omega⟩
    rw [f_X11_allCoins_4]
    simp only [pu_lit]
    rw [pu_gd (k := 1) (by decide) (by decide), nI_clamp (n := 1) (by decide), h0, if_neg (nI_ge (by omega) (by omega)), nI_add, pu_gd (k := h) (by omega) (by decide), nI_clamp (n := h) (by omega), ho h (by omega)]
    exact ih n (h + 1) _ (by omega) (by omega)
theorem R_coins (h0 : τ 5 1 = nI T) (h8 : T ≤ 7) (ho : ∀ t, t < 7 → τ 27 t = r (54 + t)) : m_X11_allCoins τ = some (coL r T 0 (nI 0)) :=
  R_coins_loop h0 h8 ho T KF 0 (nI 0) (by omega) (by unfold KF; omega)
theorem R_begun_loop2 (h0 : τ 5 0 = nI H) (h8 : H ≤ 8) (ho : ∀ h, h < H → τ 23 h = r (24 + h)) : ∀ (k n t : Nat) (τ1 : Mem), t + k = 7 → k < n → fr [31, 32, 33] τ τ1 → (∀ j, j < t → τ1 33 j = hsL r (nI j) H 0 (nI 0)) → OK (f_X11_tellBegun_40 n τ1 (nI t)) (fun q => fr [31, 32, 33] τ q ∧ q 31 = τ1 31 ∧ q 32 = τ1 32 ∧ ∀ t, t < 7 → q 33 t = hsL r (nI t) H 0 (nI 0)) := by
  intro k
  induction k with
  | zero =>
    intro n t τ1 hk hn hf hm
    obtain ⟨n, rfl⟩ : ∃ q, n = q + 1 := ⟨n - 1, by omega⟩
    have h7 : t = 7 := by omega
    subst h7
    rw [f_X11_tellBegun_40]
    simp only [pu_lit]
    rw [if_pos nI_le_self, ok_some]
    exact ⟨hf, rfl, rfl, hm⟩
  | succ k ih =>
    intro n t τ1 hk hn hf hm
    obtain ⟨n, rfl⟩ : ∃ q, n = q + 1 := ⟨n - 1, by omega⟩
    rw [f_X11_tellBegun_40]
    simp only [pu_lit]
    rw [if_neg (nI_ge (by omega) (by omega)), ok_bind, R_housesOf (r := r) (H := H) (by rw [hf 5 (by decide)]; exact h0) h8 (fun h hh => by rw [hf 23 (by decide)]; exact ho h hh), ok_some, pu_gd (by omega) (by decide), nI_clamp (by omega), ok_lt, nI_add]
    refine ok_mono (ih n (t + 1) _ (by omega) (by omega) (hf.ms (by simp)) (fun j hj => ?_)) (fun q hq => ?_)
    · rw [ms_same]
      rcases Nat.lt_or_ge j t with q | q
      · rw [pk_un (by omega)]; exact hm j q
      · have : j = t := by omega
        subst this
        exact pk_us
    · rw [ms_ne (by decide), ms_ne (by decide)] at hq
      exact hq
theorem R_begun_loop1 (h0 : τ 5 0 = nI H) (h8 : H ≤ 8) (ho : ∀ h, h < H → τ 23 h = r (24 + h)) : ∀ (k n h : Nat) (τ1 : Mem), h + k = 8 → k < n → fr [31, 32, 33] τ τ1 → (∀ j, j < h → τ1 31 j = τ 23 j) → (∀ j, j < h → τ1 32 j = τ 24 j) → OK (f_X11_tellBegun_2 n τ1 (nI h)) (fun q => fr [31, 32, 33] τ q ∧ (∀ h, h < 8 → q 31 h = τ 23 h) ∧ (∀ h, h < 8 → q 32 h = τ 24 h) ∧ ∀ t, t < 7 → q 33 t = hsL r (nI t) H 0 (nI 0)) := by
  intro k
  induction k with
  | zero =>
    intro n h τ1 hk hn hf hm1 hm2
    obtain ⟨n, rfl⟩ : ∃ q, n = q + 1 := ⟨n - 1, by omega⟩
    have h7 : h = 8 := by omega
    subst h7
    rw [f_X11_tellBegun_2]
    simp only [pu_lit]
    rw [if_pos nI_le_self]
    refine ok_mono (R_begun_loop2 h0 h8 ho 7 KF 0 τ1 (by omega) (by decide) hf (fun j hj => absurd hj (by omega))) (fun q hq => ?_)
    exact ⟨hq.1, fun h hh => by rw [hq.2.1]; exact hm1 h hh, fun h hh => by rw [hq.2.2.1]; exact hm2 h hh, hq.2.2.2⟩
  | succ k ih =>
    intro n h τ1 hk hn hf hm1 hm2
    obtain ⟨n, rfl⟩ : ∃ q, n = q + 1 := ⟨n - 1, by omega⟩
    rw [f_X11_tellBegun_2]
    simp only [pu_lit]
    rw [if_neg (nI_ge (by omega) (by omega)), pu_gd (k := h) (by omega) (by decide), pu_gd (k := h) (by omega) (by decide), nI_clamp (n := h) (by omega), ok_lt, pu_gd (k := h) (by omega) (by decide), pu_gd (k := h) (by omega) (by decide), ok_lt, nI_add, ms_ne (by decide)]
    refine ih n (h + 1) _ (by omega) (by omega) ((hf.ms (by simp)).ms (by simp)) (fun j hj => ?_) (fun j hj => ?_)
    · rw [ms_ne (by decide), ms_same]
      rcases Nat.lt_or_ge j h with q | q
      · rw [pk_un (by omega)]; exact hm1 j q
      · have : j = h := by omega
        subst this
        rw [pk_us, hf 23 (by decide)]
    · rw [ms_same, ms_ne (by decide)]
      rcases Nat.lt_or_ge j h with q | q
      · rw [pk_un (by omega)]; exact hm2 j q
      · have : j = h := by omega
        subst this
        rw [pk_us, hf 24 (by decide)]
theorem R_begun (h0 : τ 5 0 = nI H) (h8 : H ≤ 8) (ho : ∀ h, h < H → τ 23 h = r (24 + h)) : OK (m_X11_tellBegun τ) (fun q => fr [31, 32, 33] τ q ∧ (∀ h, h < 8 → q 31 h = τ 23 h) ∧ (∀ h, h < 8 → q 32 h = τ 24 h) ∧ ∀ t, t < 7 → q 33 t = hsL r (nI t) H 0 (nI 0)) :=
  R_begun_loop1 h0 h8 ho 8 KF 0 τ (by omega) (by decide) fr.rfl (fun j hj => absurd hj (by omega)) (fun j hj => absurd hj (by omega))
theorem R_ask (R : RX H e r τ) (he : e = 61 ∨ e = 64) (hP : PR P τ H T) {h : Nat} (hh : h < H) (h8 : H ≤ 8) : OK (m_X11_ask τ (nI h)) (fun q => fr [29] τ q ∧ ∀ j, j < 4 → q 29 j = vH P r h j) := by
  unfold m_X11_ask
  have a1 := R.g20 (h := h) (by omega) (by omega)
  have a2 := R.g21 (h := h) (by omega) (by omega)
  have a3 := R.gQ he
  have a4 := hP.2.2.2.2.2.1 h hh
  simp (disch := omega) only [pu_lit, nI_add, pu_gd, nI_clamp, nI_leI, nI_ltI, nI_eq, ok_some, ok_bind, ok_ite, ok_lt, pu_gz1, pu_gz0, pu_gnz, ms_ne, a1, a2, a3, a4]
  refine ⟨(((fr.rfl.ms (by simp)).ms (by simp)).ms (by simp)).ms (by simp), fun j hj => ?_⟩
  rcases (show j = 0 ∨ j = 1 ∨ j = 2 ∨ j = 3 by omega) with rfl | rfl | rfl | rfl <;> simp [ms_same, upd, vH]
theorem R_isAsleep (R : RX H e r τ) (he : e = 61 ∨ e = 64) (hP : PR P τ H T) (hW : PW P H T) {h : Nat} (hh : h < H) : OK (m_X11_isAsleep τ (nI h)) (fun q => q.1 = slS P r h ∧ fr [29, 30] τ q.2) := by
  have h8 := hW.1
  unfold m_X11_isAsleep slS
  obtain ⟨N, hN, e31, hdp⟩ := hW.2.2.2.2.2.2.2
  have e54 : τ 5 4 = nI N := by rw [hP.2.2.2.2.1]; exact e31
  simp only [pu_lit]
  rw [pu_gd (by decide) (by decide), nI_clamp (by decide), e54, e31]
  rcases Nat.eq_zero_or_pos N with q0 | q0
  · subst q0
    rw [if_pos (Eq.refl _), if_pos nI_le_self, pu_gd (by omega) (by decide), nI_clamp (by omega), R.g20 (h := h) (by omega) (by omega)]
    by_cases c2 : r h < nI 30
    · rw [if_pos c2, if_pos c2, ok_some]; exact ⟨Eq.refl _, fr.rfl⟩
    · rw [if_neg c2, if_neg c2, ok_some]; exact ⟨Eq.refl _, fr.rfl⟩
  · rw [if_neg (nz' q0 (by omega)), if_neg (nle' q0 (by omega)), ok_bind, nI_clamp (by omega)]
    refine ok_mono (R_ask R he hP hh h8) (fun q hq => ?_)
    have e54q : q 5 4 = nI N := by rw [hq.1 5 (by decide)]; exact e54
    rw [pu_gd (by decide) (by decide), e54q, ok_bind]
    refine ok_mono (R_value (r1 := 17) (n1 := 1400) (mv := 4) (f := P 32) (g := τ 17) (by decide) (by omega) (by decide) hN (hdp q0) (fun j hj => hP.2.2.2.2.2.2.2.2.2.2 j (by rw [e31, nI_clamp (by omega)]; exact hj)) (fun j _ => by rw [hq.1 17 (by decide)]) hq.2) (fun q5 h5 => ?_)
    obtain ⟨h51, h52⟩ := h5
    rw [← h51]
    have hf5 : fr [29, 30] τ q5.2 := (hq.1.mono (by simp)).trans (h52.mono (by simp))
    by_cases c2 : q5.1 ≤ nI 0
    · rw [if_pos c2, if_pos c2, ok_some]; exact ⟨Eq.refl _, hf5⟩
    · rw [if_neg c2, if_neg c2, ok_some]; exact ⟨Eq.refl _, hf5⟩
end RTELL

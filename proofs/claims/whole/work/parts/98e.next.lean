/-! leastChops, toWin, ruin -/
theorem upd_upd {r : Rw} {j : Nat} {x y : Int32} : upd (upd r j x) j y = upd r j y := by
  funext i
  unfold upd
  by_cases c : i = j <;> simp [c]
theorem upd_id {r : Rw} {j : Nat} : upd r j (r j) = r := by
  funext i
  unfold upd
  by_cases c : i = j <;> simp [c]
theorem gb_hsL {r : Rw} {o : Int32} : ∀ (k h : Nat) (a : Int32) (i : Nat), h + k ≤ 32 → i < 32 → gb (hsL r o k h a) i = (gb a i || (decide (h ≤ i ∧ i < h + k) && decide (r (24 + i) = o)))
  | 0, h, a, i, _, _ => by
    have e : ¬ (h ≤ i ∧ i < h + 0) := by omega
    show gb a i = _
    rw [decide_eq_false e]
    simp
  | k + 1, h, a, i, hk, hi => by
    show gb (hsL r o k (h + 1) (if r (24 + h) = o then a ||| b1 h else a)) i = _
    rw [gb_hsL k (h + 1) _ i (by omega) hi]
    by_cases c : i = h
    · subst c
      have e1 : ¬ (i + 1 ≤ i ∧ i < i + 1 + k) := by omega
      have e2 : i ≤ i ∧ i < i + (k + 1) := by omega
      by_cases d : r (24 + i) = o
      · rw [if_pos d, gb_or, b1_gb (by omega) (by omega)]; simp [d, e2]
      · rw [if_neg d]; simp [d]
    · have e3 : (h + 1 ≤ i ∧ i < h + 1 + k) ↔ (h ≤ i ∧ i < h + (k + 1)) := by omega
      have e4 : gb (if r (24 + h) = o then a ||| b1 h else a) i = gb a i := by
        by_cases d : r (24 + h) = o
        · rw [if_pos d, gb_or, b1_gb (by omega) (by omega)]; simp [c]
        · rw [if_neg d]
      rw [e4]
      simp only [e3]
theorem bt_hsL {r : Rw} {o : Int32} {H h : Nat} (h8 : H ≤ 8) (hh : h < H) : bt (hsL r o H 0 (nI 0)) h = if r (24 + h) = o then nI 1 else nI 0 := by
  rw [bt_gb (by omega), gb_hsL H 0 _ h (by omega) (by omega), gb_0]
  have e : decide (0 ≤ h ∧ h < 0 + H) = true := decide_eq_true (by omega)
  rw [e]
  by_cases d : r (24 + h) = o
  · rw [decide_eq_true d, if_pos d]; rfl
  · rw [decide_eq_false d, if_neg d]; rfl
section NEXT
variable {P : Mem} {H T : Nat}
theorem R_next {τ : Mem} {r : Rw} (hW : PW P H T) (hP : PR P τ H T) (R : RX H 64 r τ) (hr : RW r H T) {o : Int32} : OK (m_X11_housesNext τ o) (fun q => q.1 = hsL (qS P H T r) o H 0 (nI 0) ∧ RX H 64 r q.2 ∧ RQs τ q.2) := by
  have h8 := hW.1
  unfold m_X11_housesNext
  simp only [pu_lit]
  rw [ok_bind]
  refine ok_mono (R_packT R) (fun q1 h1 => ?_)
  have S1 : RQs τ q1 := RQs.of h1.1 (by decide)
  rw [ok_bind]
  refine ok_mono (R_quarter hW (hP.s S1) (R.keep h1.1 (by decide)) hr) (fun q2 h2 => ?_)
  rw [ok_bind, R_housesOf (r := qS P H T r) ((hP.s S1).q h2.2.1).1 h8 (fun h hh => h2.1.g23 (by omega) (by omega) (by omega)), ok_some, ok_bind]
  refine ok_mono (R_unpackT (r := r) (fun j hj ho => by rw [h2.2.1.c34]; exact h1.2 j hj ho)) (fun q4 h4 => ?_)
  rw [ok_some]
  exact ⟨rfl, h4.1, (S1.trans (RQs.ofQ h2.2.1)).trans h4.2⟩
theorem RQs.m25 {τ : Mem} {j : Nat} {v : Int32} : RQs τ (ms τ 25 j v) := RQs.of (L := [25]) (fr.rfl.ms (by simp)) (by decide)
theorem RQs.m26 {τ : Mem} {j : Nat} {v : Int32} : RQs τ (ms τ 26 j v) := RQs.of (L := [26]) (fr.rfl.ms (by simp)) (by decide)
theorem pe_cs {σ σ1 : Mem} (hf : fr CS σ σ1) : PE σ σ1 := fun k h1 h2 h3 h4 => hf k (by unfold CS; simp; omega)
/-- chops put there, both sides -/
theorem with25 {σ σ1 τ1 : Mem} (hW : PW σ H T) (hr : RW (σ 43) H T) {t : Nat} {y v : Int32} (ht : t < T) (hf : fr CS σ σ1) (R : RX H 64 (upd (σ 43) (40 + t) y) τ1) (hP : PR σ τ1 H T) : ∃ (q : Mem) (w : Int32 × Mem) (r : Rw), m_X10_tryQuarterWith σ1 (nI 40 + nI t) v = some q ∧ fr CS σ q ∧ q 56 = r ∧ m_X11_housesNext (ms τ1 25 t v) (nI t) = some w ∧ w.1 = hsL r (nI t) H 0 (nI 0) ∧ RX H 64 (upd (σ 43) (40 + t) v) w.2 ∧ RQs τ1 w.2 := by
  have h8 := hW.1
  have h7 := hW.2.1
  obtain ⟨q, eq, fq, r, hr0, hq⟩ := C_with (P := σ) (σ := σ1) hW (pe_cs hf) (p := 40 + t) (by omega) (v := v)
  have e43 : σ1 43 = σ 43 := hf 43 (by decide)
  rw [e43] at hr0
  have hx : E64 (upd r (40 + t) v) (upd (σ 43) (40 + t) v) := fun j hj => by
    unfold upd
    by_cases c : j = 40 + t
    · rw [if_pos c, if_pos c]
    · rw [if_neg c, if_neg c]; exact hr0 j hj
  have R1 : RX H 64 (upd (σ 43) (40 + t) v) (ms τ1 25 t v) := by
    have := R.p25 (t := t) (v := v) (by omega)
    rwa [upd_upd] at this
  have W1 : RW (upd (σ 43) (40 + t) v) H T := hr.up h8 (by omega)
  obtain ⟨w, ew, w1, w2, w3⟩ := R_next (o := nI t) hW (hP.s RQs.m25) (R1.e64 hx) (W1.e64 h8 hx)
  refine ⟨q, w, _, by rw [nI_add]; exact eq, hf.trans fq, rfl, ew, by rw [hq]; exact w1, w2.e64 (fun j hj => (hx j hj).symm), RQs.m25.trans w3⟩
theorem least_loop {σ : Mem} (hW : PW σ H T) (hr : RW (σ 43) H T) {t h : Nat} (ht : t < T) (hh : h < H) : ∀ (k n m x : Nat) (σ1 τ1 : Mem) (y : Int32), x + k = 21 → k < n → k + 1 < m → fr CS σ σ1 → RX H 64 (upd (σ 43) (40 + t) y) τ1 → PR σ τ1 H T → ∃ (v : Int32) (σ2 τ2 : Mem), f_X10_leastChops_12 (nI t) (nI h) n σ1 (nI x) = some (.inr (v, σ2)) ∧ f_X11_leastChops_40 (nI t) (nI h) (σ 43 (40 + t)) m τ1 (-nI 1) (nI x) = some (v, τ2) ∧ fr CS σ σ2 ∧ RX H 64 (σ 43) τ2 ∧ RQs τ1 τ2 := by
  have h8 := hW.1
  have h7 := hW.2.1
  have fin : ∀ (τ1 : Mem) (y : Int32), RX H 64 (upd (σ 43) (40 + t) y) τ1 → RX H 64 (σ 43) (ms τ1 25 t (σ 43 (40 + t))) := fun τ1 y R => by
    have := R.p25 (t := t) (v := σ 43 (40 + t)) (by omega)
    rwa [upd_upd, upd_id] at this
  intro k
  induction k with
  | zero =>
    intro n m x σ1 τ1 y hk hn hm hf R hP
    obtain ⟨n, rfl⟩ : ∃ q, n = q + 1 := ⟨n - 1, by omega⟩
    obtain ⟨m, rfl⟩ : ∃ q, m = q + 1 := ⟨m - 1, by omega⟩
    refine ⟨-nI 1, σ1, _, ?_, ?_, hf, fin τ1 y R, RQs.m25⟩
    · rw [f_X10_leastChops_12]
      simp only [pu_lit]
      rw [if_pos (nI_lt (by omega) (by omega))]
    · rw [f_X11_leastChops_40]
      simp only [pu_lit]
      rw [if_pos (nI_lt (by omega) (by omega)), pu_gd (by omega) (by decide), nI_clamp (by omega), ltE]
  | succ k ih =>
    intro n m x σ1 τ1 y hk hn hm hf R hP
    obtain ⟨n, rfl⟩ : ∃ q, n = q + 1 := ⟨n - 1, by omega⟩
    obtain ⟨m, rfl⟩ : ∃ q, m = q + 1 := ⟨m - 1, by omega⟩
    obtain ⟨q, w, r, eq, fq, hq, ew, w1, w2, w3⟩ := with25 (v := nI x) hW hr ht hf R hP
    rw [f_X10_leastChops_12, f_X11_leastChops_40]
    simp only [pu_lit, if_true]
    rw [if_neg (nI_nlt (by omega) (by omega)), if_neg (nI_nlt (by omega) (by omega)), eq, sbind, pu_gd (k := t) (n := 7) (by omega) (by decide), nI_clamp (n := t) (by omega), ltE, ew, sbind, nI_add, nI_add, pu_gd (k := 24 + h) (by omega) (by decide), nI_clamp (n := 24 + h) (by omega), hq, w1, R_isOf, sbind, bt_hsL h8 hh]
    by_cases c : r (24 + h) = nI t
    · rw [if_pos c, if_pos c, if_pos rfl, if_neg (show ¬ nI 1 = nI 0 by decide)]
      obtain ⟨m, rfl⟩ : ∃ q, m = q + 1 := ⟨m - 1, by omega⟩
      refine ⟨nI x, q, _, rfl, ?_, fq, fin w.2 _ w2, w3.trans RQs.m25⟩
      rw [f_X11_leastChops_40]
      simp only [pu_lit]
      rw [pu_gd (k := t) (n := 7) (by omega) (by decide), nI_clamp (n := t) (by omega), ltE, if_neg (fun z => (nI_nm1 (by omega)).mp z)]
      split <;> rfl
    · rw [if_neg c, if_neg c, if_neg (show ¬ nI 0 = nI 1 by decide), if_pos rfl]
      obtain ⟨v, σ2, τ2, a1, a2, a3, a4, a5⟩ := ih n m (x + 1) q w.2 _ (by omega) (by omega) (by omega) fq w2 (hP.s w3)
      exact ⟨v, σ2, τ2, a1, a2, a3, a4, w3.trans a5⟩
theorem toWin_loop {σ : Mem} (hW : PW σ H T) (hr : RW (σ 43) H T) {t : Nat} {z : Int32} (ht : t < T) : ∀ (k n m x : Nat) (σ1 τ1 : Mem) (y a b : Int32), x + k = 21 → k < n → k < m → fr CS σ σ1 → RX H 64 (upd (σ 43) (40 + t) y) τ1 → PR σ τ1 H T → ∃ (v : Int32) (σ2 τ2 : Mem), f_X10_toWin_19 (nI t) z n σ1 a b (nI x) = some (.inr (v, σ2)) ∧ f_X11_toWin_44 (nI t) z (σ 43 (40 + t)) m τ1 b a (nI x) = some (v, τ2) ∧ fr CS σ σ2 ∧ RX H 64 (σ 43) τ2 ∧ RQs τ1 τ2 := by
  have h8 := hW.1
  have h7 := hW.2.1
  have fin : ∀ (τ1 : Mem) (y : Int32), RX H 64 (upd (σ 43) (40 + t) y) τ1 → RX H 64 (σ 43) (ms τ1 25 t (σ 43 (40 + t))) := fun τ1 y R => by
    have := R.p25 (t := t) (v := σ 43 (40 + t)) (by omega)
    rwa [upd_upd, upd_id] at this
  intro k
  induction k with
  | zero =>
    intro n m x σ1 τ1 y a b hk hn hm hf R hP
    obtain ⟨n, rfl⟩ : ∃ q, n = q + 1 := ⟨n - 1, by omega⟩
    obtain ⟨m, rfl⟩ : ∃ q, m = q + 1 := ⟨m - 1, by omega⟩
    rw [f_X10_toWin_19, f_X11_toWin_44]
    simp only [pu_lit]
    rw [if_pos (nI_lt (by omega) (by omega)), if_pos (nI_lt (by omega) (by omega)), pu_gd (by omega) (by decide), nI_clamp (by omega), ltE]
    by_cases c : z = nI 0
    · rw [if_pos c, if_pos c]
      exact ⟨a, σ1, _, rfl, rfl, hf, fin τ1 y R, RQs.m25⟩
    · rw [if_neg c, if_neg c]
      exact ⟨b, σ1, _, rfl, rfl, hf, fin τ1 y R, RQs.m25⟩
  | succ k ih =>
    intro n m x σ1 τ1 y a b hk hn hm hf R hP
    obtain ⟨n, rfl⟩ : ∃ q, n = q + 1 := ⟨n - 1, by omega⟩
    obtain ⟨m, rfl⟩ : ∃ q, m = q + 1 := ⟨m - 1, by omega⟩
    obtain ⟨q, w, r, eq, fq, hq, ew, w1, w2, w3⟩ := with25 (v := nI x) hW hr ht hf R hP
    obtain ⟨s, hs, es⟩ := hsL_set (r := r) (o := nI t) h8
    rw [f_X10_toWin_19, f_X11_toWin_44]
    simp only [pu_lit]
    rw [if_neg (nI_nlt (by omega) (by omega)), if_neg (nI_nlt (by omega) (by omega)), eq, sbind, pu_gd (k := t) (n := 7) (by omega) (by decide), nI_clamp (n := t) (by omega), ltE, ew, sbind, C_housesOf (pe_cs fq) hW, sbind, hq, w1, es, C_bits hs, sbind, R_bits hs, sbind, nI_add]
    by_cases c : pop (nI s) ≤ a
    · rw [if_pos c, if_neg (Int32.not_lt.mpr c)]
      obtain ⟨v, σ2, τ2, a1, a2, a3, a4, a5⟩ := ih n m (x + 1) q w.2 _ a b (by omega) (by omega) (by omega) fq w2 (hP.s w3)
      exact ⟨v, σ2, τ2, a1, a2, a3, a4, w3.trans a5⟩
    · rw [if_neg c, if_pos (Int32.not_le.mp c)]
      obtain ⟨v, σ2, τ2, a1, a2, a3, a4, a5⟩ := ih n m (x + 1) q w.2 _ _ _ (by omega) (by omega) (by omega) fq w2 (hP.s w3)
      exact ⟨v, σ2, τ2, a1, a2, a3, a4, w3.trans a5⟩
theorem S_leastChops : SIM_leastChops Rel := by
  intro σ τ p0 p1 ⟨H, T, R⟩
  have h8 := R.1.1
  have h7 := R.1.2.1
  refine sim_N ?_
  have R1 : RelH H T σ (ms τ 0 5 (nI 0)) := R.code
  unfold m_X10_leastChops m_X11_leastChops
  simp only [pu_lit]
  rcases ix_dec p0 T (by omega) with hb | ⟨t, ht, rfl⟩
  · exact po_throw ⟨H, T, R⟩ ⟨rfl, rfl⟩ (by rw [C_needTenant_f (c1_23 R) hb]; rfl) (by
      rw [ltE, R_isTenant_f R1.2.1.2.1 h7 hb]; rfl)
  rw [ltE, C_needTenant_t (c1_23 R) ht h7, R_isTenant_t R1.2.1.2.1 h7 ht, xb_inr, sbind, if_neg (show ¬ nI 1 = nI 0 by decide)]
  rcases ix_dec p1 H (by omega) with hb | ⟨h, hh, rfl⟩
  · exact po_throw ⟨H, T, R⟩ ⟨rfl, rfl⟩ (by rw [C_needHouse_f (c0_23 R) hb]; rfl) (by
      rw [R_isHouse_f R1.2.1.1 h8 hb]; rfl)
  rw [C_needHouse_t (c0_23 R) hh h8, R_isHouse_t R1.2.1.1 h8 hh, xb_inr, sbind, if_neg (show ¬ nI 1 = nI 0 by decide), pu_gd (k := t) (n := 7) (by omega) (by decide), nI_clamp (n := t) (by omega), ltE, R1.2.2.1.g25 (by omega) (by omega)]
  obtain ⟨v, σ2, τ2, a1, a2, a3, a4, a5⟩ := least_loop R.1 R.2.2.2.1 ht hh 21 KF KF 0 σ (ms τ 0 5 (nI 0)) (σ 43 (40 + t)) (by omega) (by decide) (by decide) fr.rfl (by rw [upd_id]; exact R1.2.2.1) R1.2.1
  rw [a1, a2]
  obtain ⟨d5, dR⟩ := R.done a3 a4 a5
  exact po_val dR d5 rfl rfl
theorem S_toWin : SIM_toWin Rel := by
  intro σ τ p0 p1 ⟨H, T, R⟩
  have h8 := R.1.1
  have h7 := R.1.2.1
  refine sim_N ?_
  have R1 : RelH H T σ (ms τ 0 5 (nI 0)) := R.code
  unfold m_X10_toWin m_X11_toWin
  simp only [pu_lit]
  rcases ix_dec p0 T (by omega) with hb | ⟨t, ht, rfl⟩
  · exact po_throw ⟨H, T, R⟩ ⟨rfl, rfl⟩ (by rw [C_needTenant_f (c1_23 R) hb]; rfl) (by
      rw [ltE, R_isTenant_f R1.2.1.2.1 h7 hb]; rfl)
  rw [ltE, C_needTenant_t (c1_23 R) ht h7, R_isTenant_t R1.2.1.2.1 h7 ht, xb_inr, sbind, if_neg (show ¬ nI 1 = nI 0 by decide)]
  rcases ix_dec1 p1 1 (by omega) with hb | ⟨w, hw, rfl⟩
  · exact po_throw ⟨H, T, R⟩ ⟨rfl, rfl⟩ (by rw [C_needWhat_f hb]; rfl) (by
      by_cases c : p1 < nI 0
      · rw [if_pos c]; rfl
      · rw [if_neg c, if_neg (Int32.not_le.mpr (hb.resolve_left c))]; rfl)
  rw [C_needWhat_t hw (by decide), xb_inr, if_neg (nn0 (by omega)), if_pos (nI_le hw (by omega)), pu_gd (k := t) (n := 7) (by omega) (by decide), nI_clamp (n := t) (by omega), ltE, R1.2.2.1.g25 (by omega) (by omega)]
  obtain ⟨v, σ2, τ2, a1, a2, a3, a4, a5⟩ := toWin_loop (z := nI w) R.1 R.2.2.2.1 ht 21 KF KF 0 σ (ms τ 0 5 (nI 0)) (σ 43 (40 + t)) (-nI 1) (nI 0) (by omega) (by decide) (by decide) fr.rfl (by rw [upd_id]; exact R1.2.2.1) R1.2.1
  rw [a1, a2]
  obtain ⟨d5, dR⟩ := R.done a3 a4 a5
  exact po_val dR d5 rfl rfl
theorem ruin_loop {σ : Mem} (hW : PW σ H T) (hr : RW (σ 43) H T) {t : Nat} (ht : t < T) : ∀ (k n m x : Nat) (σ1 τ1 : Mem) (a b : Int32), x + k = T → k < n → k < m → fr CS σ σ1 → RX H 64 (σ 43) τ1 → PR σ τ1 H T → ∃ (v : Int32) (σ2 τ2 : Mem), f_X10_ruin_31 (nI t) n σ1 a b (nI x) = some (.inr (v, σ2)) ∧ f_X11_ruin_33 (nI t) m τ1 b a (nI x) = some (v, τ2) ∧ fr CS σ σ2 ∧ RX H 64 (σ 43) τ2 ∧ RQs τ1 τ2 := by
  have h8 := hW.1
  have h7 := hW.2.1
  intro k
  induction k with
  | zero =>
    intro n m x σ1 τ1 a b hk hn hm hf R hP
    obtain ⟨n, rfl⟩ : ∃ q, n = q + 1 := ⟨n - 1, by omega⟩
    obtain ⟨m, rfl⟩ : ∃ q, m = q + 1 := ⟨m - 1, by omega⟩
    have e1 : σ1 23 1 = nI T := by rw [hf 23 (by decide)]; exact hW.2.2.2.1
    rw [f_X10_ruin_31, f_X11_ruin_33, e1]
    simp only [pu_lit]
    rw [if_pos (nI_le (by omega) (by omega)), pu_gd (by decide) (by decide), nI_clamp (by decide), hP.2.1, if_pos (nI_le (by omega) (by omega))]
    exact ⟨b, σ1, τ1, rfl, rfl, hf, R, RQs.rfl⟩
  | succ k ih =>
    intro n m x σ1 τ1 a b hk hn hm hf R hP
    obtain ⟨n, rfl⟩ : ∃ q, n = q + 1 := ⟨n - 1, by omega⟩
    obtain ⟨m, rfl⟩ : ∃ q, m = q + 1 := ⟨m - 1, by omega⟩
    have e1 : σ1 23 1 = nI T := by rw [hf 23 (by decide)]; exact hW.2.2.2.1
    rw [f_X10_ruin_31, f_X11_ruin_33, e1]
    simp only [pu_lit]
    rw [if_neg (nI_ge (by omega) (by omega)), pu_gd (k := 1) (by decide) (by decide), nI_clamp (n := 1) (by decide), hP.2.1, if_neg (nI_ge (by omega) (by omega)), nI_add]
    by_cases c : nI x = nI t
    · rw [if_pos c, if_pos c]
      exact ih n m (x + 1) σ1 τ1 a b (by omega) (by omega) (by omega) hf R hP
    · rw [if_neg c, if_neg c]
      obtain ⟨q, eq, fq, r, hr0, hq⟩ := C_with (P := σ) (σ := σ1) hW (pe_cs hf) (p := 47 + x) (by omega) (v := nI 0)
      have e43 : σ1 43 = σ 43 := hf 43 (by decide)
      rw [e43] at hr0
      have hx : E64 (upd r (47 + x) (nI 0)) (upd (σ 43) (47 + x) (nI 0)) := fun j hj => by
        unfold upd
        by_cases c : j = 47 + x
        · rw [if_pos c, if_pos c]
        · rw [if_neg c, if_neg c]; exact hr0 j hj
      have R1 : RX H 64 (upd (σ 43) (47 + x) (nI 0)) (ms τ1 26 x (nI 0)) := R.p26 (by omega)
      have W1 : RW (upd (σ 43) (47 + x) (nI 0)) H T := hr.up h8 (by omega)
      obtain ⟨w, ew, w1, w2, w3⟩ := R_next (o := nI t) hW (hP.s RQs.m26) (R1.e64 hx) (W1.e64 h8 hx)
      obtain ⟨s, hs, es⟩ := hsL_set (r := qS σ H T (upd r (47 + x) (nI 0))) (o := nI t) h8
      have fq2 := hf.trans fq
      have R3 : RX H 64 (σ 43) (ms w.2 26 x (σ 43 (47 + x))) := by
        have := (w2.e64 (fun j hj => (hx j hj).symm)).p26 (t := x) (v := σ 43 (47 + x)) (by omega)
        rwa [upd_upd, upd_id] at this
      have S3 : RQs τ1 (ms w.2 26 x (σ 43 (47 + x))) := (RQs.m26.trans w3).trans RQs.m26
      rw [nI_add, eq, sbind, C_housesOf (pe_cs fq2) hW, sbind, hq, es, C_bits hs, sbind, pu_gd (k := x) (n := 7) (by omega) (by decide), nI_clamp (n := x) (by omega), ltE, pu_gd (k := x) (n := 7) (by omega) (by decide), ltE, ew, sbind, w1, es, R_bits hs, sbind, pu_gd (k := x) (n := 7) (by omega) (by decide), ltE, R.g26 (by omega) (by omega)]
      by_cases d : a ≤ pop (nI s)
      · rw [if_pos d, if_neg (Int32.not_lt.mpr d)]
        obtain ⟨v, σ2, τ2, a1, a2, a3, a4, a5⟩ := ih n m (x + 1) q _ a b (by omega) (by omega) (by omega) fq2 R3 (hP.s S3)
        exact ⟨v, σ2, τ2, a1, a2, a3, a4, S3.trans a5⟩
      · rw [if_neg d, if_pos (Int32.not_le.mp d)]
        obtain ⟨v, σ2, τ2, a1, a2, a3, a4, a5⟩ := ih n m (x + 1) q _ _ _ (by omega) (by omega) (by omega) fq2 R3 (hP.s S3)
        exact ⟨v, σ2, τ2, a1, a2, a3, a4, S3.trans a5⟩
theorem S_ruin : SIM_ruin Rel := by
  intro σ τ p0 ⟨H, T, R⟩
  have h8 := R.1.1
  have h7 := R.1.2.1
  refine sim_N ?_
  have R1 : RelH H T σ (ms τ 0 5 (nI 0)) := R.code
  unfold m_X10_ruin m_X11_ruin
  simp only [pu_lit]
  rcases ix_dec p0 T (by omega) with hb | ⟨t, ht, rfl⟩
  · exact po_throw ⟨H, T, R⟩ ⟨rfl, rfl⟩ (by rw [C_needTenant_f (c1_23 R) hb]; rfl) (by
      rw [ltE, R_isTenant_f R1.2.1.2.1 h7 hb]; rfl)
  rw [ltE, C_needTenant_t (c1_23 R) ht h7, R_isTenant_t R1.2.1.2.1 h7 ht, xb_inr, sbind, if_neg (show ¬ nI 1 = nI 0 by decide)]
  obtain ⟨q5, e5, hf5, r, hr, h5⟩ := C_ahead (P := σ) R.1 PE.self (n := 1) (by omega)
  obtain ⟨w, ew, w1, w2, w3⟩ := R_next (o := nI t) R.1 R1.2.1 (R1.2.2.1.e64 hr) (R.2.2.2.1.e64 h8 hr)
  obtain ⟨s, hs, es⟩ := hsL_set (r := qS σ H T r) (o := nI t) h8
  have h5' : q5 56 = qS σ H T r := h5
  rw [e5, sbind, C_housesOf (pe_cs hf5) R.1, sbind, h5', es, C_bits hs, sbind, ew, sbind, w1, es, R_bits hs, sbind]
  obtain ⟨v, σ2, τ2, a1, a2, a3, a4, a5⟩ := ruin_loop R.1 R.2.2.2.1 ht T KF KF 0 q5 w.2 (pop (nI s)) (-nI 1) (by omega) (by unfold KF; omega) (by unfold KF; omega) hf5 (w2.e64 (fun j hj => (hr j hj).symm)) (R1.2.1.s w3)
  rw [a1, a2]
  obtain ⟨d5, dR⟩ := R.done a3 a4 (w3.trans a5)
  exact po_val dR d5 rfl rfl
end NEXT

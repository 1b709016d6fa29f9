/-! the reference's quarter -/
def FQ (τ τ1 : Mem) : Prop := fr [0, 20, 21, 22, 23, 24, 25, 26, 27, 29, 30, 31, 32, 33] τ τ1 ∧ ∀ s, s ≠ 41 → s ≠ 42 → s ≠ 43 → τ1 0 s = τ 0 s
theorem FQ.rfl {τ : Mem} : FQ τ τ := ⟨fr.rfl, fun _ _ _ _ => Eq.refl _⟩
theorem FQ.trans {τ τ1 τ2 : Mem} (h : FQ τ τ1) (h2 : FQ τ1 τ2) : FQ τ τ2 := ⟨h.1.trans h2.1, fun s a b c => (h2.2 s a b c).trans (h.2 s a b c)⟩
theorem FQ.put {τ τ1 : Mem} {k j : Nat} {x : Int32} (h : FQ τ τ1) (hk : k ∈ [20, 21, 22, 23, 24, 25, 26, 27, 29, 30, 31, 32, 33]) : FQ τ (ms τ1 k j x) := by
  refine ⟨h.1.ms (List.mem_cons_of_mem _ hk), fun s a b c => ?_⟩
  have : (0 : Nat) ≠ k := fun q => by subst q; exact absurd hk (by decide)
  rw [ms_ne this]
  exact h.2 s a b c
theorem FQ.put0 {τ τ1 : Mem} {j : Nat} {x : Int32} (h : FQ τ τ1) (hj : j = 41 ∨ j = 42 ∨ j = 43) : FQ τ (ms τ1 0 j x) := by
  refine ⟨h.1.ms (by simp), fun s a b c => ?_⟩
  rw [ms_same, pk_un (by omega)]
  exact h.2 s a b c
theorem FQ.of {τ τ1 : Mem} {L : List Nat} (h : fr L τ τ1) (hL : ∀ k, k ∈ L → k ∈ [20, 21, 22, 23, 24, 25, 26, 27, 29, 30, 31, 32, 33]) : FQ τ τ1 := by
  refine ⟨h.mono (fun k hk => List.mem_cons_of_mem _ (hL k hk)), fun s a b c => ?_⟩
  rw [h 0 (fun q => absurd (hL 0 q) (by decide))]
theorem PR.q {P τ τ1 : Mem} {H T : Nat} (h : PR P τ H T) (hf : FQ τ τ1) : PR P τ1 H T := h.fr hf.1 (by decide)
theorem bu2 {x b : Int32} (h : b = nI 0 ∨ b = nI 1) : x + nI 2 * b = if b = nI 1 then x + nI 2 else x := by
  rcases h with rfl | rfl
  · rw [if_neg (by decide), pk_mul]
    exact Int32.add_zero x
  · rw [if_pos rfl, pk_mul]
theorem add_0 (x : Int32) : x + nI 0 = x := Int32.add_zero x
section RQ
variable {P τ : Mem} {H T e : Nat} {r r0 : Rw}
theorem R_likes (R : RX H e r τ) (he : e = 61 ∨ e = 64) (hP : PR P τ H T) (hW : PW P H T) {h t : Nat} (hh : h < H) (ht : t < T) (h31 : τ 31 h = r0 (24 + h)) (h32 : τ 32 h = r (32 + h)) (h33 : τ 33 t = hsL r0 (nI t) H 0 (nI 0)) (hn : ∀ j, H ≤ j → j < 8 → ¬ r0 (24 + j) = nI t) : OK (m_X11_likes τ (nI h) (nI t)) (fun q => q.1 = lkS P r (fun h => r0 (24 + h)) (fun t => mbN r0 t 8) h t ∧ fr [29, 30] τ q.2) := by
  have h8 := hW.1
  have h7 := hW.2.1
  have a21 := R.g21 (h := h) (by omega) (by omega)
  have a25 := R.g25 (t := t) (by omega) (by omega)
  have a26 := R.g26 (t := t) (by omega) (by omega)
  have a27 := R.g27 (t := t) (by omega) (by omega)
  have a11 := hP.2.2.2.2.2.2.2.2.1 t ht
  have hbu := hW.2.2.2.2.2.1 t ht
  obtain ⟨N, hN, e28, hdp⟩ := hW.2.2.2.2.2.2.1
  have e53 : τ 5 3 = nI N := by rw [hP.2.2.2.1]; exact e28
  have key : ∀ hd, hd = hdS r (fun h => r0 (24 + h)) h t → OK (f_X11_likes_20 τ (nI h) (nI t) hd) (fun q => q.1 = lkS P r (fun h => r0 (24 + h)) (fun t => mbN r0 t 8) h t ∧ fr [29, 30] τ q.2) := by
    intro hd ehd
    unfold f_X11_likes_20
    simp only [pu_lit]
    rw [pu_gd (k := t) (by omega) (by decide), pu_gd (k := t) (by omega) (by decide), pu_gd (k := h) (by omega) (by decide), nI_clamp (n := t) (by omega), nI_clamp (n := h) (by omega), a21, a25, a26, ok_lt, pu_gd (k := 3) (by decide) (by decide), nI_clamp (n := 3) (by decide), e53]
    rcases Nat.eq_zero_or_pos N with q0 | q0
    · subst q0
      rw [if_pos nI_le_self, pu_gd (by omega) (by decide), ok_some, a11]
      refine ⟨?_, fr.rfl⟩
      show imax (-nI 999) (imin (nI 999) _) + nI 2 * P 27 t = _
      rw [bu2 hbu]
      unfold lkS lvS
      rw [e28, if_pos nI_le_self, ← ehd]
    · rw [if_neg (nle' q0 (by omega)), ok_bind]
      refine ok_mono (R_ask R he hP hh h8) (fun q3 h3 => ?_)
      obtain ⟨hf3, hv3⟩ := h3
      have b25 : q3 25 t = r (40 + t) := by rw [hf3 25 (by decide)]; exact a25
      have b26 : q3 26 t = r (47 + t) := by rw [hf3 26 (by decide)]; exact a26
      have b27 : q3 27 t = r (54 + t) := by rw [hf3 27 (by decide)]; exact a27
      have b33 : q3 33 t = hsL r0 (nI t) H 0 (nI 0) := by rw [hf3 33 (by decide)]; exact h33
      have b53 : q3 5 3 = nI N := by rw [hf3 5 (by decide)]; exact e53
      have b11 : q3 11 t = P 27 t := by rw [hf3 11 (by decide)]; exact a11
      have eb : nI 1 <<< (nI h &&& nI 31) = b1 h := Eq.refl _
      simp (disch := omega) only [pu_lit, nI_add, pu_gd, nI_clamp, nI_leI, nI_ltI, nI_eq, ok_some, ok_bind, ok_ite, ok_lt, pu_gz1, pu_gz0, pu_gnz, m_X11_next, ms_ne, b25, b26, b27, b33, b53, R_many h8 hn, eb, R_beside (h := h) (by omega) h8 hn]
      have hf12 : fr [29] τ (ms (ms (ms (ms (ms (ms q3 29 4 (r (40 + t))) 29 5 (r (47 + t))) 29 6 (r (54 + t))) 29 7 hd) 29 8 (mbN r0 t 8)) 29 9 (bsS (fun h => r0 (24 + h)) h t)) := (((((hf3.ms (by simp)).ms (by simp)).ms (by simp)).ms (by simp)).ms (by simp)).ms (by simp)
      refine ok_mono (R_value (r1 := 16) (n1 := 1400) (mv := 10) (f := P 29) (g := τ 16) (vals := vT P r (fun h => r0 (24 + h)) (fun t => mbN r0 t 8) h t) (by decide) (by omega) (by decide) hN (hdp q0) (fun j hj => hP.2.2.2.2.2.2.2.2.2.1 j (by rw [e28, nI_clamp (by omega)]; exact hj)) (fun j _ => by rw [hf12 16 (by decide)]) (fun j hj => ?_)) (fun q13 h13 => ?_)
      · simp only [ms_same]
        rcases Nat.lt_or_ge j 4 with h4 | h4
        · rw [pk_un (by omega), pk_un (by omega), pk_un (by omega), pk_un (by omega), pk_un (by omega), pk_un (by omega), hv3 j h4]
          unfold vT
          rw [if_pos h4]
        · rcases (show j = 4 ∨ j = 5 ∨ j = 6 ∨ j = 7 ∨ j = 8 ∨ j = 9 by omega) with rfl | rfl | rfl | rfl | rfl | rfl <;> simp [vT, upd, ehd]
      · have hf13 : fr [29, 30] τ q13.2 := (hf12.mono (by simp)).trans (h13.2.mono (by simp))
        have b11q : q13.2 11 t = P 27 t := by rw [hf13 11 (by decide)]; exact a11
        rw [b11q, h13.1]
        refine ⟨?_, hf13⟩
        rw [bu2 hbu]
        unfold lkS lvS
        rw [e28, if_neg (nle' q0 (by omega)), nI_clamp (by omega)]
  unfold m_X11_likes
  simp only [pu_lit]
  rw [pu_gd (by omega) (by decide), nI_clamp (by omega), h31, pu_gd (by omega) (by decide), h32]
  by_cases c : r0 (24 + h) = nI t
  · rw [if_pos c]; exact key _ (by unfold hdS; rw [if_pos c])
  · rw [if_neg c]; exact key _ (by unfold hdS; rw [if_neg c])
end RQ

/-! calls that look ahead: both sides go on from the row, and the reference puts it back -/
theorem ltE {α β : Type} (x : α) (f : α → β) : lt x f = f x := rfl
def E64 (a b : Rw) : Prop := ∀ j, j < 64 → a j = b j
theorem RX.e64 {H e : Nat} {r r1 : Rw} {τ : Mem} (R : RX H e r τ) (h : E64 r1 r) : RX H e r1 τ := fun j hj he ho => (R j hj he ho).trans (h j hj).symm
theorem RW.e64 {H T : Nat} {r r1 : Rw} (R : RW r H T) (h8 : H ≤ 8) (h : E64 r1 r) : RW r1 H T := R.eq h8 (fun j hj => h j (by omega)) (h 62 (by omega))
def RQs (τ τ1 : Mem) : Prop := fr RS τ τ1 ∧ ∀ s, s ∈ [5, 21, 30, 44, 45, 64, 65, 66] → τ1 0 s = τ 0 s
theorem RQs.rfl {τ : Mem} : RQs τ τ := ⟨fr.rfl, fun _ _ => Eq.refl _⟩
theorem RQs.trans {τ τ1 τ2 : Mem} (h : RQs τ τ1) (h2 : RQs τ1 τ2) : RQs τ τ2 := ⟨h.1.trans h2.1, fun s hs => (h2.2 s hs).trans (h.2 s hs)⟩
theorem RQs.ofQ {τ τ1 : Mem} (h : FQ τ τ1) : RQs τ τ1 := ⟨h.1.mono (by decide), fun s hs => h.2 s (fun q => by subst q; exact absurd hs (by decide)) (fun q => by subst q; exact absurd hs (by decide)) (fun q => by subst q; exact absurd hs (by decide))⟩
theorem RQs.ofU {τ τ1 : Mem} (h : FU τ τ1) : RQs τ τ1 := ⟨h.1.mono (by decide), fun s hs => h.2 s (fun q => by subst q; exact absurd hs (by decide)) (fun q => by subst q; exact absurd hs (by decide)) (fun q => by subst q; exact absurd hs (by decide))⟩
theorem RQs.of {τ τ1 : Mem} {L : List Nat} (h : fr L τ τ1) (hL : ∀ k, k ∈ L → k ∈ RS ∧ k ≠ 0) : RQs τ τ1 := ⟨h.mono (fun k hk => (hL k hk).1), fun s _ => by rw [h 0 (fun q => (hL 0 q).2 (Eq.refl _))]⟩
theorem PR.s {P τ τ1 : Mem} {H T : Nat} (h : PR P τ H T) (hf : RQs τ τ1) : PR P τ1 H T := h.fr hf.1 (by decide)
/-- behind a query -/
theorem RelH.done {H T : Nat} {σ τ σ1 τ1 : Mem} (h : RelH H T σ τ) (hc : fr CS σ σ1) (hR : RX H 64 (σ 43) τ1) (hr : RQs (ms τ 0 5 (nI 0)) τ1) : τ1 0 5 = nI 0 ∧ Rel σ1 τ1 := by
  have R1 := h.code (v := nI 0)
  refine ⟨by rw [hr.2 5 (by decide), ms_same, pk_us], H, T, R1.keep hc hR hr.1 (fun s hs => hr.2 s (List.mem_cons_of_mem _ hs))⟩
section AHEAD
variable {P σ τ : Mem} {H T : Nat} {r : Rw}
theorem C_copy : OK (m_X10_copyToTrial σ) (fun q => fr [56] σ q ∧ E64 (q 56) (σ 43)) := by
  unfold m_X10_copyToTrial
  simp only [pu_lit]
  rw [pu_gcp (by decide) (by decide) (by decide) (by decide), ok_lt, ok_some]
  refine ⟨fr.rfl.mcp (by simp), fun j hj => ?_⟩
  rw [mcp_same, nI_clamp (by decide), nI_clamp (by decide), pk_cpy_in (by omega) (by omega)]
  simp
theorem C_ahead (hW : PW P H T) (hP : PE P σ) {n : Nat} (hn : n < 4000) : OK (m_X10_tryAhead σ (nI n)) (fun q => fr CS σ q ∧ ∃ r, E64 r (σ 43) ∧ q 56 = qN P H T n r) := by
  unfold m_X10_tryAhead
  rw [ok_bind]
  refine ok_mono C_copy (fun q hq => ?_)
  rw [ok_bind]
  refine ok_mono (C_quarters (r1 := 56) (Or.inr rfl) hW (hP.fr hq.1 (by simp)) hn) (fun q2 h2 => ?_)
  rw [ok_some]
  exact ⟨(hq.1.mono (by decide)).trans (h2.2.mono (by decide)), q 56, hq.2, h2.1⟩
theorem C_with (hW : PW P H T) (hP : PE P σ) {p : Nat} (hp : p < 64) {v : Int32} : OK (m_X10_tryQuarterWith σ (nI p) v) (fun q => fr CS σ q ∧ ∃ r, E64 r (σ 43) ∧ q 56 = qS P H T (upd r p v)) := by
  unfold m_X10_tryQuarterWith
  rw [ok_bind]
  refine ok_mono C_copy (fun q hq => ?_)
  rw [pu_gd hp (by decide), nI_clamp (by omega), ok_lt, ok_bind]
  have hf : fr [56] σ (ms q 56 p v) := hq.1.ms (by simp)
  refine ok_mono (C_quarter (r1 := 56) (Or.inr rfl) hW (hP.fr hf (by simp))) (fun q2 h2 => ?_)
  rw [ok_some]
  refine ⟨(hf.mono (by decide)).trans (h2.2.1.mono (by decide)), q 56, hq.2, ?_⟩
  rw [h2.1, ms_same]
/-- rowThen keeps the row -/
theorem R_packT (R : RX H 64 r τ) : OK (m_X11_pack 34 64 τ (nI 0)) (fun q => fr [34] τ q ∧ (∀ j, j < 64 → owc H j → q 34 (0 + po j) = r j)) :=
  ok_mono (R_pack (k := 34) (b := 0) (by decide) (by decide) (by decide) R) (fun q hq => ⟨hq.1, hq.2.1⟩)
theorem R_unpackT (h : ∀ j, j < 64 → owc H j → τ 34 (0 + po j) = r j) : OK (m_X11_unpack 34 64 τ (nI 0)) (fun q => RX H 64 r q ∧ RQs τ q) :=
  ok_mono (R_unpack (k := 34) (b := 0) (by decide) (by decide) (by decide) h) (fun q hq => ⟨hq.1, RQs.ofU hq.2⟩)
theorem FQ.c34 {τ τ1 : Mem} (h : FQ τ τ1) : τ1 34 = τ 34 := h.1 34 (by decide)
end AHEAD
theorem S_then : SIM_then Rel := by
  intro σ τ p0 p1 ⟨H, T, R⟩
  have h8 := R.1.1
  have h7 := R.1.2.1
  refine sim_NI ?_
  have R1 : RelH H T σ (ms τ 0 5 (nI 0)) := R.code
  unfold m_X10_then m_X11_then
  simp only [pu_lit]
  rcases ix_dec p0 H (by omega) with hb | ⟨h, hh, rfl⟩
  · exact po_throw ⟨H, T, R⟩ (Or.inl ⟨rfl, rfl⟩) (by rw [C_needHouse_f (c0_23 R) hb]; rfl) (by
      show (m_X11_isHouse (ms τ 0 5 (nI 0)) p0).bind _ = _
      rw [R_isHouse_f R1.2.1.1 h8 hb]; rfl)
  show PO cNI _ ((m_X11_isHouse (ms τ 0 5 (nI 0)) (nI h)).bind _)
  rw [C_needHouse_t (c0_23 R) hh h8, R_isHouse_t R1.2.1.1 h8 hh, xb_inr, sbind, if_neg (show ¬ nI 1 = nI 0 by decide)]
  rcases ix_dec1 p1 40 (by omega) with hb | ⟨n, hn, rfl⟩
  · exact po_throw ⟨H, T, R⟩ (Or.inr ⟨rfl, rfl⟩) (by rw [C_needAhead_f hb]; rfl) (by
      rw [R_isIn_f (a := 0) (b := 40) (A := 0) (B := 40) (by decide) (by decide) hb]; rfl)
  rw [C_needAhead_t hn, xb_inr, R_isIn_t (a := 0) (b := 40) (A := 0) (B := 40) (by decide) (by decide) ⟨by omega, hn⟩ (by decide), sbind, if_neg (show ¬ nI 1 = nI 0 by decide)]
  obtain ⟨q5, e5, hf5, r, hr, h5⟩ := C_ahead (P := σ) R.1 PE.self (n := n) (by omega)
  obtain ⟨q6, e6, hf6, h6⟩ := R_packT R1.2.2.1
  have S6 : RQs (ms τ 0 5 (nI 0)) q6 := RQs.of hf6 (by decide)
  obtain ⟨q7, e7, R7, F7⟩ := R_goOn (P := σ) (r := r) R.1 (M := n) (by omega) (R1.2.1.s S6) ((R1.2.2.1.keep hf6 (by decide)).e64 hr) (R.2.2.2.1.e64 h8 hr)
  obtain ⟨q9, e9, R9, S9⟩ := R_unpackT (τ := q7) (r := σ 43) (fun j hj ho => by rw [F7.c34]; exact h6 j hj ho)
  rw [e5, sbind, e6, sbind, e7, sbind, pu_gd (by omega) (by decide), nI_clamp (by omega), nI_add, pu_gd (by omega) (by decide), nI_clamp (by omega)]
  obtain ⟨d5, dR⟩ := R.done hf5 R9 ((S6.trans (RQs.ofQ F7)).trans S9)
  refine po_val dR d5 rfl ?_
  rw [ltE, e9, sbind, R7.g23 (by omega) (by omega) (by omega), h5]
theorem S_purse : SIM_purse Rel := by
  intro σ τ p0 p1 p2 ⟨H, T, R⟩
  have h8 := R.1.1
  have h7 := R.1.2.1
  refine sim_NI ?_
  have R1 : RelH H T σ (ms τ 0 5 (nI 0)) := R.code
  unfold m_X10_purse m_X11_purse
  simp only [pu_lit]
  rcases ix_dec p0 T (by omega) with hb | ⟨t, ht, rfl⟩
  · exact po_throw ⟨H, T, R⟩ (Or.inl ⟨rfl, rfl⟩) (by rw [C_needTenant_f (c1_23 R) hb]; rfl) (by
      show (m_X11_isTenant (ms τ 0 5 (nI 0)) p0).bind _ = _
      rw [R_isTenant_f R1.2.1.2.1 h7 hb]; rfl)
  show PO cNI _ ((m_X11_isTenant (ms τ 0 5 (nI 0)) (nI t)).bind _)
  rw [C_needTenant_t (c1_23 R) ht h7, R_isTenant_t R1.2.1.2.1 h7 ht, xb_inr, sbind, if_neg (show ¬ nI 1 = nI 0 by decide)]
  rcases ix_dec1 p2 1 (by omega) with hb | ⟨w, hw, rfl⟩
  · exact po_throw ⟨H, T, R⟩ (Or.inl ⟨rfl, rfl⟩) (by rw [C_needWhat_f hb]; rfl) (by
      rcases hb with hb | hb
      · rw [if_pos hb]; rfl
      · by_cases c : p2 < nI 0
        · rw [if_pos c]; rfl
        · rw [if_neg c, if_neg (Int32.not_le.mpr hb)]; rfl)
  rw [C_needWhat_t hw (by decide), xb_inr, if_neg (nn0 (by omega)), if_pos (nI_le hw (by omega))]
  rcases ix_dec1 p1 40 (by omega) with hb | ⟨n, hn, rfl⟩
  · exact po_throw ⟨H, T, R⟩ (Or.inr ⟨rfl, rfl⟩) (by rw [C_needAhead_f hb]; rfl) (by
      rw [R_isIn_f (a := 0) (b := 40) (A := 0) (B := 40) (by decide) (by decide) hb]; rfl)
  rw [C_needAhead_t hn, xb_inr, R_isIn_t (a := 0) (b := 40) (A := 0) (B := 40) (by decide) (by decide) ⟨by omega, hn⟩ (by decide), sbind, if_neg (show ¬ nI 1 = nI 0 by decide)]
  obtain ⟨q5, e5, hf5, r, hr, h5⟩ := C_ahead (P := σ) R.1 PE.self (n := n) (by omega)
  obtain ⟨q6, e6, hf6, h6⟩ := R_packT R1.2.2.1
  have S6 : RQs (ms τ 0 5 (nI 0)) q6 := RQs.of hf6 (by decide)
  obtain ⟨q7, e7, R7, F7⟩ := R_goOn (P := σ) (r := r) R.1 (M := n) (by omega) (R1.2.1.s S6) ((R1.2.2.1.keep hf6 (by decide)).e64 hr) (R.2.2.2.1.e64 h8 hr)
  obtain ⟨q9, e9, R9, S9⟩ := R_unpackT (τ := q7) (r := σ 43) (fun j hj ho => by rw [F7.c34]; exact h6 j hj ho)
  obtain ⟨d5, dR⟩ := R.done hf5 R9 ((S6.trans (RQs.ofQ F7)).trans S9)
  rw [e5, sbind, e6, sbind, e7, sbind]
  by_cases c : nI w = nI 0
  · rw [if_pos c, if_pos c, pu_gd (by omega) (by decide), nI_clamp (by omega), nI_add, pu_gd (by omega) (by decide), nI_clamp (by omega)]
    refine po_val dR d5 rfl ?_
    rw [ltE, e9, sbind, R7.g27 (by omega) (by omega), h5]
  · rw [if_neg c, if_neg c, pu_gd (by omega) (by decide), nI_clamp (by omega), nI_add, pu_gd (by omega) (by decide), nI_clamp (by omega)]
    refine po_val dR d5 rfl ?_
    rw [ltE, e9, sbind, R7.g25 (by omega) (by omega), h5]
theorem S_empty : SIM_empty Rel := by
  intro σ τ p0 ⟨H, T, R⟩
  have h8 := R.1.1
  have h7 := R.1.2.1
  refine sim_I ?_
  have R1 : RelH H T σ (ms τ 0 5 (nI 0)) := R.code
  unfold m_X10_empty m_X11_empty
  simp only [pu_lit]
  rcases ix_dec1 p0 40 (by omega) with hb | ⟨n, hn, rfl⟩
  · exact po_throw ⟨H, T, R⟩ ⟨rfl, rfl⟩ (by rw [C_needAhead_f hb]; rfl) (by
      show (m_X11_isIn (ms τ 0 5 (nI 0)) (Int32.toInt64 p0) _ _).bind _ = _
      rw [R_isIn_f (a := 0) (b := 40) (A := 0) (B := 40) (by decide) (by decide) hb]; rfl)
  show PO cI _ ((m_X11_isIn (ms τ 0 5 (nI 0)) (Int32.toInt64 (nI n)) _ _).bind _)
  rw [C_needAhead_t hn, xb_inr, R_isIn_t (a := 0) (b := 40) (A := 0) (B := 40) (by decide) (by decide) ⟨by omega, hn⟩ (by decide), sbind, if_neg (show ¬ nI 1 = nI 0 by decide)]
  obtain ⟨q5, e5, hf5, r, hr, h5⟩ := C_ahead (P := σ) R.1 PE.self (n := n) (by omega)
  obtain ⟨q6, e6, hf6, h6⟩ := R_packT R1.2.2.1
  have S6 : RQs (ms τ 0 5 (nI 0)) q6 := RQs.of hf6 (by decide)
  obtain ⟨q7, e7, R7, F7⟩ := R_goOn (P := σ) (r := r) R.1 (M := n) (by omega) (R1.2.1.s S6) ((R1.2.2.1.keep hf6 (by decide)).e64 hr) (R.2.2.2.1.e64 h8 hr)
  have S7 := S6.trans (RQs.ofQ F7)
  obtain ⟨q9, e9, R9, S9⟩ := R_unpackT (τ := q7) (r := σ 43) (fun j hj ho => by rw [F7.c34]; exact h6 j hj ho)
  obtain ⟨d5, dR⟩ := R.done hf5 R9 (S7.trans S9)
  rw [e5, sbind, e6, sbind, e7, sbind, C_housesOf (PE.self.fr hf5 (by decide)) R.1, sbind, R_nobodys (R1.2.1.s S7).1 h8 (fun h hh => R7.g23 (by omega) (by omega) (by omega)), sbind, e9, sbind, h5]
  exact po_val dR d5 rfl rfl
theorem most_loop {P σ1 : Mem} {H T : Nat} (hW : PW P H T) (hP : PE P σ1) {r : Rw} (hr : σ1 56 = r) {τ1 : Mem} (h0 : τ1 5 0 = nI H) (h1 : τ1 5 1 = nI T) (ho : ∀ h, h < H → τ1 23 h = r (24 + h)) {Q : Mem → Mem → Prop} : ∀ (k n m t : Nat) (b x : Int32), t + k = T → k < n → k < m → ∃ v : Int32, f_X10_most_17 n σ1 b x (nI t) = some (.inr (v, σ1)) ∧ f_X11_most_44 m τ1 b x (nI t) = (m_X11_unpack 34 64 τ1 (nI 0)).bind (fun q => some (v, q)) := by
  have h8 := hW.1
  have h7 := hW.2.1
  have e1 : σ1 23 1 = nI T := by rw [hP 23 (by decide) (by decide) (by decide) (by decide)]; exact hW.2.2.2.1
  intro k
  induction k with
  | zero =>
    intro n m t b x hk hn hm
    obtain ⟨n, rfl⟩ : ∃ q, n = q + 1 := ⟨n - 1, by omega⟩
    obtain ⟨m, rfl⟩ : ∃ q, m = q + 1 := ⟨m - 1, by omega⟩
    refine ⟨b, ?_, ?_⟩
    · rw [f_X10_most_17, e1, if_pos (nI_le (by omega) (by omega))]
    · rw [f_X11_most_44]
      simp only [pu_lit]
      rw [pu_gd (by decide) (by decide), nI_clamp (by decide), h1, if_pos (nI_le (by omega) (by omega))]
  | succ k ih =>
    intro n m t b x hk hn hm
    obtain ⟨n, rfl⟩ : ∃ q, n = q + 1 := ⟨n - 1, by omega⟩
    obtain ⟨m, rfl⟩ : ∃ q, m = q + 1 := ⟨m - 1, by omega⟩
    obtain ⟨s, hs, es⟩ := hsL_set (r := r) (o := nI t) h8
    rw [f_X10_most_17, e1, if_neg (nI_ge (by omega) (by omega)), C_housesOf hP hW, hr, es, sbind, C_bits hs, sbind, f_X11_most_44]
    simp only [pu_lit]
    rw [pu_gd (by decide) (by decide), nI_clamp (by decide), h1, if_neg (nI_ge (by omega) (by omega)), R_housesOf h0 h8 ho, sbind, es, R_bits hs, sbind, nI_add]
    by_cases c : pop (nI s) ≤ x
    · rw [if_pos c, if_neg (Int32.not_lt.mpr c)]; exact ih n m (t + 1) b x (by omega) (by omega) (by omega)
    · rw [if_neg c, if_pos (Int32.not_le.mp c)]; exact ih n m (t + 1) _ _ (by omega) (by omega) (by omega)
theorem S_most : SIM_most Rel := by
  intro σ τ p0 ⟨H, T, R⟩
  have h8 := R.1.1
  have h7 := R.1.2.1
  refine sim_I ?_
  have R1 : RelH H T σ (ms τ 0 5 (nI 0)) := R.code
  unfold m_X10_most m_X11_most
  simp only [pu_lit]
  rcases ix_dec1 p0 40 (by omega) with hb | ⟨n, hn, rfl⟩
  · exact po_throw ⟨H, T, R⟩ ⟨rfl, rfl⟩ (by rw [C_needAhead_f hb]; rfl) (by
      show (m_X11_isIn (ms τ 0 5 (nI 0)) (Int32.toInt64 p0) _ _).bind _ = _
      rw [R_isIn_f (a := 0) (b := 40) (A := 0) (B := 40) (by decide) (by decide) hb]; rfl)
  show PO cI _ ((m_X11_isIn (ms τ 0 5 (nI 0)) (Int32.toInt64 (nI n)) _ _).bind _)
  rw [C_needAhead_t hn, xb_inr, R_isIn_t (a := 0) (b := 40) (A := 0) (B := 40) (by decide) (by decide) ⟨by omega, hn⟩ (by decide), sbind, if_neg (show ¬ nI 1 = nI 0 by decide)]
  obtain ⟨q5, e5, hf5, r, hr, h5⟩ := C_ahead (P := σ) R.1 PE.self (n := n) (by omega)
  obtain ⟨q6, e6, hf6, h6⟩ := R_packT R1.2.2.1
  have S6 : RQs (ms τ 0 5 (nI 0)) q6 := RQs.of hf6 (by decide)
  obtain ⟨q7, e7, R7, F7⟩ := R_goOn (P := σ) (r := r) R.1 (M := n) (by omega) (R1.2.1.s S6) ((R1.2.2.1.keep hf6 (by decide)).e64 hr) (R.2.2.2.1.e64 h8 hr)
  have S7 := S6.trans (RQs.ofQ F7)
  obtain ⟨q9, e9, R9, S9⟩ := R_unpackT (τ := q7) (r := σ 43) (fun j hj ho => by rw [F7.c34]; exact h6 j hj ho)
  obtain ⟨d5, dR⟩ := R.done hf5 R9 (S7.trans S9)
  obtain ⟨v, v1, v2⟩ := most_loop (P := σ) (σ1 := q5) (τ1 := q7) (Q := fun _ _ => True) R.1 (PE.self.fr hf5 (by decide)) h5 (R1.2.1.s S7).1 (R1.2.1.s S7).2.1 (fun h hh => R7.g23 (by omega) (by omega) (by omega)) T KF KF 0 (-nI 1) (nI 0) (by omega) (by unfold KF; omega) (by unfold KF; omega)
  rw [e5, sbind, e6, sbind, e7, sbind, v1, v2, e9, sbind]
  exact po_val dR d5 rfl rfl

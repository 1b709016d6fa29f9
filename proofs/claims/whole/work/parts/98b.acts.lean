/-! acts: rows kept, and taken back -/
theorem ix_rng (x : Int32) (a b : Nat) (hb : b < 2147483647) (ha : a ≤ b) : (x < nI a ∨ nI b < x) ∨ ∃ j, a ≤ j ∧ j ≤ b ∧ x = nI j := by
  rcases ix_dec1 x b hb with (h | h) | ⟨j, hj, rfl⟩
  · exact Or.inl (Or.inl (Int32.lt_of_lt_of_le h (nI_le (by omega) (by omega))))
  · exact Or.inl (Or.inr h)
  · rcases Nat.lt_or_ge j a with q | q
    · exact Or.inl (Or.inl (nI_lt q (by omega)))
    · exact Or.inr ⟨j, q, hj, rfl⟩
section ACTS
variable {H T : Nat} {σ τ : Mem}
theorem RelH.act {σ1 τ1 : Mem} (h : RelH H T σ τ) (hc : fr (43 :: 44 :: 45 :: CS) σ σ1) (hR : RX H 64 (σ1 43) τ1) (hw : RW (σ1 43) H T) (hA : AR H T σ1 τ1 44 44 28) (hr : fr (28 :: RS) τ τ1) (hs : ∀ s, s ∈ [21, 30, 45, 64, 65, 66] → τ1 0 s = τ 0 s) : RelH H T σ1 τ1 := by
  obtain ⟨a1, a2, a3, a4, a5, a6, a7, a8, a9, a10⟩ := h
  have hPE : PE σ σ1 := fun k h1 h2 h3 h4 => hc k (by unfold CS; simp; omega)
  refine ⟨a1.of hPE, (a2.of hPE).fr hr (by decide), hR, hw, hA, ?_, ?_, ?_, ?_, ?_⟩
  · exact a6.of (hc 46 (by decide)) (hc 47 (by decide)) (hs 45 (by decide)) (hr 37 (by decide)) (hr 38 (by decide)) (hr 39 (by decide)) (hr 41 (by decide))
  · rw [hc 48 (by decide), hr 18 (by decide)]; exact a7
  · exact a8.of (fun k h1 h2 => hc k (by unfold CS; simp; omega)) (by rw [hc 0 (by decide)]) (fun k h1 h2 => hr k (by unfold RS; simp; omega)) ⟨hs 64 (by decide), hs 65 (by decide), hs 66 (by decide)⟩
  · rw [hc 0 (by decide), hs 30 (by decide)]; exact a9
  · exact a10.of (by rw [hc 3 (by decide)]) (hc 4 (by decide)) (hs 21 (by decide)) (hr 19 (by decide))
theorem C_refuse {i : Nat} (hi : i < 3) : m_X1_refuse 42 σ (nI i) = some (-nI 1, ms σ 48 i (σ 48 i + nI 1)) := by
  unfold m_X1_refuse
  simp only [pu_lit, Nat.reduceAdd]
  rw [pu_gd hi (by decide), pu_gd hi (by decide), nI_clamp (by omega), ltE]
theorem R_refuse {i : Nat} (hi : i < 3) : m_X11_refuse τ (nI i) = some (-nI 1, ms τ 18 i (τ 18 i + nI 1)) := by
  unfold m_X11_refuse
  simp only [pu_lit, Nat.reduceAdd]
  rw [pu_gd hi (by decide), pu_gd hi (by decide), nI_clamp (by omega), ltE]
theorem RelH.refuse {i : Nat} (h : RelH H T σ τ) : RelH H T (ms σ 48 i (σ 48 i + nI 1)) (ms τ 18 i (τ 18 i + nI 1)) := by
  obtain ⟨a1, a2, a3, a4, a5, a6, a7, a8, a9, a10⟩ := h
  have hPE : PE σ (ms σ 48 i (σ 48 i + nI 1)) := fun k h1 h2 h3 h4 => ms_ne (by omega)
  have hf : fr [18] τ (ms τ 18 i (τ 18 i + nI 1)) := fr.rfl.ms (by decide)
  refine ⟨a1.of hPE, (a2.of hPE).fr hf (by decide), ?_, ?_, ?_, ?_, ?_, ?_, ?_, ?_⟩
  · rw [ms_ne (by decide)]; exact a3.keep hf (by decide)
  · rw [ms_ne (by decide)]; exact a4
  · exact a5.of (ms_ne (by decide)) (ms_ne (by decide)) (by rw [ms_ne (by decide)]) (ms_ne (by decide))
  · exact a6.of (ms_ne (by decide)) (ms_ne (by decide)) (by rw [ms_ne (by decide)]) (ms_ne (by decide)) (ms_ne (by decide)) (ms_ne (by decide)) (ms_ne (by decide))
  · intro j hj
    rw [ms_same, ms_same]
    by_cases c : j = i
    · subst c; rw [pk_us, pk_us, a7 j hj]
    · rw [pk_un c, pk_un c]; exact a7 j hj
  · exact a8.of (fun k h1 h2 => ms_ne (by omega)) (by rw [ms_ne (by decide)]) (fun k h1 h2 => ms_ne (by omega)) ⟨by rw [ms_ne (by decide)], by rw [ms_ne (by decide)], by rw [ms_ne (by decide)]⟩
  · rw [ms_ne (by decide), ms_ne (by decide)]; exact a9
  · exact a10.of (by rw [ms_ne (by decide)]) (ms_ne (by decide)) (by rw [ms_ne (by decide)]) (ms_ne (by decide))
theorem cpy_at {f g : Nat → Int32} {b i : Nat} : va_cpy f g 0 b 64 i = if b ≤ i ∧ i < b + 64 then f (i - b) else g i := by
  by_cases c : b ≤ i ∧ i < b + 64
  · rw [if_pos c, pk_cpy_in c.1 c.2, Nat.zero_add]
  · rw [if_neg c, pk_cpy_out (by omega)]
theorem C_addA {A F : Nat} (hA : A ≤ 40) (hF : F < 40) (eF : σ 44 1 = nI F) (eA : σ 44 2 = nI A) : OK (m_X1_beginAct 42 σ) (fun u => fr [44, 45] σ u ∧ u 44 1 = nI (if A = 40 then (F + 1) % 40 else F) ∧ u 44 2 = nI (if A = 40 then 40 else A + 1) ∧ ∀ i, u 45 i = if (F + A) % 40 * 64 ≤ i ∧ i < (F + A) % 40 * 64 + 64 then σ 43 (i - (F + A) % 40 * 64) else σ 45 i) := by
  have hm : (F + A) % 40 < 40 := Nat.mod_lt _ (by decide)
  unfold m_X1_beginAct m_X0_add
  simp only [pu_lit, Nat.reduceAdd]
  rw [eF, eA, nI_add, pk_rem (by omega) (by decide) (by decide), pk_mul, pu_gnz (by decide) (by decide), pu_gcp (by omega) (by omega) (by decide) (by decide), ltE, mcp_ne (q := 44) (by decide), eA, eF, ok_bind]
  by_cases c : A = 40
  · subst c
    rw [if_pos nI_le_self, pu_gnz (by decide) (by decide), ltE, nI_add, pk_rem (by omega) (by decide) (by decide), ok_some, ok_some]
    refine ⟨(fr.rfl.mcp (by simp)).ms (by simp), ?_, ?_, fun i => ?_⟩
    · rw [ms_same, pk_us, if_pos rfl]
    · rw [ms_same, pk_un (by decide), mcp_ne (by decide), eA, if_pos rfl]
    · rw [ms_ne (by decide), mcp_same, nI_clamp (by decide), nI_clamp (by omega), nI_clamp (by decide), cpy_at]
  · rw [if_neg (nI_ge (by omega) (by omega)), ltE, nI_add, ok_some, ok_some]
    refine ⟨(fr.rfl.mcp (by simp)).ms (by simp), ?_, ?_, fun i => ?_⟩
    · rw [ms_same, pk_un (by decide), mcp_ne (by decide), eF, if_neg c]
    · rw [ms_same, pk_us, if_neg c]
    · rw [ms_ne (by decide), mcp_same, nI_clamp (by decide), nI_clamp (by omega), nI_clamp (by decide), cpy_at]
theorem R_keep_loop {Q : Mem → Prop} (hR : ∀ τ1, fr [28] τ τ1 → (∀ i, i < 2496 → τ1 28 i = τ 28 (i + 64)) → OK (lt (ms τ1 0 44 (τ1 0 44 - nI 1)) fun σ2 => (m_X11_pack 28 2560 σ2 (nI 64 * σ2 0 44)).bind fun q3 => lt (ms q3 0 44 (q3 0 44 + nI 1)) fun σ4 => some σ4) Q) : ∀ (k n x : Nat) (τ1 : Mem), x + k = 2560 → 64 ≤ x → k < n → fr [28] τ τ1 → (∀ i, i + 64 < x → τ1 28 i = τ 28 (i + 64)) → (∀ i, x ≤ i + 64 → τ1 28 i = τ 28 i) → OK (f_X11_keep_12 n τ1 (nI x)) Q := by
  intro k
  induction k with
  | zero =>
    intro n x τ1 hk hx hn hf h1 h2
    obtain ⟨n, rfl⟩ : ∃ q, n = q + 1 := ⟨n - 1, by omega⟩
    rw [f_X11_keep_12]
    simp only [pu_lit]
    rw [if_pos (nI_le (by omega) (by omega))]
    exact hR τ1 hf (fun i hi => h1 i (by omega))
  | succ k ih =>
    intro n x τ1 hk hx hn hf h1 h2
    obtain ⟨n, rfl⟩ : ∃ q, n = q + 1 := ⟨n - 1, by omega⟩
    rw [f_X11_keep_12]
    simp only [pu_lit]
    rw [if_neg (nI_ge (by omega) (by omega)), pu_gd (by omega) (by decide), pk_sub hx, pu_gd (by omega) (by decide), nI_clamp (n := x) (by omega), nI_clamp (n := x - 64) (by omega), ok_lt, nI_add]
    refine ih n (x + 1) _ (by omega) (by omega) (by omega) (hf.ms (by simp)) (fun i hi => ?_) (fun i hi => ?_)
    · rw [ms_same]
      by_cases c : i = x - 64
      · subst c
        rw [pk_us, h2 x (by omega)]
        congr 1
        omega
      · rw [pk_un c]; exact h1 i (by omega)
    · rw [ms_same, pk_un (by omega)]; exact h2 i (by omega)
theorem R_keepA {A : Nat} {r : Rw} (hA : A ≤ 40) (eA : τ 0 44 = nI A) (R : RX H 64 r τ) : OK (m_X11_keep τ) (fun t => fr [0, 28] τ t ∧ (∀ s, s ≠ 44 → t 0 s = τ 0 s) ∧ t 0 44 = nI (if A = 40 then 40 else A + 1) ∧ (∀ j, j < 64 → owc H j → t 28 (64 * (if A = 40 then 39 else A) + po j) = r j) ∧ ∀ a, a < (if A = 40 then 39 else A) → ∀ j, j < 64 → t 28 (64 * a + po j) = τ 28 (64 * (if A = 40 then a + 1 else a) + po j)) := by
  unfold m_X11_keep
  simp only [pu_lit]
  rw [eA]
  by_cases c : A = 40
  · subst c
    simp only [if_true]
    refine R_keep_loop (τ := τ) (fun τ1 hf h1 => ?_) 2496 KF 64 τ (by decide) (by decide) (by decide) fr.rfl (fun i hi => absurd hi (by omega)) (fun i _ => rfl)
    have e44 : τ1 0 44 = nI 40 := by rw [hf 0 (by decide)]; exact eA
    rw [ok_lt, e44, pk_sub (by decide), ms_same, pk_us, pk_mul, ok_bind]
    have R1 : RX H 64 r (ms τ1 0 44 (nI (40 - 1))) := (R.keep hf (by decide)).slot (by decide)
    refine ok_mono (R_pack (k := 28) (b := 64 * (40 - 1)) (by decide) (by decide) (by decide) R1) (fun q hq => ?_)
    obtain ⟨q1, q2, q3⟩ := hq
    rw [ok_lt, ok_some]
    have e0 : ∀ s, q 0 s = ms τ1 0 44 (nI (40 - 1)) 0 s := fun s => by rw [q1 0 (by decide)]
    refine ⟨?_, fun s hs => ?_, ?_, fun j hj ho => ?_, fun a ha j hj => ?_⟩
    · refine fr.ms ?_ (by simp)
      exact ((hf.mono (by simp)).ms (by simp)).trans (q1.mono (by simp))
    · rw [ms_same, pk_un hs, e0, ms_same, pk_un hs, hf 0 (by decide)]
    · rw [ms_same, pk_us, e0, ms_same, pk_us, nI_add]
    · rw [ms_ne (by decide)]; exact q2 j hj ho
    · have hp := po_lt hj
      rw [ms_ne (by decide), q3 _ (by omega), ms_ne (by decide), h1 _ (by omega)]
      congr 1
      omega
  · simp only [c, if_false]
    rw [if_neg (by rw [nI_eq (by omega) (by omega)]; exact c), pk_mul, ok_bind]
    refine ok_mono (R_pack (k := 28) (b := 64 * A) (by decide) (by omega) (by decide) R) (fun q hq => ?_)
    obtain ⟨q1, q2, q3⟩ := hq
    rw [ok_lt, ok_some]
    refine ⟨?_, fun s hs => ?_, ?_, fun j hj ho => ?_, fun a ha j hj => ?_⟩
    · exact (q1.mono (by simp)).ms (by simp)
    · rw [ms_same, pk_un hs, q1 0 (by decide)]
    · rw [ms_same, pk_us, q1 0 (by decide), eA, nI_add]
    · rw [ms_ne (by decide)]; exact q2 j hj ho
    · have hp := po_lt hj
      rw [ms_ne (by decide), q3 _ (by omega)]
theorem keep_sim (R : RelH H T σ τ) : ∃ u t, m_X1_beginAct 42 σ = some u ∧ m_X11_keep τ = some t ∧ fr [44, 45] σ u ∧ fr [0, 28] τ t ∧ (∀ s, s ≠ 44 → t 0 s = τ 0 s) ∧ AR H T u t 44 44 28 := by
  have h8 := R.1.1
  obtain ⟨A, F, hA, hF, eF, eA, eA', hrow⟩ := R.2.2.2.2.1
  have gW := R.2.2.2.1
  obtain ⟨u, eu, fu, u1, u2, u3⟩ := C_addA hA hF eF eA
  obtain ⟨t, et, ft, t1, t2, t3, t4⟩ := R_keepA hA eA' R.2.2.1
  refine ⟨u, t, eu, et, fu, ft, t1, ?_⟩
  have hm : (F + A) % 40 < 40 := Nat.mod_lt _ (by decide)
  have newrow : ∀ j, j < 64 → u 45 ((F + A) % 40 * 64 + j) = σ 43 j := fun j hj => by
    rw [u3, if_pos ⟨by omega, by omega⟩]
    congr 1
    omega
  have oldrow : ∀ q, q ≠ (F + A) % 40 → ∀ j, j < 64 → u 45 (q * 64 + j) = σ 45 (q * 64 + j) := fun q hne j hj => by
    rw [u3, if_neg (by omega)]
  have wnew : ∀ q, q = (F + A) % 40 → RW (fun j => u 45 (q * 64 + j)) H T := fun q e => by
    subst e
    exact gW.e64 h8 (fun j hj => newrow j hj)
  have wold : ∀ q, q ≠ (F + A) % 40 → RW (fun j => σ 45 (q * 64 + j)) H T → RW (fun j => u 45 (q * 64 + j)) H T := fun q hne hw => hw.e64 h8 (fun j hj => oldrow q hne j hj)
  by_cases c : A = 40
  · subst c
    simp only [if_true] at u1 u2 t2 t3 t4
    refine ⟨40, (F + 1) % 40, by decide, Nat.mod_lt _ (by decide), u1, u2, t2, fun a ha => ?_⟩
    by_cases d : a = 39
    · subst d
      have e : ((F + 1) % 40 + 39) % 40 = (F + 40) % 40 := by omega
      rw [e]
      exact ⟨fun j hj ho => (t3 j hj ho).trans (newrow j hj).symm, wnew _ rfl⟩
    · have e : ((F + 1) % 40 + a) % 40 = (F + (a + 1)) % 40 := by omega
      have hne : (F + (a + 1)) % 40 ≠ (F + 40) % 40 := by omega
      rw [e]
      obtain ⟨h1, h2⟩ := hrow (a + 1) (by omega)
      exact ⟨fun j hj ho => by rw [t4 a (by omega) j hj, oldrow _ hne j hj]; exact h1 j hj ho, wold _ hne h2⟩
  · simp only [c, if_false] at u1 u2 t2 t3 t4
    refine ⟨A + 1, F, by omega, hF, u1, u2, t2, fun a ha => ?_⟩
    by_cases d : a = A
    · subst d
      exact ⟨fun j hj ho => (t3 j hj ho).trans (newrow j hj).symm, wnew _ rfl⟩
    · have hne : (F + a) % 40 ≠ (F + A) % 40 := by omega
      obtain ⟨h1, h2⟩ := hrow a (by omega)
      exact ⟨fun j hj ho => by rw [t4 a (by omega) j hj, oldrow _ hne j hj]; exact h1 j hj ho, wold _ hne h2⟩
theorem RW.up {r : Rw} {j : Nat} {v : Int32} (hr : RW r H T) (h8 : H ≤ 8) (hj : (8 ≤ j ∧ j < 16) ∨ (40 ≤ j ∧ j ≠ 62)) : RW (upd r j v) H T := by
  obtain ⟨w1, w2, ⟨s, hs, w3⟩, w4, w5⟩ := hr
  refine ⟨fun h hh => ?_, fun h a b => ?_, ⟨s, hs, ?_⟩, fun h hh hb => ?_, fun h hh => ?_⟩
  · rw [pk_un (by omega)]; exact w1 h hh
  · rw [pk_un (by omega)]; exact w2 h a b
  · rw [pk_un (by omega)]; exact w3
  · rw [pk_un (by omega)] at hb; rw [pk_un (by omega)]; exact w4 h hh hb
  · rw [pk_un (by omega)]; exact w5 h hh
/-- the row behind keep -/
theorem RX.kept {r : Rw} {t : Mem} (R : RX H 64 r τ) (ft : fr [0, 28] τ t) (h0 : ∀ s, s ≠ 44 → t 0 s = τ 0 s) : RX H 64 r t :=
  R.keep0 (L := [28]) ft (by decide) ⟨h0 41 (by decide), h0 42 (by decide), h0 43 (by decide)⟩
theorem keep_rel (R : RelH H T σ τ) : ∃ u t, m_X1_beginAct 42 σ = some u ∧ m_X11_keep τ = some t ∧ u 43 = σ 43 ∧ RelH H T u t ∧ t 0 5 = τ 0 5 ∧ fr [44, 45] σ u := by
  obtain ⟨u, t, eu, et, fu, ft, t1, hA⟩ := keep_sim R
  have e43 : u 43 = σ 43 := fu 43 (by decide)
  refine ⟨u, t, eu, et, e43, ?_, t1 5 (by decide), fu⟩
  refine R.act (fu.mono (by decide)) ?_ ?_ hA (ft.mono (by decide)) (fun s hs => t1 s (fun z => by subst z; exact absurd hs (by decide)))
  · rw [e43]; exact R.2.2.1.kept ft t1
  · rw [e43]; exact R.2.2.2.1
/-- one place of the row -/
theorem RelH.row {j : Nat} {v : Int32} (R : RelH H T σ τ) (hj : (8 ≤ j ∧ j < 16) ∨ (40 ≤ j ∧ j < 62)) : RelH H T (ms σ 43 j v) (ms τ (pc j) (pi j) v) := by
  have h28 : pc j ≠ 28 := fun q => by have := pc_cells j (by omega); rw [q] at this; exact absurd this (by decide)
  have h0 : ∀ s, s ≠ 41 → s ≠ 42 → s ≠ 43 → ms τ (pc j) (pi j) v 0 s = τ 0 s := fun s a b c => by
    by_cases q : pc j = 0
    · rw [q, ms_same, pk_un (by rcases pc_0 j (by omega) q with z | z | z <;> omega)]
    · rw [ms_ne (Ne.symm q)]
  refine R.act ?_ ?_ ?_ ?_ ?_ ?_
  · exact fr.rfl.ms (by simp)
  · rw [ms_same]; exact R.2.2.1.up (by omega)
  · rw [ms_same]; exact R.2.2.2.1.up R.1.1 (by omega)
  · exact R.2.2.2.2.1.of (ms_ne (by decide)) (ms_ne (by decide)) (h0 44 (by decide) (by decide) (by decide)) (ms_ne (Ne.symm h28))
  · have hm : pc j ∈ 28 :: RS := by
      have := pc_cells j (by omega)
      exact List.mem_cons_of_mem _ ((show ∀ x, x ∈ [0, 20, 21, 22, 23, 24, 25, 26, 27] → x ∈ RS by decide) _ this)
    exact fr.rfl.ms hm
  · intro s hs
    exact h0 s (fun z => by subst z; exact absurd hs (by decide)) (fun z => by subst z; exact absurd hs (by decide)) (fun z => by subst z; exact absurd hs (by decide))
theorem RelH.r21 {h : Nat} {v : Int32} (R : RelH H T σ τ) (hh : h < 8) : RelH H T (ms σ 43 (8 + h) v) (ms τ 21 h v) := by
  have := R.row (j := 8 + h) (v := v) (by omega)
  rwa [(pc_eq.1 h hh).2.2.1, (pc_eq.1 h hh).2.2.2.1] at this
theorem RelH.r25 {t : Nat} {v : Int32} (R : RelH H T σ τ) (ht : t < 7) : RelH H T (ms σ 43 (40 + t) v) (ms τ 25 t v) := by
  have := R.row (j := 40 + t) (v := v) (by omega)
  rwa [(pc_eq.2 t ht).1, (pc_eq.2 t ht).2.1] at this
theorem RelH.r26 {t : Nat} {v : Int32} (R : RelH H T σ τ) (ht : t < 7) : RelH H T (ms σ 43 (47 + t) v) (ms τ 26 t v) := by
  have := R.row (j := 47 + t) (v := v) (by omega)
  rwa [(pc_eq.2 t ht).2.2.1, (pc_eq.2 t ht).2.2.2.1] at this
theorem RelH.r27 {t : Nat} {v : Int32} (R : RelH H T σ τ) (ht : t < 7) : RelH H T (ms σ 43 (54 + t) v) (ms τ 27 t v) := by
  have := R.row (j := 54 + t) (v := v) (by omega)
  rwa [(pc_eq.2 t ht).2.2.2.2.1, (pc_eq.2 t ht).2.2.2.2.2] at this
theorem RelH.rL {v : Int32} (R : RelH H T σ τ) : RelH H T (ms σ 43 61 v) (ms τ 0 43 v) := R.row (j := 61) (v := v) (by omega)
theorem S_quarters : SIM_quarters Rel := by
  intro σ τ p0 ⟨H, T, R⟩
  have h8 := R.1.1
  have h7 := R.1.2.1
  have R1 : RelH H T σ (ms τ 0 5 (nI 0)) := R.code
  have ref : ∃ (v : Int32) (σ1 τ1 : Mem), ((m_X1_refuse 42 σ (nI 1)).bind fun q2 => some (q2.1, q2.2)) = some (v, σ1) ∧ ((m_X11_refuse (ms τ 0 5 (nI 0)) (nI 1)).bind fun q4 => some (q4.1, q4.2)) = some (v, τ1) ∧ Rel σ1 τ1 := by
    refine ⟨_, _, _, by rw [C_refuse (by decide)]; rfl, by rw [R_refuse (by decide)]; rfl, H, T, R1.refuse⟩
  unfold m_X10_quarters m_X11_quarters
  simp only [pu_lit, ltE]
  rcases ix_rng p0 1 20 (by decide) (by decide) with hb | ⟨n, hn1, hn2, rfl⟩
  · rw [R_isIn_f (a := 1) (b := 20) (A := 1) (B := 20) (by decide) (by decide) hb, sbind, if_pos rfl]
    by_cases c : p0 < nI 1
    · rw [if_pos c]; exact ref
    · rw [if_neg c, if_pos (hb.resolve_left c)]; exact ref
  · rw [R_isIn_t (a := 1) (b := 20) (A := 1) (B := 20) (by decide) (by decide) ⟨hn1, hn2⟩ (by decide), sbind, if_neg (show ¬ nI 1 = nI 0 by decide), if_neg (nI_nlt hn1 (by omega)), if_neg (nI_nlt hn2 (by omega)), pu_gd (by decide) (by decide), nI_clamp (by decide), R1.2.2.1.gQ (by omega)]
    by_cases c : σ 43 63 + nI n ≤ nI 999
    · rw [if_pos c, if_pos c]
      obtain ⟨u, t, eu, et, fu, ft, t1, hA⟩ := keep_sim R1
      have e43 : u 43 = σ 43 := fu 43 (by decide)
      obtain ⟨q, eq, q1, q2⟩ := C_quarters (P := σ) (r1 := 43) (Or.inl rfl) R.1 (PE.self.fr fu (by decide)) (M := n) (by omega)
      obtain ⟨w, ew, w1, w2⟩ := R_goOn (P := σ) (r := σ 43) R.1 (M := n) (by omega) (R1.2.1.fr ft (by decide)) (R1.2.2.1.kept ft t1) R.2.2.2.1
      rw [e43] at q1
      rw [eu, sbind, eq, sbind, pu_gd (by decide) (by decide), et, sbind, ew, sbind]
      refine ⟨_, _, w, rfl, ?_, H, T, ?_⟩
      · rw [w1.gQ (by omega), q1]
      · refine R1.act ((fu.mono (by decide)).trans (q2.mono (by decide))) (by rw [q1]; exact w1) (by rw [q1]; exact qN_W R.1 n _ R.2.2.2.1) ?_ ((ft.mono (by decide)).trans (w2.1.mono (by decide))) (fun s hs => ?_)
        · exact hA.of (q2 44 (by decide)) (q2 45 (by decide)) (w2.2 44 (by decide) (by decide) (by decide)) (w2.1 28 (by decide))
        · have z1 : s ≠ 41 := fun z => by subst z; exact absurd hs (by decide)
          have z2 : s ≠ 42 := fun z => by subst z; exact absurd hs (by decide)
          have z3 : s ≠ 43 := fun z => by subst z; exact absurd hs (by decide)
          have z4 : s ≠ 44 := fun z => by subst z; exact absurd hs (by decide)
          rw [w2.2 s z1 z2 z3, t1 s z4]
    · rw [if_neg c, if_neg c]; exact ref
theorem S_undo : SIM_undo Rel := by
  intro σ τ ⟨H, T, R⟩
  have h8 := R.1.1
  have R1 : RelH H T σ (ms τ 0 5 (nI 0)) := R.code
  obtain ⟨A, F, hA, hF, eF, eA, eA', hrow⟩ := R1.2.2.2.2.1
  unfold m_X10_undo m_X0_takeBack m_X11_undo
  simp only [pu_lit, ltE, Nat.reduceAdd]
  rw [eA, eA']
  rcases Nat.eq_zero_or_pos A with c | c
  · subst c
    rw [if_pos rfl, if_pos rfl]
    exact ⟨_, _, _, rfl, rfl, H, T, R1⟩
  · rw [if_neg (nz' c (by omega)), if_neg (nz' c (by omega)), pk_sub (by omega), ms_same, ms_same, pk_us, pk_us, pk_un (by decide), eF, nI_add, pk_rem (by omega) (by decide) (by decide), pk_mul, pk_mul]
    have hm : (F + (A - 1)) % 40 < 40 := Nat.mod_lt _ (by decide)
    rw [pu_gnz (by decide) (by decide), pu_gcp (by omega) (by omega) (by decide) (by decide)]
    obtain ⟨h1, h2⟩ := hrow (A - 1) (by omega)
    have hr0 : ∀ j, j < 64 → owc H j → ms (ms τ 0 5 (nI 0)) 0 44 (nI (A - 1)) 28 (64 * (A - 1) + po j) = σ 45 ((F + (A - 1)) % 40 * 64 + j) := fun j hj ho => by
      rw [ms_ne (by decide)]; exact h1 j hj ho
    obtain ⟨q, eq, q1, q2⟩ := R_unpack (k := 28) (n1 := 2560) (b := 64 * (A - 1)) (r := fun j => σ 45 ((F + (A - 1)) % 40 * 64 + j)) (by decide) (by omega) (by decide) hr0
    rw [eq, sbind, sbind]
    have e43 : ∀ j, j < 64 → mcp (ms σ 44 2 (nI (A - 1))) 45 43 (nI ((F + (A - 1)) % 40 * 64)) (nI 0) (nI 64) 43 j = σ 45 ((F + (A - 1)) % 40 * 64 + j) := fun j hj => by
      rw [mcp_same, nI_clamp (by omega), nI_clamp (by decide), nI_clamp (by decide), pk_cpy_in (by omega) (by omega), ms_ne (by decide)]
      rfl
    have e44 : q 0 44 = nI (A - 1) := by rw [q2.2 44 (by decide) (by decide) (by decide), ms_same, pk_us]
    refine ⟨_, mcp (ms σ 44 2 (nI (A - 1))) 45 43 (nI ((F + (A - 1)) % 40 * 64)) (nI 0) (nI 64), q, rfl, ?_, H, T, ?_⟩
    · rw [mcp_ne (by decide), ms_same, pk_us, e44]
    · refine R1.act ?_ (q1.e64 e43) (h2.e64 h8 e43) ?_ ?_ (fun s hs => ?_)
      · exact fr.mcp (fr.rfl.ms (by simp)) (by simp)
      · refine ⟨A - 1, F, by omega, hF, ?_, ?_, e44, fun a ha => ?_⟩
        · rw [mcp_ne (by decide), ms_same, pk_un (by decide)]; exact eF
        · rw [mcp_ne (by decide), ms_same, pk_us]
        · rw [mcp_ne (by decide), ms_ne (by decide), q2.1 28 (by decide), ms_ne (by decide)]
          exact hrow a (by omega)
      · exact (fr.rfl.ms (by decide)).trans (q2.1.mono (by decide))
      · have z1 : s ≠ 41 := fun z => by subst z; exact absurd hs (by decide)
        have z2 : s ≠ 42 := fun z => by subst z; exact absurd hs (by decide)
        have z3 : s ≠ 43 := fun z => by subst z; exact absurd hs (by decide)
        have z4 : s ≠ 44 := fun z => by subst z; exact absurd hs (by decide)
        rw [q2.2 s z1 z2 z3, ms_same, pk_un z4]
end ACTS

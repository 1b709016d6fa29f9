/-! rules read on both sides: nots, ands, ors; a whole rule -/
def nts (n : Nat) : List Int32 := List.replicate n (-nI 23)
theorem nts_s (n : Nat) : nts (n + 1) = -nI 23 :: nts n := rfl
theorem nts_r (n : Nat) : nts (n + 1) = nts n ++ [-nI 23] := List.replicate_succ'
theorem nts_len (n : Nat) : (nts n).length = n := List.length_replicate
theorem nts_mem {n : Nat} {y : Int32} (h : y ∈ nts n) : y = -nI 23 := List.eq_of_mem_replicate h
theorem nts_top {n l : Nat} {w : List Int32} (h : topLt w l) (hl : 4 ≤ l) : topLt (nts n ++ w) l := by
  cases n with
  | zero => exact h
  | succ n =>
    intro a r e
    have e' : -nI 23 :: (nts n ++ w) = a :: r := e
    cases e'
    exact Nat.lt_of_lt_of_le (show bnd (-nI 23) < 4 by decide) hl
section EXPR3
variable {E : Nat} {b : Nat → Nat} {o1 z : Nat}
/-- the reference lays its nots -/
theorem NOTS {a : Nat} {kE : Mem → Int32 → Option Mem} (hz : z ≤ 1) {n d mn ic i : Nat} {c o w : List Int32} {σ τ : Mem} {k s e v : Nat} (hn : n ≤ 6) (hd : 1 ≤ d) (h : PS E b z a d 0 mn ic 0 c o (nts n ++ w) i σ τ k s e v) : ∃ τ1, f_X11_readNot_96 kE (nI n) KF τ (nI 0) = some τ1 ∧ RF z τ τ1 ∧ PS E b z a d 0 mn ic 0 c (o ++ nts n) w i σ τ1 k s e v := by
  have loop : ∀ (q m j : Nat) (τ2 : Mem), j + q = n → q < m → RF z τ τ2 → PS E b z a d 0 mn ic 0 c (o ++ nts j) (nts q ++ w) i σ τ2 k s e v → ∃ τ1, f_X11_readNot_96 kE (nI n) m τ2 (nI j) = some τ1 ∧ RF z τ τ1 ∧ PS E b z a d 0 mn ic 0 c (o ++ nts n) w i σ τ1 k s e v := by
    intro q
    induction q with
    | zero =>
      intro m j τ2 hj hm hf h2
      obtain ⟨m, rfl⟩ : ∃ p, m = p + 1 := ⟨m - 1, by omega⟩
      have ej : j = n := by omega
      subst ej
      exact ⟨τ2, by rw [f_X11_readNot_96, if_pos nI_le_self], hf, h2⟩
    | succ q ih =>
      intro m j τ2 hj hm hf h2
      obtain ⟨m, rfl⟩ : ∃ p, m = p + 1 := ⟨m - 1, by omega⟩
      have h2' : PS E b z a d 0 mn ic 0 c (o ++ nts j) (-nI 23 :: (nts q ++ w)) i σ τ2 k s e v := h2
      obtain ⟨τ3, l1, l2, l3⟩ := lay_op (xr := -nI 28) (d2 := d) h2' hz (by unfold cr; simp) (Or.inr (Or.inl ⟨rfl, hd, rfl⟩))
      have e3 : o ++ nts j ++ [-nI 23] = o ++ nts (j + 1) := by rw [nts_r, List.append_assoc]
      rw [e3] at l3
      rw [f_X11_readNot_96, if_neg (nI_ge (by omega) (by omega))]
      simp only [pu_lit]
      rw [l1, sbind, nI_add]
      exact ih m (j + 1) τ3 (by omega) (by omega) (hf.trans l2) l3
  have h' : PS E b z a d 0 mn ic 0 c (o ++ nts 0) (nts n ++ w) i σ τ k s e v := by
    rw [show o ++ nts 0 = o by unfold nts; simp]; exact h
  exact loop n KF 0 τ (by omega) (by unfold KF; omega) RF.rfl h'
theorem NOT_end {a : Nat} {kE : Mem → Int32 → Option Mem} (hz : z ≤ 1) {n d mn ic i m0 lim : Nat} {c o w : List Int32} {σ τ : Mem} {k s e v : Nat} (hn : n ≤ 6) (hd : 1 ≤ d) (h : PS E b z a d 0 mn ic 0 c o (nts n ++ w) i σ τ k s e v) (hm : m0 ≤ s) (hic : ic ≤ 1) (ho : ∀ y, y ∈ o → 3 ≤ bnd y) (hl : o.length ≤ 3) (hN : NCn ic (opc b k s e)) : OK (f_X11_readNot_96 kE (nI n) KF τ (nI 0)) (Out o1 z i σ τ (EN E b z a d 3 9 m0 w NCn)) := by
  obtain ⟨τ1, e1, e2, e3⟩ := NOTS (kE := kE) hz hn hd h
  rw [e1, ok_some]
  refine Or.inr ⟨i, σ, rfl, CF.rfl, e2, mn, ic, c, o ++ nts n, k, s, e, v, e3, hm, hic, fun y hy => ?_, by rw [List.length_append, nts_len]; omega, hN⟩
  rcases List.mem_append.mp hy with q | q
  · exact ho y q
  · rw [nts_mem q]; decide
theorem NOT_loop {a : Nat} {kE : Mem → Int32 → Option Mem} (hz : z ≤ 1) (ha : a < 6) (hK : KE E b o1 z (a + 1) kE) {m0 d : Nat} {w : List Int32} (hw : w.length ≤ 12 * a + 2) (hd : d ≤ 5 * a + 2) (htop : topLt w 3) : ∀ (q m n i : Nat) (c : List Int32) (σ τ : Mem) (k s e v : Nat), n + q = 6 → q + 1 < m → m0 ≤ s → PS E b z a d 1 1 0 n c [] (nts n ++ w) i σ τ k s e v → OK (f_X11_readNot_2 kE (nI a) m τ (nI n)) (Out o1 z i σ τ (EN E b z a (d + 1) 3 9 (m0 + 1) w NCn)) := by
  -- no not at hand
  have plain : ∀ (m n i : Nat) (c : List Int32) (σ τ : Mem) (k s e v : Nat), n ≤ 6 → m0 ≤ s → PS E b z a d 1 1 0 n c [] (nts n ++ w) i σ τ k s e v → WD b k s e 17 = false → OK ((m_X11_readSum kE τ (nI a)).bind fun q3 => (m_X11_isMarked q3 (nI 60)).bind fun q4 => if q4 = nI 0 then (m_X11_isMarked q3 (nI 61)).bind fun q6 => if q6 = nI 0 then f_X11_readNot_96 kE (nI n) KF q3 (nI 0) else f_X11_readNot_63 kE q3 (nI a) (nI n) else f_X11_readNot_63 kE q3 (nI a) (nI n)) (Out o1 z i σ τ (EN E b z a (d + 1) 3 9 (m0 + 1) w NCn)) := by
    intro m n i c σ τ k s e v hn hm0 h hwd
    refine Out.bind (SUM hz ha hK h (by decide) (Or.inr ⟨rfl, hwd⟩) (by rw [List.length_append, nts_len]; omega) (by omega) (nts_top (htop.mono (by omega)) (by omega))) (fun i3 σ3 τ3 hE3 => ?_) (fun f τ1 hf hb1 => by
      rw [R_mkd_bad hf hb1, sbind]
      simp only [if_true]
      rw [R_mkd_bad hf hb1, sbind]
      simp only [if_true]
      exact bad_nots0 hf hb1 (by omega))
    obtain ⟨mn3, ic3, c3, o3, k3, s3, e3, v3, p1, p2, p3, p4, p5, p6⟩ := hE3
    have p6' : ic3 = 0 := p6.1
    subst p6'
    have hb3 := p1.2.2.2.1.1
    have hlw : o3.length + (nts n ++ w).length < 128 := by rw [List.length_append, nts_len]; omega
    have go : ∀ (x xr : Int32), opc b k3 s3 e3 = x → (x = -nI 24 ∨ x = -nI 25) → cr xr x → OK ((m_X11_stepOn τ3).bind fun q3 => (m_X11_readSum kE q3 (nI a)).bind fun q4 => (m_X11_lay q4 xr).bind fun q5 => f_X11_readNot_96 kE (nI n) KF q5 (nI 0)) (Out o1 z i3 σ3 τ3 (EN E b z a (d + 1) 3 9 (m0 + 1) w NCn)) := by
      intro x xr hx hx2 hcr
      have hb4 : bnd x = 4 := by rcases hx2 with q | q <;> rw [q] <;> decide
      refine BIN (SUB := fun q => m_X11_readSum kE q (nI a)) (REST := fun q => f_X11_readNot_96 kE (nI n) KF q (nI 0)) (lv := 5) (lim := 2) (NC := NCs 1) (step_test p1 hx hx2 (by omega) (by rw [hb4]; exact fun y hy => by have := p4 y hy; omega) (by rw [hb4]; exact nts_top (htop.mono (by omega)) (by omega)) hlw) (fun σ2 τ2 k2 s2 e2 v2 h2 hs2 => ?_) (fun f τ1 hf hb1 => bad_sum hf hb1) hz hcr (by rcases hx2 with q | q <;> rw [q] <;> simp [isOpc]) (by omega) (fun i4 σ4 τ4 mn4 ic4 c4 o4 k4 s4 e4 v4 h4 hs4 hi4 ho4 hl4 hn4 => ?_) (fun f τ1 hf hb1 => bad_nots0 hf hb1 (by omega))
      · refine ok_mono (SUM hz ha hK h2 (by decide) (Or.inl rfl) (by rw [List.length_cons, List.length_append, nts_len]; omega) (by omega) (fun a2 r2 e2 => by cases e2; rw [hb4]; decide)) (fun τ9 h9 => ?_)
        rcases h9 with q | ⟨i9, σ9, q1, q2, q3, mn9, ic9, c9, o9, k9, s9, e9, v9, r1, r2, r3⟩
        · exact Or.inl q
        · exact Or.inr ⟨i9, σ9, q1, q2, q3, mn9, ic9, c9, o9, k9, s9, e9, v9, r1, by omega, r3⟩
      · have ei : ic4 = 1 := hn4.1
        subst ei
        refine NOT_end (lim := 0) hz hn (by omega) h4 (by omega) hi4 (fun y hy => ?_) (by rw [List.length_append, List.length_singleton]; omega) ⟨hn4.2.1, hn4.2.2.1, hn4.2.2.2.1, hn4.2.2.2.2, fun q => absurd q (by decide)⟩
        rcases List.mem_append.mp hy with q | q
        · have := ho4 y q; omega
        · rw [List.mem_singleton.mp q, hb4]; decide
    unfold f_X11_readNot_63
    simp only [pu_lit]
    rw [R_mkd p1.1 p1.2.1 hb3 (by decide), sbind, R_mkd p1.1 p1.2.1 hb3 (by decide), sbind, sbind]
    by_cases k1 : k3 = 60
    · rw [decide_eq_true k1, if_neg bI_t]
      exact go _ _ ((opc_k).2.2.2.2.1.mpr k1) (Or.inl rfl) (by unfold cr; simp)
    rw [decide_eq_false k1, if_pos (show bI false = nI 0 by decide)]
    by_cases k2 : k3 = 61
    · rw [decide_eq_true k2, if_neg bI_t]
      simp only [show bI false = nI 0 by decide, if_true]
      exact go _ _ ((opc_k).2.2.2.2.2.1.mpr k2) (Or.inr rfl) (by unfold cr; simp)
    rw [decide_eq_false k2, if_pos (show bI false = nI 0 by decide)]
    exact NOT_end (lim := 0) hz hn (by omega) p1 (by omega) (by decide) (fun y hy => by have := p4 y hy; omega) (by omega) ⟨p6.2.1, p6.2.2.1, p6.2.2.2.1, p6.2.2.2.2, fun _ => ⟨fun q => k1 ((opc_k).2.2.2.2.1.mp q), fun q => k2 ((opc_k).2.2.2.2.2.1.mp q)⟩⟩
  intro q
  induction q with
  | zero =>
    intro m n i c σ τ k s e v hn hm hm0 h
    obtain ⟨m, rfl⟩ : ∃ p, m = p + 1 := ⟨m - 1, by omega⟩
    have hb := h.2.2.2.1.1
    rw [f_X11_readNot_2]
    simp only [pu_lit]
    rw [R_is h.1 h.2.1 hb, sbind, WD_eq (w2 := 17) (by decide +kernel), ite_bI]
    cases hwd : WD b k s e 17 with
    | false =>
      rw [if_neg (by decide)]
      exact plain m n i c σ τ k s e v (by omega) hm0 h hwd
    | true =>
      have hk := WD_k hwd
      subst hk
      have en : n = 6 := by omega
      subst en
      rcases C_part_not h.1 h.2.1 h.2.2.1 ha hwd (by rw [List.length_append, List.length_append, nts_len, List.length_nil]; omega) (by omega) with ⟨_, hp⟩ | ⟨q, _⟩
      · obtain ⟨m, rfl⟩ : ∃ p, m = p + 1 := ⟨m - 1, by omega⟩
        rw [if_pos rfl, if_pos rfl, R_wrong hb, sbind]
        have e28 : ms (ms τ 0 28 (nI 2)) 0 29 (τ 0 26) 0 28 = nI 2 := by rw [ms_same, pk_un (by decide), ms_at]
        rw [e28, if_neg (show ¬ nI 2 = nI 0 by decide), nI_add, bad_not2 (f := 2) (by decide) e28 (by omega), ok_some]
        exact fail_part h (by decide) hp
      · omega
  | succ q ih =>
    intro m n i c σ τ k s e v hn hm hm0 h
    obtain ⟨m, rfl⟩ : ∃ p, m = p + 1 := ⟨m - 1, by omega⟩
    have hb := h.2.2.2.1.1
    rw [f_X11_readNot_2]
    simp only [pu_lit]
    rw [R_is h.1 h.2.1 hb, sbind, WD_eq (w2 := 17) (by decide +kernel), ite_bI]
    cases hwd : WD b k s e 17 with
    | false =>
      rw [if_neg (by decide)]
      exact plain m n i c σ τ k s e v (by omega) hm0 h hwd
    | true =>
      have hk := WD_k hwd
      subst hk
      rcases C_part_not h.1 h.2.1 h.2.2.1 ha hwd (by rw [List.length_append, List.length_append, nts_len, List.length_nil]; omega) (by omega) with ⟨q6, _⟩ | ⟨_, hp⟩
      · omega
      · obtain ⟨⟨f0, q0⟩, eq, q1, q2, q3⟩ := hp
        have q1' : f0 = nI 0 := q1
        subst q1'
        have hlen := h.2.2.2.2.2.2
        rw [List.length_nil, List.length_append, nts_len] at hlen
        obtain ⟨σ2, τ2, k2, s2, e2, v2, g1, g2, g3, g4, g5, g6⟩ := next_part (o1 := o1) (o2 := []) (w2 := nts (n + 1) ++ w) (c2 := c) (τ1 := τ) (d2 := d) h (by decide) eq (q3.mono (by decide)) q2 rfl rfl h.2.2.2.1 h.2.2.2.2.1 (by rw [List.length_nil, List.length_append, nts_len]; omega)
        rw [if_pos rfl, if_neg (show ¬ nI n = nI 6 by rw [nI_eq (by omega) (by omega)]; omega), hb, if_pos rfl, g1, sbind, nI_add]
        exact ok_mono (ih m (n + 1) (i + 1) c σ2 τ2 k2 s2 e2 v2 (by omega) (by omega) (by omega) g5) (fun τ9 h9 => h9.step g3 g4 (RF.ofT g2))
theorem NOT {a : Nat} {kE : Mem → Int32 → Option Mem} (hz : z ≤ 1) (ha : a < 6) (hK : KE E b o1 z (a + 1) kE) {d i : Nat} {c w : List Int32} {σ τ : Mem} {k s e v : Nat} (h : PS E b z a d 1 1 0 0 c [] w i σ τ k s e v) (hw : w.length ≤ 12 * a + 2) (hd : d ≤ 5 * a + 2) (htop : topLt w 3) : OK (m_X11_readNot kE τ (nI a)) (Out o1 z i σ τ (EN E b z a (d + 1) 3 9 (s + 1) w NCn)) :=
  NOT_loop hz ha hK hw hd htop 6 KF 0 i c σ τ k s e v (by omega) (by decide) (Nat.le_refl _) h
theorem AND_loop {a : Nat} {kE : Mem → Int32 → Option Mem} (hz : z ≤ 1) (ha : a < 6) (hK : KE E b o1 z (a + 1) kE) : ∀ (n m m0 : Nat) (d mn ic i : Nat) (c o w : List Int32) (σ τ : Mem) (k s e v : Nat), PS E b z a d 0 mn ic 0 c o w i σ τ k s e v → E < s + n → n < m → m0 ≤ s → ic ≤ 1 → (∀ y, y ∈ o → 2 ≤ bnd y) → o.length ≤ 10 → topLt w 2 → w.length ≤ 12 * a + 1 → 1 ≤ d → d ≤ 5 * a + 2 → NCn ic (opc b k s e) → OK (f_X11_readAnd_5 kE (nI a) m τ) (Out o1 z i σ τ (EN E b z a d 2 10 m0 w NCa)) := by
  intro n
  induction n with
  | zero =>
    intro m m0 d mn ic i c o w σ τ k s e v h hE
    have := h.2.1.2.2.2.2.2.2
    omega
  | succ n ih =>
    intro m m0 d mn ic i c o w σ τ k s e v h hE hm hm0 hic ho hol htop hw hd1 hd hsub
    obtain ⟨m, rfl⟩ : ∃ q, m = q + 1 := ⟨m - 1, by omega⟩
    obtain ⟨m, rfl⟩ : ∃ q, m = q + 1 := ⟨m - 1, by omega⟩
    have hb := h.2.2.2.1.1
    rw [f_X11_readAnd_5]
    simp only [pu_lit]
    rw [R_is h.1 h.2.1 hb, sbind, WD_eq (w2 := 19) (by decide +kernel), ite_bI]
    by_cases hwd : WD b k s e 19 = true
    · have hx : opc b k s e = -nI 22 := (opc_k).2.2.2.2.2.2.2.mpr hwd
      rw [if_pos hwd]
      refine BIN (SUB := fun q => m_X11_readNot kE q (nI a)) (REST := f_X11_readAnd_5 kE (nI a) (m + 1)) (lv := 3) (lim := 9) (NC := NCn) (step_logic h hx (Or.inr rfl) (by omega) hic ho htop (by omega)) (fun σ2 τ2 k2 s2 e2 v2 h2 hs2 => ?_) (fun f τ1 hf hb1 => bad_not hf hb1) hz (by unfold cr; simp) (by simp [isOpc]) hd1 (fun i3 σ3 τ3 mn3 ic3 c3 o3 k3 s3 e3 v3 h3 hs3 hi3 ho3 hl3 hn3 => ?_) (fun f τ1 hf hb1 => bad_and5 hf hb1)
      · refine ok_mono (NOT hz ha hK h2 (by rw [List.length_cons]; omega) (by omega) (fun a2 r2 e2 => by cases e2; decide)) (fun τ9 h9 => ?_)
        rcases h9 with q | ⟨i9, σ9, q1, q2, q3, mn9, ic9, c9, o9, k9, s9, e9, v9, r1, r2, r3⟩
        · exact Or.inl q
        · exact Or.inr ⟨i9, σ9, q1, q2, q3, mn9, ic9, c9, o9, k9, s9, e9, v9, r1, by omega, r3⟩
      · refine ih (m + 1) m0 d mn3 ic3 i3 c3 (o3 ++ [-nI 22]) w σ3 τ3 k3 s3 e3 v3 h3 (by omega) (by omega) (by omega) hi3 (fun y hy => ?_) (by rw [List.length_append, List.length_singleton]; omega) htop hw hd1 hd hn3
        rcases List.mem_append.mp hy with q | q
        · have := ho3 y q; omega
        · rw [List.mem_singleton.mp q]; decide
    · rw [if_neg hwd, ok_some]
      exact Or.inr ⟨i, σ, rfl, CF.rfl, RF.rfl, mn, ic, c, o, k, s, e, v, h, hm0, hic, ho, hol, hsub, fun q => hwd ((opc_k).2.2.2.2.2.2.2.mp q)⟩
theorem AND {a : Nat} {kE : Mem → Int32 → Option Mem} (hz : z ≤ 1) (ha : a < 6) (hK : KE E b o1 z (a + 1) kE) {d i : Nat} {c w : List Int32} {σ τ : Mem} {k s e v : Nat} (h : PS E b z a d 1 1 0 0 c [] w i σ τ k s e v) (hw : w.length ≤ 12 * a + 1) (hd : d ≤ 5 * a + 1) (htop : topLt w 2) : OK (m_X11_readAnd kE τ (nI a)) (Out o1 z i σ τ (EN E b z a (d + 1) 2 10 (s + 1) w NCa)) := by
  have hE := h.1.1
  refine Out.bind (NOT hz ha hK h (by omega) (by omega) (htop.mono (by omega))) (fun i3 σ3 τ3 hE3 => ?_) (fun f τ1 hf hb1 => bad_and5 (m := 4095) hf hb1)
  obtain ⟨mn3, ic3, c3, o3, k3, s3, e3, v3, p1, p2, p3, p4, p5, p6⟩ := hE3
  have := p1.1.1
  exact AND_loop hz ha hK 701 KF (s + 1) (d + 1) mn3 ic3 i3 c3 o3 w σ3 τ3 k3 s3 e3 v3 p1 (by omega) (by decide) p2 p3 (fun y hy => by have := p4 y hy; omega) (by omega) htop hw (by omega) (by omega) p6
theorem OR_loop {a : Nat} {kE : Mem → Int32 → Option Mem} (hz : z ≤ 1) (ha : a < 6) (hK : KE E b o1 z (a + 1) kE) : ∀ (n m m0 : Nat) (d mn ic i : Nat) (c o w : List Int32) (σ τ : Mem) (k s e v : Nat), PS E b z a d 0 mn ic 0 c o w i σ τ k s e v → E < s + n → n < m → m0 ≤ s → ic ≤ 1 → (∀ y, y ∈ o → 1 ≤ bnd y) → o.length ≤ 11 → topLt w 1 → w.length ≤ 12 * a → 1 ≤ d → d ≤ 5 * a + 1 → NCa ic (opc b k s e) → OK (f_X11_readExpression_b_67 kE (nI a) m τ) (Out o1 z i σ τ (EN E b z a d 1 11 m0 w (fun ic x => x = nI 0 ∨ ((x = -nI 24 ∨ x = -nI 25) ∧ ic = 1)))) := by
  intro n
  induction n with
  | zero =>
    intro m m0 d mn ic i c o w σ τ k s e v h hE
    have := h.2.1.2.2.2.2.2.2
    omega
  | succ n ih =>
    intro m m0 d mn ic i c o w σ τ k s e v h hE hm hm0 hic ho hol htop hw hd1 hd hsub
    obtain ⟨m, rfl⟩ : ∃ q, m = q + 1 := ⟨m - 1, by omega⟩
    obtain ⟨m, rfl⟩ : ∃ q, m = q + 1 := ⟨m - 1, by omega⟩
    have hb := h.2.2.2.1.1
    rw [f_X11_readExpression_b_67]
    simp only [pu_lit]
    rw [R_is h.1 h.2.1 hb, sbind, WD_eq (w2 := 18) (by decide +kernel), ite_bI]
    by_cases hwd : WD b k s e 18 = true
    · have hx : opc b k s e = -nI 21 := (opc_k).2.2.2.2.2.2.1.mpr hwd
      rw [if_pos hwd]
      refine BIN (SUB := fun q => m_X11_readAnd kE q (nI a)) (REST := f_X11_readExpression_b_67 kE (nI a) (m + 1)) (lv := 2) (lim := 10) (NC := NCa) (step_logic h hx (Or.inl rfl) (by omega) hic ho htop (by omega)) (fun σ2 τ2 k2 s2 e2 v2 h2 hs2 => ?_) (fun f τ1 hf hb1 => bad_and hf hb1) hz (by unfold cr; simp) (by simp [isOpc]) hd1 (fun i3 σ3 τ3 mn3 ic3 c3 o3 k3 s3 e3 v3 h3 hs3 hi3 ho3 hl3 hn3 => ?_) (fun f τ1 hf hb1 => bad_or67 hf hb1)
      · refine ok_mono (AND hz ha hK h2 (by rw [List.length_cons]; omega) (by omega) (fun a2 r2 e2 => by cases e2; decide)) (fun τ9 h9 => ?_)
        rcases h9 with q | ⟨i9, σ9, q1, q2, q3, mn9, ic9, c9, o9, k9, s9, e9, v9, r1, r2, r3⟩
        · exact Or.inl q
        · exact Or.inr ⟨i9, σ9, q1, q2, q3, mn9, ic9, c9, o9, k9, s9, e9, v9, r1, by omega, r3⟩
      · refine ih (m + 1) m0 d mn3 ic3 i3 c3 (o3 ++ [-nI 21]) w σ3 τ3 k3 s3 e3 v3 h3 (by omega) (by omega) (by omega) hi3 (fun y hy => ?_) (by rw [List.length_append, List.length_singleton]; omega) htop hw hd1 hd hn3
        rcases List.mem_append.mp hy with q | q
        · have := ho3 y q; omega
        · rw [List.mem_singleton.mp q]; decide
    · rw [if_neg hwd, ok_some]
      refine Or.inr ⟨i, σ, rfl, CF.rfl, RF.rfl, mn, ic, c, o, k, s, e, v, h, hm0, hic, ho, hol, ?_⟩
      obtain ⟨⟨n1, n2, n3, n4, n5⟩, n6⟩ := hsub
      rcases (opc_set (b := b) (k := k) (s := s) (e := e)) with q | q | q | q | q | q | q | q | q
      · exact absurd q n1
      · exact absurd q n3
      · exact absurd q n4
      · exact absurd q n2
      · refine Or.inr ⟨Or.inl q, ?_⟩
        rcases (show ic = 0 ∨ ic = 1 by omega) with y | y
        · exact absurd q (n5 y).1
        · exact y
      · refine Or.inr ⟨Or.inr q, ?_⟩
        rcases (show ic = 0 ∨ ic = 1 by omega) with y | y
        · exact absurd q (n5 y).2
        · exact y
      · exact absurd ((opc_k).2.2.2.2.2.2.1.mp q) hwd
      · exact absurd q n6
      · exact Or.inl q
theorem EXPR : ∀ (D a : Nat), a ≤ 6 → 7 ≤ a + D → z ≤ 1 → KE E b o1 z a (m_X11_readExpression D) := by
  intro D
  induction D with
  | zero => intro a h1 h2; omega
  | succ D ih =>
    intro a h1 h2 hz
    refine ⟨fun d i c w σ τ k s e v h htop hw hd => ?_, fun f τ x hf hb => bad_expr hf hb⟩
    have hb := h.2.2.2.1.1
    have hE := h.1.1
    show OK (m_X11_readExpression_b (m_X11_readExpression D) τ (nI a)) _
    unfold m_X11_readExpression_b
    simp only [pu_lit]
    rw [hb, if_pos rfl, R_mkd h.1 h.2.1 hb (by decide), sbind]
    have yes : (k = 1 ∨ k = 2 ∨ k = 40) → OK (f_X11_readExpression_b_38 (m_X11_readExpression D) τ (nI a) (nI 1)) (Out o1 z i σ τ (EN E b z a (d + 1) 1 11 s w (fun ic x => x = nI 0 ∨ ((x = -nI 24 ∨ x = -nI 25) ∧ ic = 1)))) := by
      intro hk
      unfold f_X11_readExpression_b_38
      simp only [pu_lit]
      rw [if_neg (show ¬ nI 1 = nI 0 by decide)]
      by_cases a6 : a = 6
      · subst a6
        rw [if_pos rfl, R_wrong hb, sbind]
        have e28 : ms (ms τ 0 28 (nI 2)) 0 29 (τ 0 26) 0 28 = nI 2 := by rw [ms_same, pk_un (by decide), ms_at]
        rw [bad_and (f := 2) (by decide) e28, sbind, show f_X11_readExpression_b_67 (m_X11_readExpression D) (nI 6) KF (ms (ms τ 0 28 (nI 2)) 0 29 (τ 0 26)) = some (ms (ms τ 0 28 (nI 2)) 0 29 (τ 0 26)) from bad_or67 (m := 4095) (f := 2) (by decide) e28, ok_some]
        exact fail_part h (by decide) (C_part_deep h.2.1 hk h.2.2.1)
      · rw [if_neg (show ¬ nI a = nI 6 by rw [nI_eq (by omega) (by omega)]; exact a6)]
        have hK := ih (a + 1) (by omega) (by omega) hz
        refine Out.bind (AND hz (by omega) hK h (by omega) (by omega) (htop.mono (by omega))) (fun i3 σ3 τ3 hE3 => ?_) (fun f τ1 hf hb1 => bad_or67 (m := 4095) hf hb1)
        obtain ⟨mn3, ic3, c3, o3, k3, s3, e3, v3, p1, p2, p3, p4, p5, p6⟩ := hE3
        have := p1.1.1
        exact OR_loop hz (by omega) hK 701 KF s (d + 1) mn3 ic3 i3 c3 o3 w σ3 τ3 k3 s3 e3 v3 p1 (by omega) (by decide) (by omega) p3 (fun y hy => by have := p4 y hy; omega) (by omega) htop hw (by omega) (by omega) p6
    have no : ¬ (k = 1 ∨ k = 2 ∨ k = 40) → OK (f_X11_readExpression_b_38 (m_X11_readExpression D) τ (nI a) (nI 0)) (Out o1 z i σ τ (EN E b z a (d + 1) 1 11 s w (fun ic x => x = nI 0 ∨ ((x = -nI 24 ∨ x = -nI 25) ∧ ic = 1)))) := by
      intro hk
      unfold f_X11_readExpression_b_38
      simp only [pu_lit, if_true]
      rw [R_wrong hb, sbind]
      have e28 : ms (ms τ 0 28 (nI 1)) 0 29 (τ 0 26) 0 28 = nI 1 := by rw [ms_same, pk_un (by decide), ms_at]
      rw [bad_and (f := 1) (by decide) e28, sbind, show f_X11_readExpression_b_67 (m_X11_readExpression D) (nI a) KF (ms (ms τ 0 28 (nI 1)) 0 29 (τ 0 26)) = some (ms (ms τ 0 28 (nI 1)) 0 29 (τ 0 26)) from bad_or67 (m := 4095) (f := 1) (by decide) e28, ok_some]
      exact fail_part h (by decide) (C_part_bad h.2.1 (by omega))
    have t24 := h.2.1.2.2.2.2.2.2.2.2
    rcases t24 with q | q | q | q | q
    · rw [q.2, if_neg (show ¬ nI 0 = nI 2 by decide), if_neg (show ¬ nI 0 = nI 1 by decide), decide_eq_false (show ¬ k = 40 by omega), if_pos (show bI false = nI 0 by decide)]
      exact no (by omega)
    · rw [q.2.2.1, if_neg (show ¬ nI 1 = nI 2 by decide), if_pos rfl]
      exact yes (by omega)
    · rw [q.2.2.1, if_pos rfl]
      exact yes (by omega)
    · rw [q.2.2, if_neg (show ¬ nI 4 = nI 2 by decide), if_neg (show ¬ nI 4 = nI 1 by decide), decide_eq_false (show ¬ k = 40 by omega), if_pos (show bI false = nI 0 by decide)]
      exact no (by omega)
    · have hS := isS_lt q.1
      rw [q.2.2.1, if_neg (show ¬ nI 3 = nI 2 by decide), if_neg (show ¬ nI 3 = nI 1 by decide)]
      by_cases k40 : k = 40
      · rw [decide_eq_true k40, if_neg bI_t]; exact yes (by omega)
      · rw [decide_eq_false k40, if_pos (show bI false = nI 0 by decide)]; exact no (by omega)
end EXPR3

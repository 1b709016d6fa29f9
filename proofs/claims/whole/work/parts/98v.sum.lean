/-! rules read on both sides: products, sums, tests, nots, ands, ors -/
theorem topLt.mono {w : List Int32} {l m : Nat} (h : topLt w l) (hl : l ≤ m) : topLt w m := fun a r e => Nat.lt_of_lt_of_le (h a r e) hl
def NCp (i0 : Nat) : Nat → Int32 → Prop := fun ic x => ic = i0 ∧ x ≠ -nI 28 ∧ x ≠ -nI 29
def NCs (i0 : Nat) : Nat → Int32 → Prop := fun ic x => ic = i0 ∧ x ≠ -nI 28 ∧ x ≠ -nI 29 ∧ x ≠ -nI 26 ∧ x ≠ -nI 27
def NCn : Nat → Int32 → Prop := fun ic x => x ≠ -nI 28 ∧ x ≠ -nI 29 ∧ x ≠ -nI 26 ∧ x ≠ -nI 27 ∧ (ic = 0 → x ≠ -nI 24 ∧ x ≠ -nI 25)
def NCa : Nat → Int32 → Prop := fun ic x => NCn ic x ∧ x ≠ -nI 22
section EXPR2
variable {E : Nat} {b : Nat → Nat} {o1 z : Nat}
theorem BIN {a d mn2 ic2 i s lv lim : Nat} {c o w : List Int32} {x xr : Int32} {σ τ : Mem} {NC : Nat → Int32 → Prop} {G : Nat → Mem → Mem → Prop} {SUB REST : Mem → Option Mem}
    (step : ∃ σ2 τ2 k2 s2 e2 v2, m_X11_stepOn τ = some τ2 ∧ FRt τ τ2 ∧ RN o1 i σ = RN o1 (i + 1) σ2 ∧ CF σ σ2 ∧ PS E b z a d 1 mn2 ic2 0 (c ++ o) [] (x :: w) (i + 1) σ2 τ2 k2 s2 e2 v2 ∧ s < s2)
    (hSUB : ∀ σ2 τ2 k2 s2 e2 v2, PS E b z a d 1 mn2 ic2 0 (c ++ o) [] (x :: w) (i + 1) σ2 τ2 k2 s2 e2 v2 → s < s2 → OK (SUB τ2) (Out o1 z (i + 1) σ2 τ2 (EN E b z a (d + 1) lv lim (s + 1) (x :: w) NC)))
    (hSb : ∀ f τ1, 0 < f ∧ f < 100 → τ1 0 28 = nI f → SUB τ1 = some τ1) (hz : z ≤ 1) (hcr : cr xr x) (hop : isOpc x) (hd : 1 ≤ d)
    (hREST : ∀ i3 σ3 τ3 mn3 ic3 c3 o3 k3 s3 e3 v3, PS E b z a d 0 mn3 ic3 0 c3 (o3 ++ [x]) w i3 σ3 τ3 k3 s3 e3 v3 → s < s3 → ic3 ≤ 1 → (∀ y, y ∈ o3 → lv ≤ bnd y) → o3.length ≤ lim → NC ic3 (opc b k3 s3 e3) → OK (REST τ3) (Out o1 z i3 σ3 τ3 G))
    (hRb : ∀ f τ1, 0 < f ∧ f < 100 → τ1 0 28 = nI f → REST τ1 = some τ1) : OK ((m_X11_stepOn τ).bind fun q => (SUB q).bind fun q4 => (m_X11_lay q4 xr).bind fun q5 => REST q5) (Out o1 z i σ τ G) := by
  obtain ⟨σ2, τ2, k2, s2, e2, v2, g1, g2, g3, g4, g5, g6⟩ := step
  rw [g1, sbind]
  have := Out.bind (X := fun q4 => (m_X11_lay q4 xr).bind fun q5 => REST q5) (G2 := G) (hSUB σ2 τ2 k2 s2 e2 v2 g5 g6) (fun i3 σ3 τ3 hE => ?_) (fun f τ1 hf hb => by rw [R_lay_bad hf hb, sbind]; exact hRb f τ1 hf hb)
  · exact ok_mono this (fun τ9 h9 => h9.step g3 g4 (RF.ofT g2))
  · obtain ⟨mn3, ic3, c3, o3, k3, s3, e3, v3, p1, p2, p3, p4, p5, p6⟩ := hE
    obtain ⟨τ4, l1, l2, l3⟩ := lay_op p1 hz hcr (op_dst hop hd)
    show OK ((m_X11_lay τ3 xr).bind fun q5 => REST q5) _
    rw [l1, sbind]
    exact ok_mono (hREST i3 σ3 τ4 mn3 ic3 c3 o3 k3 s3 e3 v3 l3 (by omega) p3 p4 p5 p6) (fun τ9 h9 => h9.step rfl CF.rfl l2)
theorem step_arith {a d mn ic nt i : Nat} {c o w : List Int32} {σ τ : Mem} {k s e v : Nat} {x : Int32} (h : PS E b z a d 0 mn ic nt c o w i σ τ k s e v) (hx : opc b k s e = x) (hx4 : x = -nI 28 ∨ x = -nI 29 ∨ x = -nI 26 ∨ x = -nI 27) (ha : a < 7) (hic : ic ≤ 1) (ho : ∀ y, y ∈ o → bnd x ≤ bnd y) (hw : topLt w (bnd x)) (hl : o.length + w.length < 128) : ∃ σ2 τ2 k2 s2 e2 v2, m_X11_stepOn τ = some τ2 ∧ FRt τ τ2 ∧ RN o1 i σ = RN o1 (i + 1) σ2 ∧ CF σ σ2 ∧ PS E b z a d 1 0 ic nt (c ++ o) [] (x :: w) (i + 1) σ2 τ2 k2 s2 e2 v2 ∧ s < s2 := by
  have n1 : ¬ (x = -nI 21 ∨ x = -nI 22) := by rcases hx4 with q | q | q | q <;> rw [q] <;> decide
  have n2 : ¬ (x = -nI 24 ∨ x = -nI 25) := by rcases hx4 with q | q | q | q <;> rw [q] <;> decide
  have hb : 1 ≤ bnd x := by rcases hx4 with q | q | q | q <;> rw [q] <;> decide
  have := step_op (o1 := o1) h hx hb ha hic (fun q => absurd q n2) ho hw (by rw [List.length_append]; exact hl)
  rw [if_neg n1, if_neg n2, if_neg (show ¬ (0 = 1) by decide), if_neg n1] at this
  exact this
theorem step_test {a d mn nt i : Nat} {c o w : List Int32} {σ τ : Mem} {k s e v : Nat} {x : Int32} (h : PS E b z a d 0 mn 0 nt c o w i σ τ k s e v) (hx : opc b k s e = x) (hx4 : x = -nI 24 ∨ x = -nI 25) (ha : a < 7) (ho : ∀ y, y ∈ o → bnd x ≤ bnd y) (hw : topLt w (bnd x)) (hl : o.length + w.length < 128) : ∃ σ2 τ2 k2 s2 e2 v2, m_X11_stepOn τ = some τ2 ∧ FRt τ τ2 ∧ RN o1 i σ = RN o1 (i + 1) σ2 ∧ CF σ σ2 ∧ PS E b z a d 1 0 1 nt (c ++ o) [] (x :: w) (i + 1) σ2 τ2 k2 s2 e2 v2 ∧ s < s2 := by
  have n1 : ¬ (x = -nI 21 ∨ x = -nI 22) := by rcases hx4 with q | q <;> rw [q] <;> decide
  have hb : 1 ≤ bnd x := by rcases hx4 with q | q <;> rw [q] <;> decide
  have := step_op (o1 := o1) h hx hb ha (by decide) (fun _ => rfl) ho hw (by rw [List.length_append]; exact hl)
  rw [if_neg n1, if_pos hx4, if_pos rfl] at this
  exact this
theorem step_logic {a d mn ic nt i : Nat} {c o w : List Int32} {σ τ : Mem} {k s e v : Nat} {x : Int32} (h : PS E b z a d 0 mn ic nt c o w i σ τ k s e v) (hx : opc b k s e = x) (hx4 : x = -nI 21 ∨ x = -nI 22) (ha : a < 7) (hic : ic ≤ 1) (ho : ∀ y, y ∈ o → bnd x ≤ bnd y) (hw : topLt w (bnd x)) (hl : o.length + w.length < 128) : ∃ σ2 τ2 k2 s2 e2 v2, m_X11_stepOn τ = some τ2 ∧ FRt τ τ2 ∧ RN o1 i σ = RN o1 (i + 1) σ2 ∧ CF σ σ2 ∧ PS E b z a d 1 1 0 nt (c ++ o) [] (x :: w) (i + 1) σ2 τ2 k2 s2 e2 v2 ∧ s < s2 := by
  have n2 : ¬ (x = -nI 24 ∨ x = -nI 25) := by rcases hx4 with q | q <;> rw [q] <;> decide
  have hb : 1 ≤ bnd x := by rcases hx4 with q | q <;> rw [q] <;> decide
  have := step_op (o1 := o1) h hx hb ha hic (fun q => absurd q n2) ho hw (by rw [List.length_append]; exact hl)
  rw [if_pos hx4, if_neg n2, if_neg (show ¬ (0 = 1) by decide), if_pos hx4] at this
  exact this
theorem PROD_loop {a : Nat} {kE : Mem → Int32 → Option Mem} (hz : z ≤ 1) (ha : a < 6) (hK : KE E b o1 z (a + 1) kE) : ∀ (n m m0 : Nat) (d mn ic i : Nat) (c o w : List Int32) (σ τ : Mem) (k s e v : Nat), PS E b z a d 0 mn ic 0 c o w i σ τ k s e v → E < s + n → n < m → m0 ≤ s → ic ≤ 1 → (∀ y, y ∈ o → 6 ≤ bnd y) → o.length ≤ 1 → topLt w 6 → w.length ≤ 12 * a + 10 → 1 ≤ d → d ≤ 5 * a + 5 → True → OK (f_X11_readProduct_5 kE (nI a) m τ) (Out o1 z i σ τ (EN E b z a d 6 1 m0 w (NCp ic))) := by
  intro n
  induction n with
  | zero =>
    intro m m0 d mn ic i c o w σ τ k s e v h hE
    have := h.2.1.2.2.2.2.2.2
    omega
  | succ n ih =>
    intro m m0 d mn ic i c o w σ τ k s e v h hE hm hm0 hic ho hol htop hw hd1 hd hsub
    obtain ⟨m, rfl⟩ : ∃ q, m = q + 1 := ⟨m - 1, by omega⟩
    obtain ⟨m, rfl⟩ : ∃ q, m = q + 1 := ⟨m - 1, by omega⟩
    have hb := h.2.2.2.1.1
    have go : ∀ (x xr : Int32), opc b k s e = x → (x = -nI 28 ∨ x = -nI 29) → cr xr x → OK ((m_X11_stepOn τ).bind fun q3 => (m_X11_readPart kE q3 (nI a)).bind fun q4 => (m_X11_lay q4 xr).bind fun q5 => f_X11_readProduct_5 kE (nI a) (m + 1) q5) (Out o1 z i σ τ (EN E b z a d 6 1 m0 w (NCp ic))) := by
      intro x xr hx hx2 hcr
      have hb6 : bnd x = 6 := by rcases hx2 with q | q <;> rw [q] <;> decide
      refine BIN (SUB := fun q => m_X11_readPart kE q (nI a)) (REST := f_X11_readProduct_5 kE (nI a) (m + 1)) (lv := 7) (lim := 0) (NC := fun ic2 _ => ic2 = ic) (step_arith h hx (by rcases hx2 with q | q <;> rw [q] <;> simp) (by omega) hic (by rw [hb6]; exact ho) (by rw [hb6]; exact htop) (by omega)) (fun σ2 τ2 k2 s2 e2 v2 h2 hs2 => ?_) (fun f τ1 hf hb1 => bad_part hf hb1) hz hcr (by rcases hx2 with q | q <;> rw [q] <;> simp [isOpc]) hd1 (fun i3 σ3 τ3 mn3 ic3 c3 o3 k3 s3 e3 v3 h3 hs3 hi3 ho3 hl3 hn3 => ?_) (fun f τ1 hf hb1 => bad_prod5 hf hb1)
      · refine ok_mono (PART hz ha hK h2 hic (Or.inl rfl) (by rw [List.length_cons]; omega) (by omega)) (fun τ9 h9 => ?_)
        rcases h9 with q | ⟨i9, σ9, q1, q2, q3, mn9, ic9, c9, o9, k9, s9, e9, v9, r1, r2, r3⟩
        · exact Or.inl q
        · exact Or.inr ⟨i9, σ9, q1, q2, q3, mn9, ic9, c9, o9, k9, s9, e9, v9, r1, by omega, r3⟩
      · have ei : ic3 = ic := hn3
        subst ei
        refine ih (m + 1) m0 d mn3 ic3 i3 c3 (o3 ++ [x]) w σ3 τ3 k3 s3 e3 v3 h3 (by omega) (by omega) (by omega) hi3 (fun y hy => ?_) (by rw [List.length_append, List.length_singleton]; omega) htop hw hd1 hd trivial
        rcases List.mem_append.mp hy with q | q
        · have := ho3 y q; omega
        · rw [List.mem_singleton.mp q, hb6]; exact Nat.le_refl _
    rw [f_X11_readProduct_5]
    unfold f_X11_readProduct_23
    simp only [pu_lit]
    rw [R_mkd h.1 h.2.1 hb (by decide), sbind, R_mkd h.1 h.2.1 hb (by decide), sbind, sbind]
    by_cases k1 : k = 42
    · rw [decide_eq_true k1, if_neg bI_t]
      exact go _ _ ((opc_k).1.mpr k1) (Or.inl rfl) (by unfold cr; simp)
    rw [decide_eq_false k1, if_pos (show bI false = nI 0 by decide)]
    by_cases k2 : k = 47
    · rw [decide_eq_true k2, if_neg bI_t]
      simp only [show bI false = nI 0 by decide, if_true]
      exact go _ _ ((opc_k).2.2.2.1.mpr k2) (Or.inr rfl) (by unfold cr; simp)
    rw [decide_eq_false k2, if_pos (show bI false = nI 0 by decide), ok_some]
    exact Or.inr ⟨i, σ, rfl, CF.rfl, RF.rfl, mn, ic, c, o, k, s, e, v, h, hm0, hic, ho, hol, ⟨rfl, fun q => k1 ((opc_k).1.mp q), fun q => k2 ((opc_k).2.2.2.1.mp q)⟩⟩
theorem PROD {a : Nat} {kE : Mem → Int32 → Option Mem} (hz : z ≤ 1) (ha : a < 6) (hK : KE E b o1 z (a + 1) kE) {d mn ic nt i : Nat} {c w : List Int32} {σ τ : Mem} {k s e v : Nat} (h : PS E b z a d 1 mn ic nt c [] w i σ τ k s e v) (hic : ic ≤ 1) (hn : mn = 0 ∨ (mn = 1 ∧ WD b k s e 17 = false)) (hw : w.length ≤ 12 * a + 10) (hd : d ≤ 5 * a + 4) (htop : topLt w 6) : OK (m_X11_readProduct kE τ (nI a)) (Out o1 z i σ τ (EN E b z a (d + 1) 6 1 (s + 1) w (NCp ic))) := by
  have hE := h.1.1
  refine Out.bind (PART hz ha hK h hic hn (by omega) (by omega)) (fun i3 σ3 τ3 hE3 => ?_) (fun f τ1 hf hb1 => bad_prod5 (m := 4095) hf hb1)
  obtain ⟨mn3, ic3, c3, o3, k3, s3, e3, v3, p1, p2, p3, p4, p5, p6⟩ := hE3
  have p6' : ic3 = ic := p6
  subst p6'
  have eo : o3 = [] := List.eq_nil_of_length_eq_zero (by omega)
  subst eo
  have := p1.1.1
  exact PROD_loop hz ha hK 701 KF (s + 1) (d + 1) mn3 ic3 i3 c3 [] w σ3 τ3 k3 s3 e3 v3 p1 (by omega) (by decide) p2 p3 (fun y hy => by cases hy) (by simp) htop hw (by omega) (by omega) trivial
theorem SUM_loop {a : Nat} {kE : Mem → Int32 → Option Mem} (hz : z ≤ 1) (ha : a < 6) (hK : KE E b o1 z (a + 1) kE) : ∀ (n m m0 : Nat) (d mn ic i : Nat) (c o w : List Int32) (σ τ : Mem) (k s e v : Nat), PS E b z a d 0 mn ic 0 c o w i σ τ k s e v → E < s + n → n < m → m0 ≤ s → ic ≤ 1 → (∀ y, y ∈ o → 5 ≤ bnd y) → o.length ≤ 2 → topLt w 5 → w.length ≤ 12 * a + 9 → 1 ≤ d → d ≤ 5 * a + 4 → NCp ic ic (opc b k s e) → OK (f_X11_readSum_5 kE (nI a) m τ) (Out o1 z i σ τ (EN E b z a d 5 2 m0 w (NCs ic))) := by
  intro n
  induction n with
  | zero =>
    intro m m0 d mn ic i c o w σ τ k s e v h hE
    have := h.2.1.2.2.2.2.2.2
    omega
  | succ n ih =>
    intro m m0 d mn ic i c o w σ τ k s e v h hE hm hm0 hic ho hol htop hw hd1 hd hsub
    obtain ⟨m, rfl⟩ : ∃ q, m = q + 1 := ⟨m - 1, by omega⟩
    obtain ⟨m, rfl⟩ : ∃ q, m = q + 1 := ⟨m - 1, by omega⟩
    have hb := h.2.2.2.1.1
    have go : ∀ (x xr : Int32), opc b k s e = x → (x = -nI 26 ∨ x = -nI 27) → cr xr x → OK ((m_X11_stepOn τ).bind fun q3 => (m_X11_readProduct kE q3 (nI a)).bind fun q4 => (m_X11_lay q4 xr).bind fun q5 => f_X11_readSum_5 kE (nI a) (m + 1) q5) (Out o1 z i σ τ (EN E b z a d 5 2 m0 w (NCs ic))) := by
      intro x xr hx hx2 hcr
      have hb6 : bnd x = 5 := by rcases hx2 with q | q <;> rw [q] <;> decide
      refine BIN (SUB := fun q => m_X11_readProduct kE q (nI a)) (REST := f_X11_readSum_5 kE (nI a) (m + 1)) (lv := 6) (lim := 1) (NC := NCp ic) (step_arith h hx (by rcases hx2 with q | q <;> rw [q] <;> simp) (by omega) hic (by rw [hb6]; exact ho) (by rw [hb6]; exact htop) (by omega)) (fun σ2 τ2 k2 s2 e2 v2 h2 hs2 => ?_) (fun f τ1 hf hb1 => bad_prod hf hb1) hz hcr (by rcases hx2 with q | q <;> rw [q] <;> simp [isOpc]) hd1 (fun i3 σ3 τ3 mn3 ic3 c3 o3 k3 s3 e3 v3 h3 hs3 hi3 ho3 hl3 hn3 => ?_) (fun f τ1 hf hb1 => bad_sum5 hf hb1)
      · refine ok_mono (PROD hz ha hK h2 hic (Or.inl rfl) (by rw [List.length_cons]; omega) (by omega) (fun a2 r2 e2 => by cases e2; rw [hb6]; decide)) (fun τ9 h9 => ?_)
        rcases h9 with q | ⟨i9, σ9, q1, q2, q3, mn9, ic9, c9, o9, k9, s9, e9, v9, r1, r2, r3⟩
        · exact Or.inl q
        · exact Or.inr ⟨i9, σ9, q1, q2, q3, mn9, ic9, c9, o9, k9, s9, e9, v9, r1, by omega, r3⟩
      · have ei : ic3 = ic := hn3.1
        subst ei
        refine ih (m + 1) m0 d mn3 ic3 i3 c3 (o3 ++ [x]) w σ3 τ3 k3 s3 e3 v3 h3 (by omega) (by omega) (by omega) hi3 (fun y hy => ?_) (by rw [List.length_append, List.length_singleton]; omega) htop hw hd1 hd hn3
        rcases List.mem_append.mp hy with q | q
        · have := ho3 y q; omega
        · rw [List.mem_singleton.mp q, hb6]; exact Nat.le_refl _
    rw [f_X11_readSum_5]
    unfold f_X11_readSum_23
    simp only [pu_lit]
    rw [R_mkd h.1 h.2.1 hb (by decide), sbind, R_mkd h.1 h.2.1 hb (by decide), sbind, sbind]
    by_cases k1 : k = 43
    · rw [decide_eq_true k1, if_neg bI_t]
      exact go _ _ ((opc_k).2.1.mpr k1) (Or.inl rfl) (by unfold cr; simp)
    rw [decide_eq_false k1, if_pos (show bI false = nI 0 by decide)]
    by_cases k2 : k = 45
    · rw [decide_eq_true k2, if_neg bI_t]
      simp only [show bI false = nI 0 by decide, if_true]
      exact go _ _ ((opc_k).2.2.1.mpr k2) (Or.inr rfl) (by unfold cr; simp)
    rw [decide_eq_false k2, if_pos (show bI false = nI 0 by decide), ok_some]
    exact Or.inr ⟨i, σ, rfl, CF.rfl, RF.rfl, mn, ic, c, o, k, s, e, v, h, hm0, hic, ho, hol, ⟨rfl, hsub.2.1, hsub.2.2, fun q => k1 ((opc_k).2.1.mp q), fun q => k2 ((opc_k).2.2.1.mp q)⟩⟩
theorem SUM {a : Nat} {kE : Mem → Int32 → Option Mem} (hz : z ≤ 1) (ha : a < 6) (hK : KE E b o1 z (a + 1) kE) {d mn ic nt i : Nat} {c w : List Int32} {σ τ : Mem} {k s e v : Nat} (h : PS E b z a d 1 mn ic nt c [] w i σ τ k s e v) (hic : ic ≤ 1) (hn : mn = 0 ∨ (mn = 1 ∧ WD b k s e 17 = false)) (hw : w.length ≤ 12 * a + 9) (hd : d ≤ 5 * a + 3) (htop : topLt w 5) : OK (m_X11_readSum kE τ (nI a)) (Out o1 z i σ τ (EN E b z a (d + 1) 5 2 (s + 1) w (NCs ic))) := by
  have hE := h.1.1
  refine Out.bind (PROD hz ha hK h hic hn (by omega) (by omega) (htop.mono (by omega))) (fun i3 σ3 τ3 hE3 => ?_) (fun f τ1 hf hb1 => bad_sum5 (m := 4095) hf hb1)
  obtain ⟨mn3, ic3, c3, o3, k3, s3, e3, v3, p1, p2, p3, p4, p5, p6⟩ := hE3
  have p6' : ic3 = ic := p6.1
  subst p6'
  have := p1.1.1
  exact SUM_loop hz ha hK 701 KF (s + 1) (d + 1) mn3 ic3 i3 c3 o3 w σ3 τ3 k3 s3 e3 v3 p1 (by omega) (by decide) p2 p3 (fun y hy => by have := p4 y hy; omega) (by omega) htop hw (by omega) (by omega) p6
end EXPR2

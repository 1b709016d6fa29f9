/-! rules read on both sides: bad ends, steps, parts -/
section BAD
variable {τ : Mem} {f : Nat} {x : Int32} {kE : Mem → Int32 → Option Mem}
theorem bad_part (hf : 0 < f ∧ f < 100) (hb : τ 0 28 = nI f) : m_X11_readPart kE τ x = some τ := by
  unfold m_X11_readPart
  simp only [pu_lit]
  rw [hb, if_neg (nz' hf.1 (by omega))]
theorem bad_mark (hf : 0 < f ∧ f < 100) (hb : τ 0 28 = nI f) : m_X11_mark τ x = some τ := by
  unfold m_X11_mark
  simp only [pu_lit]
  rw [hb, if_neg (nz' hf.1 (by omega)), if_neg (nz' hf.1 (by omega))]
theorem bad_prod5 {m : Nat} (hf : 0 < f ∧ f < 100) (hb : τ 0 28 = nI f) : f_X11_readProduct_5 kE x (m + 1) τ = some τ := by
  rw [f_X11_readProduct_5]
  simp only [pu_lit]
  rw [R_mkd_bad hf hb, sbind]
  simp only [if_true]
  rw [R_mkd_bad hf hb, sbind]
  simp only [if_true]
theorem bad_prod (hf : 0 < f ∧ f < 100) (hb : τ 0 28 = nI f) : m_X11_readProduct kE τ x = some τ := by
  unfold m_X11_readProduct
  rw [bad_part hf hb, sbind]
  exact bad_prod5 (m := 4095) hf hb
theorem bad_sum5 {m : Nat} (hf : 0 < f ∧ f < 100) (hb : τ 0 28 = nI f) : f_X11_readSum_5 kE x (m + 1) τ = some τ := by
  rw [f_X11_readSum_5]
  simp only [pu_lit]
  rw [R_mkd_bad hf hb, sbind]
  simp only [if_true]
  rw [R_mkd_bad hf hb, sbind]
  simp only [if_true]
theorem bad_sum (hf : 0 < f ∧ f < 100) (hb : τ 0 28 = nI f) : m_X11_readSum kE τ x = some τ := by
  unfold m_X11_readSum
  rw [bad_prod hf hb, sbind]
  exact bad_sum5 (m := 4095) hf hb
theorem bad_nots {n : Nat} (hf : 0 < f ∧ f < 100) (hb : τ 0 28 = nI f) (hn : n ≤ 10) : ∀ (k m i : Nat), i + k = n → k < m → f_X11_readNot_96 kE (nI n) m τ (nI i) = some τ := by
  intro k
  induction k with
  | zero =>
    intro m i hi hm
    obtain ⟨m, rfl⟩ : ∃ q, m = q + 1 := ⟨m - 1, by omega⟩
    rw [f_X11_readNot_96, if_pos (nI_le (by omega) (by omega))]
  | succ k ih =>
    intro m i hi hm
    obtain ⟨m, rfl⟩ : ∃ q, m = q + 1 := ⟨m - 1, by omega⟩
    rw [f_X11_readNot_96, if_neg (nI_ge (by omega) (by omega)), R_lay_bad hf hb, sbind, nI_1]
    exact ih m (i + 1) (by omega) (by omega)
theorem bad_nots0 {n : Nat} (hf : 0 < f ∧ f < 100) (hb : τ 0 28 = nI f) (hn : n ≤ 10) : f_X11_readNot_96 kE (nI n) KF τ (nI 0) = some τ := bad_nots hf hb hn n KF 0 (by omega) (by unfold KF; omega)
theorem bad_not2 {m n : Nat} (hf : 0 < f ∧ f < 100) (hb : τ 0 28 = nI f) (hn : n ≤ 10) : f_X11_readNot_2 kE x (m + 1) τ (nI n) = some τ := by
  rw [f_X11_readNot_2]
  simp only [pu_lit]
  rw [R_is_bad hf hb, sbind]
  simp only [if_true]
  rw [bad_sum hf hb, sbind, R_mkd_bad hf hb, sbind]
  simp only [if_true]
  rw [R_mkd_bad hf hb, sbind]
  simp only [if_true]
  exact bad_nots0 hf hb hn
theorem bad_not (hf : 0 < f ∧ f < 100) (hb : τ 0 28 = nI f) : m_X11_readNot kE τ x = some τ := bad_not2 (m := 4095) (n := 0) hf hb (by omega)
theorem bad_and5 {m : Nat} (hf : 0 < f ∧ f < 100) (hb : τ 0 28 = nI f) : f_X11_readAnd_5 kE x (m + 1) τ = some τ := by
  rw [f_X11_readAnd_5]
  simp only [pu_lit]
  rw [R_is_bad hf hb, sbind]
  simp only [if_true]
theorem bad_and (hf : 0 < f ∧ f < 100) (hb : τ 0 28 = nI f) : m_X11_readAnd kE τ x = some τ := by
  unfold m_X11_readAnd
  rw [bad_not hf hb, sbind]
  exact bad_and5 (m := 4095) hf hb
theorem bad_or67 {m : Nat} (hf : 0 < f ∧ f < 100) (hb : τ 0 28 = nI f) : f_X11_readExpression_b_67 kE x (m + 1) τ = some τ := by
  rw [f_X11_readExpression_b_67]
  simp only [pu_lit]
  rw [R_is_bad hf hb, sbind]
  simp only [if_true]
theorem bad_expr {d : Nat} (hf : 0 < f ∧ f < 100) (hb : τ 0 28 = nI f) : m_X11_readExpression (d + 1) τ x = some τ := by
  show m_X11_readExpression_b (m_X11_readExpression d) τ x = some τ
  unfold m_X11_readExpression_b
  simp only [pu_lit]
  rw [hb, if_neg (nz' hf.1 (by omega))]
end BAD
/-! how a piece of the reference and the class' steps go together -/
def mvz (z : Nat) : Nat := if z = 0 then 10 else 4
def PS (E : Nat) (b : Nat → Nat) (z a d wp mn ic nt : Nat) (c o w : List Int32) (i : Nat) (σ τ : Mem) (k s e v : Nat) : Prop :=
  TP E b σ τ ∧ TK E b σ τ k s e v ∧ CS5 σ wp mn ic a nt (1 - z) c (o ++ w) ∧ RS5 z τ (c ++ o) ∧ dpL (mvz z) (c ++ o) d ∧ i ≤ s ∧ c.length + o.length + w.length ≤ s
def EN (E : Nat) (b : Nat → Nat) (z a d lv lim m : Nat) (w : List Int32) (NC : Nat → Int32 → Prop) (i : Nat) (σ τ : Mem) : Prop :=
  ∃ mn ic c o k s e v, PS E b z a d 0 mn ic 0 c o w i σ τ k s e v ∧ m ≤ s ∧ ic ≤ 1 ∧ (∀ y, y ∈ o → lv ≤ bnd y) ∧ o.length ≤ lim ∧ NC ic (opc b k s e)
def Out (o1 z i : Nat) (σ τ : Mem) (G : Nat → Mem → Mem → Prop) (τ1 : Mem) : Prop :=
  (∃ f σf, 0 < f ∧ f < 10 ∧ RN o1 i σ = some (nI f, σf) ∧ CF σ σf ∧ τ1 0 28 = nI f ∧ τ1 0 29 = σf 3 3 ∧ RF z τ τ1) ∨ (∃ i1 σ1, RN o1 i σ = RN o1 i1 σ1 ∧ CF σ σ1 ∧ RF z τ τ1 ∧ G i1 σ1 τ1)
section OUT
variable {o1 z i : Nat} {σ τ : Mem} {G G2 : Nat → Mem → Mem → Prop} {A : Option Mem} {X : Mem → Option Mem}
theorem Out.step {i1 : Nat} {σ1 τ1 τ2 : Mem} (h : Out o1 z i1 σ1 τ1 G τ2) (hr : RN o1 i σ = RN o1 i1 σ1) (hc : CF σ σ1) (ht : RF z τ τ1) : Out o1 z i σ τ G τ2 := by
  rcases h with ⟨f, σf, h1, h2, h3, h4, h5, h6, h7⟩ | ⟨i2, σ2, h1, h2, h3, h4⟩
  · exact Or.inl ⟨f, σf, h1, h2, hr.trans h3, hc.trans h4, h5, h6, ht.trans h7⟩
  · exact Or.inr ⟨i2, σ2, hr.trans h1, hc.trans h2, ht.trans h3, h4⟩
theorem Out.bind (h : OK A (Out o1 z i σ τ G)) (hg : ∀ i1 σ1 τ1, G i1 σ1 τ1 → OK (X τ1) (Out o1 z i1 σ1 τ1 G2)) (hb : ∀ f τ1, 0 < f ∧ f < 100 → τ1 0 28 = nI f → X τ1 = some τ1) : OK (A.bind X) (Out o1 z i σ τ G2) := by
  rw [ok_bind]
  refine ok_mono h (fun τ1 h1 => ?_)
  rcases h1 with ⟨f, σf, q1, q2, q3, q4, q5, q6, q7⟩ | ⟨i1, σ1, q1, q2, q3, q4⟩
  · rw [hb f τ1 ⟨q1, by omega⟩ q5, ok_some]
    exact Or.inl ⟨f, σf, q1, q2, q3, q4, q5, q6, q7⟩
  · exact ok_mono (hg i1 σ1 τ1 q4) (fun τ2 h2 => h2.step q1 q2 q3)
end OUT
section STEPS
variable {E : Nat} {b : Nat → Nat} {o1 z a d wp mn ic nt i : Nat} {c o w : List Int32} {σ τ : Mem} {k s e v : Nat}
theorem PS.tk (h : PS E b z a d wp mn ic nt c o w i σ τ k s e v) : TK E b σ τ k s e v := h.2.1
theorem PS.se (h : PS E b z a d wp mn ic nt c o w i σ τ k s e v) (hk : k ≠ 0) : s < e ∧ e ≤ E ∧ E ≤ 700 := by
  have h1 := h.2.1.2.2.2.2.2.2.2
  refine ⟨?_, h1.1, h.1.1⟩
  rcases h1.2 with q | q | q | q | q
  · exact absurd q.1 hk
  · exact q.2.1
  · exact q.2.1
  · exact q.2.1
  · exact q.2.1
theorem PS.s700 (h : PS E b z a d wp mn ic nt c o w i σ τ k s e v) : s ≤ 700 := by
  have := h.2.1.2.2.2.2.2.2
  have := h.1.1
  omega
/-- a fault at the token, by a part -/
theorem fail_part {f : Nat} (h : PS E b z a d 1 mn ic nt c o w i σ τ k s e v) (hf : 0 < f ∧ f < 10) (hp : m_X5_takePart σ = some (nI f, σ)) {G : Nat → Mem → Mem → Prop} : Out o1 z i σ τ G (ms (ms τ 0 28 (nI f)) 0 29 (τ 0 26)) := by
  refine Or.inl ⟨f, σ, hf.1, hf.2, RD_partF h.2.2.1.1 hp hf (by have := h.s700; have := h.2.2.2.2.2.1; omega), CF.rfl, ?_, ?_, RF.wrong⟩
  · rw [ms_same, pk_un (by decide), ms_at]
  · rw [ms_at, h.2.1.2.2.2.1, h.2.1.1]
/-- a part taken: next on both sides -/
theorem next_part {q : Mem} {d2 wp2 mn2 ic2 nt2 a2 : Nat} {c2 o2 w2 : List Int32} {τ1 : Mem} (h : PS E b z a d 1 mn ic nt c o w i σ τ k s e v) (hk : k ≠ 0) (hp : m_X5_takePart σ = some (nI 0, q)) (hq : fr [2, 5, 6, 8] σ q) (hS : CS5 q wp2 mn2 ic2 a2 nt2 (1 - z) c2 (o2 ++ w2)) (h0 : τ1 0 = τ 0) (h19 : τ1 19 = τ 19) (hR : RS5 z τ1 (c2 ++ o2)) (hd : dpL (mvz z) (c2 ++ o2) d2) (hl : c2.length + o2.length + w2.length ≤ s + 1) : ∃ σ2 τ2 k2 s2 e2 v2, m_X11_stepOn τ1 = some τ2 ∧ FRt τ1 τ2 ∧ RN o1 i σ = RN o1 (i + 1) σ2 ∧ CF σ σ2 ∧ PS E b z a2 d2 wp2 mn2 ic2 nt2 c2 o2 w2 (i + 1) σ2 τ2 k2 s2 e2 v2 ∧ s < s2 := by
  obtain ⟨h1, h2, h3⟩ := h.se hk
  have hi := h.2.2.2.2.2.1
  have q3 : q 3 = σ 3 := hq 3 (by decide)
  have T1 : TP E b q τ1 := h.1.of q3 (hq 4 (by decide)) (by rw [h0]) h19
  have K1 : TK E b q τ1 k s e v := h.2.1.of q3 h0
  obtain ⟨σ2, τ2, k2, s2, e2, v2, g1, g2, g3, g4, g5, g6⟩ := lex T1 h2 K1.2.1 K1.2.2.2.2.2.1
  refine ⟨σ2, τ2, k2, s2, e2, v2, g2, g4, RD_part h.2.2.1.1 hp g1 (by omega), (CF.of3 hq).trans (CF.ofT g3), ⟨T1.f g3 g4, g6, hS.t g3, hR.t g4, hd, by omega, by omega⟩, by omega⟩
/-- an operator taken -/
theorem next_op {q : Mem} {d2 wp2 mn2 ic2 nt2 a2 : Nat} {c2 o2 w2 : List Int32} (h : PS E b z a d 0 mn ic nt c o w i σ τ k s e v) (hk : k ≠ 0) (hne : ¬ (a = 0 ∧ k = 59)) (ha : a < 100) (hp : m_X5_takeOperator σ = some (nI 0, q)) (hq : fr [2, 5, 6, 8] σ q) (hS : CS5 q wp2 mn2 ic2 a2 nt2 (1 - z) c2 (o2 ++ w2)) (hR : RS5 z τ (c2 ++ o2)) (hd : dpL (mvz z) (c2 ++ o2) d2) (hl : c2.length + o2.length + w2.length ≤ s + 1) : ∃ σ2 τ2 k2 s2 e2 v2, m_X11_stepOn τ = some τ2 ∧ FRt τ τ2 ∧ RN o1 i σ = RN o1 (i + 1) σ2 ∧ CF σ σ2 ∧ PS E b z a2 d2 wp2 mn2 ic2 nt2 c2 o2 w2 (i + 1) σ2 τ2 k2 s2 e2 v2 ∧ s < s2 := by
  obtain ⟨h1, h2, h3⟩ := h.se hk
  have hi := h.2.2.2.2.2.1
  have h128 := h.2.1.k128
  have q3 : q 3 = σ 3 := hq 3 (by decide)
  have T1 : TP E b q τ := h.1.of q3 (hq 4 (by decide)) rfl rfl
  have K1 : TK E b q τ k s e v := h.2.1.of q3 rfl
  obtain ⟨σ2, τ2, k2, s2, e2, v2, g1, g2, g3, g4, g5, g6⟩ := lex T1 h2 K1.2.1 K1.2.2.2.2.2.1
  have hne' : ¬ (σ 2 8 = nI 0 ∧ σ 3 5 = nI 59) := by
    rw [h.2.2.1.2.2.2.1, h.2.1.2.2.1, nI_eq (by omega) (by omega), nI_eq (by omega) (by omega)]
    exact hne
  refine ⟨σ2, τ2, k2, s2, e2, v2, g2, g4, RD_op h.2.2.1.1 hne' hp g1 (by omega), (CF.of3 hq).trans (CF.ofT g3), ⟨T1.f g3 g4, g6, hS.t g3, hR.t g4, hd, by omega, by omega⟩, by omega⟩
theorem opc_k : (opc b k s e = -nI 28 ↔ k = 42) ∧ (opc b k s e = -nI 26 ↔ k = 43) ∧ (opc b k s e = -nI 27 ↔ k = 45) ∧ (opc b k s e = -nI 29 ↔ k = 47) ∧ (opc b k s e = -nI 24 ↔ k = 60) ∧ (opc b k s e = -nI 25 ↔ k = 61) ∧ (opc b k s e = -nI 21 ↔ WD b k s e 18 = true) ∧ (opc b k s e = -nI 22 ↔ WD b k s e 19 = true) := by
  have w1 : k ≠ 1 → WD b k s e 18 = false ∧ WD b k s e 19 = false := fun h => by
    unfold WD
    simp [h]
  unfold opc
  by_cases c42 : k = 42
  · have := w1 (by omega); rw [if_pos c42, this.1, this.2]; subst c42; simp; decide
  rw [if_neg c42]
  by_cases c43 : k = 43
  · have := w1 (by omega); rw [if_pos c43, this.1, this.2]; subst c43; simp; decide
  rw [if_neg c43]
  by_cases c45 : k = 45
  · have := w1 (by omega); rw [if_pos c45, this.1, this.2]; subst c45; simp; decide
  rw [if_neg c45]
  by_cases c47 : k = 47
  · have := w1 (by omega); rw [if_pos c47, this.1, this.2]; subst c47; simp; decide
  rw [if_neg c47]
  by_cases c60 : k = 60
  · have := w1 (by omega); rw [if_pos c60, this.1, this.2]; subst c60; simp; decide
  rw [if_neg c60]
  by_cases c61 : k = 61
  · have := w1 (by omega); rw [if_pos c61, this.1, this.2]; subst c61; simp; decide
  rw [if_neg c61]
  by_cases h18 : WD b k s e 18 = true
  · have h19 := WD_ne (w2 := 19) h18 (by decide +kernel)
    rw [if_pos h18, h18, h19]
    simp [c42, c43, c45, c47, c60, c61]
    decide
  · rw [if_neg h18]
    by_cases h19 : WD b k s e 19 = true
    · rw [if_pos h19, h19]
      simp [c42, c43, c45, c47, c60, c61, h18]
      decide
    · rw [if_neg h19]
      simp [c42, c43, c45, c47, c60, c61, h18, h19]
      decide
theorem opc_set : opc b k s e = -nI 28 ∨ opc b k s e = -nI 26 ∨ opc b k s e = -nI 27 ∨ opc b k s e = -nI 29 ∨ opc b k s e = -nI 24 ∨ opc b k s e = -nI 25 ∨ opc b k s e = -nI 21 ∨ opc b k s e = -nI 22 ∨ opc b k s e = nI 0 := by
  unfold opc
  repeat' split
  all_goals simp
/-- an operator at hand is taken, both sides -/
theorem step_op {x : Int32} (h : PS E b z a d 0 mn ic nt c o w i σ τ k s e v) (hx : opc b k s e = x) (h0 : 1 ≤ bnd x) (ha : a < 7) (hic : ic ≤ 1) (hte : (x = -nI 24 ∨ x = -nI 25) → ic = 0) (ho : ∀ y, y ∈ o → bnd x ≤ bnd y) (hw : topLt w (bnd x)) (hl : (o ++ w).length < 128) : ∃ σ2 τ2 k2 s2 e2 v2, m_X11_stepOn τ = some τ2 ∧ FRt τ τ2 ∧ RN o1 i σ = RN o1 (i + 1) σ2 ∧ CF σ σ2 ∧ PS E b z a d 1 (if x = -nI 21 ∨ x = -nI 22 then 1 else 0) (if (if x = -nI 24 ∨ x = -nI 25 then 1 else 0) = 1 then 1 else if x = -nI 21 ∨ x = -nI 22 then 0 else ic) nt (c ++ o) [] (x :: w) (i + 1) σ2 τ2 k2 s2 e2 v2 ∧ s < s2 := by
  have hx0 : ¬ x = nI 0 := fun q => by
    rw [q] at h0
    exact absurd h0 (by decide)
  have hk0 : k ≠ 0 := fun q => by
    subst q
    apply hx0
    rw [← hx]
    have w1 : WD b 0 s e 18 = false := by unfold WD; simp
    have w2 : WD b 0 s e 19 = false := by unfold WD; simp
    unfold opc
    rw [w1, w2]
    rfl
  have h59 : k ≠ 59 := fun q => by
    subst q
    apply hx0
    rw [← hx]
    have w1 : WD b 59 s e 18 = false := by unfold WD; simp
    have w2 : WD b 59 s e 19 = false := by unfold WD; simp
    unfold opc
    rw [w1, w2]
    rfl
  have hs := h.s700
  have hlen := h.2.2.2.2.2.2
  have hop := C_op_ok h.1 h.2.1 h.2.2.1 hx hx0 hte
  obtain ⟨⟨f, q⟩, eq, q1, q2, q3⟩ := C_op64 (x2 := if x = -nI 24 ∨ x = -nI 25 then 1 else 0) (by split <;> omega) hic h0 h.2.2.1 ho hw (by omega) hl
  rw [eq] at hop
  have q1' : f = nI 0 := q1
  subst q1'
  refine next_op (o2 := []) (w2 := x :: w) h hk0 (fun z => h59 z.2) (by omega) hop q3 q2 ?_ ?_ ?_
  · rw [List.append_nil]; exact h.2.2.2.1
  · rw [List.append_nil]; exact h.2.2.2.2.1
  · rw [List.length_append, List.length_cons, List.length_nil]; omega
/-- the reference lays an operator that waits in the class -/
theorem lay_op {x xr : Int32} {d2 : Nat} (h : PS E b z a d wp mn ic nt c o (x :: w) i σ τ k s e v) (hz : z ≤ 1) (hc : cr xr x) (hd : dst (mvz z) x d d2) : ∃ τ1, m_X11_lay τ xr = some τ1 ∧ RF z τ τ1 ∧ PS E b z a d2 wp mn ic nt c (o ++ [x]) w i σ τ1 k s e v := by
  have hs := h.s700
  obtain ⟨g1, g2, g3, g4, g5, g6, g7⟩ := h
  rw [List.length_cons] at g7
  obtain ⟨τ1, e1, e2, e3, e4, e5⟩ := R_lay hz g4 (by rw [List.length_append]; omega) hc
  refine ⟨τ1, e1, e3, g1.of rfl rfl (by rw [e4]) e5, g2.of rfl e4, ?_, ?_, ?_, g6, ?_⟩
  · have : o ++ [x] ++ w = o ++ x :: w := by simp
    rw [this]; exact g3
  · rw [← List.append_assoc]; exact e2
  · rw [← List.append_assoc]; exact dp_app g5 hd
  · rw [List.length_append, List.length_singleton]; omega
theorem op_dst {x : Int32} {d : Nat} (h : isOpc x) (hd : 1 ≤ d) : dst (mvz z) x (d + 1) d := Or.inr (Or.inr ⟨h, by omega, rfl⟩)
end STEPS

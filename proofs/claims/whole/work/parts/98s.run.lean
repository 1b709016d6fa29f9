/-! rules read: the class' loop as steps; the reference's small steps -/
def rdM (o1 n : Nat) (σ : Mem) (i : Int32) : Option (Int32 × Mem) := if σ 2 5 = nI 0 then (if σ 2 8 = nI 0 then (if σ 3 5 = nI 59 then ((m_X5_release σ (nI 1)).bind fun q7 => (m_X4_copyFrom o1 5 q7).bind fun q8 => some (nI 0, q8)) else f_X5_read_79 o1 (f_X5_read_19 o1 n) σ i) else f_X5_read_79 o1 (f_X5_read_19 o1 n) σ i) else f_X5_read_79 o1 (f_X5_read_19 o1 n) σ i
def RN (o1 i : Nat) (σ : Mem) : Option (Int32 × Mem) := rdM o1 (4095 - i) σ (nI i)
section RUN
variable {o1 i : Nat} {σ τ q q2 : Mem}
theorem RD_0 {n : Nat} (hi : i ≤ 700) (hn : m_X9_next σ = some q) : f_X5_read_19 o1 (n + 1) σ (nI 0) (nI i) = rdM o1 n q (nI i) := by
  rw [f_X5_read_19]
  simp only [pu_lit, if_true]
  rw [if_neg (nI_nlt hi (by omega)), hn, sbind]
  rfl
theorem RD_f {n f : Nat} {x : Int32} (hf : 0 < f ∧ f < 10) : f_X5_read_19 o1 (n + 1) σ (nI f) x = some (nI f, σ) := by
  rw [f_X5_read_19]
  simp only [pu_lit]
  rw [if_neg (nz' hf.1 (by omega)), ite_self]
theorem RD_part (h5 : σ 2 5 = nI 1) (hp : m_X5_takePart σ = some (nI 0, q)) (hn : m_X9_next q = some q2) (hi : i < 700) : RN o1 i σ = RN o1 (i + 1) q2 := by
  unfold RN
  rw [show 4095 - i = (4095 - (i + 1)) + 1 by omega]
  unfold rdM f_X5_read_79
  rw [h5, if_neg (show ¬ nI 1 = nI 0 by decide)]
  simp only [pu_lit]
  rw [if_neg (show ¬ nI 1 = nI 0 by decide), hp, sbind]
  show f_X5_read_19 o1 (4095 - (i + 1) + 1) q (nI 0) (nI i + nI 1) = _
  rw [nI_add, RD_0 (by omega) hn]
  rfl
theorem RD_partF {f : Nat} (h5 : σ 2 5 = nI 1) (hp : m_X5_takePart σ = some (nI f, q)) (hf : 0 < f ∧ f < 10) (hi : i ≤ 700) : RN o1 i σ = some (nI f, q) := by
  unfold RN
  rw [show 4095 - i = (4095 - (i + 1)) + 1 by omega]
  unfold rdM f_X5_read_79
  rw [h5, if_neg (show ¬ nI 1 = nI 0 by decide)]
  simp only [pu_lit]
  rw [if_neg (show ¬ nI 1 = nI 0 by decide), hp, sbind]
  exact RD_f hf
theorem RD_o (h5 : σ 2 5 = nI 0) (hne : ¬ (σ 2 8 = nI 0 ∧ σ 3 5 = nI 59)) : RN o1 i σ = (m_X5_takeOperator σ).bind fun q2 => f_X5_read_19 o1 (4095 - i) q2.2 q2.1 (nI i + nI 1) := by
  unfold RN rdM f_X5_read_79
  rw [h5]
  simp only [pu_lit, if_true]
  by_cases c : σ 2 8 = nI 0
  · rw [if_pos c, if_neg (fun z => hne ⟨c, z⟩)]
  · rw [if_neg c]
theorem RD_op (h5 : σ 2 5 = nI 0) (hne : ¬ (σ 2 8 = nI 0 ∧ σ 3 5 = nI 59)) (hp : m_X5_takeOperator σ = some (nI 0, q)) (hn : m_X9_next q = some q2) (hi : i < 700) : RN o1 i σ = RN o1 (i + 1) q2 := by
  rw [RD_o h5 hne, hp, sbind, show 4095 - i = (4095 - (i + 1)) + 1 by omega]
  show f_X5_read_19 o1 (4095 - (i + 1) + 1) q (nI 0) (nI i + nI 1) = _
  rw [nI_add, RD_0 (by omega) hn]
  rfl
theorem RD_opF {f : Nat} (h5 : σ 2 5 = nI 0) (hne : ¬ (σ 2 8 = nI 0 ∧ σ 3 5 = nI 59)) (hp : m_X5_takeOperator σ = some (nI f, q)) (hf : 0 < f ∧ f < 10) (hi : i ≤ 700) : RN o1 i σ = some (nI f, q) := by
  rw [RD_o h5 hne, hp, sbind, show 4095 - i = (4095 - (i + 1)) + 1 by omega]
  exact RD_f hf
end RUN
section OPS
variable {E : Nat} {b : Nat → Nat} {σ τ : Mem} {k s e v : Nat} {wp mn ic wi nt ht : Nat} {c o w : List Int32}
theorem opc_41 (h : ¬ opc b k s e = nI 0) : k ≠ 41 := by
  intro q
  subst q
  apply h
  have w1 : WD b 41 s e 18 = false := by unfold WD; simp
  have w2 : WD b 41 s e 19 = false := by unfold WD; simp
  unfold opc
  rw [w1, w2]
  rfl
theorem C_op_ok {x : Int32} (hT : TP E b σ τ) (h : TK E b σ τ k s e v) (hS : CS5 σ wp mn ic wi nt ht c w) (hx : opc b k s e = x) (h0 : ¬ x = nI 0) (ht : (x = -nI 24 ∨ x = -nI 25) → ic = 0) : m_X5_takeOperator σ = f_X5_takeOperator_64 σ x (nI (if x = -nI 24 ∨ x = -nI 25 then 1 else 0)) := by
  have hk := h.k128
  have h41 := opc_41 (b := b) (k := k) (s := s) (e := e) (by rw [hx]; exact h0)
  unfold m_X5_takeOperator f_X5_takeOperator_24
  simp only [pu_lit, if_true]
  rw [h.2.2.1, if_neg (show ¬ nI k = nI 41 by rw [nI_eq (by omega) (by omega)]; exact h41), C_opOf hT h, sbind, hx, hS.2.2.1, if_neg h0, if_neg (show ¬ nI 1 = nI 0 by decide)]
  by_cases d1 : x = -nI 24
  · rw [if_pos d1, if_pos (Or.inl d1), ht (Or.inl d1), if_pos rfl]
  · rw [if_neg d1]
    by_cases d2 : x = -nI 25
    · rw [if_pos d2, if_pos (Or.inr d2), ht (Or.inr d2), if_pos rfl]
    · rw [if_neg d2, if_neg (show ¬ (x = -nI 24 ∨ x = -nI 25) from fun z => z.elim d1 d2), if_neg h0]
theorem C_op_bad (hT : TP E b σ τ) (h : TK E b σ τ k s e v) (hS : CS5 σ wp mn ic wi nt ht c w) (hwi : wi < 100) (hx : (opc b k s e = nI 0 ∧ ¬ (k = 41 ∧ 0 < wi)) ∨ ((opc b k s e = -nI 24 ∨ opc b k s e = -nI 25) ∧ ic = 1)) : m_X5_takeOperator σ = some (nI 1, σ) := by
  have hk := h.k128
  have h24 : f_X5_takeOperator_24 σ = some (nI 1, σ) := by
    unfold f_X5_takeOperator_24
    simp only [pu_lit, if_true]
    rw [C_opOf hT h, sbind, hS.2.2.1]
    rcases hx with ⟨q, _⟩ | ⟨q, q2⟩
    · rw [q, if_neg (by decide), if_neg (by decide)]
      simp only [if_true]
    · rw [q2, if_neg (show ¬ nI 1 = nI 0 by decide), if_neg (show ¬ nI 1 = nI 0 by decide)]
      rcases q with q | q
      · rw [q, if_pos rfl, if_neg (by decide)]
      · rw [q, if_neg (by decide), if_pos rfl, if_neg (by decide)]
  unfold m_X5_takeOperator
  simp only [pu_lit]
  rw [h24, h.2.2.1, hS.2.2.2.1]
  by_cases d : k = 41
  · rw [if_pos (by rw [d])]
    have hw0 : wi = 0 := by
      rcases hx with ⟨_, q⟩ | ⟨q, _⟩
      · omega
      · have := opc_41 (b := b) (k := k) (s := s) (e := e) (fun z => by rcases q with q | q <;> rw [q] at z <;> exact absurd z (by decide))
        exact absurd d this
    rw [hw0, if_pos nI_le_self]
  · rw [if_neg (show ¬ nI k = nI 41 by rw [nI_eq (by omega) (by omega)]; exact d)]
theorem C_close {ic2 : Nat} (h : TK E b σ τ 41 s e v) (hS : CS5 σ wp mn ic (wi + 1) nt ht c (o ++ (opn ic2 :: w))) (hi2 : ic2 ≤ 1) (hwi : wi < 100) (ho : ∀ y, y ∈ o → 1 ≤ bnd y) (hc : c.length + o.length ≤ 700) (hl : (o ++ (opn ic2 :: w)).length ≤ 128) : OK (m_X5_takeOperator σ) (fun q => q.1 = nI 0 ∧ CS5 q.2 wp mn ic2 wi nt ht (c ++ o) w ∧ fr [2, 5, 6] σ q.2) := by
  unfold m_X5_takeOperator m_X5_takeClosing
  simp only [pu_lit]
  rw [h.2.2.1, hS.2.2.2.1, if_pos rfl, if_neg (nle' (by omega) (by omega)), ok_bind, ok_bind]
  have hop : bnd (opn ic2) = 0 := by
    rcases (show ic2 = 0 ∨ ic2 = 1 by omega) with rfl | rfl <;> decide
  refine ok_mono (C_release (l := 1) (by omega) o KF σ c (opn ic2 :: w) wp mn ic (wi + 1) nt ht (by rw [List.length_append] at hl; unfold KF; omega) hS ho (fun a r e => by cases e; rw [hop]; decide) hc hl) (fun q hq => ?_)
  obtain ⟨⟨g1, g2, g3, g4, g5, g6, g7, g8⟩, hf⟩ := hq
  have hwl : w.length + 1 ≤ 128 := by rw [List.length_append, List.length_cons] at hl; omega
  rw [g8.1, List.length_cons, if_neg (nle' (by omega) (by omega)), pk_sub (by omega), Nat.add_sub_cancel, ltE, ms_at, pu_gd (by omega) (by decide), nI_clamp (by omega), ms_ne (show 8 ≠ 2 by decide), g8.2.1]
  have fin : ∀ q9 : Mem, q9 = ms (ms (ms q 2 3 (nI w.length)) 2 7 (nI ic2)) 2 8 (nI wi) → CS5 q9 wp mn ic2 wi nt ht (c ++ o) w ∧ fr [2, 5, 6] σ q9 := by
    intro q9 e9
    subst e9
    refine ⟨⟨?_, ?_, ?_, ?_, ?_, ?_, ?_, ?_, ?_⟩, hf.trans (((fr.rfl.ms (by simp)).ms (by simp)).ms (by simp))⟩
    · rw [ms_same, pk_un (by decide), ms_same, pk_un (by decide), ms_same, pk_un (by decide)]; exact g1
    · rw [ms_same, pk_un (by decide), ms_same, pk_un (by decide), ms_same, pk_un (by decide)]; exact g2
    · rw [ms_same, pk_un (by decide), ms_at]
    · exact ms_at
    · rw [ms_same, pk_un (by decide), ms_same, pk_un (by decide), ms_same, pk_un (by decide)]; exact g5
    · rw [ms_same, pk_un (by decide), ms_same, pk_un (by decide), ms_same, pk_un (by decide)]; exact g6
    · unfold CC
      simp (disch := decide) only [ms_ne]
      exact g7
    · rw [ms_same, pk_un (by decide), ms_same, pk_un (by decide), ms_at]
    · rw [ms_ne (by decide), ms_ne (by decide), ms_ne (by decide)]; exact g8.2.2
  have e8 : ∀ y, ms (ms q 2 3 (nI w.length)) 2 7 y 2 8 = nI (wi + 1) := fun y => by rw [ms_same, pk_un (by decide), ms_same, pk_un (by decide)]; exact g4
  rcases (show ic2 = 0 ∨ ic2 = 1 by omega) with rfl | rfl
  · rw [if_neg (by decide), gz01 (Or.inl rfl), ltE, ltE, e8, pk_sub (by omega), Nat.add_sub_cancel, ok_some, ok_some]
    exact ⟨rfl, fin _ rfl⟩
  · rw [if_pos (by decide), gz01 (Or.inr rfl), ltE, ltE, e8, pk_sub (by omega), Nat.add_sub_cancel, ok_some, ok_some]
    exact ⟨rfl, fin _ rfl⟩
end OPS
/-! the reference's small steps -/
def RS5 (z : Nat) (τ : Mem) (R : List Int32) : Prop := τ 0 28 = nI 0 ∧ τ 0 31 = nI z ∧ τ 0 4 = nI z ∧ τ 5 (8 + z) = nI R.length ∧ ∀ j, j < R.length → cr (τ (16 + z) (700 + j)) (R.getD j 0)
def RF (z : Nat) (τ τ1 : Mem) : Prop := fr [0, 5, 16 + z] τ τ1 ∧ (∀ s, s ∉ [22, 24, 25, 26, 27, 28, 29] → τ1 0 s = τ 0 s) ∧ (∀ j, j ≠ 8 + z → τ1 5 j = τ 5 j) ∧ ∀ j, j < 700 → τ1 (16 + z) j = τ (16 + z) j
theorem RF.rfl {z : Nat} {τ : Mem} : RF z τ τ := ⟨fr.rfl, fun _ _ => Eq.refl _, fun _ _ => Eq.refl _, fun _ _ => Eq.refl _⟩
theorem RF.trans {z : Nat} {τ τ1 τ2 : Mem} (h : RF z τ τ1) (h2 : RF z τ1 τ2) : RF z τ τ2 := ⟨h.1.trans h2.1, fun s hs => (h2.2.1 s hs).trans (h.2.1 s hs), fun j hj => (h2.2.2.1 j hj).trans (h.2.2.1 j hj), fun j hj => (h2.2.2.2 j hj).trans (h.2.2.2 j hj)⟩
theorem RF.ofT {z : Nat} {τ τ1 : Mem} (h : FRt τ τ1) : RF z τ τ1 := by
  refine ⟨h.1.mono (by simp), fun s hs => h.2 s (fun q => hs ((show ∀ x, x ∈ [22, 24, 25, 26, 27] → x ∈ [22, 24, 25, 26, 27, 28, 29] by decide) s q)), fun j _ => by rw [h.1 5 (by decide)], fun j _ => by rw [h.1 (16 + z) (by simp)]⟩
theorem RS5.t {z : Nat} {τ τ1 : Mem} {R : List Int32} (h : RS5 z τ R) (hf : FRt τ τ1) : RS5 z τ1 R := by
  unfold RS5
  rw [hf.2 28 (by decide), hf.2 31 (by decide), hf.2 4 (by decide), hf.1 5 (by decide), hf.1 (16 + z) (by simp)]
  exact h
theorem TK.of {E : Nat} {b : Nat → Nat} {σ τ σ1 τ1 : Mem} {k s e v : Nat} (h : TK E b σ τ k s e v) (h3 : σ1 3 = σ 3) (h0 : τ1 0 = τ 0) : TK E b σ1 τ1 k s e v := by
  unfold TK
  rw [h3, h0]
  exact h
theorem TP.of {E : Nat} {b : Nat → Nat} {σ τ σ1 τ1 : Mem} (h : TP E b σ τ) (h3 : σ1 3 = σ 3) (h4 : σ1 4 = σ 4) (h0 : τ1 0 23 = τ 0 23) (h9 : τ1 19 = τ 19) : TP E b σ1 τ1 := by
  unfold TP
  rw [h3, h4, h0, h9]
  exact h
section REFS
variable {E : Nat} {b : Nat → Nat} {σ τ : Mem} {k s e v z : Nat} {R : List Int32}
theorem R_lay {x y : Int32} (hz : z ≤ 1) (h : RS5 z τ R) (hR : R.length < 700) (hc : cr x y) : ∃ τ1, m_X11_lay τ x = some τ1 ∧ RS5 z τ1 (R ++ [y]) ∧ RF z τ τ1 ∧ τ1 0 = τ 0 ∧ τ1 19 = τ 19 := by
  obtain ⟨g1, g2, g3, g4, g5⟩ := h
  refine ⟨ms (ms τ (16 + z) (700 + R.length) x) 5 (8 + z) (nI (R.length + 1)), ?_, ⟨?_, ?_, ?_, ?_, fun j hj => ?_⟩, ⟨?_, fun s _ => ?_, fun j hj => ?_, fun j hj => ?_⟩, ?_, ?_⟩
  · unfold m_X11_lay f_X11_lay_21
    simp only [pu_lit]
    rw [g1, if_pos rfl, g2]
    rcases (show z = 0 ∨ z = 1 by omega) with rfl | rfl
    · simp only [if_true]
      rw [nI_add, ltE, pu_gd (k := 5 + 3) (by decide) (by decide), nI_clamp (n := 5 + 3) (by decide)]
      have g4' : τ 5 (5 + 3) = nI R.length := g4
      rw [g4', nI_add, pu_gd (k := 700 + R.length) (by omega) (by decide), nI_clamp (n := 700 + R.length) (by omega), ltE, pu_gd (k := 5 + 3) (by decide) (by decide), pu_gd (k := 5 + 3) (by decide) (by decide), ltE, ms_ne (by decide), g4', nI_add]
    · rw [if_neg (show ¬ nI 1 = nI 0 by decide), nI_add, ltE, if_neg (show ¬ nI 1 = nI 0 by decide), pu_gd (k := 5 + 4) (by decide) (by decide), nI_clamp (n := 5 + 4) (by decide)]
      have g4' : τ 5 (5 + 4) = nI R.length := g4
      rw [g4', nI_add, pu_gd (k := 700 + R.length) (by omega) (by decide), nI_clamp (n := 700 + R.length) (by omega), ltE, pu_gd (k := 5 + 4) (by decide) (by decide), pu_gd (k := 5 + 4) (by decide) (by decide), ltE, ms_ne (by decide), g4', nI_add]
  · rw [ms_ne (by decide), ms_ne (by omega)]; exact g1
  · rw [ms_ne (by decide), ms_ne (by omega)]; exact g2
  · rw [ms_ne (by decide), ms_ne (by omega)]; exact g3
  · rw [ms_at, List.length_append]; rfl
  · rw [List.length_append, List.length_singleton] at hj
    rw [ms_ne (by omega), ms_same]
    by_cases d : j = R.length
    · subst d; rw [pk_us, gDa]; exact hc
    · rw [pk_un (by omega), gDl (by omega)]; exact g5 j (by omega)
  · exact (fr.rfl.ms (by simp)).ms (by simp)
  · rw [ms_ne (by decide), ms_ne (by omega)]
  · rw [ms_same, pk_un hj, ms_ne (by omega)]
  · rw [ms_ne (by omega), ms_same, pk_un (by omega)]
  · rw [ms_ne (by decide), ms_ne (by omega)]
  · rw [ms_ne (by decide), ms_ne (by omega)]
theorem R_lay_bad {f : Nat} {x : Int32} (hf : 0 < f ∧ f < 100) (hb : τ 0 28 = nI f) : m_X11_lay τ x = some τ := by
  unfold m_X11_lay
  simp only [pu_lit]
  rw [hb, if_neg (nz' hf.1 (by omega))]
theorem R_wrong {f : Nat} (hb : τ 0 28 = nI 0) : m_X11_wrong τ (nI f) = some (ms (ms τ 0 28 (nI f)) 0 29 (τ 0 26)) := by
  unfold m_X11_wrong
  simp only [pu_lit]
  rw [hb, if_pos rfl, ltE, ltE, ms_same, pk_un (by decide)]
theorem RF.wrong {f : Nat} {y : Int32} : RF z τ (ms (ms τ 0 28 (nI f)) 0 29 y) := by
  refine ⟨(fr.rfl.ms (by simp)).ms (by simp), fun s hs => ?_, fun j _ => by rw [ms_ne (by decide), ms_ne (by decide)], fun j _ => by rw [ms_ne (by omega), ms_ne (by omega)]⟩
  have h1 : s ≠ 29 := fun q => hs (by rw [q]; decide)
  have h2 : s ≠ 28 := fun q => hs (by rw [q]; decide)
  rw [ms_same, pk_un h1, ms_same, pk_un h2]
theorem R_which {r1 : Nat} (hT : TP E b σ τ) (h : TK E b σ τ k s e v) (hb : τ 0 28 = nI 0) (hr : (sArr r1).length ≤ 10) : m_X11_which r1 τ = some (enc (vw b k s e (sArr r1) 0)) := by
  have loop : ∀ (n m j : Nat), j + n = (sArr r1).length → n < m → f_X11_which_2 r1 m τ (nI j) = some (enc (vw b k s e ((sArr r1).drop j) j)) := by
    intro n
    induction n with
    | zero =>
      intro m j hj hm
      obtain ⟨m, rfl⟩ : ∃ q, m = q + 1 := ⟨m - 1, by omega⟩
      rw [f_X11_which_2, show wl r1 = nI (sArr r1).length from rfl, if_pos (nI_le (by omega) (by omega)), List.drop_eq_nil_of_le (by omega)]
      rfl
    | succ n ih =>
      intro m j hj hm
      obtain ⟨m, rfl⟩ : ∃ q, m = q + 1 := ⟨m - 1, by omega⟩
      have ed : (sArr r1).drop j = wd r1 j :: (sArr r1).drop (j + 1) := by
        rw [List.drop_eq_getElem_cons (by omega)]
        congr 1
        unfold wd
        rw [List.getD_eq_getElem?_getD, List.getElem?_eq_getElem (by omega)]
        rfl
      rw [f_X11_which_2, show wl r1 = nI (sArr r1).length from rfl, if_neg (nI_ge (by omega) (by omega)), show wn r1 = (sArr r1).length from rfl, pu_gd (by omega) (by omega), nI_clamp (by omega), R_is hT h hb, sbind, ed]
      simp only [pu_lit]
      rw [ite_bI, nI_add]
      show _ = some (enc (if WD b k s e (wd r1 j) = true then some j else vw b k s e ((sArr r1).drop (j + 1)) (j + 1)))
      by_cases d : WD b k s e (wd r1 j) = true
      · rw [if_pos d, if_pos d]; rfl
      · rw [if_neg d, if_neg d]; exact ih m (j + 1) (by omega) (by omega)
  have := loop (sArr r1).length KF 0 (by omega) (by unfold KF; omega)
  rw [List.drop_zero] at this
  exact this
end REFS
/-! how deep -/
def dpL (mv : Nat) (R : List Int32) (d : Nat) : Prop := dpN mv (fun j => R.getD j 0) R.length d
theorem dp_congr {mv : Nat} {f g : Nat → Int32} : ∀ {n d : Nat}, (∀ j, j < n → f j = g j) → dpN mv f n d → dpN mv g n d
  | 0, _, _, h => h
  | n + 1, d, hfg, h => by
    obtain ⟨a, h1, h2⟩ := h
    exact ⟨a, dp_congr (fun j hj => hfg j (by omega)) h1, by rw [← hfg n (by omega)]; exact h2⟩
theorem dp_app {mv d e : Nat} {R : List Int32} {y : Int32} (h : dpL mv R d) (hd : dst mv y d e) : dpL mv (R ++ [y]) e := by
  unfold dpL
  rw [List.length_append]
  refine ⟨d, dp_congr (fun j hj => (gDl hj).symm) h, ?_⟩
  show dst mv ((R ++ [y]).getD R.length 0) d e
  rw [gDa]
  exact hd

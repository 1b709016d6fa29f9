/-! rules read on both sides: the language's pieces -/
section EXPR
variable {E : Nat} {b : Nat → Nat} {o1 z : Nat}
/-- what is owed of the reading of a whole rule at a depth -/
def KE (E : Nat) (b : Nat → Nat) (o1 z a : Nat) (kE : Mem → Int32 → Option Mem) : Prop :=
  (∀ (d i : Nat) (c w : List Int32) (σ τ : Mem) (k s e v : Nat), PS E b z a d 1 1 0 0 c [] w i σ τ k s e v → topLt w 1 → w.length ≤ 12 * a → d ≤ 5 * a → OK (kE τ (nI a)) (Out o1 z i σ τ (EN E b z a (d + 1) 1 11 s w (fun ic x => x = nI 0 ∨ ((x = -nI 24 ∨ x = -nI 25) ∧ ic = 1))))) ∧ ∀ (f : Nat) (τ : Mem) (x : Int32), 0 < f ∧ f < 100 → τ 0 28 = nI f → kE τ x = some τ
theorem val_dst {j d : Nat} (hz : z ≤ 1) (hj : j < mvz z) (hd : d < 64) : dst (mvz z) (-nI 1 - nI j) d (d + 1) := by
  refine Or.inl ⟨?_, hd, rfl⟩
  have k1 : ∀ j, j < 10 → ¬ (-nI 1 - nI j : Int32) < -nI 10 := by decide +kernel
  have k2 : ∀ j, j < 4 → ¬ (-nI 1 - nI j : Int32) < -nI 4 := by decide +kernel
  rcases (show z = 0 ∨ z = 1 by omega) with rfl | rfl
  · exact k1 j hj
  · exact k2 j hj
theorem num_dst {x d : Nat} (hx : x ≤ 9999) (hd : d < 64) (hz : z ≤ 1) : dst (mvz z) (nI x) d (d + 1) := by
  refine Or.inl ⟨fun q => ?_, hd, rfl⟩
  have h1 : (-nI (mvz z) : Int32) < nI 0 := by
    rcases (show z = 0 ∨ z = 1 by omega) with rfl | rfl <;> decide
  exact nn0 (show x < 2147483648 by omega) (Int32.lt_trans q h1)
theorem cr_self {x : Int32} (h : ¬ x < -nI 10) : cr x x := Or.inl ⟨rfl, h⟩
theorem PART {a : Nat} {kE : Mem → Int32 → Option Mem} (hz : z ≤ 1) (ha : a < 6) (hK : KE E b o1 z (a + 1) kE) {d mn ic nt i : Nat} {c w : List Int32} {σ τ : Mem} {k s e v : Nat} (h : PS E b z a d 1 mn ic nt c [] w i σ τ k s e v) (hic : ic ≤ 1) (hn : mn = 0 ∨ (mn = 1 ∧ WD b k s e 17 = false)) (hw : w.length ≤ 12 * a + 11) (hd : d ≤ 5 * a + 5) : OK (m_X11_readPart kE τ (nI a)) (Out o1 z i σ τ (EN E b z a (d + 1) 7 0 (s + 1) w (fun ic' _ => ic' = ic))) := by
  have hs := h.s700
  have hlen := h.2.2.2.2.2.2
  have hb := h.2.2.2.1.1
  have h128 := h.2.1.k128
  have ha28 : τ 0 28 = nI 0 := hb
  have hlc : c.length < 700 → c.length < 700 := id
  have tok : τ 0 24 = nI (if k = 0 then 0 else if k = 1 then 1 else if k = 2 then 2 else if k = 3 then 4 else 3) ∧ (k ≠ 0 → s < e) := by
    refine ⟨?_, fun q => (h.se q).1⟩
    rcases h.2.1.2.2.2.2.2.2.2.2 with q | q | q | q | q
    · rw [q.1]; exact q.2
    · rw [q.1]; exact q.2.2.1
    · rw [q.1]; exact q.2.2.1
    · rw [q.1]; exact q.2.2
    · have := isS_lt q.1
      rw [if_neg (by omega), if_neg (by omega), if_neg (by omega), if_neg (by omega)]; exact q.2.2.1
  unfold m_X11_readPart
  simp only [pu_lit]
  rw [hb, if_pos rfl]
  by_cases k2 : k = 2
  · subst k2
    obtain ⟨h1, h2, h3⟩ := h.se (by decide)
    have t24 : τ 0 24 = nI 2 := tok.1
    rw [t24, if_pos rfl]
    unfold m_X11_readNumber f_X11_readNumber_59
    simp only [pu_lit]
    rw [hb, if_pos rfl, t24, if_pos rfl, h.2.1.2.2.2.2.1, h.2.1.2.2.2.1, pk_sub (by omega)]
    rcases C_part_num h.2.1 h.2.2.1 ha (by omega) with ⟨v1, hp⟩ | ⟨v1, hp⟩
    · have h4 : 4 < e - s := by
        rcases h.2.1.2.2.2.2.2.2.2.2 with q | q | q | q | q
        · omega
        · omega
        · rcases q.2.2.2 with z | z <;> omega
        · omega
        · exact absurd (isS_lt q.1).2 (by omega)
      rw [if_pos (nI_lt h4 (by omega)), R_wrong hb, sbind]
      have e28 : ms (ms τ 0 28 (nI 2)) 0 29 (τ 0 26) 0 28 = nI 2 := by rw [ms_same, pk_un (by decide), ms_at]
      rw [e28, if_neg (show ¬ nI 2 = nI 0 by decide), if_neg (show ¬ nI 2 = nI 0 by decide), sbind, R_lay_bad (f := 2) (by decide) e28, sbind, ok_some]
      exact fail_part h (by decide) hp
    · have hv : e - s ≤ 4 ∧ τ 0 25 = nI v := by
        rcases h.2.1.2.2.2.2.2.2.2.2 with q | q | q | q | q
        · omega
        · omega
        · rcases q.2.2.2 with z | z
          · exact ⟨z.1, z.2.2.2⟩
          · omega
        · omega
        · exact absurd (isS_lt q.1).2 (by omega)
      obtain ⟨⟨f0, q⟩, eq, q1, q2, q3⟩ := hp
      have q1' : f0 = nI 0 := q1
      subst q1'
      rw [if_neg (nI_nlt (by omega) (by omega)), hv.2, if_neg (nn0 (by omega)), if_pos (nI_le v1 (by omega)), ltE]
      simp only [if_true]
      -- the reference steps on, then lays
      obtain ⟨τ1, l1, l2, l3, l4, l5⟩ := R_lay (x := nI v) (y := nI v) hz h.2.2.2.1 (by rw [List.append_nil]; omega) (cr_self (fun q => nn0 (show v < 2147483648 by omega) (Int32.lt_trans q (by decide))))
      rw [List.append_nil] at l2
      have st : ∃ σ2 τ2 k2 s2 e2 v2, m_X11_stepOn τ = some τ2 ∧ FRt τ τ2 ∧ RN o1 i σ = RN o1 (i + 1) σ2 ∧ CF σ σ2 ∧ TP E b σ2 τ2 ∧ TK E b σ2 τ2 k2 s2 e2 v2 ∧ CS5 σ2 0 mn ic a 0 (1 - z) (c ++ [nI v]) ([] ++ w) ∧ s < s2 := by
        have q3' : q 3 = σ 3 := q3 3 (by decide)
        have T1 : TP E b q τ := h.1.of q3' (q3 4 (by decide)) rfl rfl
        have K1 : TK E b q τ 2 s e v := h.2.1.of q3' rfl
        obtain ⟨σ2, τ2, k2, s2, e2, v2, g1, g2, g3, g4, g5, g6⟩ := lex T1 h2 K1.2.1 K1.2.2.2.2.2.1
        have hi := h.2.2.2.2.2.1
        exact ⟨σ2, τ2, k2, s2, e2, v2, g2, g4, RD_part h.2.2.1.1 eq g1 (by omega), (CF.of3 (q3.mono (by decide))).trans (CF.ofT g3), T1.f g3 g4, g6, q2.t g3, by omega⟩
      obtain ⟨σ2, τ2, k2, s2, e2, v2, g1, g2, g3, g4, g5, g6, g7, g8⟩ := st
      obtain ⟨τ3, l1, l2, l3, l4, l5⟩ := R_lay (x := nI v) (y := nI v) hz (h.2.2.2.1.t g2) (by rw [List.append_nil]; omega) (cr_self (fun q => nn0 (show v < 2147483648 by omega) (Int32.lt_trans q (by decide))))
      rw [List.append_nil] at l2
      rw [g1, sbind, sbind, l1, sbind, ok_some]
      have hi := h.2.2.2.2.2.1
      refine Or.inr ⟨i + 1, σ2, g3, g4, (RF.ofT g2).trans l3, mn, ic, c ++ [nI v], [], k2, s2, e2, v2, ⟨g5.of rfl rfl (by rw [l4]) l5, g6.of rfl l4, g7, ?_, ?_, by omega, ?_⟩, by omega, hic, (fun y hy => by cases hy), Nat.le_refl _, rfl⟩
      · rw [List.append_nil]; exact l2
      · rw [List.append_nil]
        have := h.2.2.2.2.1
        rw [List.append_nil] at this
        exact dp_app this (num_dst v1 (by omega) hz)
      · rw [List.length_append, List.length_singleton, List.length_nil]
        rw [List.length_nil] at hlen
        omega
  have k2' : ¬ τ 0 24 = nI 2 := by
    rw [tok.1]
    by_cases c0 : k = 0
    · rw [if_pos c0]; decide
    · rw [if_neg c0]
      by_cases c1 : k = 1
      · rw [if_pos c1]; decide
      · rw [if_neg c1, if_neg k2]
        by_cases c3 : k = 3
        · rw [if_pos c3]; decide
        · rw [if_neg c3]; decide
  rw [if_neg k2']
  by_cases k1 : k = 1
  · subst k1
    obtain ⟨h1, h2, h3⟩ := h.se (by decide)
    have t24 : τ 0 24 = nI 1 := tok.1
    have hv4 : τ 0 4 = nI z := h.2.2.2.1.2.2.1
    have hwh : m_X11_which (vsel (τ 0 4)) τ = some (enc (vw b 1 s e (vls z) 0)) := by
      rw [hv4]
      rcases (show z = 0 ∨ z = 1 by omega) with rfl | rfl
      · rw [show vsel (nI 0) = 3 by decide, R_which h.1 h.2.1 hb (by decide), vw_congr (sArr 3) (vls 0) 0 (by decide +kernel)]
      · rw [show vsel (nI 1) = 4 by decide, R_which h.1 h.2.1 hb (by decide), vw_congr (sArr 4) (vls 1) 0 (by decide +kernel)]
    rw [t24, if_pos rfl, hwh, sbind]
    rcases C_part_val h.1 h.2.1 hz h.2.2.1 ha (by omega) hn with ⟨v1, hp⟩ | ⟨j, v1, hp⟩
    · rw [v1, if_pos (show enc none = -nI 1 from rfl), R_wrong hb, sbind]
      have e28 : ms (ms τ 0 28 (nI 3)) 0 29 (τ 0 26) 0 28 = nI 3 := by rw [ms_same, pk_un (by decide), ms_at]
      rw [R_lay_bad (f := 3) (by decide) e28, sbind, e28, if_neg (show ¬ nI 3 = nI 0 by decide), ok_some]
      exact fail_part h (by decide) hp
    · have hj := vw_lt _ _ _ v1
      have hjm : j < mvz z := by
        have : (vls z).length = mvz z := by
          rcases (show z = 0 ∨ z = 1 by omega) with rfl | rfl <;> rfl
        omega
      have hm10 : mvz z ≤ 10 := by unfold mvz; split <;> omega
      obtain ⟨⟨f0, q⟩, eq, q1, q2, q3⟩ := hp
      have q1' : f0 = nI 0 := q1
      subst q1'
      have hcr : cr (-nI 1 - nI j) (-nI 1 - nI j) := cr_self ((show ∀ j, j < 10 → ¬ (-nI 1 - nI j : Int32) < -nI 10 by decide +kernel) j (by omega))
      obtain ⟨τ1, l1, l2, l3, l4, l5⟩ := R_lay hz h.2.2.2.1 (by rw [List.append_nil]; omega) hcr
      rw [List.append_nil] at l2
      have hdp := h.2.2.2.2.1
      rw [List.append_nil] at hdp
      rw [List.length_nil] at hlen
      obtain ⟨σ2, τ2, k2, s2, e2, v2, g1, g2, g3, g4, g5, g6⟩ := next_part (o1 := o1) (o2 := []) (w2 := w) (d2 := d + 1) h (by decide) eq (q3.mono (by decide)) q2 l4 l5 (by rw [List.append_nil]; exact l2) (by rw [List.append_nil]; exact dp_app hdp (val_dst hz hjm (by omega))) (by rw [List.length_append, List.length_singleton, List.length_nil]; omega)
      rw [v1, if_neg (show ¬ enc (some j) = -nI 1 from fun z => (nI_nm1 (show j < 2147483648 by omega)).mp z), show enc (some j) = nI j from rfl, l1, sbind, l2.1]
      simp only [if_true]
      rw [g1, sbind, ok_some]
      exact Or.inr ⟨i + 1, σ2, g3, g4, l3.trans (RF.ofT g2), mn, ic, _, [], k2, s2, e2, v2, g5, by omega, hic, (fun y hy => by cases hy), Nat.le_refl _, rfl⟩
  have k1' : ¬ τ 0 24 = nI 1 := by
    rw [tok.1]
    by_cases c0 : k = 0
    · rw [if_pos c0]; decide
    · rw [if_neg c0, if_neg k1, if_neg k2]
      by_cases c3 : k = 3
      · rw [if_pos c3]; decide
      · rw [if_neg c3]; decide
  rw [if_neg k1']
  have mk : m_X11_mark τ (nI 40) = if k = 40 then m_X11_stepOn τ else some (ms (ms τ 0 28 (nI 1)) 0 29 (τ 0 26)) := by
    unfold m_X11_mark
    simp only [pu_lit]
    rw [hb, if_pos rfl, R_mkd h.1 h.2.1 hb (by decide), sbind]
    by_cases c : k = 40
    · rw [decide_eq_true c, if_neg bI_t, if_pos c]
      simp only [if_true]
      cases m_X11_stepOn τ <;> rfl
    · rw [decide_eq_false c, if_pos (show bI false = nI 0 by decide), if_neg c, R_wrong hb, sbind]
      rw [show ms (ms τ 0 28 (nI 1)) 0 29 (τ 0 26) 0 28 = nI 1 by rw [ms_same, pk_un (by decide), ms_at], if_neg (show ¬ nI 1 = nI 0 by decide)]
  rw [mk]
  by_cases k40 : k = 40
  · subst k40
    obtain ⟨h1, h2, h3⟩ := h.se (by decide)
    rw [List.length_nil] at hlen
    obtain ⟨⟨f0, q⟩, eq, q1, q2, q3⟩ := C_part_open h.2.1 h.2.2.1 ha (by rw [List.nil_append]; omega) hic
    have q1' : f0 = nI 0 := q1
    subst q1'
    have hR := h.2.2.2.1
    have hdp := h.2.2.2.2.1
    obtain ⟨σ2, τ2, k2, s2, e2, v2, g1, g2, g3, g4, g5, g6⟩ := next_part (o1 := o1) (o2 := []) (w2 := opn ic :: w) (c2 := c) (τ1 := τ) (d2 := d) h (by decide) eq (q3.mono (by decide)) q2 rfl rfl hR hdp (by rw [List.length_nil, List.length_cons]; omega)
    rw [if_pos rfl, g1, sbind, nI_add]
    have hop : bnd (opn ic) = 0 := by
      rcases (show ic = 0 ∨ ic = 1 by omega) with rfl | rfl <;> decide
    have hEx := hK.1 d (i + 1) c (opn ic :: w) σ2 τ2 k2 s2 e2 v2 g5 (fun x r ex => by cases ex; rw [hop]; decide) (by rw [List.length_cons]; omega) (by omega)
    have hfin : OK ((kE τ2 (nI (a + 1))).bind fun q5 => (m_X11_mark q5 (nI 41)).bind fun q6 => some q6) (Out o1 z (i + 1) σ2 τ2 (EN E b z a (d + 1) 7 0 (s + 1) w (fun ic' _ => ic' = ic))) := by
      refine Out.bind hEx (fun i3 σ3 τ3 hE3 => ?_) (fun f τ3 hf hb3 => by rw [bad_mark hf hb3, sbind])
      obtain ⟨mn3, ic3, c3, o3, k3, s3, e3, v3, p1, p2, p3, p4, p5, p6⟩ := hE3
      have hb3 := p1.2.2.2.1.1
      have hl3 := p1.2.2.2.2.2.2
      have hs3 := p1.s700
      rw [List.length_cons] at hl3
      have mk3 : m_X11_mark τ3 (nI 41) = if k3 = 41 then m_X11_stepOn τ3 else some (ms (ms τ3 0 28 (nI 1)) 0 29 (τ3 0 26)) := by
        unfold m_X11_mark
        simp only [pu_lit]
        rw [hb3, if_pos rfl, R_mkd p1.1 p1.2.1 hb3 (by decide), sbind]
        by_cases c : k3 = 41
        · rw [decide_eq_true c, if_neg bI_t, if_pos c]
          simp only [if_true]
          cases m_X11_stepOn τ3 <;> rfl
        · rw [decide_eq_false c, if_pos (show bI false = nI 0 by decide), if_neg c, R_wrong hb3, sbind]
          rw [show ms (ms τ3 0 28 (nI 1)) 0 29 (τ3 0 26) 0 28 = nI 1 by rw [ms_same, pk_un (by decide), ms_at], if_neg (show ¬ nI 1 = nI 0 by decide)]
      rw [mk3]
      by_cases c41 : k3 = 41
      · subst c41
        rw [if_pos rfl]
        obtain ⟨⟨f0, q⟩, eq3, r1, r2, r3⟩ := C_close (ic2 := ic) p1.2.1 p1.2.2.1 hic (by omega) p4 (by omega) (by rw [List.length_append, List.length_cons]; omega)
        have r1' : f0 = nI 0 := r1
        subst r1'
        obtain ⟨σ4, τ4, k4, s4, e4, v4, t1, t2, t3, t4, t5, t6⟩ := next_op (o1 := o1) (o2 := []) (w2 := w) (c2 := c3 ++ o3) (d2 := d + 1) p1 (by decide) (fun zz => by omega) (by omega) eq3 (r3.mono (by decide)) r2 (by rw [List.append_nil]; exact p1.2.2.2.1) (by rw [List.append_nil]; exact p1.2.2.2.2.1) (by rw [List.length_append, List.length_nil]; omega)
        rw [t1, sbind, ok_some]
        exact Or.inr ⟨i3 + 1, σ4, t3, t4, RF.ofT t2, mn3, ic, c3 ++ o3, [], k4, s4, e4, v4, t5, by omega, hic, (fun y hy => by cases hy), Nat.le_refl _, rfl⟩
      · rw [if_neg c41, sbind, ok_some]
        have hbad := C_op_bad p1.1 p1.2.1 p1.2.2.1 (by omega) (p6.imp (fun z => ⟨z, fun y => c41 y.1⟩) id)
        have hne' : ¬ (σ3 2 8 = nI 0 ∧ σ3 3 5 = nI 59) := fun z => by
          have := z.1
          rw [p1.2.2.1.2.2.2.1] at this
          exact nz' (by omega) (by omega) this
        refine Or.inl ⟨1, σ3, by decide, by decide, RD_opF p1.2.2.1.1 hne' hbad (by decide) (by have := p1.2.2.2.2.2.1; omega), CF.rfl, ?_, ?_, RF.wrong⟩
        · rw [ms_same, pk_un (by decide), ms_at]
        · rw [ms_at, p1.2.1.2.2.2.1, p1.2.1.1]
    exact ok_mono hfin (fun τ9 h9 => h9.step g3 g4 (RF.ofT g2))
  · rw [if_neg k40, sbind]
    have e28 : ms (ms τ 0 28 (nI 1)) 0 29 (τ 0 26) 0 28 = nI 1 := by rw [ms_same, pk_un (by decide), ms_at]
    rw [hK.2 1 _ _ (by decide) e28, sbind, bad_mark (f := 1) (by decide) e28, sbind, ok_some]
    exact fail_part h (by decide) (C_part_bad h.2.1 ⟨k1, k2, k40⟩)
end EXPR

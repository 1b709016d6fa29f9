/-! the numbers and the words of a line -/
theorem TK.se {E : Nat} {b : Nat → Nat} {σ τ : Mem} {k s e v : Nat} (h : TK E b σ τ k s e v) (hk : k ≠ 0) : s < e ∧ e ≤ E := by
  refine ⟨?_, h.2.2.2.2.2.2.2.1⟩
  rcases h.2.2.2.2.2.2.2.2 with q | q | q | q | q
  · exact absurd q.1 hk
  · exact q.2.1
  · exact q.2.1
  · exact q.2.1
  · exact q.2.1
def RNs (l y : Nat) (kk : Mem → Option Mem) : List (Nat × Nat) → Mem → Option Mem
  | [], τ => kk τ
  | x :: r, τ => (m_X11_readNumber τ (nI l) (nI x.2)).bind fun q => RNs l y kk r (ms q.2 x.1 y q.1)
theorem RNs_k {l y : Nat} {kk : Mem → Option Mem} : ∀ (r : List (Nat × Nat)) (τ : Mem), RNs l y kk r τ = (RNs l y some r τ).bind kk
  | [], τ => rfl
  | x :: r, τ => by
    rw [RNs, RNs]
    cases m_X11_readNumber τ (nI l) (nI x.2) with
    | none => rfl
    | some q => rw [sbind, sbind]; exact RNs_k r _
theorem RNs_bad {l y f : Nat} : ∀ (r : List (Nat × Nat)) (τ : Mem), (∀ x, x ∈ r → (5 ≤ x.1 ∧ x.1 ≤ 17) ∧ lo x.1 ≤ y) → 0 < f ∧ f < 100 → τ 0 28 = nI f → OK (RNs l y some r τ) (fun τ1 => RLF τ τ1 ∧ τ1 0 = τ 0)
  | [], τ, _, _, _ => ⟨τ, rfl, RLF.rfl, rfl⟩
  | x :: r, τ, h, hf, hb => by
    obtain ⟨h1, h2⟩ := h x (List.mem_cons_self ..)
    have e0 : ms τ x.1 y (nI 0) 0 = τ 0 := ms_ne (by omega)
    obtain ⟨τ1, e1, g1, g2⟩ := RNs_bad r (ms τ x.1 y (nI 0)) (fun z hz => h z (List.mem_cons_of_mem _ hz)) hf (by rw [e0]; exact hb)
    refine ⟨τ1, ?_, (RLF.rfl.put h1 h2).trans g1, g2.trans e0⟩
    rw [RNs, R_num_bad hf hb, sbind]; exact e1
def FN (L : List Nat) (y : Nat) (τ τ1 : Mem) : Prop := fr (0 :: L) τ τ1 ∧ (∀ s, s ∉ [22, 24, 25, 26, 27] → τ1 0 s = τ 0 s) ∧ ∀ c, c ≠ 0 → ∀ j, j ≠ y → τ1 c j = τ c j
theorem NS {E : Nat} {b : Nat → Nat} {t2 l n y : Nat} (hlen : tLen t2 = nI n) (hnum : tNum t2 = n) (hn : n ≤ 4) (hl : l ≤ 1) : ∀ (r : List (Nat × Nat)) (j m : Nat) (σ τ : Mem) (k s e v : Nat), TP E b σ τ → TK E b σ τ k s e v → τ 0 28 = nI 0 → j + r.length = n → r.length < m → (∀ i, i < r.length → tv t2 (j + i) = nI (r.getD i (0, 0)).2) → (∀ x, x ∈ r → x.2 ≤ 999 ∧ (5 ≤ x.1 ∧ x.1 ≤ 17) ∧ lo x.1 ≤ y) → (r.map Prod.fst).Nodup → OK (RNs l y some r τ) (fun τ1 =>
    (∃ f σf, 0 < f ∧ f < 10 ∧ f_X3_readNumbers_9 t2 (nI l) m σ (nI j) = some (nI f, σf) ∧ CLF σ σf ∧ RLF τ τ1 ∧ τ1 0 28 = nI f ∧ τ1 0 29 = σf 3 3) ∨
    (∃ σf k2 s2 e2 v2, f_X3_readNumbers_9 t2 (nI l) m σ (nI j) = some (nI 0, σf) ∧ fr [3, 21] σ σf ∧ σf 3 1 = σ 3 1 ∧ σf 3 2 = σ 3 2 ∧ (∀ i, i < j → σf 21 i = σ 21 i) ∧ FN (r.map Prod.fst) y τ τ1 ∧ (∀ i, i < r.length → ∃ w, l ≤ w ∧ w ≤ (r.getD i (0, 0)).2 ∧ σf 21 (j + i) = nI w ∧ τ1 (r.getD i (0, 0)).1 y = nI w) ∧ TP E b σf τ1 ∧ TK E b σf τ1 k2 s2 e2 v2 ∧ s ≤ s2 ∧ RLF τ τ1)) := by
  intro r
  induction r with
  | nil =>
    intro j m σ τ k s e v hT h hb hj hm _ _ _
    obtain ⟨m, rfl⟩ : ∃ m', m = m' + 1 := ⟨m - 1, by omega⟩
    have hj' : j = n := hj
    subst hj'
    refine ⟨τ, rfl, Or.inr ⟨σ, k, s, e, v, ?_, fr.rfl, rfl, rfl, fun _ _ => rfl, ⟨fr.rfl, fun _ _ => rfl, fun _ _ _ _ => rfl⟩, fun i hi => absurd hi (by simp), hT, h, Nat.le_refl _, RLF.rfl⟩⟩
    rw [f_X3_readNumbers_9, hlen, if_pos nI_le_self]
    rfl
  | cons x r ih =>
    intro j m σ τ k s e v hT h hb hj hm htv hx hnd
    obtain ⟨m, rfl⟩ : ∃ m', m = m' + 1 := ⟨m - 1, by omega⟩
    rw [List.length_cons] at hj hm
    obtain ⟨x1, x2, x3⟩ := hx x (List.mem_cons_self ..)
    rw [List.map_cons, List.nodup_cons] at hnd
    have hv0 : tv t2 j = nI x.2 := htv 0 (by simp)
    rcases NSTEP (m := m) hT h hb hlen hnum hn (by omega) hv0 x1 hl with ⟨f, f1, f2, f3, f4⟩ | ⟨g1, g2, σ1, τ1, k1, s1, e1, v1, g3, g4, g5, g6, g7, g8, g9⟩
    · rw [RNs, f4, sbind]
      have e0 : ms (ms (ms τ 0 28 (nI f)) 0 29 (τ 0 26)) x.1 y (nI 0) 0 = ms (ms τ 0 28 (nI f)) 0 29 (τ 0 26) 0 := ms_ne (by omega)
      have e28 : ms (ms τ 0 28 (nI f)) 0 29 (τ 0 26) 0 28 = nI f := by rw [ms_same, pk_un (by decide), ms_at]
      have e29 : ms (ms τ 0 28 (nI f)) 0 29 (τ 0 26) 0 29 = nI s := by rw [ms_at]; exact h.2.2.2.1
      obtain ⟨τ1, q1, q2, q3⟩ := RNs_bad (l := l) (f := f) r (ms (ms (ms τ 0 28 (nI f)) 0 29 (τ 0 26)) x.1 y (nI 0)) (fun z hz => (hx z (List.mem_cons_of_mem _ hz)).2) ⟨f1, by omega⟩ (by rw [e0]; exact e28)
      refine ⟨τ1, q1, Or.inl ⟨f, σ, f1, f2, f3, CLF.rfl, (((RLF.rfl.put0 (by decide)).put0 (by decide)).put x2 x3).trans q2, ?_, ?_⟩⟩
      · rw [q3, e0]; exact e28
      · rw [q3, e0, e29, h.1]
    · rw [RNs, g3, sbind]
      dsimp only
      have e0 : ms τ1 x.1 y (nI v) 0 = τ1 0 := ms_ne (by omega)
      have hl19 : x.1 ≠ 19 := by omega
      have T1 : TP E b σ1 (ms τ1 x.1 y (nI v)) := g7.of rfl rfl (by rw [e0]) (ms_ne (Ne.symm hl19))
      have K1 : TK E b σ1 (ms τ1 x.1 y (nI v)) k1 s1 e1 v1 := g8.of rfl e0
      have b1 : ms τ1 x.1 y (nI v) 0 28 = nI 0 := by rw [e0, g6.2 28 (by decide)]; exact hb
      have L1 : RLF τ (ms τ1 x.1 y (nI v)) := (RLF.ofT g6).put x2 x3
      have C1 : CLF σ σ1 := (CLF.rfl.put (k := 21) ⟨by decide, by decide⟩).trans (CLF.ofT g5)
      have h21 : σ1 21 = upd (σ 21) j (nI v) := by rw [g5.1 21 (by decide), ms_same]
      refine ok_mono (ih (j + 1) m σ1 (ms τ1 x.1 y (nI v)) k1 s1 e1 v1 T1 K1 b1 (by omega) (by omega) (fun i hi => ?_) (fun z hz => hx z (List.mem_cons_of_mem _ hz)) hnd.2) (fun τ2 hO => ?_)
      · have := htv (i + 1) (by rw [List.length_cons]; omega)
        rw [show j + 1 + i = j + (i + 1) by omega, this]; rfl
      rw [g4]
      rcases hO with ⟨f, σf, p1, p2, p3, p4, p5, p6, p7⟩ | ⟨σf, k2, s2, e2, v2, p1, p2, p3, p4, p5, p6, p7, p8, p9, p10, p11⟩
      · exact Or.inl ⟨f, σf, p1, p2, p3, C1.trans p4, L1.trans p5, p6, p7⟩
      · have f1 : fr [3, 21] σ σ1 := (fr.rfl.ms (k := 21) (by decide)).trans (g5.1.mono (by decide))
        refine Or.inr ⟨σf, k2, s2, e2, v2, p1, f1.trans p2, by rw [p3]; exact C1.2.1, by rw [p4]; exact C1.2.2, fun i hi => ?_, ⟨?_, fun q hq => ?_, fun c hc q hq => ?_⟩, fun i hi => ?_, p8, p9, by omega, L1.trans p11⟩
        · rw [p5 i (by omega), h21, pk_un (by omega)]
        · intro c hc
          rw [List.map_cons, List.mem_cons, List.mem_cons, not_or, not_or] at hc
          rw [p6.1 c (by rw [List.mem_cons, not_or]; exact ⟨hc.1, hc.2.2⟩), ms_ne hc.2.1, g6.1 c (by simp; exact hc.1)]
        · rw [p6.2.1 q hq, e0]; exact g6.2 q hq
        · rw [p6.2.2 c hc q hq]
          by_cases d : c = x.1
          · subst d; rw [ms_same, pk_un hq, g6.1 x.1 (by simp; exact hc)]
          · rw [ms_ne d, g6.1 c (by simp; exact hc)]
        · cases i with
          | zero =>
            refine ⟨v, g1, g2, ?_, ?_⟩
            · rw [Nat.add_zero, p5 j (by omega), h21, pk_us]
            · show τ2 x.1 y = nI v
              rw [p6.1 x.1 (by rw [List.mem_cons, not_or]; exact ⟨by omega, hnd.1⟩), ms_at]
          | succ i =>
            rw [List.length_cons] at hi
            obtain ⟨w, w1, w2, w3, w4⟩ := p7 i (by omega)
            exact ⟨w, w1, w2, by rw [show j + (i + 1) = j + 1 + i by omega]; exact w3, w4⟩
section LW
variable {E : Nat} {b : Nat → Nat} {σ τ : Mem} {k s e v : Nat}
theorem MK59 (hT : TP E b σ τ) (h : TK E b σ τ k s e v) (hb : τ 0 28 = nI 0) : OK (m_X11_mark τ (nI 59)) (fun τ1 => (¬ σ 3 5 = nI 59 ∧ τ1 0 28 = nI 1 ∧ τ1 0 29 = σ 3 3 ∧ RLF τ τ1) ∨ (σ 3 5 = nI 59 ∧ ∃ σ2 k2 s2 e2 v2, m_X9_next σ = some σ2 ∧ FCt σ σ2 ∧ FRt τ τ1 ∧ TP E b σ2 τ1 ∧ TK E b σ2 τ1 k2 s2 e2 v2 ∧ s < s2)) := by
  have h128 := h.k128
  unfold m_X11_mark
  simp only [pu_lit]
  rw [hb, if_pos rfl, R_mkd hT h hb (by decide), sbind, h.2.2.1]
  by_cases c : k = 59
  · subst c
    obtain ⟨hse, he⟩ := h.se (by decide)
    obtain ⟨σ5, τ5, k5, s5, e5, v5, t1, t2, t3, t4, t5, t6⟩ := lex hT he h.2.1 h.2.2.2.2.2.1
    rw [decide_eq_true rfl, if_neg bI_t]
    simp only [if_true]
    rw [t2, sbind, ok_some]
    exact Or.inr ⟨trivial, σ5, k5, s5, e5, v5, t1, t3, t4, hT.f t3 t4, t6, by omega⟩
  · rw [decide_eq_false c, if_pos (show bI false = nI 0 by decide), R_wrong hb, sbind]
    rw [show ms (ms τ 0 28 (nI 1)) 0 29 (τ 0 26) 0 28 = nI 1 by rw [ms_same, pk_un (by decide), ms_at], if_neg (show ¬ nI 1 = nI 0 by decide), ok_some]
    refine Or.inl ⟨by rw [nI_eq (by omega) (by omega)]; exact c, by rw [ms_same, pk_un (by decide), ms_at], by rw [ms_at, h.2.2.2.1, h.1], (RLF.rfl.put0 (by decide)).put0 (by decide)⟩
theorem w7n : ∀ i, i < 7 → ∀ j, j < 7 → i ≠ j → ¬ sByt.getD (10 + i) [] = sByt.getD (10 + j) [] := by decide +kernel
theorem W7 : (∃ i, i < 7 ∧ ∀ j, j < 7 → WD b k s e (10 + j) = decide (j = i)) ∨ ∀ j, j < 7 → WD b k s e (10 + j) = false := by
  by_cases c : ∃ i, i < 7 ∧ WD b k s e (10 + i) = true
  · obtain ⟨i, hi, hw⟩ := c
    refine Or.inl ⟨i, hi, fun j hj => ?_⟩
    by_cases d : j = i
    · subst d; rw [hw, decide_eq_true rfl]
    · rw [decide_eq_false d]; exact WD_ne hw (w7n i hi j hj (Ne.symm d))
  · refine Or.inr (fun j hj => ?_)
    cases q : WD b k s e (10 + j) with
    | false => rfl
    | true => exact absurd ⟨j, hj, q⟩ c
theorem bpair {x : Option (Int32 × Mem)} : (x.bind fun q => some (q.1, q.2)) = x := by cases x <;> rfl
theorem C_line (hT : TP E b σ τ) (h : TK E b σ τ k s e v) : m_X3_readLine σ = if WD b k s e 10 = true then m_X3_readHouse σ else if WD b k s e 11 = true then m_X3_readHouse σ else if WD b k s e 12 = true then m_X3_readTenant σ else if WD b k s e 13 = true then m_X3_readTenant σ else if WD b k s e 14 = true then m_X3_readLife σ else if WD b k s e 15 = true then m_X5_read 14 σ (nI 1) else if WD b k s e 16 = true then m_X5_read 17 σ (nI 0) else some (nI 1, σ) := by
  unfold m_X3_readLine
  simp only [pu_lit, C_isWord hT h, sbind, ite_bI, bpair]
theorem R_line {x : Int32} (hT : TP E b σ τ) (h : TK E b σ τ k s e v) (hb : τ 0 28 = nI 0) : m_X11_readLine τ x = f_X11_readLine_61 τ x (enc (vw b k s e [10, 11] 0)) (enc (vw b k s e [12, 13] 0)) (if WD b k s e 14 = true then nI 1 else if WD b k s e 15 = true then nI 2 else if WD b k s e 16 = true then nI 4 else nI 0) := by
  unfold m_X11_readLine
  rw [R_which hT h hb (by decide), sbind, R_which hT h hb (by decide), sbind, vw_congr (sArr 1) [10, 11] 0 (by decide +kernel), vw_congr (sArr 2) [12, 13] 0 (by decide +kernel)]
  simp only [pu_lit, R_is hT h hb, sbind, ite_bI]
  rw [WD_eq (w := 47) (w2 := 14) (by decide +kernel), WD_eq (w := 48) (w2 := 15) (by decide +kernel), WD_eq (w := 49) (w2 := 16) (by decide +kernel)]
  cases WD b k s e 14 <;> cases WD b k s e 15 <;> cases WD b k s e 16 <;> rfl
end LW

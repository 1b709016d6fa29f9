/-! words; what the class' reader of rules does at a token -/
def wqL (b : Nat → Nat) (s : Nat) (l : List Int32) : Nat → Nat → Bool
  | 0, _ => true
  | k + 1, j => decide (nI (b (s + j)) = l.getD j (nI 0)) && wqL b s l k (j + 1)
def wq (b : Nat → Nat) (s e : Nat) (l : List Int32) : Bool := decide (e - s = l.length) && wqL b s l l.length 0
/-- the token is the word number w -/
def WD (b : Nat → Nat) (k s e w : Nat) : Bool := decide (k = 1) && wq b s e (sByt.getD w [])
theorem wqL_iff {b : Nat → Nat} {s : Nat} {l : List Int32} : ∀ (k j : Nat), wqL b s l k j = true ↔ ∀ i, j ≤ i → i < j + k → nI (b (s + i)) = l.getD i (nI 0)
  | 0, j => ⟨fun _ i h1 h2 => absurd h2 (by omega), fun _ => rfl⟩
  | k + 1, j => by
    show (decide (nI (b (s + j)) = l.getD j (nI 0)) && wqL b s l k (j + 1)) = true ↔ _
    rw [Bool.and_eq_true, wqL_iff k (j + 1), decide_eq_true_eq]
    constructor
    · rintro ⟨h1, h2⟩ i q1 q2
      by_cases c : i = j
      · subst c; exact h1
      · exact h2 i (by omega) (by omega)
    · intro h
      exact ⟨h j (by omega) (by omega), fun i q1 q2 => h i (by omega) (by omega)⟩
theorem wq_inj {b : Nat → Nat} {s e : Nat} {l m : List Int32} (h1 : wq b s e l = true) (h2 : wq b s e m = true) : l = m := by
  unfold wq at h1 h2
  rw [Bool.and_eq_true, decide_eq_true_eq, wqL_iff] at h1 h2
  apply List.ext_getElem?
  intro i
  have hl : l.length = m.length := by omega
  rcases Nat.lt_or_ge i l.length with q | q
  · have a1 := h1.2 i (by omega) (by omega)
    have a2 := h2.2 i (by omega) (by omega)
    rw [a1, List.getD_eq_getElem?_getD, List.getD_eq_getElem?_getD] at a2
    rw [List.getElem?_eq_getElem q, List.getElem?_eq_getElem (by omega)] at a2 ⊢
    exact congrArg some a2
  · rw [List.getElem?_eq_none q, List.getElem?_eq_none (by omega)]
theorem WD_ne {b : Nat → Nat} {k s e w w2 : Nat} (h : WD b k s e w = true) (hn : ¬ sByt.getD w [] = sByt.getD w2 []) : WD b k s e w2 = false := by
  cases h2 : WD b k s e w2 with
  | false => rfl
  | true =>
    unfold WD at h h2
    rw [Bool.and_eq_true] at h h2
    exact absurd (wq_inj h.2 h2.2) hn
theorem WD_eq {b : Nat → Nat} {k s e w w2 : Nat} (h : sByt.getD w [] = sByt.getD w2 []) : WD b k s e w = WD b k s e w2 := by
  unfold WD
  rw [h]
theorem WD_k {b : Nat → Nat} {k s e w : Nat} (h : WD b k s e w = true) : k = 1 := by
  unfold WD at h
  rw [Bool.and_eq_true, decide_eq_true_eq] at h
  exact h.1
section WORDS
variable {E : Nat} {b : Nat → Nat} {σ τ : Mem} {k s e v : Nat}
theorem isS_lt {k : Nat} (h : isS k = true) : k < 128 ∧ 40 ≤ k := by
  unfold isS at h
  simp at h
  omega
theorem TK.k128 (h : TK E b σ τ k s e v) : k < 128 := by
  rcases h.2.2.2.2.2.2.2.2 with q | q | q | q | q
  · omega
  · omega
  · omega
  · omega
  · exact (isS_lt q.1).1
theorem C_isWord {w : Nat} (hT : TP E b σ τ) (h : TK E b σ τ k s e v) : m_X9_isWord w σ = some (bI (WD b k s e w)) := by
  have hE := hT.1
  have h128 := h.k128
  obtain ⟨h1, h2, h3, _, _, _, h7, h8, h9⟩ := h
  unfold m_X9_isWord WD wq
  simp only [pu_lit]
  rw [h1, h2, h3, pk_sub h7]
  by_cases c : k = 1
  · subst c
    rw [if_pos rfl]
    have hl : ∀ j, s ≤ j → j < e → b j < 128 := by
      rcases h9 with q | q | q | q | q
      · omega
      · exact q.2.2.2
      · omega
      · omega
      · exact absurd (isS_lt q.1).2 (by omega)
    have loop : ∀ (n m j : Nat), j + n = (sByt.getD w []).length → n < m → s + (sByt.getD w []).length = e → f_X9_isWord_28 w m σ (nI j) = some (bI (wqL b s (sByt.getD w []) n j)) := by
      intro n
      induction n with
      | zero =>
        intro m j hj hm he
        obtain ⟨m, rfl⟩ : ∃ q, m = q + 1 := ⟨m - 1, by omega⟩
        rw [f_X9_isWord_28, show sLen w = nI (sByt.getD w []).length from rfl, if_pos (nI_le (by omega) (by omega))]
        rfl
      | succ n ih =>
        intro m j hj hm he
        obtain ⟨m, rfl⟩ : ∃ q, m = q + 1 := ⟨m - 1, by omega⟩
        have hb := hl (s + j) (by omega) (by omega)
        rw [f_X9_isWord_28, show sLen w = nI (sByt.getD w []).length from rfl, if_neg (nI_ge (by omega) (by omega)), h1, nI_add, pu_gd (k := s + j) (by omega) (by decide), nI_clamp (n := s + j) (by omega), show sNum w = (sByt.getD w []).length from rfl, pu_gd (k := j) (by omega) (by omega), nI_clamp (n := j) (by omega), (hT.2.2.2 (s + j) (by omega)).2.2, by8_s _ hb, show sch w j = (sByt.getD w []).getD j (nI 0) from rfl]
        simp only [pu_lit]
        show _ = some (bI (decide (nI (b (s + j)) = (sByt.getD w []).getD j (nI 0)) && wqL b s (sByt.getD w []) n (j + 1)))
        by_cases d : nI (b (s + j)) = (sByt.getD w []).getD j (nI 0)
        · rw [if_pos d, nI_add, decide_eq_true d, Bool.true_and]
          exact ih m (j + 1) (by omega) (by omega) he
        · rw [if_neg d, decide_eq_false d, Bool.false_and]; rfl
    have hL50 : (sByt.getD w []).length < 1000 := by
      have : ∀ l, l ∈ sByt → l.length < 1000 := by decide +kernel
      rcases Nat.lt_or_ge w sByt.length with q | q
      · rw [List.getD_eq_getElem?_getD, List.getElem?_eq_getElem q]
        exact this _ (List.getElem_mem q)
      · rw [List.getD_eq_getElem?_getD, List.getElem?_eq_none q]
        decide
    rw [show sLen w = nI (sByt.getD w []).length from rfl]
    by_cases d : e - s = (sByt.getD w []).length
    · rw [if_pos (by rw [d]), decide_eq_true d, loop (sByt.getD w []).length KF 0 (by omega) (by unfold KF; omega) (by omega)]
      simp
    · rw [if_neg (by rw [nI_eq (by omega) (by omega)]; exact d), decide_eq_false d]
      simp [bI]
  · rw [if_neg (show ¬ nI k = nI 1 by rw [nI_eq (by omega) (by omega)]; exact c), decide_eq_false c]
    rfl
theorem R_is {w : Nat} (hT : TP E b σ τ) (h : TK E b σ τ k s e v) (hb : τ 0 28 = nI 0) : m_X11_is w τ = some (bI (WD b k s e w)) := by
  have hE := hT.1
  obtain ⟨_, _, _, h4, h5, h6, h7, h8, h9⟩ := h
  have z : ∀ m, f_X11_is_39 w (m + 1) τ (nI 0) (nI 0) = some (nI 0) := fun m => by
    rw [f_X11_is_39]
    simp only [pu_lit, if_true]
    rfl
  have z' : f_X11_is_39 w KF τ (nI 0) (nI 0) = some (nI 0) := z 4095
  unfold m_X11_is WD wq
  simp only [pu_lit]
  rw [hb, if_pos rfl, z']
  by_cases c : k = 1
  · subst c
    have ht : τ 0 24 = nI 1 ∧ s < e := by
      rcases h9 with q | q | q | q | q
      · omega
      · exact ⟨q.2.2.1, q.2.1⟩
      · omega
      · omega
      · exact absurd (isS_lt q.1).2 (by omega)
    rw [ht.1, if_pos rfl, h4, h5, pk_sub h7, show sLen w = nI (sByt.getD w []).length from rfl]
    have hL50 : (sByt.getD w []).length < 1000 := by
      have : ∀ l, l ∈ sByt → l.length < 1000 := by decide +kernel
      rcases Nat.lt_or_ge w sByt.length with q | q
      · rw [List.getD_eq_getElem?_getD, List.getElem?_eq_getElem q]
        exact this _ (List.getElem_mem q)
      · rw [List.getD_eq_getElem?_getD, List.getElem?_eq_none q]
        decide
    have loop : ∀ (n m j : Nat), j + n = (sByt.getD w []).length → n + 1 < m → s + (sByt.getD w []).length = e → f_X11_is_39 w m τ (nI 1) (nI j) = some (bI (wqL b s (sByt.getD w []) n j)) := by
      intro n
      induction n with
      | zero =>
        intro m j hj hm he
        obtain ⟨m, rfl⟩ : ∃ q, m = q + 1 := ⟨m - 1, by omega⟩
        rw [f_X11_is_39, show sLen w = nI (sByt.getD w []).length from rfl]
        simp only [pu_lit]
        rw [if_neg (show ¬ nI 1 = nI 0 by decide), if_pos (nI_le (by omega) (by omega))]
        rfl
      | succ n ih =>
        intro m j hj hm he
        obtain ⟨m, rfl⟩ : ∃ q, m = q + 1 := ⟨m - 1, by omega⟩
        rw [f_X11_is_39, show sLen w = nI (sByt.getD w []).length from rfl]
        simp only [pu_lit]
        rw [if_neg (show ¬ nI 1 = nI 0 by decide), if_neg (nI_ge (by omega) (by omega)), show sNum w = (sByt.getD w []).length from rfl, pu_gd (k := j) (by omega) (by omega), nI_clamp (n := j) (by omega), h4, nI_add, pu_gd (k := s + j) (by omega) (by decide), nI_clamp (n := s + j) (by omega), (hT.2.2.2 (s + j) (by omega)).2.1, show sch w j = (sByt.getD w []).getD j (nI 0) from rfl, nI_add]
        show _ = some (bI (decide (nI (b (s + j)) = (sByt.getD w []).getD j (nI 0)) && wqL b s (sByt.getD w []) n (j + 1)))
        by_cases d : nI (b (s + j)) = (sByt.getD w []).getD j (nI 0)
        · rw [if_pos d.symm, decide_eq_true d, Bool.true_and]
          exact ih m (j + 1) (by omega) (by omega) he
        · rw [if_neg (fun q => d q.symm), decide_eq_false d, Bool.false_and]
          obtain ⟨m, rfl⟩ : ∃ q, m = q + 1 := ⟨m - 1, by omega⟩
          rw [f_X11_is_39]
          simp only [pu_lit, if_true]
          rfl
    by_cases d : e - s = (sByt.getD w []).length
    · rw [if_pos (by rw [d]), decide_eq_true d, loop (sByt.getD w []).length KF 0 (by omega) (by unfold KF; omega) (by omega)]
      simp
    · rw [if_neg (by rw [nI_eq (by omega) (by omega)]; exact fun q => d q.symm), decide_eq_false d]
      rfl
  · have ht : ¬ τ 0 24 = nI 1 := by
      rcases h9 with q | q | q | q | q
      · rw [q.2]; decide
      · omega
      · rw [q.2.2.1]; decide
      · rw [q.2.2]; decide
      · rw [q.2.2.1]; decide
    rw [if_neg ht, decide_eq_false c]
    rfl
theorem R_is_bad {w f : Nat} (hf : 0 < f ∧ f < 100) (hb : τ 0 28 = nI f) : m_X11_is w τ = some (nI 0) := by
  have z : ∀ m, f_X11_is_39 w (m + 1) τ (nI 0) (nI 0) = some (nI 0) := fun m => by
    rw [f_X11_is_39]
    simp only [pu_lit, if_true]
    rfl
  unfold m_X11_is
  simp only [pu_lit]
  rw [hb, if_neg (nz' hf.1 (by omega))]
  exact z 4095
theorem R_mkd {c : Nat} (hT : TP E b σ τ) (h : TK E b σ τ k s e v) (hb : τ 0 28 = nI 0) (hc : 40 ≤ c ∧ c < 128) : m_X11_isMarked τ (nI c) = some (bI (decide (k = c))) := by
  have hE := hT.1
  obtain ⟨_, _, _, h4, h5, h6, h7, h8, h9⟩ := h
  unfold m_X11_isMarked
  simp only [pu_lit]
  rw [hb, if_pos rfl]
  have no : ¬ τ 0 24 = nI 3 → ¬ k = c → (if τ 0 24 = nI 3 then gd (τ 0 26) 700 (if τ 19 (τ 0 26).toNatClampNeg = nI c then some (nI 1) else some (nI 0)) else some (nI 0)) = some (bI (decide (k = c))) := fun a d => by
    rw [if_neg a, decide_eq_false d]; rfl
  rcases h9 with q | q | q | q | q
  · exact no (by rw [q.2]; decide) (by omega)
  · exact no (by rw [q.2.2.1]; decide) (by omega)
  · exact no (by rw [q.2.2.1]; decide) (by omega)
  · exact no (by rw [q.2.2]; decide) (by omega)
  · obtain ⟨q1, q2, q3, q4⟩ := q
    have hk := isS_lt q1
    rw [q3, if_pos rfl, h4, pu_gd (by omega) (by decide), nI_clamp (by omega), (hT.2.2.2 s (by omega)).2.1, q4]
    by_cases d : k = c
    · rw [if_pos (by rw [d]), decide_eq_true d]; rfl
    · rw [if_neg (by rw [nI_eq (by omega) (by omega)]; exact d), decide_eq_false d]; rfl
theorem R_mkd_bad {f : Nat} {x : Int32} (hf : 0 < f ∧ f < 100) (hb : τ 0 28 = nI f) : m_X11_isMarked τ x = some (nI 0) := by
  unfold m_X11_isMarked
  simp only [pu_lit]
  rw [hb, if_neg (nz' hf.1 (by omega))]
end WORDS
/-- codes laid, operators that wait -/
def CC (σ : Mem) (c : List Int32) : Prop := σ 5 2 = nI c.length ∧ ∀ j, j < c.length → σ 6 j = c.getD j 0
def WA (σ : Mem) (w : List Int32) : Prop := σ 2 3 = nI w.length ∧ Stk (σ 8) w
def bnd (c : Int32) : Nat := if c = -nI 29 then 6 else if c = -nI 28 then 6 else if c = -nI 27 then 5 else if c = -nI 26 then 5 else if c = -nI 25 then 4 else if c = -nI 24 then 4 else if c = -nI 23 then 3 else if c = -nI 22 then 2 else if c = -nI 21 then 1 else 0
theorem C_binding {σ : Mem} {c : Int32} : m_X5_binding σ c = some (nI (bnd c)) ∧ bnd c < 7 := by
  unfold m_X5_binding bnd
  simp only [pu_lit]
  repeat' split
  all_goals exact ⟨rfl, by omega⟩
def topLt (w : List Int32) (n : Nat) : Prop := ∀ a r, w = a :: r → bnd a < n
def CS5 (σ : Mem) (wp mn ic wi nt ht : Nat) (c w : List Int32) : Prop := σ 2 5 = nI wp ∧ σ 2 6 = nI mn ∧ σ 2 7 = nI ic ∧ σ 2 8 = nI wi ∧ σ 2 9 = nI nt ∧ σ 2 4 = nI ht ∧ CC σ c ∧ WA σ w
/-- what the reader of rules may change; the tape stands -/
def CF (σ σ1 : Mem) : Prop := fr [2, 3, 5, 6, 8] σ σ1 ∧ σ1 3 1 = σ 3 1 ∧ σ1 3 2 = σ 3 2
theorem CF.rfl {σ : Mem} : CF σ σ := ⟨fr.rfl, Eq.refl _, Eq.refl _⟩
theorem CF.trans {σ σ1 σ2 : Mem} (h : CF σ σ1) (h2 : CF σ1 σ2) : CF σ σ2 := ⟨h.1.trans h2.1, h2.2.1.trans h.2.1, h2.2.2.trans h.2.2⟩
theorem CF.ofT {σ σ1 : Mem} (h : FCt σ σ1) : CF σ σ1 := ⟨h.1.mono (by decide), h.2.1, h.2.2⟩
theorem CF.of3 {σ σ1 : Mem} (h : fr [2, 5, 6, 8] σ σ1) : CF σ σ1 := ⟨h.mono (by decide), by rw [h 3 (by decide)], by rw [h 3 (by decide)]⟩
theorem CS5.t {σ σ1 : Mem} {wp mn ic wi nt ht : Nat} {c w : List Int32} (h : CS5 σ wp mn ic wi nt ht c w) (hf : FCt σ σ1) : CS5 σ1 wp mn ic wi nt ht c w := by
  unfold CS5 CC WA
  rw [hf.1 2 (by decide), hf.1 5 (by decide), hf.1 6 (by decide), hf.1 8 (by decide)]
  exact h
theorem gDl {l m : List Int32} {i : Nat} (h : i < l.length) : (l ++ m).getD i 0 = l.getD i 0 := by
  simp [List.getElem?_append, h]
theorem gDa {l : List Int32} {a : Int32} : (l ++ [a]).getD l.length 0 = a := by
  simp
theorem CC.add {σ : Mem} {c : List Int32} {x : Int32} (h : CC σ c) (hn : c.length < 700) : m_X4_add 5 σ x = some (ms (ms σ 6 c.length x) 5 2 (nI (c.length + 1))) ∧ CC (ms (ms σ 6 c.length x) 5 2 (nI (c.length + 1))) (c ++ [x]) := by
  constructor
  · unfold m_X4_add
    simp only [pu_lit, Nat.reduceAdd]
    rw [h.1, if_neg (nI_ge hn (by omega)), pu_gd hn (by decide), nI_clamp (by omega), ltE, ltE, ms_ne (by decide), h.1, nI_add]
  · refine ⟨by rw [ms_at, List.length_append]; rfl, fun j hj => ?_⟩
    rw [List.length_append, List.length_singleton] at hj
    rw [ms_ne (by decide), ms_same]
    by_cases d : j = c.length
    · subst d; rw [pk_us, gDa]
    · rw [pk_un d, gDl (by omega)]; exact h.2 j (by omega)
theorem WA.hold {σ : Mem} {w : List Int32} {x : Int32} (h : WA σ w) (hn : w.length < 128) : m_X5_hold σ x = some (ms (ms σ 8 w.length x) 2 3 (nI (w.length + 1))) ∧ WA (ms (ms σ 8 w.length x) 2 3 (nI (w.length + 1))) (x :: w) := by
  constructor
  · unfold m_X5_hold
    simp only [pu_lit]
    rw [h.1, if_neg (nI_ge hn (by omega)), pu_gd hn (by decide), nI_clamp (by omega), ltE, ltE, ms_ne (by decide), h.1, nI_add]
  · refine ⟨by rw [ms_at]; rfl, ?_⟩
    rw [ms_ne (by decide), ms_same]
    exact h.2.push
theorem C_release {l : Nat} (hl : 1 ≤ l ∧ l ≤ 6) : ∀ (o : List Int32) (n : Nat) (σ : Mem) (c w : List Int32) (wp mn ic wi nt ht : Nat), o.length < n → CS5 σ wp mn ic wi nt ht c (o ++ w) → (∀ x, x ∈ o → l ≤ bnd x) → topLt w l → c.length + o.length ≤ 700 → (o ++ w).length ≤ 128 → OK (f_X5_release_0 (nI l) n σ) (fun q => CS5 q wp mn ic wi nt ht (c ++ o) w ∧ fr [2, 5, 6] σ q) := by
  intro o
  induction o with
  | nil =>
    intro n σ c w wp mn ic wi nt ht hn h ho ht2 h7 h8
    obtain ⟨n, rfl⟩ : ∃ q, n = q + 1 := ⟨n - 1, by simp at hn; omega⟩
    rw [f_X5_release_0]
    simp only [pu_lit]
    rw [List.append_nil]
    have hw := h.2.2.2.2.2.2.2
    have hw' : WA σ w := hw
    rw [hw'.1]
    cases w with
    | nil => rw [if_pos (show nI ([] : List Int32).length ≤ nI 0 from nI_le_self), ok_some]; exact ⟨h, fr.rfl⟩
    | cons a r =>
      have h8' : (a :: r).length ≤ 128 := h8
      rw [List.length_cons] at h8' ⊢
      have hb := ht2 a r rfl
      rw [if_neg (nle' (by omega) (by omega)), pk_sub (by omega), Nat.add_sub_cancel, pu_gd (by omega) (by decide), nI_clamp (by omega), hw'.2.1, C_binding.1, ok_bind, ok_some, if_pos (nI_lt hb (by omega)), ok_some]
      exact ⟨h, fr.rfl⟩
  | cons a o ih =>
    intro n σ c w wp mn ic wi nt ht hn h ho ht2 h7 h8
    rw [List.length_cons] at hn h7
    obtain ⟨n, rfl⟩ : ∃ q, n = q + 1 := ⟨n - 1, by omega⟩
    obtain ⟨g1, g2, g3, g4, g5, g6, g7, g8⟩ := h
    have g8' : WA σ (a :: (o ++ w)) := g8
    have h8' : (o ++ w).length + 1 ≤ 128 := h8
    rw [f_X5_release_0]
    simp only [pu_lit]
    rw [g8'.1, List.length_cons, if_neg (nle' (by omega) (by omega)), pk_sub (by omega), Nat.add_sub_cancel, pu_gd (by omega) (by decide), nI_clamp (by omega), g8'.2.1, C_binding.1, ok_bind, ok_some]
    have hb := ho a (by simp)
    have hb7 := (C_binding (σ := σ) (c := a)).2
    rw [if_neg (nI_nlt hb (by omega)), ok_lt, ms_at, pu_gd (by omega) (by decide), nI_clamp (by omega), ms_ne (by decide), g8'.2.1]
    have C1 : CC (ms σ 2 3 (nI (o ++ w).length)) c := by
      unfold CC
      rw [ms_ne (by decide), ms_ne (by decide)]
      exact g7
    obtain ⟨a1, a2⟩ := C1.add (x := a) (by omega)
    rw [a1, ok_bind, ok_some]
    refine ok_mono (ih n _ (c ++ [a]) w wp mn ic wi nt ht (by omega) ⟨?_, ?_, ?_, ?_, ?_, ?_, a2, ?_, ?_⟩ (fun x hx => ho x (by simp [hx])) ht2 (by rw [List.length_append, List.length_singleton]; omega) (by omega)) (fun q hq => ?_)
    · rw [ms_ne (by decide), ms_ne (by decide), ms_same, pk_un (by decide)]; exact g1
    · rw [ms_ne (by decide), ms_ne (by decide), ms_same, pk_un (by decide)]; exact g2
    · rw [ms_ne (by decide), ms_ne (by decide), ms_same, pk_un (by decide)]; exact g3
    · rw [ms_ne (by decide), ms_ne (by decide), ms_same, pk_un (by decide)]; exact g4
    · rw [ms_ne (by decide), ms_ne (by decide), ms_same, pk_un (by decide)]; exact g5
    · rw [ms_ne (by decide), ms_ne (by decide), ms_same, pk_un (by decide)]; exact g6
    · rw [ms_ne (by decide), ms_ne (by decide), ms_at]
    · rw [ms_ne (by decide), ms_ne (by decide), ms_ne (by decide)]; exact g8'.2.2
    · have e : c ++ [a] ++ o = c ++ a :: o := by simp
      rw [e] at hq
      exact ⟨hq.1, fr.trans (((fr.rfl.ms (by simp)).ms (by simp)).ms (by simp)) hq.2⟩

/-! the class' reader of rules: a token, and on -/
theorem ite_bI {α : Type} {B : Bool} {x y : α} : (if bI B = nI 0 then x else y) = (if B = true then y else x) := by
  cases B
  · rw [if_pos (show bI false = nI 0 by decide), if_neg (by decide)]
  · rw [if_neg (show ¬ bI true = nI 0 by decide), if_pos rfl]
/-- the first of some words that the token is -/
def vw (b : Nat → Nat) (k s e : Nat) : List Nat → Nat → Option Nat
  | [], _ => none
  | w :: ws, j => if WD b k s e w = true then some j else vw b k s e ws (j + 1)
theorem vw_lt {b : Nat → Nat} {k s e : Nat} : ∀ (ws : List Nat) (j v : Nat), vw b k s e ws j = some v → v < j + ws.length
  | [], _, _, h => by cases h
  | w :: ws, j, v, h => by
    have h' : (if WD b k s e w = true then some j else vw b k s e ws (j + 1)) = some v := h
    rw [List.length_cons]
    by_cases c : WD b k s e w = true
    · rw [if_pos c] at h'; cases h'; omega
    · rw [if_neg c] at h'
      have := vw_lt ws (j + 1) v h'
      omega
theorem vw_congr {b : Nat → Nat} {k s e : Nat} : ∀ (ws us : List Nat) (j : Nat), ws.map (fun w => sByt.getD w []) = us.map (fun w => sByt.getD w []) → vw b k s e ws j = vw b k s e us j
  | [], [], _, _ => rfl
  | [], u :: us, _, h => by simp at h
  | w :: ws, [], _, h => by simp at h
  | w :: ws, u :: us, j, h => by
    rw [List.map_cons, List.map_cons] at h
    obtain ⟨h1, h2⟩ := List.cons.inj h
    show (if WD b k s e w = true then some j else vw b k s e ws (j + 1)) = (if WD b k s e u = true then some j else vw b k s e us (j + 1))
    rw [WD_eq h1, vw_congr ws us (j + 1) h2]
def vls (z : Nat) : List Nat := if z = 0 then [20, 21, 22, 23, 24, 25, 26, 27, 28, 29] else [20, 21, 22, 23]
section TOK
variable {E : Nat} {b : Nat → Nat} {σ τ : Mem} {k s e v : Nat}
theorem C_valueOf {z : Nat} (hT : TP E b σ τ) (h : TK E b σ τ k s e v) (hz : z ≤ 1) (hh : σ 2 4 = nI (1 - z)) : m_X5_valueOf σ = some (enc (vw b k s e (vls z) 0)) := by
  unfold m_X5_valueOf f_X5_valueOf_65
  simp only [pu_lit, C_isWord hT h, sbind, ite_bI, if_true]
  have hz01 : z = 0 ∨ z = 1 := by omega
  by_cases h20 : WD b k s e 20 = true
  · rw [if_pos h20, if_neg (show ¬ nI 0 = -nI 1 by decide)]
    rcases hz01 with rfl | rfl
    · show _ = some (enc (vw b k s e [20, 21, 22, 23, 24, 25, 26, 27, 28, 29] 0))
      simp only [vw, h20, if_true, if_false, Bool.false_eq_true]
      rfl
    · show _ = some (enc (vw b k s e [20, 21, 22, 23] 0))
      simp only [vw, h20, if_true, if_false, Bool.false_eq_true]
      rfl
  rw [if_neg h20]
  by_cases h21 : WD b k s e 21 = true
  · rw [if_pos h21, if_neg (show ¬ nI 1 = -nI 1 by decide)]
    rcases hz01 with rfl | rfl
    · show _ = some (enc (vw b k s e [20, 21, 22, 23, 24, 25, 26, 27, 28, 29] 0))
      simp only [vw, h20, h21, if_true, if_false, Bool.false_eq_true]
      rfl
    · show _ = some (enc (vw b k s e [20, 21, 22, 23] 0))
      simp only [vw, h20, h21, if_true, if_false, Bool.false_eq_true]
      rfl
  rw [if_neg h21]
  by_cases h22 : WD b k s e 22 = true
  · rw [if_pos h22, if_neg (show ¬ nI 2 = -nI 1 by decide)]
    rcases hz01 with rfl | rfl
    · show _ = some (enc (vw b k s e [20, 21, 22, 23, 24, 25, 26, 27, 28, 29] 0))
      simp only [vw, h20, h21, h22, if_true, if_false, Bool.false_eq_true]
      rfl
    · show _ = some (enc (vw b k s e [20, 21, 22, 23] 0))
      simp only [vw, h20, h21, h22, if_true, if_false, Bool.false_eq_true]
      rfl
  rw [if_neg h22]
  by_cases h23 : WD b k s e 23 = true
  · rw [if_pos h23, if_neg (show ¬ nI 3 = -nI 1 by decide)]
    rcases hz01 with rfl | rfl
    · show _ = some (enc (vw b k s e [20, 21, 22, 23, 24, 25, 26, 27, 28, 29] 0))
      simp only [vw, h20, h21, h22, h23, if_true, if_false, Bool.false_eq_true]
      rfl
    · show _ = some (enc (vw b k s e [20, 21, 22, 23] 0))
      simp only [vw, h20, h21, h22, h23, if_true, if_false, Bool.false_eq_true]
      rfl
  rw [if_neg h23]
  rcases hz01 with rfl | rfl
  · rw [hh, if_neg (show ¬ nI (1 - 0) = nI 0 by decide)]
    show _ = some (enc (vw b k s e [20, 21, 22, 23, 24, 25, 26, 27, 28, 29] 0))
    by_cases h24 : WD b k s e 24 = true
    · rw [if_pos h24]
      simp only [vw, h20, h21, h22, h23, h24, if_true, if_false, Bool.false_eq_true]
      rfl
    rw [if_neg h24]
    by_cases h25 : WD b k s e 25 = true
    · rw [if_pos h25]
      simp only [vw, h20, h21, h22, h23, h24, h25, if_true, if_false, Bool.false_eq_true]
      rfl
    rw [if_neg h25]
    by_cases h26 : WD b k s e 26 = true
    · rw [if_pos h26]
      simp only [vw, h20, h21, h22, h23, h24, h25, h26, if_true, if_false, Bool.false_eq_true]
      rfl
    rw [if_neg h26]
    by_cases h27 : WD b k s e 27 = true
    · rw [if_pos h27]
      simp only [vw, h20, h21, h22, h23, h24, h25, h26, h27, if_true, if_false, Bool.false_eq_true]
      rfl
    rw [if_neg h27]
    by_cases h28 : WD b k s e 28 = true
    · rw [if_pos h28]
      simp only [vw, h20, h21, h22, h23, h24, h25, h26, h27, h28, if_true, if_false, Bool.false_eq_true]
      rfl
    rw [if_neg h28]
    by_cases h29 : WD b k s e 29 = true
    · rw [if_pos h29]
      simp only [vw, h20, h21, h22, h23, h24, h25, h26, h27, h28, h29, if_true, if_false, Bool.false_eq_true]
      rfl
    rw [if_neg h29]
    simp only [vw, h20, h21, h22, h23, h24, h25, h26, h27, h28, h29, if_false, Bool.false_eq_true]
    rfl
  · rw [hh, if_pos (show nI (1 - 1) = nI 0 by decide)]
    show _ = some (enc (vw b k s e [20, 21, 22, 23] 0))
    simp only [vw, h20, h21, h22, h23, if_false, Bool.false_eq_true]
    rfl
/-- the operator at hand -/
def opc (b : Nat → Nat) (k s e : Nat) : Int32 := if k = 42 then -nI 28 else if k = 43 then -nI 26 else if k = 45 then -nI 27 else if k = 47 then -nI 29 else if k = 60 then -nI 24 else if k = 61 then -nI 25 else if WD b k s e 18 = true then -nI 21 else if WD b k s e 19 = true then -nI 22 else nI 0
theorem C_opOf (hT : TP E b σ τ) (h : TK E b σ τ k s e v) : m_X5_operatorOf σ = some (opc b k s e) := by
  have hk := h.k128
  unfold m_X5_operatorOf opc
  simp only [pu_lit, C_isWord hT h, sbind, ite_bI]
  rw [ltE, h.2.2.1]
  by_cases c42 : k = 42
  · rw [if_pos (show nI k = nI 42 by rw [c42]), if_pos c42]
  rw [if_neg (show ¬ nI k = nI 42 by rw [nI_eq (by omega) (by omega)]; exact c42), if_neg c42]
  by_cases c43 : k = 43
  · rw [if_pos (show nI k = nI 43 by rw [c43]), if_pos c43]
  rw [if_neg (show ¬ nI k = nI 43 by rw [nI_eq (by omega) (by omega)]; exact c43), if_neg c43]
  by_cases c45 : k = 45
  · rw [if_pos (show nI k = nI 45 by rw [c45]), if_pos c45]
  rw [if_neg (show ¬ nI k = nI 45 by rw [nI_eq (by omega) (by omega)]; exact c45), if_neg c45]
  by_cases c47 : k = 47
  · rw [if_pos (show nI k = nI 47 by rw [c47]), if_pos c47]
  rw [if_neg (show ¬ nI k = nI 47 by rw [nI_eq (by omega) (by omega)]; exact c47), if_neg c47]
  by_cases c60 : k = 60
  · rw [if_pos (show nI k = nI 60 by rw [c60]), if_pos c60]
  rw [if_neg (show ¬ nI k = nI 60 by rw [nI_eq (by omega) (by omega)]; exact c60), if_neg c60]
  by_cases c61 : k = 61
  · rw [if_pos (show nI k = nI 61 by rw [c61]), if_pos c61]
  rw [if_neg (show ¬ nI k = nI 61 by rw [nI_eq (by omega) (by omega)]; exact c61), if_neg c61]
  by_cases c1 : WD b k s e 18 = true
  · rw [if_pos c1, if_pos c1]
  rw [if_neg c1, if_neg c1]
  by_cases c2 : WD b k s e 19 = true
  · rw [if_pos c2, if_pos c2]
  rw [if_neg c2, if_neg c2]
variable {wp mn ic wi nt ht : Nat} {c o w : List Int32}
theorem C_part_bad (h : TK E b σ τ k s e v) (hk : k ≠ 1 ∧ k ≠ 2 ∧ k ≠ 40) : m_X5_takePart σ = some (nI 1, σ) := by
  have h128 := h.k128
  unfold m_X5_takePart
  simp only [pu_lit]
  rw [h.2.2.1, if_neg (show ¬ nI k = nI 2 by rw [nI_eq (by omega) (by omega)]; omega), if_neg (show ¬ nI k = nI 1 by rw [nI_eq (by omega) (by omega)]; omega), if_neg (show ¬ nI k = nI 40 by rw [nI_eq (by omega) (by omega)]; omega)]
theorem C_part36 (h : TK E b σ τ k s e v) (hk : k = 1 ∨ k = 2 ∨ k = 40) : m_X5_takePart σ = f_X5_takePart_36 σ := by
  unfold m_X5_takePart
  simp only [pu_lit]
  rw [h.2.2.1]
  rcases hk with rfl | rfl | rfl <;> rfl
theorem C_part_deep (h : TK E b σ τ k s e v) (hk : k = 1 ∨ k = 2 ∨ k = 40) (hS : CS5 σ wp mn ic 6 nt ht c w) : m_X5_takePart σ = some (nI 2, σ) := by
  rw [C_part36 h hk]
  unfold f_X5_takePart_36
  simp only [pu_lit]
  rw [hS.2.2.2.1, if_neg (nI_nlt (Nat.le_refl _) (by decide))]
theorem C_endPart {x : Int32} (hS : CS5 σ wp mn ic wi nt ht c w) (hc : c.length < 700) : OK (m_X5_endPart σ x) (fun q => q.1 = nI 0 ∧ CS5 q.2 0 mn ic wi 0 ht (c ++ [x]) w ∧ fr [2, 5, 6] σ q.2) := by
  obtain ⟨g1, g2, g3, g4, g5, g6, g7, g8⟩ := hS
  obtain ⟨a1, a2⟩ := g7.add (x := x) hc
  unfold m_X5_endPart
  simp only [pu_lit]
  rw [a1, ok_bind, ok_some, ok_lt, gz01 (Or.inl rfl), ok_lt, ok_some]
  dsimp only
  refine ⟨rfl, ⟨?_, ?_, ?_, ?_, ?_, ?_, ?_, ?_⟩, (((fr.rfl.ms (by simp)).ms (by simp)).ms (by simp)).ms (by simp)⟩
  · exact ms_at
  · rw [ms_same, pk_un (by decide), ms_same, pk_un (by decide), ms_ne (by decide), ms_ne (by decide)]; exact g2
  · rw [ms_same, pk_un (by decide), ms_same, pk_un (by decide), ms_ne (by decide), ms_ne (by decide)]; exact g3
  · rw [ms_same, pk_un (by decide), ms_same, pk_un (by decide), ms_ne (by decide), ms_ne (by decide)]; exact g4
  · rw [ms_same, pk_un (by decide), ms_at]
  · rw [ms_same, pk_un (by decide), ms_same, pk_un (by decide), ms_ne (by decide), ms_ne (by decide)]; exact g6
  · refine ⟨?_, fun j hj => ?_⟩
    · rw [ms_ne (by decide), ms_ne (by decide)]; exact a2.1
    · rw [ms_ne (by decide), ms_ne (by decide)]; exact a2.2 j hj
  · unfold WA
    rw [ms_same, pk_un (by decide), ms_same, pk_un (by decide), ms_ne (show 8 ≠ 2 by decide), ms_ne (show 8 ≠ 2 by decide), ms_ne (by decide), ms_ne (by decide), ms_ne (by decide), ms_ne (by decide)]
    exact g8
theorem C_part_num (h : TK E b σ τ 2 s e v) (hS : CS5 σ wp mn ic wi nt ht c w) (hw : wi < 6) (hc : c.length < 700) : (v = 10000 ∧ m_X5_takePart σ = some (nI 2, σ)) ∨ (v ≤ 9999 ∧ OK (m_X5_takePart σ) (fun q => q.1 = nI 0 ∧ CS5 q.2 0 mn ic wi 0 ht (c ++ [nI v]) w ∧ fr [2, 5, 6] σ q.2)) := by
  rw [C_part36 h (Or.inr (Or.inl rfl))]
  unfold f_X5_takePart_36
  simp only [pu_lit]
  rw [hS.2.2.2.1, if_pos (nI_lt hw (by omega)), h.2.2.1, if_neg (show ¬ nI 2 = nI 40 by decide)]
  simp only [if_true]
  have hv : ((e - s ≤ 4 ∧ v ≤ 9999 ∧ σ 3 6 = nI v ∧ τ 0 25 = nI v) ∨ (4 < e - s ∧ v = 10000 ∧ σ 3 6 = -nI 1)) := by
    rcases h.2.2.2.2.2.2.2.2 with q | q | q | q | q
    · omega
    · omega
    · exact q.2.2.2
    · omega
    · exact absurd (isS_lt q.1).2 (by omega)
  rcases hv with q | q
  · refine Or.inr ⟨q.2.1, ?_⟩
    rw [q.2.2.1, if_neg (fun z => (nI_nm1 (show v < 2147483648 by omega)).mp z), ok_bind]
    exact ok_mono (C_endPart hS hc) (fun r hr => by rw [ok_some]; exact hr)
  · exact Or.inl ⟨q.2.1, by rw [q.2.2, if_pos rfl]⟩
theorem C_part_val {z : Nat} (hT : TP E b σ τ) (h : TK E b σ τ 1 s e v) (hz : z ≤ 1) (hS : CS5 σ wp mn ic wi nt (1 - z) c w) (hw : wi < 6) (hc : c.length < 700) (hn : mn = 0 ∨ (mn = 1 ∧ WD b 1 s e 17 = false)) : (vw b 1 s e (vls z) 0 = none ∧ m_X5_takePart σ = some (nI 3, σ)) ∨ (∃ j, vw b 1 s e (vls z) 0 = some j ∧ OK (m_X5_takePart σ) (fun q => q.1 = nI 0 ∧ CS5 q.2 0 mn ic wi 0 (1 - z) (c ++ [-nI 1 - nI j]) w ∧ fr [2, 5, 6] σ q.2)) := by
  have hlen : (vls z).length ≤ 10 := by unfold vls; split <;> decide
  rw [C_part36 h (Or.inl rfl)]
  unfold f_X5_takePart_36
  simp only [pu_lit]
  rw [hS.2.2.2.1, if_pos (nI_lt hw (by omega)), h.2.2.1, if_neg (show ¬ nI 1 = nI 40 by decide), if_neg (show ¬ nI 1 = nI 2 by decide), hS.2.1, C_isWord hT h, sbind, C_valueOf hT h hz hS.2.2.2.2.2.1, sbind]
  have key : (if nI mn = nI 0 then (if enc (vw b 1 s e (vls z) 0) = -nI 1 then some (nI 3, σ) else (m_X5_endPart σ (-nI 1 - enc (vw b 1 s e (vls z) 0))).bind fun q7 => some (q7.1, q7.2)) else if bI (WD b 1 s e 17) = nI 0 then (if enc (vw b 1 s e (vls z) 0) = -nI 1 then some (nI 3, σ) else (m_X5_endPart σ (-nI 1 - enc (vw b 1 s e (vls z) 0))).bind fun q7 => some (q7.1, q7.2)) else (m_X5_takeNot σ).bind fun q13 => some (q13.1, q13.2)) = (if enc (vw b 1 s e (vls z) 0) = -nI 1 then some (nI 3, σ) else (m_X5_endPart σ (-nI 1 - enc (vw b 1 s e (vls z) 0))).bind fun q7 => some (q7.1, q7.2)) := by
    rcases hn with rfl | ⟨rfl, q⟩
    · rw [if_pos rfl]
    · rw [if_neg (show ¬ nI 1 = nI 0 by decide), q, if_pos (show bI false = nI 0 by decide)]
  rw [key]
  cases hv : vw b 1 s e (vls z) 0 with
  | none => exact Or.inl ⟨rfl, by rw [if_pos (show enc none = -nI 1 from rfl)]⟩
  | some j =>
    have hj := vw_lt _ _ _ hv
    refine Or.inr ⟨j, rfl, ?_⟩
    rw [if_neg (show ¬ enc (some j) = -nI 1 from fun z => (nI_nm1 (show j < 2147483648 by omega)).mp z), ok_bind]
    exact ok_mono (C_endPart hS hc) (fun r hr => by rw [ok_some]; exact hr)
theorem C_part_not (hT : TP E b σ τ) (h : TK E b σ τ 1 s e v) (hS : CS5 σ wp 1 ic wi nt ht c w) (hw : wi < 6) (hwd : WD b 1 s e 17 = true) (hl : w.length < 128) (hnt : nt ≤ 6) : (nt = 6 ∧ m_X5_takePart σ = some (nI 2, σ)) ∨ (nt < 6 ∧ OK (m_X5_takePart σ) (fun q => q.1 = nI 0 ∧ CS5 q.2 wp 1 ic wi (nt + 1) ht c (-nI 23 :: w) ∧ fr [2, 8] σ q.2)) := by
  obtain ⟨g1, g2, g3, g4, g5, g6, g7, g8⟩ := hS
  rw [C_part36 h (Or.inl rfl)]
  unfold f_X5_takePart_36 m_X5_takeNot
  simp only [pu_lit]
  rw [g4, if_pos (nI_lt hw (by omega)), h.2.2.1, if_neg (show ¬ nI 1 = nI 40 by decide), if_neg (show ¬ nI 1 = nI 2 by decide), g2, if_neg (show ¬ nI 1 = nI 0 by decide), C_isWord hT h, sbind, hwd, if_neg bI_t, g5]
  by_cases d : nt = 6
  · exact Or.inl ⟨d, by rw [if_neg (nI_nlt (by omega) (by omega)), sbind]⟩
  · refine Or.inr ⟨by omega, ?_⟩
    have W1 : WA (ms σ 2 9 (nI (nt + 1))) w := by
      unfold WA
      rw [ms_same, pk_un (by decide), ms_ne (by decide)]
      exact g8
    obtain ⟨a1, a2⟩ := W1.hold (x := -nI 23) hl
    rw [if_pos (nI_lt (by omega) (by omega)), nI_add, ltE, a1, sbind, sbind, ok_some]
    dsimp only
    refine ⟨rfl, ⟨?_, ?_, ?_, ?_, ?_, ?_, ?_, a2⟩, ((fr.rfl.ms (by simp)).ms (by simp)).ms (by simp)⟩
    · rw [ms_same, pk_un (by decide), ms_ne (by decide), ms_same, pk_un (by decide)]; exact g1
    · rw [ms_same, pk_un (by decide), ms_ne (by decide), ms_same, pk_un (by decide)]; exact g2
    · rw [ms_same, pk_un (by decide), ms_ne (by decide), ms_same, pk_un (by decide)]; exact g3
    · rw [ms_same, pk_un (by decide), ms_ne (by decide), ms_same, pk_un (by decide)]; exact g4
    · rw [ms_same, pk_un (by decide), ms_ne (by decide), ms_at]
    · rw [ms_same, pk_un (by decide), ms_ne (by decide), ms_same, pk_un (by decide)]; exact g6
    · unfold CC
      rw [ms_ne (by decide), ms_ne (by decide), ms_ne (by decide), ms_ne (by decide), ms_ne (by decide), ms_ne (by decide)]
      exact g7
/-- what an opening bracket lays on the waiting -/
def opn (ic : Nat) : Int32 := if ic = 0 then -nI 30 else -nI 31
theorem C_part_open (h : TK E b σ τ 40 s e v) (hS : CS5 σ wp mn ic wi nt ht c w) (hw : wi < 6) (hl : w.length < 128) (hic : ic ≤ 1) : OK (m_X5_takePart σ) (fun q => q.1 = nI 0 ∧ CS5 q.2 1 1 0 (wi + 1) 0 ht c (opn ic :: w) ∧ fr [2, 8] σ q.2) := by
  obtain ⟨g1, g2, g3, g4, g5, g6, g7, g8⟩ := hS
  rw [C_part36 h (Or.inr (Or.inr rfl))]
  unfold f_X5_takePart_36 m_X5_takeOpening m_X5_beginNot
  simp only [pu_lit]
  rw [g4, if_pos (nI_lt hw (by omega)), h.2.2.1]
  simp only [if_true]
  rw [g3]
  have go : ∀ x : Int32, OK (((m_X5_hold σ x).bind fun q2 => lt (ms q2 2 8 (q2 2 8 + nI 1)) fun σ3 => lt (ms σ3 2 9 (nI 0)) fun σ4 => (gz (nI 1) (lt (ms σ4 2 5 (nI 1)) fun σ1 => gz (nI 1) (lt (ms σ1 2 6 (nI 1)) fun σ2 => gz (nI 0) (lt (ms σ2 2 7 (nI 0)) fun σ3 => some σ3)))).bind fun q5 => some (nI 0, q5)).bind fun q16 => some (q16.1, q16.2)) (fun q => q.1 = nI 0 ∧ CS5 q.2 1 1 0 (wi + 1) 0 ht c (x :: w) ∧ fr [2, 8] σ q.2) := by
    intro x
    obtain ⟨a1, a2⟩ := g8.hold (x := x) hl
    rw [a1, sbind, ltE, ltE, gz01 (Or.inr rfl), ltE, gz01 (Or.inr rfl), ltE, gz01 (Or.inl rfl), ltE, sbind, sbind, ok_some]
    dsimp only
    refine ⟨rfl, ⟨?_, ?_, ?_, ?_, ?_, ?_, ?_, ?_, ?_⟩, ((((((fr.rfl.ms (by simp)).ms (by simp)).ms (by simp)).ms (by simp)).ms (by simp)).ms (by simp)).ms (by simp)⟩
    · rw [ms_same, pk_un (by decide), ms_same, pk_un (by decide), ms_at]
    · rw [ms_same, pk_un (by decide), ms_at]
    · exact ms_at
    · rw [ms_same, pk_un (by decide), ms_same, pk_un (by decide), ms_same, pk_un (by decide), ms_same, pk_un (by decide), ms_at, ms_same, pk_un (by decide), ms_ne (by decide), g4, nI_add]
    · rw [ms_same, pk_un (by decide), ms_same, pk_un (by decide), ms_same, pk_un (by decide), ms_at]
    · rw [ms_same, pk_un (by decide), ms_same, pk_un (by decide), ms_same, pk_un (by decide), ms_same, pk_un (by decide), ms_same, pk_un (by decide), ms_same, pk_un (by decide), ms_ne (by decide)]; exact g6
    · unfold CC
      simp (disch := decide) only [ms_ne]
      exact g7
    · rw [ms_same, pk_un (by decide), ms_same, pk_un (by decide), ms_same, pk_un (by decide), ms_same, pk_un (by decide), ms_same, pk_un (by decide)]; exact a2.1
    · rw [ms_ne (by decide), ms_ne (by decide), ms_ne (by decide), ms_ne (by decide), ms_ne (by decide)]; exact a2.2
  by_cases d : ic = 0
  · subst d
    rw [if_pos rfl]
    exact go (-nI 30)
  · have : ic = 1 := by omega
    subst this
    rw [if_neg (show ¬ nI 1 = nI 0 by decide)]
    exact go (-nI 31)
theorem C_op64 {x : Int32} {x2 : Nat} (hx2 : x2 ≤ 1) (hic : ic ≤ 1) (hb : 1 ≤ bnd x) (hS : CS5 σ wp mn ic wi nt ht c (o ++ w)) (ho : ∀ y, y ∈ o → bnd x ≤ bnd y) (hw : topLt w (bnd x)) (hc : c.length + o.length ≤ 700) (hl : (o ++ w).length < 128) : OK (f_X5_takeOperator_64 σ x (nI x2)) (fun q => q.1 = nI 0 ∧ CS5 q.2 1 (if x = -nI 21 ∨ x = -nI 22 then 1 else 0) (if x2 = 1 then 1 else if x = -nI 21 ∨ x = -nI 22 then 0 else ic) wi nt ht (c ++ o) (x :: w) ∧ fr [2, 5, 6, 8] σ q.2) := by
  have hb7 := (C_binding (σ := σ) (c := x)).2
  unfold f_X5_takeOperator_64
  simp only [pu_lit]
  rw [C_binding.1, sbind, ok_bind]
  refine ok_mono (C_release (l := bnd x) ⟨hb, by omega⟩ o KF σ c w wp mn ic wi nt ht (by rw [List.length_append] at hl; unfold KF; omega) hS ho hw hc (by omega)) (fun q hq => ?_)
  obtain ⟨⟨g1, g2, g3, g4, g5, g6, g7, g8⟩, hf⟩ := hq
  have hwl : w.length < 128 := by rw [List.length_append] at hl; omega
  obtain ⟨a1, a2⟩ := g8.hold (x := x) hwl
  rw [a1, sbind, gz01 (Or.inr rfl), ok_lt]
  have go : ∀ (z1 : Nat), z1 ≤ 1 → OK (f_X5_takeOperator_100 (ms (ms (ms q 8 w.length x) 2 3 (nI (w.length + 1))) 2 5 (nI 1)) (nI x2) (nI z1)) (fun q => q.1 = nI 0 ∧ CS5 q.2 1 z1 (if x2 = 1 then 1 else if z1 = 1 then 0 else ic) wi nt ht (c ++ o) (x :: w) ∧ fr [2, 5, 6, 8] σ q.2) := by
    intro z1 hz1
    have fin : ∀ (y : Nat) (q9 : Mem), q9 = ms (ms (ms (ms (ms q 8 w.length x) 2 3 (nI (w.length + 1))) 2 5 (nI 1)) 2 6 (nI z1)) 2 7 (nI y) → CS5 q9 1 z1 y wi nt ht (c ++ o) (x :: w) ∧ fr [2, 5, 6, 8] σ q9 := by
      intro y q9 e9
      subst e9
      refine ⟨⟨?_, ?_, ?_, ?_, ?_, ?_, ?_, ?_, ?_⟩, (hf.mono (by decide)).trans (((((fr.rfl.ms (by simp)).ms (by simp)).ms (by simp)).ms (by simp)).ms (by simp))⟩
      · rw [ms_same, pk_un (by decide), ms_same, pk_un (by decide), ms_at]
      · rw [ms_same, pk_un (by decide), ms_at]
      · exact ms_at
      · rw [ms_same, pk_un (by decide), ms_same, pk_un (by decide), ms_same, pk_un (by decide), ms_same, pk_un (by decide), ms_ne (by decide)]; exact g4
      · rw [ms_same, pk_un (by decide), ms_same, pk_un (by decide), ms_same, pk_un (by decide), ms_same, pk_un (by decide), ms_ne (by decide)]; exact g5
      · rw [ms_same, pk_un (by decide), ms_same, pk_un (by decide), ms_same, pk_un (by decide), ms_same, pk_un (by decide), ms_ne (by decide)]; exact g6
      · unfold CC
        simp (disch := decide) only [ms_ne]
        exact g7
      · rw [ms_same, pk_un (by decide), ms_same, pk_un (by decide), ms_same, pk_un (by decide)]; exact a2.1
      · rw [ms_ne (by decide), ms_ne (by decide), ms_ne (by decide)]; exact a2.2
    have e7 : ms (ms (ms (ms q 8 w.length x) 2 3 (nI (w.length + 1))) 2 5 (nI 1)) 2 6 (nI z1) 2 7 = nI ic := by
      rw [ms_same, pk_un (by decide), ms_same, pk_un (by decide), ms_same, pk_un (by decide), ms_ne (by decide)]; exact g3
    unfold f_X5_takeOperator_100
    simp only [pu_lit]
    rw [gz01 (by rcases (show z1 = 0 ∨ z1 = 1 by omega) with rfl | rfl <;> simp), ok_lt, e7, ms_at]
    by_cases d : x2 = 1
    · subst d
      rw [if_neg (show ¬ nI 1 = nI 0 by decide), gz01 (Or.inr rfl), ok_lt, ok_some, if_pos rfl]
      exact ⟨rfl, fin 1 _ rfl⟩
    · have : x2 = 0 := by omega
      subst this
      rw [if_pos rfl, if_neg d]
      by_cases d2 : ic = 0
      · subst d2
        rw [if_pos rfl, gz01 (Or.inl rfl), ok_lt, ok_some, ite_self]
        exact ⟨rfl, fin 0 _ rfl⟩
      · have : ic = 1 := by omega
        subst this
        rw [if_neg (show ¬ nI 1 = nI 0 by decide)]
        by_cases d3 : z1 = 0
        · subst d3
          rw [if_pos rfl, gz01 (Or.inr rfl), ok_lt, ok_some, if_neg (by decide)]
          exact ⟨rfl, fin 1 _ rfl⟩
        · have : z1 = 1 := by omega
          subst this
          rw [if_neg (show ¬ nI 1 = nI 0 by decide), gz01 (Or.inl rfl), ok_lt, ok_some, if_pos rfl]
          exact ⟨rfl, fin 0 _ rfl⟩
  by_cases d1 : x = -nI 21
  · have := go 1 (by decide)
    simp only [if_true] at this
    rw [if_pos d1, if_pos (Or.inl d1), if_pos (Or.inl d1)]; exact this
  · rw [if_neg d1]
    by_cases d2 : x = -nI 22
    · have := go 1 (by decide)
      simp only [if_true] at this
      rw [if_pos d2, if_pos (Or.inr d2), if_pos (Or.inr d2)]; exact this
    · have := go 0 (by decide)
      rw [if_neg (show ¬ (0 = 1) by decide)] at this
      have nn : ¬ (x = -nI 21 ∨ x = -nI 22) := fun z => z.elim d1 d2
      rw [if_neg d2, if_neg nn, if_neg nn]; exact this
end TOK

/-! what is read of a terrace, on both sides; the lines that tell a house, a tenant, a life -/
def PLH (h : Nat) (σ τ : Mem) : Prop := ∀ j, j < h → σ 10 j = τ 6 (8 + j) ∧ σ 11 j = τ 7 (8 + j) ∧ (∃ a, a ≤ 60 ∧ τ 8 (8 + j) = nI a ∧ σ 20 j = nI a) ∧ σ 20 (8 + j) = τ 9 (8 + j) ∧ (∃ p, p ≤ 5 ∧ τ 10 (8 + j) = nI p ∧ σ 20 (16 + j) = nI p)
def PLT (t : Nat) (σ τ : Mem) : Prop := ∀ j, j < t → (τ 11 (7 + j) = nI 0 ∨ τ 11 (7 + j) = nI 1) ∧ σ 13 j = τ 11 (7 + j) ∧ σ 12 j = τ 12 (7 + j) ∧ σ 20 (40 + j) = τ 13 (7 + j) ∧ σ 20 (47 + j) = τ 14 (7 + j) ∧ σ 20 (54 + j) = τ 15 (7 + j)
def PLZ (h t : Nat) (σ : Mem) : Prop := ∀ j, j < 64 → (j < h ∨ (8 ≤ j ∧ j < 8 + h) ∨ (16 ≤ j ∧ j < 16 + h) ∨ (40 ≤ j ∧ j < 40 + t) ∨ (47 ≤ j ∧ j < 47 + t) ∨ (54 ≤ j ∧ j < 54 + t)) ∨ σ 20 j = (if 24 ≤ j ∧ j < 32 then -nI 1 else nI 0)
def PLN (h t N1 N2 dn : Nat) (σ τ : Mem) : Prop := h ≤ 8 ∧ t ≤ 7 ∧ σ 9 0 = nI h ∧ τ 5 5 = nI h ∧ σ 9 1 = nI t ∧ τ 5 6 = nI t ∧ (∃ L, 1 ≤ L ∧ L ≤ 99 ∧ σ 9 2 = nI L ∧ τ 5 7 = nI L) ∧ dn < 8 ∧ σ 1 4 = nI (dn % 2) ∧ (0 < N1 ↔ dn / 2 % 2 = 1) ∧ (0 < N2 ↔ dn / 4 % 2 = 1) ∧ RU 0 N1 σ τ ∧ RU 1 N2 σ τ
def PLR (h t N1 N2 dn : Nat) (σ τ : Mem) : Prop := PLN h t N1 N2 dn σ τ ∧ PLH h σ τ ∧ PLT t σ τ ∧ PLZ h t σ
theorem RU.keep {z N : Nat} {σ τ σ1 τ1 : Mem} (h : RU z N σ τ) (h1 : σ1 (14 + 3 * z) = σ (14 + 3 * z)) (h2 : σ1 (15 + 3 * z) = σ (15 + 3 * z)) (h3 : τ1 5 (8 + z) = τ 5 (8 + z)) (h4 : τ1 (16 + z) = τ (16 + z)) : RU z N σ1 τ1 := by
  unfold RU
  rw [h1, h2, h3, h4]; exact h
theorem PLH.keep {h : Nat} {σ τ σ1 τ1 : Mem} (H : PLH h σ τ) (a1 : σ1 10 = σ 10) (a2 : σ1 11 = σ 11) (a3 : σ1 20 = σ 20) (c : ∀ c, 6 ≤ c → c ≤ 10 → τ1 c = τ c) : PLH h σ1 τ1 := by
  unfold PLH
  rw [a1, a2, a3, c 6 (by decide) (by decide), c 7 (by decide) (by decide), c 8 (by decide) (by decide), c 9 (by decide) (by decide), c 10 (by decide) (by decide)]
  exact H
theorem PLT.keep {t : Nat} {σ τ σ1 τ1 : Mem} (H : PLT t σ τ) (a1 : σ1 12 = σ 12) (a2 : σ1 13 = σ 13) (a3 : σ1 20 = σ 20) (c : ∀ c, 11 ≤ c → c ≤ 15 → τ1 c = τ c) : PLT t σ1 τ1 := by
  unfold PLT
  rw [a1, a2, a3, c 11 (by decide) (by decide), c 12 (by decide) (by decide), c 13 (by decide) (by decide), c 14 (by decide) (by decide), c 15 (by decide) (by decide)]
  exact H
theorem PLR.keep {h t N1 N2 dn : Nat} {σ τ σ1 τ1 : Mem} (H : PLR h t N1 N2 dn σ τ) (hc : ∀ c, c ≠ 3 → σ1 c = σ c) (hr : ∀ c, c ≠ 0 → τ1 c = τ c) : PLR h t N1 N2 dn σ1 τ1 := by
  obtain ⟨⟨a1, a2, a3, a4, a5, a6, a7, a8, a9, a10, a11, a12, a13⟩, H2, H3, H4⟩ := H
  refine ⟨⟨a1, a2, ?_, ?_, ?_, ?_, ?_, a8, ?_, a10, a11, ?_, ?_⟩, H2.keep (hc _ (by decide)) (hc _ (by decide)) (hc _ (by decide)) (fun c q _ => hr c (by omega)), H3.keep (hc _ (by decide)) (hc _ (by decide)) (hc _ (by decide)) (fun c q _ => hr c (by omega)), ?_⟩
  · rw [hc 9 (by decide)]; exact a3
  · rw [hr 5 (by decide)]; exact a4
  · rw [hc 9 (by decide)]; exact a5
  · rw [hr 5 (by decide)]; exact a6
  · rw [hr 5 (by decide), hc 9 (by decide)]; exact a7
  · rw [hc 1 (by decide)]; exact a9
  · exact a12.keep (hc _ (by decide)) (hc _ (by decide)) (by rw [hr 5 (by decide)]) (hr _ (by decide))
  · exact a13.keep (hc _ (by decide)) (hc _ (by decide)) (by rw [hr 5 (by decide)]) (hr _ (by decide))
  · unfold PLZ; rw [hc 20 (by decide)]; exact H4
/-- how a line ends -/
def LO (E : Nat) (b : Nat → Nat) (s h t N1 N2 dn : Nat) (σ τ : Mem) (cl : Option (Int32 × Mem)) (τ1 : Mem) : Prop :=
  (∃ f σf, 0 < f ∧ f < 10 ∧ (cl = some (nI f, σf) ∨ (f = 1 ∧ cl = some (nI 0, σf) ∧ ¬ σf 3 5 = nI 59)) ∧ CLF σ σf ∧ RLF τ τ1 ∧ τ1 0 28 = nI f ∧ τ1 0 29 = σf 3 3) ∨
  (∃ σf σ2 k2 s2 e2 v2, cl = some (nI 0, σf) ∧ σf 3 5 = nI 59 ∧ m_X9_next σf = some σ2 ∧ CLF σ σ2 ∧ RLF τ τ1 ∧ τ1 0 28 = nI 0 ∧ PLR h t N1 N2 dn σ2 τ1 ∧ TP E b σ2 τ1 ∧ TK E b σ2 τ1 k2 s2 e2 v2 ∧ s < s2)
section LINES
variable {E : Nat} {b : Nat → Nat} {σ τ : Mem} {k s e v h t N1 N2 dn : Nat}
theorem TAIL {σ1 τ1 : Mem} {k1 s1 e1 v1 : Nat} {cl : Option (Int32 × Mem)} (hcl : cl = some (nI 0, σ1)) (hT : TP E b σ1 τ1) (hK : TK E b σ1 τ1 k1 s1 e1 v1) (hb : τ1 0 28 = nI 0) (hP : PLR h t N1 N2 dn σ1 τ1) (hc : CLF σ σ1) (hr : RLF τ τ1) (hs : s ≤ s1) : OK (m_X11_mark τ1 (nI 59)) (LO E b s h t N1 N2 dn σ τ cl) := by
  refine ok_mono (MK59 hT hK hb) (fun τ2 hO => ?_)
  rcases hO with ⟨p1, p2, p3, p4⟩ | ⟨p1, σ2, k2, s2, e2, v2, p2, p3, p4, p5, p6, p7⟩
  · exact Or.inl ⟨1, σ1, by decide, by decide, Or.inr ⟨rfl, hcl, p1⟩, hc, hr.trans p4, p2, p3⟩
  · refine Or.inr ⟨σ1, σ2, k2, s2, e2, v2, hcl, p1, p2, hc.trans (CLF.ofT p3), hr.trans (RLF.ofT p4), by rw [p4.2 28 (by decide)]; exact hb, hP.keep (fun c q => p3.1 c (by simp; exact q)) (fun c q => p4.1 c (by simp; exact q)), p5, p6, by omega⟩
theorem R_another {a n i : Nat} (ha : a < 5) (hi : i < 100) (hn : n < 100) (h5 : τ 5 (5 + a) = nI i) (hb : τ 0 28 = nI 0) : m_X11_another τ (nI a) (nI n) = if i = n then some (nI 0, ms (ms τ 0 28 (nI 2)) 0 29 (τ 0 26)) else (m_X11_stepOn τ).bind fun q => some (nI 1, q) := by
  unfold m_X11_another
  simp only [pu_lit]
  rw [nI_add, pu_gd (k := 5 + a) (by omega) (by decide), nI_clamp (n := 5 + a) (by omega), h5]
  by_cases c : i = n
  · rw [if_pos c, c, if_pos rfl, R_wrong hb, sbind, show ms (ms τ 0 28 (nI 2)) 0 29 (τ 0 26) 0 28 = nI 2 by rw [ms_same, pk_un (by decide), ms_at], if_neg (show ¬ nI 2 = nI 0 by decide)]
  · rw [if_neg c, if_neg (show ¬ nI i = nI n by rw [nI_eq (by omega) (by omega)]; exact c), hb, if_pos rfl]
def hsR4 : List (Nat × Nat) := [(6, 99), (8, 60), (9, 9), (10, 5)]
def tnR4 : List (Nat × Nat) := [(13, 20), (12, 9), (14, 3), (15, 999)]
theorem R_sayHouse {i h : Nat} {τ0 : Mem} (hh : h < 8) (h5 : τ 5 5 = nI h) (hb : τ 0 28 = nI 0) (h0 : m_X11_stepOn τ = some τ0) (hf : τ0 5 = τ 5) : m_X11_sayHouse τ (nI i) = (RNs 0 (8 + h) some hsR4 (ms τ0 7 (8 + h) (nI i))).bind fun q => some (ms q 5 5 (q 5 5 + nI 1)) := by
  unfold m_X11_sayHouse
  simp only [pu_lit]
  rw [R_another (a := 0) (i := h) (by decide) (by omega) (by decide) h5 hb, if_neg (by omega), h0, sbind, sbind]
  dsimp only
  rw [if_neg (show ¬ nI 1 = nI 0 by decide), pu_gd (k := 5) (by decide) (by decide), ltE, nI_clamp (n := 5) (by decide), hf, h5, nI_add]
  simp only [pu_gd (k := 8 + h) (n := 16) (by omega) (by decide), nI_clamp (n := 8 + h) (by omega), pu_gd (k := 5) (n := 10) (by decide) (by decide), nI_clamp (n := 5) (by decide)]
  rw [← RNs_k]
  rfl
theorem R_sayTenant {i t : Nat} {τ0 : Mem} (hh : t < 7) (h5 : τ 5 6 = nI t) (hb : τ 0 28 = nI 0) (h0 : m_X11_stepOn τ = some τ0) (hf : τ0 5 = τ 5) : m_X11_sayTenant τ (nI i) = (RNs 0 (7 + t) some tnR4 (ms τ0 11 (7 + t) (nI i))).bind fun q => some (ms q 5 6 (q 5 6 + nI 1)) := by
  unfold m_X11_sayTenant
  simp only [pu_lit]
  rw [R_another (a := 1) (i := t) (by decide) (by omega) (by decide) h5 hb, if_neg (by omega), h0, sbind, sbind]
  dsimp only
  rw [if_neg (show ¬ nI 1 = nI 0 by decide), pu_gd (k := 6) (by decide) (by decide), ltE, nI_clamp (n := 6) (by decide), hf, h5, nI_add]
  simp only [pu_gd (k := 7 + t) (n := 14) (by omega) (by decide), nI_clamp (n := 7 + t) (by omega), pu_gd (k := 6) (n := 10) (by decide) (by decide), nI_clamp (n := 6) (by decide)]
  rw [← RNs_k]
  rfl
def WHn (h : Nat) (σ : Mem) : Mem := ms (ms (ms (ms σ 10 h (σ 21 0)) 20 h (σ 21 1)) 20 (8 + h) (σ 21 2)) 20 (16 + h) (σ 21 3)
def WTn (t : Nat) (σ : Mem) : Mem := ms (ms (ms (ms σ 20 (40 + t) (σ 21 0)) 12 t (σ 21 1)) 20 (47 + t) (σ 21 2)) 20 (54 + t) (σ 21 3)
theorem m21a {j : Nat} {x : Int32} : ms σ 10 j x 21 = σ 21 := ms_ne (by decide)
theorem m21b {j : Nat} {x : Int32} : ms σ 20 j x 21 = σ 21 := ms_ne (by decide)
theorem m21c {j : Nat} {x : Int32} : ms σ 12 j x 21 = σ 21 := ms_ne (by decide)
theorem C_house54 {x : Int32} (hh : h < 8) : f_X3_readHouse_54 σ (nI h) (nI h) x = (m_X3_readNumbers 0 (ms σ 11 h x) (nI 0)).bind fun q => some (q.1, WHn h q.2) := by
  unfold f_X3_readHouse_54 WHn
  dsimp only [lt]
  simp only [pu_lit, nI_add, pu_gd (k := h) (n := 8) (by omega) (by decide), nI_clamp (n := h) (by omega), nI_clamp (n := 0) (by decide), nI_clamp (n := 1) (by decide), nI_clamp (n := 2) (by decide), nI_clamp (n := 3) (by decide), pu_gd (k := 0) (n := 4) (by decide) (by decide), pu_gd (k := 1) (n := 4) (by decide) (by decide), pu_gd (k := 2) (n := 4) (by decide) (by decide), pu_gd (k := 3) (n := 4) (by decide) (by decide), Nat.zero_add, pu_gd (k := h) (n := 64) (by omega) (by decide), pu_gd (k := 8 + h) (n := 64) (by omega) (by decide), pu_gd (k := 16 + h) (n := 64) (by omega) (by decide), nI_clamp (n := 8 + h) (by omega), nI_clamp (n := 16 + h) (by omega), m21a, m21b]
theorem C_tenant54 {x : Int32} (hh : t < 7) : f_X3_readTenant_54 σ (nI t) (nI t) x = (m_X3_readNumbers 1 (ms σ 13 t x) (nI 0)).bind fun q => some (q.1, WTn t q.2) := by
  unfold f_X3_readTenant_54 WTn
  dsimp only [lt]
  simp only [pu_lit, nI_add, pu_gd (k := t) (n := 7) (by omega) (by decide), nI_clamp (n := t) (by omega), nI_clamp (n := 0) (by decide), nI_clamp (n := 1) (by decide), nI_clamp (n := 2) (by decide), nI_clamp (n := 3) (by decide), pu_gd (k := 0) (n := 4) (by decide) (by decide), pu_gd (k := 1) (n := 4) (by decide) (by decide), pu_gd (k := 2) (n := 4) (by decide) (by decide), pu_gd (k := 3) (n := 4) (by decide) (by decide), Nat.zero_add, pu_gd (k := 40 + t) (n := 64) (by omega) (by decide), pu_gd (k := 47 + t) (n := 64) (by omega) (by decide), pu_gd (k := 54 + t) (n := 64) (by omega) (by decide), nI_clamp (n := 40 + t) (by omega), nI_clamp (n := 47 + t) (by omega), nI_clamp (n := 54 + t) (by omega), m21b, m21c]
end LINES

/-! what holds between the class' memory and the reference's, ahead of every call -/
def by8 (b : Nat) : Int32 := (nI b).toInt8.toInt32
def TR (σ τ : Mem) : Prop := ∃ n, n ≤ 700 ∧ σ 3 1 = nI n ∧ τ 0 21 = nI n ∧ ∀ j, j < n → ∃ b, b < 256 ∧ τ 19 j = nI b ∧ σ 4 j = by8 b
def AR (H T : Nat) (σ τ : Mem) (k sa pa : Nat) : Prop := ∃ A F, A ≤ 40 ∧ F < 40 ∧ σ k 1 = nI F ∧ σ k 2 = nI A ∧ τ 0 sa = nI A ∧ ∀ a, a < A → (∀ j, j < 64 → owc H j → τ pa (64 * a + po j) = σ (k + 1) ((F + a) % 40 * 64 + j)) ∧ RW (fun j => σ (k + 1) ((F + a) % 40 * 64 + j)) H T
def SR (H : Nat) (σ τ : Mem) (k ss ct ch cq cb : Nat) : Prop := ∃ S, S ≤ 8 ∧ σ k 1 = nI S ∧ τ 0 ss = nI S ∧ (∀ i, i < S → τ ct i = σ (k + 1) (4 * i) ∧ τ ch i = σ (k + 1) (4 * i + 1) ∧ τ cq i = σ (k + 1) (4 * i + 2) ∧ τ cb i = σ (k + 1) (4 * i + 3) ∧ (∃ h, h < H ∧ τ ch i = nI h) ∧ (∃ q, 1 ≤ q ∧ q ≤ 12 ∧ τ cq i = nI q)) ∧ ∀ i, i < 8 → τ cb i = nI 0 ∨ τ cb i = nI 1
def IM (H T : Nat) (σ τ : Mem) : Prop := (σ 0 7 = nI 0 ∧ τ 0 64 = nI 0) ∨ (σ 0 7 = nI 1 ∧ τ 0 64 = nI 1 ∧ (∀ j, j < 64 → owc H j → τ 45 (0 + po j) = σ 50 j) ∧ RW (σ 50) H T ∧ AR H T σ τ 51 65 46 ∧ SR H σ τ 53 66 47 48 49 51 ∧ ∀ i, i < 3 → σ 55 i = τ 50 i)
def RelH (H T : Nat) (σ τ : Mem) : Prop := PW σ H T ∧ PR σ τ H T ∧ RX H 64 (σ 43) τ ∧ RW (σ 43) H T ∧ AR H T σ τ 44 44 28 ∧ SR H σ τ 46 45 37 38 39 41 ∧ (∀ i, i < 3 → σ 48 i = τ 18 i) ∧ IM H T σ τ ∧ σ 0 8 = τ 0 30 ∧ TR σ τ
def Rel (σ τ : Mem) : Prop := ∃ H T, RelH H T σ τ
theorem PW.of {P Q : Mem} {H T : Nat} (h : PW P H T) (e : PE P Q) : PW Q H T := by
  unfold PW
  rw [e 23 (by decide) (by decide) (by decide) (by decide), e 27 (by decide) (by decide) (by decide) (by decide), e 28 (by decide) (by decide) (by decide) (by decide), e 29 (by decide) (by decide) (by decide) (by decide), e 31 (by decide) (by decide) (by decide) (by decide), e 32 (by decide) (by decide) (by decide) (by decide)]
  exact h
theorem PR.of {P Q τ : Mem} {H T : Nat} (h : PR P τ H T) (e : PE P Q) : PR Q τ H T := by
  unfold PR
  rw [e 23 (by decide) (by decide) (by decide) (by decide), e 24 (by decide) (by decide) (by decide) (by decide), e 25 (by decide) (by decide) (by decide) (by decide), e 26 (by decide) (by decide) (by decide) (by decide), e 27 (by decide) (by decide) (by decide) (by decide), e 28 (by decide) (by decide) (by decide) (by decide), e 29 (by decide) (by decide) (by decide) (by decide), e 31 (by decide) (by decide) (by decide) (by decide), e 32 (by decide) (by decide) (by decide) (by decide)]
  exact h
theorem AR.of {H T k sa pa : Nat} {σ τ σ1 τ1 : Mem} (h : AR H T σ τ k sa pa) (e1 : σ1 k = σ k) (e2 : σ1 (k + 1) = σ (k + 1)) (e3 : τ1 0 sa = τ 0 sa) (e4 : τ1 pa = τ pa) : AR H T σ1 τ1 k sa pa := by
  unfold AR
  rw [e1, e2, e3, e4]
  exact h
theorem SR.of {H k ss ct ch cq cb : Nat} {σ τ σ1 τ1 : Mem} (h : SR H σ τ k ss ct ch cq cb) (e1 : σ1 k = σ k) (e2 : σ1 (k + 1) = σ (k + 1)) (e3 : τ1 0 ss = τ 0 ss) (e4 : τ1 ct = τ ct) (e5 : τ1 ch = τ ch) (e6 : τ1 cq = τ cq) (e7 : τ1 cb = τ cb) : SR H σ1 τ1 k ss ct ch cq cb := by
  unfold SR
  rw [e1, e2, e3, e4, e5, e6, e7]
  exact h
theorem IM.of {H T : Nat} {σ τ σ1 τ1 : Mem} (h : IM H T σ τ) (ec : ∀ k, 50 ≤ k → k ≤ 55 → σ1 k = σ k) (e7 : σ1 0 7 = σ 0 7) (er : ∀ k, 45 ≤ k → k ≤ 51 → τ1 k = τ k) (es : τ1 0 64 = τ 0 64 ∧ τ1 0 65 = τ 0 65 ∧ τ1 0 66 = τ 0 66) : IM H T σ1 τ1 := by
  rcases h with ⟨h1, h2⟩ | ⟨h1, h2, h3, h4, h5, h6, h7⟩
  · exact Or.inl ⟨e7.trans h1, es.1.trans h2⟩
  · refine Or.inr ⟨e7.trans h1, es.1.trans h2, ?_, ?_, h5.of (ec 51 (by decide) (by decide)) (ec 52 (by decide) (by decide)) es.2.1 (er 46 (by decide) (by decide)), h6.of (ec 53 (by decide) (by decide)) (ec 54 (by decide) (by decide)) es.2.2 (er 47 (by decide) (by decide)) (er 48 (by decide) (by decide)) (er 49 (by decide) (by decide)) (er 51 (by decide) (by decide)), ?_⟩
    · rw [er 45 (by decide) (by decide), ec 50 (by decide) (by decide)]; exact h3
    · rw [ec 50 (by decide) (by decide)]; exact h4
    · rw [er 50 (by decide) (by decide), ec 55 (by decide) (by decide)]; exact h7
theorem TR.of {σ τ σ1 τ1 : Mem} (h : TR σ τ) (e1 : σ1 3 1 = σ 3 1) (e2 : σ1 4 = σ 4) (e3 : τ1 0 21 = τ 0 21) (e4 : τ1 19 = τ 19) : TR σ1 τ1 := by
  unfold TR
  rw [e1, e2, e3, e4]
  exact h
def CS : List Nat := [22, 30, 33, 35, 36, 37, 38, 39, 40, 41, 56, 57, 58, 59]
def RS : List Nat := [0, 20, 21, 22, 23, 24, 25, 26, 27, 29, 30, 31, 32, 33, 34, 35, 36, 40, 42, 43, 44]
theorem RelH.keep {H T : Nat} {σ τ σ1 τ1 : Mem} (h : RelH H T σ τ) (hc : fr CS σ σ1) (hR : RX H 64 (σ 43) τ1) (hr : fr RS τ τ1) (hs : ∀ s, s ∈ [21, 30, 44, 45, 64, 65, 66] → τ1 0 s = τ 0 s) : RelH H T σ1 τ1 := by
  obtain ⟨a1, a2, a3, a4, a5, a6, a7, a8, a9, a10⟩ := h
  have hPE : PE σ σ1 := fun k h1 h2 h3 h4 => hc k (by unfold CS; simp; omega)
  have e43 : σ1 43 = σ 43 := hc 43 (by decide)
  refine ⟨a1.of hPE, (a2.of hPE).fr hr (by decide), ?_, ?_, ?_, ?_, ?_, ?_, ?_, ?_⟩
  · rw [e43]; exact hR
  · rw [e43]; exact a4
  · exact a5.of (hc 44 (by decide)) (hc 45 (by decide)) (hs 44 (by decide)) (hr 28 (by decide))
  · exact a6.of (hc 46 (by decide)) (hc 47 (by decide)) (hs 45 (by decide)) (hr 37 (by decide)) (hr 38 (by decide)) (hr 39 (by decide)) (hr 41 (by decide))
  · rw [hc 48 (by decide), hr 18 (by decide)]; exact a7
  · exact a8.of (fun k h1 h2 => hc k (by unfold CS; simp; omega)) (by rw [hc 0 (by decide)]) (fun k h1 h2 => hr k (by unfold RS; simp; omega)) ⟨hs 64 (by decide), hs 65 (by decide), hs 66 (by decide)⟩
  · rw [hc 0 (by decide), hs 30 (by decide)]; exact a9
  · exact a10.of (by rw [hc 3 (by decide)]) (hc 4 (by decide)) (hs 21 (by decide)) (hr 19 (by decide))
theorem RelH.out {H T : Nat} {σ τ : Mem} {v : Int32} (h : RelH H T σ τ) : RelH H T (ms σ 59 0 v) τ :=
  h.keep (fr.rfl.ms (by decide)) h.2.2.1 fr.rfl (fun _ _ => rfl)
theorem RelH.code {H T : Nat} {σ τ : Mem} {v : Int32} (h : RelH H T σ τ) : RelH H T σ (ms τ 0 5 v) :=
  h.keep fr.rfl (h.2.2.1.slot (by decide)) (fr.rfl.ms (by decide)) (fun s hs => by
    rw [ms_same, pk_un]
    intro q
    subst q
    exact absurd hs (by decide))
/-- a query: the class' scratch cells, the reference's row and scratch -/
theorem RelH.q {H T : Nat} {σ τ σ1 τ1 : Mem} (h : RelH H T σ τ) (hc : fr CS σ σ1) (hR : RX H 64 (σ 43) τ1) (hr : fr RS τ τ1) (hs : ∀ s, s ∈ [5, 21, 30, 44, 45, 64, 65, 66] → τ1 0 s = ms τ 0 5 (nI 0) 0 s) : RelH H T σ1 τ1 ∧ τ1 0 5 = nI 0 := by
  refine ⟨h.keep hc hR hr (fun s q => ?_), ?_⟩
  · rw [hs s (List.mem_cons_of_mem _ q), ms_same, pk_un]
    intro e
    subst e
    exact absurd q (by decide)
  · rw [hs 5 (by decide), ms_same, pk_us]
/-! both sides' ends -/
def cN (k q : Nat) : Prop := k = 0 ∧ q = 1
def cI (k q : Nat) : Prop := k = 1 ∧ q = 1
def cNI (k q : Nat) : Prop := (k = 0 ∧ q = 1) ∨ (k = 1 ∧ q = 2)
def PO (c : Nat → Nat → Prop) (x : Option ((Nat × Mem) ⊕ (Int32 × Mem))) (y : Option (Int32 × Mem)) : Prop :=
  (∃ k q u b t, x = some (.inl (k, u)) ∧ y = some (b, t) ∧ c k q ∧ t 0 5 = nI q ∧ Rel u t) ∨ (∃ v u t, x = some (.inr (v, u)) ∧ y = some (v, t) ∧ t 0 5 = nI 0 ∧ Rel u t)
theorem po_throw {c : Nat → Nat → Prop} {x : Option ((Nat × Mem) ⊕ (Int32 × Mem))} {y : Option (Int32 × Mem)} {k q : Nat} {b : Int32} {σ τ : Mem} (R : Rel σ τ) (hc : c k q) (hx : x = some (.inl (k, σ))) (hy : y = some (b, ms (ms τ 0 5 (nI 0)) 0 5 (nI q))) : PO c x y := by
  obtain ⟨H, T, R⟩ := R
  exact Or.inl ⟨k, q, σ, b, _, hx, hy, hc, by rw [ms_same, pk_us], H, T, R.code.code⟩
theorem po_val {c : Nat → Nat → Prop} {x : Option ((Nat × Mem) ⊕ (Int32 × Mem))} {y : Option (Int32 × Mem)} {v : Int32} {u t : Mem} (R : Rel u t) (h5 : t 0 5 = nI 0) (hx : x = some (.inr (v, u))) (hy : y = some (v, t)) : PO c x y := Or.inr ⟨v, u, t, hx, hy, h5, R⟩
theorem po_ok {c : Nat → Nat → Prop} {x : Option ((Nat × Mem) ⊕ (Int32 × Mem))} {y : Option (Int32 × Mem)} (h : OK x (fun z => ∃ v u, z = .inr (v, u) ∧ OK y (fun w => w.1 = v ∧ w.2 0 5 = nI 0 ∧ Rel u w.2))) : PO c x y := by
  obtain ⟨z, hz, v, u, rfl, w, hw, h1, h2, h3⟩ := h
  exact Or.inr ⟨v, u, w.2, hz, by rw [hw, ← h1], h2, h3⟩
/-- the law's helpers out of these -/
theorem sim_N {x : Option ((Nat × Mem) ⊕ (Int32 × Mem))} {y : Option (Int32 × Mem)} (h : PO cN x y) : ∃ (q : Int32) (σ1 : Mem) (b : Int32) (τ1 : Mem), hb x (fun k u => (if k = 0 then (some ((1 : Int32), u)) else none)) (fun v u => (gd (0 : Int32) 1 (lt (ms u 59 (Int32.toNatClampNeg (0 : Int32)) v) fun σ2 => (some ((0 : Int32), σ2))))) = some (q, σ1) ∧ y = some (b, τ1) ∧ τ1 0 5 = q ∧ (q = 0 → σ1 59 0 = b) ∧ Rel σ1 τ1 := by
  rcases h with ⟨k, q, u, b, t, hx, hy, ⟨rfl, rfl⟩, h5, R⟩ | ⟨v, u, t, hx, hy, h5, R⟩
  · refine ⟨1, u, b, t, by rw [hx]; rfl, hy, h5, fun q => absurd q (by decide), R⟩
  · refine ⟨0, ms u 59 0 v, v, t, ?_, hy, h5, fun _ => by rw [ms_same, pk_us], ?_⟩
    · rw [hx]; rfl
    · obtain ⟨H, T, R⟩ := R; exact ⟨H, T, R.out⟩
theorem sim_I {x : Option ((Nat × Mem) ⊕ (Int32 × Mem))} {y : Option (Int32 × Mem)} (h : PO cI x y) : ∃ (q : Int32) (σ1 : Mem) (b : Int32) (τ1 : Mem), hb x (fun k u => (if k = 1 then (some ((1 : Int32), u)) else none)) (fun v u => (gd (0 : Int32) 1 (lt (ms u 59 (Int32.toNatClampNeg (0 : Int32)) v) fun σ2 => (some ((0 : Int32), σ2))))) = some (q, σ1) ∧ y = some (b, τ1) ∧ τ1 0 5 = q ∧ (q = 0 → σ1 59 0 = b) ∧ Rel σ1 τ1 := by
  rcases h with ⟨k, q, u, b, t, hx, hy, ⟨rfl, rfl⟩, h5, R⟩ | ⟨v, u, t, hx, hy, h5, R⟩
  · refine ⟨1, u, b, t, by rw [hx]; rfl, hy, h5, fun q => absurd q (by decide), R⟩
  · refine ⟨0, ms u 59 0 v, v, t, ?_, hy, h5, fun _ => by rw [ms_same, pk_us], ?_⟩
    · rw [hx]; rfl
    · obtain ⟨H, T, R⟩ := R; exact ⟨H, T, R.out⟩
theorem sim_NI {x : Option ((Nat × Mem) ⊕ (Int32 × Mem))} {y : Option (Int32 × Mem)} (h : PO cNI x y) : ∃ (q : Int32) (σ1 : Mem) (b : Int32) (τ1 : Mem), hb x (fun k u => (if k = 0 then (some ((1 : Int32), u)) else (some ((2 : Int32), u)))) (fun v u => (gd (0 : Int32) 1 (lt (ms u 59 (Int32.toNatClampNeg (0 : Int32)) v) fun σ2 => (some ((0 : Int32), σ2))))) = some (q, σ1) ∧ y = some (b, τ1) ∧ τ1 0 5 = q ∧ (q = 0 → σ1 59 0 = b) ∧ Rel σ1 τ1 := by
  rcases h with ⟨k, q, u, b, t, hx, hy, hc, h5, R⟩ | ⟨v, u, t, hx, hy, h5, R⟩
  · rcases hc with ⟨rfl, rfl⟩ | ⟨rfl, rfl⟩
    · refine ⟨1, u, b, t, by rw [hx]; rfl, hy, h5, fun q => absurd q (by decide), R⟩
    · refine ⟨2, u, b, t, by rw [hx]; rfl, hy, h5, fun q => absurd q (by decide), R⟩
  · refine ⟨0, ms u 59 0 v, v, t, ?_, hy, h5, fun _ => by rw [ms_same, pk_us], ?_⟩
    · rw [hx]; rfl
    · obtain ⟨H, T, R⟩ := R; exact ⟨H, T, R.out⟩
theorem xb_inl {α β : Type} {e : Nat × Mem} {f : α → Option ((Nat × Mem) ⊕ β)} : xb (some (.inl e)) f = some (.inl e) := rfl
theorem xb_inr {α β : Type} {q : α} {f : α → Option ((Nat × Mem) ⊕ β)} : xb (some (.inr q)) f = f q := rfl
/-! an int is an index, or it isn't -/
theorem ix_dec (x : Int32) (n : Nat) (hn : n < 2147483648) : (x < nI 0 ∨ nI n ≤ x) ∨ ∃ j, j < n ∧ x = nI j := by
  rcases pk_ix x (n := n) (by omega) with h | h | h
  · exact Or.inl (Or.inl h)
  · exact Or.inl (Or.inr h)
  · exact Or.inr h
theorem ix_dec1 (x : Int32) (n : Nat) (hn : n < 2147483647) : (x < nI 0 ∨ nI n < x) ∨ ∃ j, j ≤ n ∧ x = nI j := by
  rcases ix_dec x (n + 1) (by omega) with (h | h) | ⟨j, hj, e⟩
  · exact Or.inl (Or.inl h)
  · exact Or.inl (Or.inr (Int32.lt_of_lt_of_le (nI_lt (by omega) (by omega)) h))
  · exact Or.inr ⟨j, by omega, e⟩
section NEED
variable {σ τ : Mem} {H T : Nat} {x : Int32}
theorem C_needHouse_f (e : σ 23 0 = nI H) (h : x < nI 0 ∨ nI H ≤ x) : m_X10_needHouse σ x = some (.inl (0, σ)) := by
  unfold m_X10_needHouse
  simp only [pu_lit]
  rw [e]
  by_cases c : x < nI 0
  · rw [if_pos c]
  · rw [if_neg c, if_neg (Int32.not_lt.mpr (h.resolve_left c))]
theorem C_needHouse_t (e : σ 23 0 = nI H) {h : Nat} (hh : h < H) (h8 : H ≤ 8) : m_X10_needHouse σ (nI h) = some (.inr σ) := by
  unfold m_X10_needHouse
  simp only [pu_lit]
  rw [e, if_neg (nn0 (by omega)), if_pos (nI_lt hh (by omega))]
theorem C_needTenant_f (e : σ 23 1 = nI T) (h : x < nI 0 ∨ nI T ≤ x) : m_X10_needTenant σ x = some (.inl (0, σ)) := by
  unfold m_X10_needTenant
  simp only [pu_lit]
  rw [e]
  by_cases c : x < nI 0
  · rw [if_pos c]
  · rw [if_neg c, if_neg (Int32.not_lt.mpr (h.resolve_left c))]
theorem C_needTenant_t (e : σ 23 1 = nI T) {t : Nat} (ht : t < T) (h7 : T ≤ 7) : m_X10_needTenant σ (nI t) = some (.inr σ) := by
  unfold m_X10_needTenant
  simp only [pu_lit]
  rw [e, if_neg (nn0 (by omega)), if_pos (nI_lt ht (by omega))]
theorem C_needWhat_f {n : Nat} (h : x < nI 0 ∨ nI n < x) : m_X10_needWhat σ x (nI n) = some (.inl (0, σ)) := by
  unfold m_X10_needWhat
  simp only [pu_lit]
  by_cases c : x < nI 0
  · rw [if_pos c]
  · rw [if_neg c, if_neg (Int32.not_le.mpr (h.resolve_left c))]
theorem C_needWhat_t {n w : Nat} (hw : w ≤ n) (hn : n < 100) : m_X10_needWhat σ (nI w) (nI n) = some (.inr σ) := by
  unfold m_X10_needWhat
  simp only [pu_lit]
  rw [if_neg (nn0 (by omega)), if_pos (nI_le hw (by omega))]
theorem C_needAhead_f (h : x < nI 0 ∨ nI 40 < x) : m_X10_needAhead σ x = some (.inl (1, σ)) := by
  unfold m_X10_needAhead
  simp only [pu_lit]
  by_cases c : x < nI 0
  · rw [if_pos c]
  · rw [if_neg c, if_neg (Int32.not_le.mpr (h.resolve_left c))]
theorem C_needAhead_t {w : Nat} (hw : w ≤ 40) : m_X10_needAhead σ (nI w) = some (.inr σ) := by
  unfold m_X10_needAhead
  simp only [pu_lit]
  rw [if_neg (nn0 (by omega)), if_pos (nI_le hw (by omega))]
theorem R_isHouse_f (e : τ 5 0 = nI H) (h8 : H ≤ 8) (h : x < nI 0 ∨ nI H ≤ x) : m_X11_isHouse τ x = some (nI 0) := by
  rw [R_isHouse e h8]
  by_cases c : x < nI 0
  · rw [if_pos c]
  · rw [if_neg c, if_pos (h.resolve_left c)]
theorem R_isHouse_t (e : τ 5 0 = nI H) (h8 : H ≤ 8) {h : Nat} (hh : h < H) : m_X11_isHouse τ (nI h) = some (nI 1) := by
  rw [R_isHouse e h8, if_neg (nn0 (by omega)), if_neg (nI_ge hh (by omega))]
theorem R_isTenant_f (e : τ 5 1 = nI T) (h7 : T ≤ 7) (h : x < nI 0 ∨ nI T ≤ x) : m_X11_isTenant τ x = some (nI 0) := by
  rw [R_isTenant e h7]
  by_cases c : x < nI 0
  · rw [if_pos c]
  · rw [if_neg c, if_pos (h.resolve_left c)]
theorem R_isTenant_t (e : τ 5 1 = nI T) (h7 : T ≤ 7) {t : Nat} (ht : t < T) : m_X11_isTenant τ (nI t) = some (nI 1) := by
  rw [R_isTenant e h7, if_neg (nn0 (by omega)), if_neg (nI_ge ht (by omega))]
theorem R_isIn_f {a b : Nat} {A B : Int64} (hA : A = Int32.toInt64 (nI a)) (hB : B = Int32.toInt64 (nI b)) (h : x < nI a ∨ nI b < x) : m_X11_isIn τ (Int32.toInt64 x) A B = some (nI 0) := by
  rw [R_isIn hA hB]
  by_cases c : x < nI a
  · rw [if_pos c]
  · rw [if_neg c, if_pos (h.resolve_left c)]
theorem R_isIn_t {a b w : Nat} {A B : Int64} (hA : A = Int32.toInt64 (nI a)) (hB : B = Int32.toInt64 (nI b)) (h : a ≤ w ∧ w ≤ b) (hb : b < 1000) : m_X11_isIn τ (Int32.toInt64 (nI w)) A B = some (nI 1) := by
  rw [R_isIn hA hB, if_neg (by rw [nI_ltI (by omega) (by omega)]; omega), if_neg (by rw [nI_ltI (by omega) (by omega)]; omega)]
theorem R_fail {v : Int32} : m_X11_fail τ v = some (nI 0, ms τ 0 5 v) := rfl
end NEED

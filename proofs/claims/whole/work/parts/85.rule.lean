/-! rules: what their codes give -/
def jn (c a b : Int32) : Int32 :=
  if c = -nI 29 then (if b = nI 0 then nI 0 else a / b) else if c = -nI 28 then a * b else if c = -nI 27 then a - b else if c = -nI 26 then a + b
  else if c = -nI 25 then (if a = b then nI 1 else nI 0) else if c = -nI 24 then (if b ≤ a then nI 0 else nI 1)
  else if c = -nI 22 then (if a = nI 0 then nI 0 else if b = nI 0 then nI 0 else nI 1)
  else if c = -nI 21 then (if a = nI 0 then (if b = nI 0 then nI 0 else nI 1) else nI 1) else nI 0
def stp (vals : Nat → Int32) (c : Int32) (st : List Int32) : List Int32 :=
  if c < -nI 10 then (if c = -nI 23 then (match st with | a :: r => (if a = nI 0 then nI 1 else nI 0) :: r | [] => [])
    else (match st with | b :: a :: r => jn c a b :: r | st => st))
  else (if c < nI 0 then vals (Int32.toNatClampNeg (-nI 1 - c)) else c) :: st
def evN (vals f : Nat → Int32) : Nat → List Int32
  | 0 => []
  | n + 1 => stp vals (f n) (evN vals f n)
def isOpc (c : Int32) : Prop := c = -nI 21 ∨ c = -nI 22 ∨ c = -nI 24 ∨ c = -nI 25 ∨ c = -nI 26 ∨ c = -nI 27 ∨ c = -nI 28 ∨ c = -nI 29
/-- one code: how deep the stack is behind it -/
def dst (mv : Nat) (c : Int32) (d e : Nat) : Prop :=
  (¬ c < -nI mv ∧ d < 64 ∧ e = d + 1) ∨ (c = -nI 23 ∧ 1 ≤ d ∧ e = d) ∨ (isOpc c ∧ 2 ≤ d ∧ e + 1 = d)
def dpN (mv : Nat) (f : Nat → Int32) : Nat → Nat → Prop
  | 0, d => d = 0
  | n + 1, e => ∃ d, dpN mv f n d ∧ dst mv (f n) d e
theorem dp_pre {mv : Nat} {f : Nat → Int32} : ∀ {n d : Nat}, dpN mv f n d → ∀ {i : Nat}, i ≤ n → ∃ e, dpN mv f i e
  | 0, d, h, i, hi => by
    have : i = 0 := by omega
    subst this
    exact ⟨d, h⟩
  | n + 1, d, h, i, hi => by
    rcases Nat.lt_or_ge n i with q | q
    · have : i = n + 1 := by omega
      subst this
      exact ⟨d, h⟩
    · obtain ⟨e, h1, _⟩ := h
      exact dp_pre h1 q
theorem dp_step {mv : Nat} {f : Nat → Int32} {N d i : Nat} (h : dpN mv f N d) (hi : i < N) : ∃ a b, dpN mv f i a ∧ dst mv (f i) a b := by
  obtain ⟨b, a, h1, h2⟩ := dp_pre h (i := i + 1) (by omega)
  exact ⟨a, b, h1, h2⟩
theorem op_neg {c : Int32} (h : isOpc c) : c < -nI 10 ∧ ¬ c = -nI 23 := by
  rcases h with h | h | h | h | h | h | h | h <;> subst h <;> decide
theorem not_neg : (-nI 23 : Int32) < -nI 10 := by decide
theorem mv_neg {mv : Nat} (h : mv ≤ 10) {c : Int32} (hc : ¬ c < -nI mv) : ¬ c < -nI 10 := by
  have hm : ∀ m, m < 11 → ¬ (-nI m : Int32) < -nI 10 := by decide
  intro h2
  apply hc
  refine Int32.lt_of_lt_of_le h2 ?_
  exact Int32.not_lt.mp (hm mv (by omega))
theorem st_len {vals : Nat → Int32} {c : Int32} {st : List Int32} {mv e : Nat} (hm : mv ≤ 10) (h : dst mv c st.length e) : (stp vals c st).length = e := by
  rcases h with ⟨h, _, rfl⟩ | ⟨rfl, h, rfl⟩ | ⟨h, h2, h3⟩
  · unfold stp; rw [if_neg (mv_neg hm h)]; rfl
  · unfold stp
    rw [if_pos not_neg, if_pos (Eq.refl _)]
    cases st with
    | nil => exact absurd h (by decide)
    | cons a r => rfl
  · unfold stp
    rw [if_pos (op_neg h).1, if_neg (op_neg h).2]
    match st with
    | [] => exact absurd h2 (by simp)
    | [a] => exact absurd h2 (by simp)
    | b :: a :: r => simp at h3 ⊢; omega
theorem ev_len {mv : Nat} (hm : mv ≤ 10) {vals f : Nat → Int32} : ∀ {n d : Nat}, dpN mv f n d → (evN vals f n).length = d
  | 0, d, h => by
    have h0 : d = 0 := h
    subst h0
    rfl
  | n + 1, d, h => by
    obtain ⟨a, h1, h2⟩ := h
    have h3 := ev_len hm (vals := vals) h1
    rw [← h3] at h2
    exact st_len hm h2
/-- a list that lies in an array, its head highest -/
def Stk (m : Nat → Int32) : List Int32 → Prop
  | [] => True
  | a :: r => m r.length = a ∧ Stk m r
theorem Stk.up {m : Nat → Int32} {x : Int32} {j : Nat} : ∀ {st : List Int32}, Stk m st → st.length ≤ j → Stk (upd m j x) st
  | [], _, _ => trivial
  | a :: r, h, hj => by
    have hl : r.length < j := by simp at hj; omega
    refine ⟨?_, Stk.up h.2 (by omega)⟩
    rw [pk_un (by omega)]
    exact h.1
theorem Stk.push {m : Nat → Int32} {x : Int32} {st : List Int32} (h : Stk m st) : Stk (upd m st.length x) (x :: st) := ⟨pk_us, h.up (Nat.le_refl _)⟩
theorem ix_val {mv : Nat} (hm : mv ≤ 10) {c : Int32} (h : ¬ c < -nI mv) (h0 : c < nI 0) : ∃ v, v < mv ∧ c = -nI 1 - nI v := by
  have key : ∀ m, m < 11 → ∀ c : Int32, ¬ c < -nI m → c < nI 0 → ∃ v, v < m ∧ c = -nI 1 - nI v := by
    intro m hm c h h0
    have hx : ¬ (-nI 1 - c : Int32) < nI 0 ∧ ¬ nI m ≤ (-nI 1 - c : Int32) := by
      have e1 : (nI 0 : Int32).toInt = 0 := by decide
      have e2 : ∀ m, m < 11 → (-nI m : Int32).toInt = -(m : Int) := by decide
      have e3 : ∀ m, m < 11 → (nI m : Int32).toInt = (m : Int) := by decide
      have h1 : -(m : Int) ≤ c.toInt := by
        have := Int32.not_lt.mp h
        have := Int32.le_iff_toInt_le.mp this
        rw [e2 m hm] at this
        exact this
      have h2 : c.toInt < 0 := by
        have := Int32.lt_iff_toInt_lt.mp h0
        rw [e1] at this
        exact this
      have h3 : (-nI 1 - c : Int32).toInt = -1 - c.toInt := by
        rw [Int32.toInt_sub, e2 1 (by decide)]
        exact Int.bmod_eq_of_le (by omega) (by omega)
      refine ⟨fun q => ?_, fun q => ?_⟩
      · have := Int32.lt_iff_toInt_lt.mp q
        rw [h3, e1] at this
        omega
      · have := Int32.le_iff_toInt_le.mp q
        rw [h3, e3 m hm] at this
        omega
    obtain ⟨j, hj, e⟩ := ix_of hx.1 hx.2 (by omega)
    refine ⟨j, hj, ?_⟩
    rw [← e]
    exact (sub_sub_s _ _).symm
  exact key mv (by omega) c h h0
theorem val_ix {v : Nat} : (-nI 1 - (-nI 1 - nI v) : Int32) = nI v := sub_sub_s _ _
theorem val_neg {v : Nat} (h : v < 10) : (-nI 1 - nI v : Int32) < nI 0 := by
  have key : ∀ v, v < 10 → (-nI 1 - nI v : Int32) < nI 0 := by decide
  exact key v h
theorem stp_push {vals : Nat → Int32} {c : Int32} {st : List Int32} (h : ¬ c < -nI 10) : stp vals c st = (if c < nI 0 then vals (Int32.toNatClampNeg (-nI 1 - c)) else c) :: st := by
  unfold stp
  rw [if_neg h]
theorem stp_not {vals : Nat → Int32} {a : Int32} {r : List Int32} : stp vals (-nI 23) (a :: r) = (if a = nI 0 then nI 1 else nI 0) :: r := by
  unfold stp
  rw [if_pos not_neg, if_pos (Eq.refl _)]
theorem stp_op {vals : Nat → Int32} {c a b : Int32} {r : List Int32} (h : isOpc c) : stp vals c (b :: a :: r) = jn c a b :: r := by
  unfold stp
  rw [if_pos (op_neg h).1, if_neg (op_neg h).2]
theorem dp_le {mv : Nat} {f : Nat → Int32} : ∀ {n d : Nat}, dpN mv f n d → d ≤ 64
  | 0, d, h => by
    have h0 : d = 0 := h
    omega
  | n + 1, d, h => by
    obtain ⟨a, h1, h2⟩ := h
    have h3 := dp_le h1
    rcases h2 with ⟨_, h, rfl⟩ | ⟨_, h, rfl⟩ | ⟨_, h, h4⟩ <;> omega
theorem pu_m1 {p : Nat} : nI (p + 1) + -nI 1 = nI p := pk_m1 p
theorem ite_gnz {a b : Int32} : (if b = nI 0 then some (nI 0) else gnz b (some (a / b))) = some (if b = nI 0 then nI 0 else a / b) := by
  by_cases hb : b = nI 0
  · rw [if_pos hb, if_pos hb]
  · rw [if_neg hb, if_neg hb]
    unfold gnz
    rw [if_neg (show ¬ b = 0 from hb)]
theorem C_join {σ : Mem} {c a b : Int32} : m_X4_join σ c a b = some (jn c a b) := by
  unfold m_X4_join jn
  simp only [pu_lit, ite_gnz, ite_some]
theorem C_val {k r1 mv N : Nat} {f vals : Nat → Int32} (hr : r1 ≠ k + 2) (hm : mv ≤ 10) (hN : N ≤ 700) (hw : dpN mv f N 1) :
    ∀ (m n i : Nat) (σ : Mem), i + m = N → m < n → σ k 2 = nI N → (∀ j, j < N → σ (k + 1) j = f j) → (∀ j, j < mv → σ r1 j = vals j) → Stk (σ (k + 2)) (evN vals f i) →
      OK (f_X4_value_4 k r1 n σ (nI (evN vals f i).length) (nI i)) (fun q => q.1 = (evN vals f N).headD (nI 0) ∧ fr [k + 2] σ q.2) := by
  intro m
  induction m with
  | zero =>
    intro n i σ hi hn hk hc hv hs
    obtain ⟨n, rfl⟩ : ∃ q, n = q + 1 := ⟨n - 1, by omega⟩
    have hl := ev_len hm (vals := vals) hw
    rw [f_X4_value_4, hk, show i = N by omega, if_pos nI_le_self]
    simp only [pu_lit]
    rw [pu_gd (by decide) (by decide), ok_some, nI_clamp (by decide)]
    rw [show i = N by omega] at hs
    obtain ⟨v, hv1⟩ := List.length_eq_one_iff.mp hl
    rw [hv1] at hs ⊢
    exact ⟨hs.1, fr.rfl⟩
  | succ m ih =>
    intro n i σ hi hn hk hc hv hs
    obtain ⟨n, rfl⟩ : ∃ q, n = q + 1 := ⟨n - 1, by omega⟩
    obtain ⟨a, b, h1, h2⟩ := dp_step hw (i := i) (by omega)
    have hl := ev_len hm (vals := vals) h1
    have hb := ev_len hm (vals := vals) (n := i + 1) ⟨a, h1, h2⟩
    have ha := dp_le h1
    have go : ∀ (σ1 : Mem) (d : Nat), d = b → fr [k + 2] σ σ1 → Stk (σ1 (k + 2)) (stp vals (f i) (evN vals f i)) → OK (f_X4_value_4 k r1 n σ1 (nI d) (nI (i + 1))) (fun q => q.1 = (evN vals f N).headD (nI 0) ∧ fr [k + 2] σ q.2) := by
      intro σ1 d hd hf hst
      subst hd
      rw [← hb]
      refine ok_mono (ih n (i + 1) σ1 (by omega) (by omega) ?_ ?_ ?_ hst) (fun q hq => ⟨hq.1, hf.trans hq.2⟩)
      · rw [hf k (by simp)]; exact hk
      · intro j hj; rw [hf (k + 1) (by simp)]; exact hc j hj
      · intro j hj; rw [hf r1 (by simpa using hr)]; exact hv j hj
    rw [f_X4_value_4, hk, hl, if_neg (nI_ge (by omega) (by omega)), pu_gd (by omega) (by decide), nI_clamp (by omega), ok_lt, hc i (by omega)]
    simp only [pu_lit]
    rcases h2 with ⟨h, hd, he⟩ | ⟨h, hd, he⟩ | ⟨h, hd, he⟩
    · have h10 := mv_neg hm h
      rw [stp_push h10] at go
      rw [if_neg h10, if_neg (nI_ge hd (by omega)), pu_gd (k := a) (by omega) (by decide), pu_gd (k := a) (by omega) (by decide), nI_add, nI_add, nI_clamp (n := a) (by omega)]
      by_cases c0 : f i < nI 0
      · obtain ⟨v, hv1, hv2⟩ := ix_val hm h c0
        rw [if_pos c0] at go ⊢
        rw [hv2, val_ix, nI_clamp (by omega)] at go
        rw [hv2, val_ix, pu_gd (k := v) (by omega) (by decide), nI_clamp (n := v) (by omega), ok_lt]
        refine go _ _ he.symm (fr.rfl.ms (List.mem_singleton.mpr (Eq.refl _))) ?_
        rw [ms_same, hv v hv1, ← hl]
        exact hs.push
      · rw [if_neg c0] at go ⊢
        rw [ok_lt]
        refine go _ _ he.symm (fr.rfl.ms (List.mem_singleton.mpr (Eq.refl _))) ?_
        rw [ms_same, ← hl]
        exact hs.push
    · rw [h] at go ⊢
      rw [if_pos not_neg, if_pos (Eq.refl _)]
      obtain ⟨x, r, hx⟩ : ∃ x r, evN vals f i = x :: r := by
        match hq : evN vals f i with
        | [] => rw [hq] at hl; simp at hl; omega
        | x :: r => exact ⟨x, r, Eq.refl _⟩
      rw [hx] at hl hs go
      have hr0 : a = r.length + 1 := by simpa using hl.symm
      rw [stp_not] at go
      subst hr0
      rw [if_neg (by rw [nI_ltI (by omega) (by omega)]; omega), pk_sub (by omega), Nat.add_sub_cancel, pu_gd (by omega) (by decide), pu_gd (by omega) (by decide), pu_gd (by omega) (by decide), nI_clamp (by omega), hs.1, nI_add]
      by_cases c0 : x = nI 0
      · rw [if_pos c0] at go ⊢
        rw [ok_lt]
        refine go _ _ he.symm (fr.rfl.ms (List.mem_singleton.mpr (Eq.refl _))) ?_
        rw [ms_same]
        exact hs.2.push
      · rw [if_neg c0] at go ⊢
        rw [ok_lt]
        refine go _ _ he.symm (fr.rfl.ms (List.mem_singleton.mpr (Eq.refl _))) ?_
        rw [ms_same]
        exact hs.2.push
    · rw [if_pos (op_neg h).1, if_neg (op_neg h).2]
      obtain ⟨y, x, r, hx⟩ : ∃ y x r, evN vals f i = y :: x :: r := by
        match hq : evN vals f i with
        | [] => rw [hq] at hl; simp at hl; omega
        | [x] => rw [hq] at hl; simp at hl; omega
        | y :: x :: r => exact ⟨y, x, r, Eq.refl _⟩
      rw [hx] at hl hs go
      have hr0 : a = r.length + 1 + 1 := by simpa using hl.symm
      rw [stp_op h] at go
      subst hr0
      rw [if_neg (by rw [nI_ltI (by omega) (by omega)]; omega), pu_m1, pk_sub (by omega), Nat.add_sub_cancel, pu_gd (by omega) (by decide), pu_gd (by omega) (by decide), nI_clamp (n := r.length) (by omega), nI_clamp (n := r.length + 1) (by omega), C_join, ok_bind, ok_some, pu_gd (by omega) (by decide), ok_lt, nI_add]
      have e1 : σ (k + 2) r.length = x := hs.2.1
      have e2 : σ (k + 2) (r.length + 1) = y := hs.1
      rw [e1, e2]
      refine go _ _ (by omega) (fr.rfl.ms (List.mem_singleton.mpr (Eq.refl _))) ?_
      rw [ms_same]
      exact hs.2.2.push
theorem C_value {k r1 mv N : Nat} {f vals : Nat → Int32} {σ : Mem} (hr : r1 ≠ k + 2) (hm : mv ≤ 10) (hN : N ≤ 700) (hw : dpN mv f N 1) (hk : σ k 2 = nI N) (hc : ∀ j, j < N → σ (k + 1) j = f j) (hv : ∀ j, j < mv → σ r1 j = vals j) :
    OK (m_X4_value k r1 σ) (fun q => q.1 = (evN vals f N).headD (nI 0) ∧ fr [k + 2] σ q.2) :=
  C_val (k := k) (r1 := r1) hr hm hN hw N KF 0 σ (by omega) (by unfold KF; omega) hk hc hv trivial
/-- the reference's codes: which of the class' each is -/
def cr (x c : Int32) : Prop := (x = c ∧ ¬ c < -nI 10) ∨ (x = -nI 28 ∧ c = -nI 23) ∨ (x = -nI 20 ∧ c = -nI 26) ∨ (x = -nI 21 ∧ c = -nI 27) ∨ (x = -nI 22 ∧ c = -nI 28) ∨ (x = -nI 23 ∧ c = -nI 29) ∨ (x = -nI 24 ∧ c = -nI 24) ∨ (x = -nI 25 ∧ c = -nI 25) ∨ (x = -nI 26 ∧ c = -nI 22) ∨ (x = -nI 27 ∧ c = -nI 21)
theorem cr_push {x c : Int32} (h : cr x c) (hc : ¬ c < -nI 10) : x = c ∧ ¬ c ≤ -nI 20 := by
  have h20 : ¬ c ≤ -nI 20 := fun q => hc (Int32.lt_of_le_of_lt q (by decide))
  refine ⟨?_, h20⟩
  rcases h with h | ⟨_, h⟩ | ⟨_, h⟩ | ⟨_, h⟩ | ⟨_, h⟩ | ⟨_, h⟩ | ⟨_, h⟩ | ⟨_, h⟩ | ⟨_, h⟩ | ⟨_, h⟩
  · exact h.1
  all_goals exact absurd (by rw [h]; decide) hc
theorem cr_not {x : Int32} (h : cr x (-nI 23)) : x = -nI 28 := by
  rcases h with h | ⟨h1, h⟩ | ⟨_, h⟩ | ⟨_, h⟩ | ⟨_, h⟩ | ⟨_, h⟩ | ⟨_, h⟩ | ⟨_, h⟩ | ⟨_, h⟩ | ⟨_, h⟩
  · exact absurd not_neg h.2
  · exact h1
  all_goals exact absurd h (by decide)
theorem cr_op {x c : Int32} {σ : Mem} {a b : Int32} (h : cr x c) (ho : isOpc c) : x ≤ -nI 20 ∧ ¬ x = -nI 28 ∧ m_X11_reckon σ x a b = some (jn c a b) := by
  rcases h with h | ⟨h1, h⟩ | ⟨h1, h⟩ | ⟨h1, h⟩ | ⟨h1, h⟩ | ⟨h1, h⟩ | ⟨h1, h⟩ | ⟨h1, h⟩ | ⟨h1, h⟩ | ⟨h1, h⟩
  · exact absurd (op_neg ho).1 h.2
  · exact absurd h (op_neg ho).2
  all_goals subst h1 h
  all_goals refine ⟨by decide, by decide, ?_⟩
  all_goals simp (decide := true) only [m_X11_reckon, jn, pu_lit, ↓reduceIte, ite_gnz, ite_some]
theorem R_val {r1 n1 mv N : Nat} {f g vals : Nat → Int32} (hr : r1 ≠ 30 ∧ r1 ≠ 29) (hn1 : N ≤ n1 ∧ n1 ≤ 1400) (hm : mv ≤ 10) (hN : N ≤ 700) (hw : dpN mv f N 1) (hg : ∀ j, j < N → cr (g j) (f j)) :
    ∀ (m n i : Nat) (σ : Mem), i + m = N → m < n → (∀ j, j < N → σ r1 j = g j) → (∀ j, j < mv → σ 29 j = vals j) → Stk (σ 30) (evN vals f i) →
      OK (f_X11_valueNow_5 r1 n1 (nI N) n σ (nI (evN vals f i).length) (nI i)) (fun q => q.1 = (evN vals f N).headD (nI 0) ∧ fr [30] σ q.2) := by
  intro m
  induction m with
  | zero =>
    intro n i σ hi hn hc hv hs
    obtain ⟨n, rfl⟩ : ∃ q, n = q + 1 := ⟨n - 1, by omega⟩
    have hl := ev_len hm (vals := vals) hw
    rw [f_X11_valueNow_5, show i = N by omega, if_pos nI_le_self]
    simp only [pu_lit]
    rw [pu_gd (by decide) (by decide), ok_some, nI_clamp (by decide)]
    rw [show i = N by omega] at hs
    obtain ⟨v, hv1⟩ := List.length_eq_one_iff.mp hl
    rw [hv1] at hs ⊢
    exact ⟨hs.1, fr.rfl⟩
  | succ m ih =>
    intro n i σ hi hn hc hv hs
    obtain ⟨n, rfl⟩ : ∃ q, n = q + 1 := ⟨n - 1, by omega⟩
    obtain ⟨a, b, h1, h2⟩ := dp_step hw (i := i) (by omega)
    have hl := ev_len hm (vals := vals) h1
    have hb := ev_len hm (vals := vals) (n := i + 1) ⟨a, h1, h2⟩
    have ha := dp_le h1
    have hgi := hg i (by omega)
    have go : ∀ (σ1 : Mem) (d : Nat), d = b → fr [30] σ σ1 → Stk (σ1 30) (stp vals (f i) (evN vals f i)) → OK (f_X11_valueNow_5 r1 n1 (nI N) n σ1 (nI d) (nI (i + 1))) (fun q => q.1 = (evN vals f N).headD (nI 0) ∧ fr [30] σ q.2) := by
      intro σ1 d hd hf hst
      subst hd
      rw [← hb]
      refine ok_mono (ih n (i + 1) σ1 (by omega) (by omega) ?_ ?_ hst) (fun q hq => ⟨hq.1, hf.trans hq.2⟩)
      · intro j hj; rw [hf r1 (by simpa using hr.1)]; exact hc j hj
      · intro j hj; rw [hf 29 (by decide)]; exact hv j hj
    rw [f_X11_valueNow_5, hl, if_neg (nI_ge (by omega) (by omega)), pu_gd (by omega) (by omega), nI_clamp (by omega), ok_lt, hc i (by omega)]
    simp only [pu_lit]
    rcases h2 with ⟨h, hd, he⟩ | ⟨h, hd, he⟩ | ⟨h, hd, he⟩
    · have h10 := mv_neg hm h
      obtain ⟨ex, h20⟩ := cr_push hgi h10
      rw [stp_push h10] at go
      rw [ex, if_neg h20, pu_gd (k := a) (by omega) (by decide), pu_gd (k := a) (by omega) (by decide), nI_add, nI_add, nI_clamp (n := a) (by omega)]
      by_cases c0 : f i < nI 0
      · obtain ⟨v, hv1, hv2⟩ := ix_val hm h c0
        rw [if_pos c0] at go ⊢
        rw [hv2, val_ix, nI_clamp (by omega)] at go
        rw [hv2, val_ix, pu_gd (k := v) (by omega) (by decide), nI_clamp (n := v) (by omega), ok_lt]
        refine go _ _ he.symm (fr.rfl.ms (List.mem_singleton.mpr (Eq.refl _))) ?_
        rw [ms_same, hv v hv1, ← hl]
        exact hs.push
      · rw [if_neg c0] at go ⊢
        rw [ok_lt]
        refine go _ _ he.symm (fr.rfl.ms (List.mem_singleton.mpr (Eq.refl _))) ?_
        rw [ms_same, ← hl]
        exact hs.push
    · rw [h] at go hgi
      rw [cr_not hgi, if_pos (show (-nI 28 : Int32) ≤ -nI 20 by decide), if_pos (Eq.refl _)]
      obtain ⟨x, r, hx⟩ : ∃ x r, evN vals f i = x :: r := by
        match hq : evN vals f i with
        | [] => rw [hq] at hl; simp at hl; omega
        | x :: r => exact ⟨x, r, Eq.refl _⟩
      rw [hx] at hl hs go
      have hr0 : a = r.length + 1 := by simpa using hl.symm
      rw [stp_not] at go
      subst hr0
      rw [pk_sub (by omega), Nat.add_sub_cancel, pu_gd (by omega) (by decide), pu_gd (by omega) (by decide), pu_gd (by omega) (by decide), nI_clamp (by omega), hs.1, nI_add]
      by_cases c0 : x = nI 0
      · rw [if_pos c0] at go ⊢
        rw [ok_lt]
        refine go _ _ he.symm (fr.rfl.ms (List.mem_singleton.mpr (Eq.refl _))) ?_
        rw [ms_same]
        exact hs.2.push
      · rw [if_neg c0] at go ⊢
        rw [ok_lt]
        refine go _ _ he.symm (fr.rfl.ms (List.mem_singleton.mpr (Eq.refl _))) ?_
        rw [ms_same]
        exact hs.2.push
    · obtain ⟨y, x, r, hx⟩ : ∃ y x r, evN vals f i = y :: x :: r := by
        match hq : evN vals f i with
        | [] => rw [hq] at hl; simp at hl; omega
        | [x] => rw [hq] at hl; simp at hl; omega
        | y :: x :: r => exact ⟨y, x, r, Eq.refl _⟩
      rw [hx] at hl hs go
      have hr0 : a = r.length + 1 + 1 := by simpa using hl.symm
      rw [stp_op h] at go
      subst hr0
      have e1 : σ 30 r.length = x := hs.2.1
      have e2 : σ 30 (r.length + 1) = y := hs.1
      obtain ⟨o1, o2, o3⟩ := cr_op (σ := σ) (a := x) (b := y) hgi h
      rw [if_pos o1, if_neg o2, pu_m1, pk_sub (by omega), Nat.add_sub_cancel, pu_gd (by omega) (by decide), pu_gd (by omega) (by decide), nI_clamp (n := r.length) (by omega), nI_clamp (n := r.length + 1) (by omega), e1, e2, o3, ok_bind, ok_some, pu_gd (by omega) (by decide), ok_lt, nI_add]
      refine go _ _ (by omega) (fr.rfl.ms (List.mem_singleton.mpr (Eq.refl _))) ?_
      rw [ms_same]
      exact hs.2.2.push
theorem R_value {r1 n1 mv N : Nat} {f g vals : Nat → Int32} {σ : Mem} (hr : r1 ≠ 30 ∧ r1 ≠ 29) (hn1 : N ≤ n1 ∧ n1 ≤ 1400) (hm : mv ≤ 10) (hN : N ≤ 700) (hw : dpN mv f N 1) (hg : ∀ j, j < N → cr (g j) (f j)) (hc : ∀ j, j < N → σ r1 j = g j) (hv : ∀ j, j < mv → σ 29 j = vals j) :
    OK (m_X11_valueNow r1 n1 σ (nI N)) (fun q => q.1 = (evN vals f N).headD (nI 0) ∧ fr [30] σ q.2) :=
  R_val hr hn1 hm hN hw hg N KF 0 σ (by omega) (by unfold KF; omega) hc hv trivial
theorem ev_congr {mv : Nat} (hm : mv ≤ 10) {u v f : Nat → Int32} (h : ∀ j, j < mv → u j = v j) : ∀ {n d : Nat}, dpN mv f n d → evN u f n = evN v f n
  | 0, _, _ => rfl
  | n + 1, d, hd => by
    obtain ⟨a, h1, h2⟩ := hd
    have e := ev_congr hm h h1
    show stp u (f n) (evN u f n) = stp v (f n) (evN v f n)
    rw [e]
    rcases h2 with ⟨h3, _, _⟩ | ⟨h3, _, _⟩ | ⟨h3, _, _⟩
    · rw [stp_push (mv_neg hm h3), stp_push (mv_neg hm h3)]
      by_cases c0 : f n < nI 0
      · obtain ⟨w, hw, e2⟩ := ix_val hm h3 c0
        rw [if_pos c0, if_pos c0, e2, val_ix, nI_clamp (by omega), h w hw]
      · rw [if_neg c0, if_neg c0]
    · unfold stp
      rw [h3, if_pos not_neg, if_pos not_neg]
    · unfold stp
      rw [if_pos (op_neg h3).1, if_pos (op_neg h3).1]

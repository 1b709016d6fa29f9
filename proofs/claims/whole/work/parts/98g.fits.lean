/-! the pockets that fit: pockets, look -/
def fv (f : Nat → Bool) (t : Nat) : Nat → Nat → List Nat
  | 0, _ => []
  | k + 1, v => if f v then (100 * t + v) :: fv f t k (v + 1) else fv f t k (v + 1)
def ftA (f : Nat → Nat → Bool) : Nat → Nat → List Nat
  | 0, _ => []
  | k + 1, t => fv (f t) t 21 0 ++ ftA f k (t + 1)
def hd (L : List Nat) : Int32 := match L with
  | [] => -nI 1
  | a :: _ => nI a
theorem fv_len {f : Nat → Bool} {t : Nat} : ∀ (k v : Nat), (fv f t k v).length ≤ k
  | 0, _ => Nat.le_refl _
  | k + 1, v => by
    show (if f v then (100 * t + v) :: fv f t k (v + 1) else fv f t k (v + 1)).length ≤ k + 1
    have := fv_len (f := f) (t := t) k (v + 1)
    by_cases c : f v
    · rw [if_pos c, List.length_cons]; omega
    · rw [if_neg c]; omega
theorem fv_mem {f : Nat → Bool} {t : Nat} : ∀ (k v a : Nat), v + k ≤ 21 → a ∈ fv f t k v → a / 100 = t ∧ a % 100 ≤ 20
  | 0, _, _, _, h => by cases h
  | k + 1, v, a, hk, h => by
    have h' : a ∈ (if f v then (100 * t + v) :: fv f t k (v + 1) else fv f t k (v + 1)) := h
    by_cases c : f v
    · rw [if_pos c] at h'
      rcases List.mem_cons.mp h' with rfl | h2
      · omega
      · exact fv_mem k (v + 1) a (by omega) h2
    · rw [if_neg c] at h'
      exact fv_mem k (v + 1) a (by omega) h'
theorem ftA_mem {f : Nat → Nat → Bool} : ∀ (k t a : Nat), a ∈ ftA f k t → a / 100 < t + k ∧ a % 100 ≤ 20
  | 0, _, _, h => by cases h
  | k + 1, t, a, h => by
    have h' : a ∈ fv (f t) t 21 0 ++ ftA f k (t + 1) := h
    rcases List.mem_append.mp h' with h2 | h2
    · have := fv_mem 21 0 a (by omega) h2
      omega
    · have := ftA_mem k (t + 1) a h2
      omega
theorem ftA_len {f : Nat → Nat → Bool} : ∀ (k t : Nat), (ftA f k t).length ≤ 21 * k
  | 0, _ => Nat.le_refl _
  | k + 1, t => by
    show (fv (f t) t 21 0 ++ ftA f k (t + 1)).length ≤ _
    have h1 := fv_len (f := f t) (t := t) 21 0
    have h2 := ftA_len (f := f) k (t + 1)
    rw [List.length_append]
    omega
theorem hd_app {L M : List Nat} (h : L ≠ []) : hd (L ++ M) = hd L := by
  cases L with
  | nil => exact absurd rfl h
  | cons a L => rfl
theorem gD_l {L M : List Nat} {i : Nat} (h : i < L.length) : (L ++ M).getD i 0 = L.getD i 0 := by
  simp [List.getElem?_append, h]
theorem gD_a {L : List Nat} {a : Nat} : (L ++ [a]).getD L.length 0 = a := by
  simp
theorem gD_mem {L : List Nat} {i : Nat} (h : i < L.length) : L.getD i 0 ∈ L := by
  rw [List.getD_eq_getElem?_getD, List.getElem?_eq_getElem h]
  exact List.getElem_mem h
def fitB (σ : Mem) (H T S : Nat) (t v : Nat) : Bool := !(decide (nI v = σ 43 (40 + t))) && asL σ H T (σ 47) S 12 1 (upd (σ 43) (40 + t) (nI v))
def FI (L : List Nat) (τ : Mem) : Prop := τ 0 61 = nI L.length ∧ ∀ i, i < L.length → τ 42 i = nI (L.getD i 0)
def FB (τ τ1 : Mem) : Prop := fr [0, 20, 21, 22, 23, 24, 25, 26, 27, 29, 30, 31, 32, 33, 34, 40, 42] τ τ1 ∧ ∀ s, s ≠ 41 → s ≠ 42 → s ≠ 43 → s ≠ 61 → τ1 0 s = τ 0 s
theorem FB.ofA {τ τ1 : Mem} (h : FA τ τ1) : FB τ τ1 := ⟨h.1.mono (by decide), fun s a b c _ => h.2 s a b c⟩
theorem FB.trans {τ τ1 τ2 : Mem} (h : FB τ τ1) (h2 : FB τ1 τ2) : FB τ τ2 := ⟨h.1.trans h2.1, fun s a b c d => (h2.2 s a b c d).trans (h.2 s a b c d)⟩
theorem FB.s {τ τ1 : Mem} (h : FB τ τ1) : RQs τ τ1 := ⟨h.1.mono (by decide), fun s hs => h.2 s (fun q => by subst q; exact absurd hs (by decide)) (fun q => by subst q; exact absurd hs (by decide)) (fun q => by subst q; exact absurd hs (by decide)) (fun q => by subst q; exact absurd hs (by decide))⟩
theorem FI.a {L : List Nat} {τ τ1 : Mem} (h : FI L τ) (hf : FA τ τ1) : FI L τ1 := by
  unfold FI
  rw [hf.2 61 (by decide) (by decide) (by decide), hf.1 42 (by decide)]
  exact h
theorem FI.push {L : List Nat} {τ : Mem} {a : Nat} (h : FI L τ) : FI (L ++ [a]) (ms (ms τ 42 L.length (nI a)) 0 61 (nI (L.length + 1))) := by
  refine ⟨by rw [ms_same, pk_us, List.length_append]; rfl, fun i hi => ?_⟩
  rw [List.length_append, List.length_singleton] at hi
  rw [ms_ne (by decide), ms_same]
  by_cases c : i = L.length
  · subst c; rw [pk_us, gD_a]
  · rw [pk_un c, gD_l (by omega)]; exact h.2 i (by omega)
section FITS
variable {H T S : Nat} {σ : Mem}
theorem pe_cq {σ1 : Mem} (hf : fr CQ σ σ1) : PE σ σ1 := fun k h1 h2 h3 h4 => hf k (by unfold CQ; simp; omega)
/-- the class' isAsSeen at a tenant and chops -/
theorem C_fit {τ : Mem} {σ1 : Mem} {t v : Nat} (hW : PW σ H T) (hP : PR σ τ H T) (hr : RW (σ 43) H T) (hc : SC H S (σ 47)) (eS : σ 46 1 = nI S) (ht : t < 7) (hf : PE σ σ1 ∧ σ1 43 = σ 43 ∧ σ1 46 = σ 46 ∧ σ1 47 = σ 47) : OK (m_X10_isAsSeen σ1 (nI t) (nI v)) (fun q => q.1 = bI (asL σ H T (σ 47) S 12 1 (upd (σ 43) (40 + t) (nI v))) ∧ fr CQ σ1 q.2) := by
  have h := (C_asSeen (P := σ) (σ := σ1) (c := σ 47) hW hc hf.1 (by rw [hf.2.2.1]; exact eS) hf.2.2.2).2 t ht (nI v)
  refine ok_mono h (fun q hq => ⟨?_, hq.2⟩)
  obtain ⟨⟨r, h1, h2⟩, _⟩ := hq
  rw [hf.2.1] at h1
  rw [h2, asL_e64 hW hP hc 12 1 r _ ((hr.up hW.1 (by omega)).e64 hW.1 h1) h1]
theorem C_pock_in {τ : Mem} {k33 : Mem → Int32 → Int32 → Int32 → Option ((Nat × Mem) ⊕ (Int32 × Mem))} {x1 : Int32} {t : Nat} (hW : PW σ H T) (hP : PR σ τ H T) (hr : RW (σ 43) H T) (hc : SC H S (σ 47)) (eS : σ 46 1 = nI S) (ht : t < 7) : ∀ (k n v : Nat) (σ1 : Mem) (L : List Nat), v + k = 21 → k < n → fr CQ σ σ1 → L.length ≤ 21 * t + v → ∃ σ2, fr CQ σ σ2 ∧ f_X10_pockets_48 k33 x1 (nI t) n σ1 (nI L.length) (hd L) (nI v) = k33 σ2 (nI (L ++ fv (fitB σ H T S t) t k v).length) (hd (L ++ fv (fitB σ H T S t) t k v)) (nI (t + 1)) := by
  intro k
  induction k with
  | zero =>
    intro n v σ1 L hk hn hf hL
    obtain ⟨n, rfl⟩ : ∃ q, n = q + 1 := ⟨n - 1, by omega⟩
    refine ⟨σ1, hf, ?_⟩
    rw [f_X10_pockets_48]
    simp only [pu_lit]
    rw [if_pos (nI_lt (by omega) (by omega)), nI_add]
    show _ = k33 σ1 (nI (L ++ []).length) (hd (L ++ [])) _
    rw [List.append_nil]
  | succ k ih =>
    intro n v σ1 L hk hn hf hL
    obtain ⟨n, rfl⟩ : ∃ q, n = q + 1 := ⟨n - 1, by omega⟩
    have ef : fv (fitB σ H T S t) t (k + 1) v = if fitB σ H T S t v then (100 * t + v) :: fv (fitB σ H T S t) t k (v + 1) else fv (fitB σ H T S t) t k (v + 1) := rfl
    rw [ef, f_X10_pockets_48]
    simp only [pu_lit]
    have e43 : σ1 43 = σ 43 := hf 43 (by decide)
    rw [if_neg (nI_nlt (by omega) (by omega)), nI_add, pu_gd (by omega) (by decide), nI_clamp (by omega), e43]
    by_cases c : nI v = σ 43 (40 + t)
    · have fb : fitB σ H T S t v = false := by unfold fitB; simp [c]
      rw [if_pos c, fb, nI_add]
      simp only [Bool.false_eq_true, if_false]
      exact ih n (v + 1) σ1 L (by omega) (by omega) hf (by omega)
    · have fb : fitB σ H T S t v = asL σ H T (σ 47) S 12 1 (upd (σ 43) (40 + t) (nI v)) := by unfold fitB; simp [c]
      obtain ⟨q, eq, q1, q2⟩ := C_fit (v := v) hW hP hr hc eS ht ⟨pe_cq hf, e43, hf 46 (by decide), hf 47 (by decide)⟩
      rw [if_neg c, eq, sbind, q1, fb, nI_add]
      have f2 := hf.trans q2
      by_cases b : asL σ H T (σ 47) S 12 1 (upd (σ 43) (40 + t) (nI v)) = true
      · rw [b, if_neg (show ¬ bI true = nI 0 by decide)]
        simp only [if_true]
        have e2 : L ++ (100 * t + v) :: fv (fitB σ H T S t) t k (v + 1) = (L ++ [100 * t + v]) ++ fv (fitB σ H T S t) t k (v + 1) := by simp
        have e3 : nI L.length + nI 1 = nI (L ++ [100 * t + v]).length := by rw [nI_add, List.length_append]; rfl
        have l2 : (L ++ [100 * t + v]).length ≤ 21 * t + (v + 1) := by rw [List.length_append, List.length_singleton]; omega
        rw [e2, e3]
        obtain ⟨σ2, g1, g2⟩ := ih n (v + 1) q.2 (L ++ [100 * t + v]) (by omega) (by omega) f2 l2
        refine ⟨σ2, g1, ?_⟩
        rw [← g2]
        cases L with
        | nil => rw [if_pos (by rfl), ltE, pk_mul, nI_add]; rfl
        | cons a L =>
          rw [List.length_cons] at hL ⊢
          rw [if_neg (nz' (by omega) (by omega))]
          rfl
      · have b' : asL σ H T (σ 47) S 12 1 (upd (σ 43) (40 + t) (nI v)) = false := by simpa using b
        rw [b', if_pos (show bI false = nI 0 by decide)]
        simp only [Bool.false_eq_true, if_false]
        exact ih n (v + 1) q.2 L (by omega) (by omega) f2 (by omega)
theorem C_pock_out {τ : Mem} {x1 : Int32} (hW : PW σ H T) (hP : PR σ τ H T) (hr : RW (σ 43) H T) (hc : SC H S (σ 47)) (eS : σ 46 1 = nI S) : ∀ (k n t : Nat) (σ1 : Mem) (L : List Nat), t + k = T → k < n → fr CQ σ σ1 → L.length ≤ 21 * t → ∃ σ2, fr CQ σ σ2 ∧ f_X10_pockets_33 x1 n σ1 (nI L.length) (hd L) (nI t) = some (.inr (if x1 = nI 0 then nI (L ++ ftA (fitB σ H T S) k t).length else hd (L ++ ftA (fitB σ H T S) k t), σ2)) := by
  have h7 := hW.2.1
  intro k
  induction k with
  | zero =>
    intro n t σ1 L hk hn hf hL
    obtain ⟨n, rfl⟩ : ∃ q, n = q + 1 := ⟨n - 1, by omega⟩
    have e1 : σ1 23 1 = nI T := by rw [hf 23 (by decide)]; exact hW.2.2.2.1
    refine ⟨σ1, hf, ?_⟩
    rw [f_X10_pockets_33, e1, if_pos (nI_le (by omega) (by omega))]
    have ef : ftA (fitB σ H T S) 0 t = [] := rfl
    rw [ef, List.append_nil]
    simp only [pu_lit]
    by_cases c : x1 = nI 0
    · rw [if_pos c, if_pos c]
    · rw [if_neg c, if_neg c]
  | succ k ih =>
    intro n t σ1 L hk hn hf hL
    obtain ⟨n, rfl⟩ : ∃ q, n = q + 1 := ⟨n - 1, by omega⟩
    have e1 : σ1 23 1 = nI T := by rw [hf 23 (by decide)]; exact hW.2.2.2.1
    rw [f_X10_pockets_33, e1, if_neg (nI_ge (by omega) (by omega))]
    obtain ⟨σ2, g1, g2⟩ := C_pock_in (k33 := f_X10_pockets_33 x1 n) (x1 := x1) hW hP hr hc eS (t := t) (by omega) 21 KF 0 σ1 L (by omega) (by decide) hf (by omega)
    have g2' : f_X10_pockets_48 (f_X10_pockets_33 x1 n) x1 (nI t) KF σ1 (nI L.length) (hd L) 0 = _ := g2
    rw [g2']
    have l1 := fv_len (f := fitB σ H T S t) (t := t) 21 0
    obtain ⟨σ3, g3, g4⟩ := ih n (t + 1) σ2 (L ++ fv (fitB σ H T S t) t 21 0) (by omega) (by omega) g1 (by rw [List.length_append]; omega)
    refine ⟨σ3, g3, ?_⟩
    rw [g4, List.append_assoc]
    rfl
theorem R_fits_in {τ : Mem} {k7 : Mem → Int32 → Option Mem} {t : Nat} (hW : PW σ H T) (hr : RW (σ 43) H T) (hc : SC H S (σ 47)) (ht : t < 7) : ∀ (k m v : Nat) (τ1 : Mem) (y : Int32) (L : List Nat), v + k = 21 → k < m → FB τ τ1 → PR σ τ1 H T → RX H 64 (upd (σ 43) (40 + t) y) τ1 → SX S (σ 47) τ1 → FI L τ1 → L.length ≤ 21 * t + v → ∃ τ2, FB τ τ2 ∧ PR σ τ2 H T ∧ RX H 64 (σ 43) τ2 ∧ SX S (σ 47) τ2 ∧ FI (L ++ fv (fitB σ H T S t) t k v) τ2 ∧ f_X11_tellFits_26 k7 (nI t) (σ 43 (40 + t)) m τ1 (nI v) = k7 τ2 (nI (t + 1)) := by
  intro k
  induction k with
  | zero =>
    intro m v τ1 y L hk hm hf hP R hX hI hL
    obtain ⟨m, rfl⟩ : ∃ q, m = q + 1 := ⟨m - 1, by omega⟩
    have A : FA τ1 (ms τ1 25 t (σ 43 (40 + t))) := FA.m25
    refine ⟨ms τ1 25 t (σ 43 (40 + t)), hf.trans (FB.ofA A), hP.a A, ?_, hX.a A, ?_, ?_⟩
    · have := R.p25 (t := t) (v := σ 43 (40 + t)) (by omega)
      rwa [upd_upd, upd_id] at this
    · show FI (L ++ []) _
      rw [List.append_nil]
      exact hI.a A
    · rw [f_X11_tellFits_26]
      simp only [pu_lit]
      rw [if_pos (nI_lt (by omega) (by omega)), pu_gd (by omega) (by decide), nI_clamp (by omega), ltE, nI_add]
  | succ k ih =>
    intro m v τ1 y L hk hm hf hP R hX hI hL
    obtain ⟨m, rfl⟩ : ∃ q, m = q + 1 := ⟨m - 1, by omega⟩
    have ef : fv (fitB σ H T S t) t (k + 1) v = if fitB σ H T S t v then (100 * t + v) :: fv (fitB σ H T S t) t k (v + 1) else fv (fitB σ H T S t) t k (v + 1) := rfl
    have A : FA τ1 (ms τ1 25 t (nI v)) := FA.m25
    have R2 : RX H 64 (upd (σ 43) (40 + t) (nI v)) (ms τ1 25 t (nI v)) := by
      have := R.p25 (t := t) (v := nI v) (by omega)
      rwa [upd_upd] at this
    rw [ef, f_X11_tellFits_26]
    simp only [pu_lit]
    rw [if_neg (nI_nlt (by omega) (by omega)), pu_gd (by omega) (by decide), nI_clamp (by omega), ltE]
    by_cases c : nI v = σ 43 (40 + t)
    · have fb : fitB σ H T S t v = false := by unfold fitB; simp [c]
      rw [if_pos c, fb, nI_add]
      simp only [Bool.false_eq_true, if_false]
      exact ih m (v + 1) _ _ L (by omega) (by omega) (hf.trans (FB.ofA A)) (hP.a A) R2 (hX.a A) (hI.a A) (by omega)
    · have fb : fitB σ H T S t v = asL σ H T (σ 47) S 12 1 (upd (σ 43) (40 + t) (nI v)) := by unfold fitB; simp [c]
      obtain ⟨q, eq, q1, q2, q3⟩ := R_asSeen hW hc (hP.a A) R2 (hr.up hW.1 (by omega)) (hX.a A)
      have A2 := A.trans q3
      rw [if_neg c, eq, sbind, q1, fb, nI_add]
      by_cases b : asL σ H T (σ 47) S 12 1 (upd (σ 43) (40 + t) (nI v)) = true
      · rw [b, if_neg (show ¬ bI true = nI 0 by decide)]
        simp only [if_true]
        have hI2 := hI.a A2
        have e2 : L ++ (100 * t + v) :: fv (fitB σ H T S t) t k (v + 1) = (L ++ [100 * t + v]) ++ fv (fitB σ H T S t) t k (v + 1) := by simp
        rw [e2, hI2.1, pu_gd (k := L.length) (by omega) (by decide), nI_clamp (n := L.length) (by omega), ltE, ltE, ms_ne (by decide), hI2.1, nI_add, pk_mul, nI_add]
        have B3 : FB q.2 (ms (ms q.2 42 L.length (nI (100 * t + v))) 0 61 (nI (L.length + 1))) := ⟨(fr.rfl.ms (by simp)).ms (by simp), fun s _ _ _ d => by rw [ms_same, pk_un d, ms_ne (by decide)]⟩
        have R3 : RX H 64 (upd (σ 43) (40 + t) (nI v)) (ms (ms q.2 42 L.length (nI (100 * t + v))) 0 61 (nI (L.length + 1))) := (q2.keep (L := [42]) (fr.rfl.ms (by simp)) (by decide)).slot (by decide)
        refine ih m (v + 1) _ _ (L ++ [100 * t + v]) (by omega) (by omega) ((hf.trans (FB.ofA A2)).trans B3) ((hP.a A2).fr B3.1 (by decide)) R3 ((hX.a A2).fr B3.1 (by decide) (B3.2 45 (by decide) (by decide) (by decide) (by decide))) hI2.push ?_
        rw [List.length_append, List.length_singleton]; omega
      · have b' : asL σ H T (σ 47) S 12 1 (upd (σ 43) (40 + t) (nI v)) = false := by simpa using b
        rw [b', if_pos (show bI false = nI 0 by decide)]
        simp only [Bool.false_eq_true, if_false]
        exact ih m (v + 1) _ _ L (by omega) (by omega) (hf.trans (FB.ofA A2)) (hP.a A2) q2 (hX.a A2) (hI.a A2) (by omega)
theorem R_fits_out {τ : Mem} (hW : PW σ H T) (hr : RW (σ 43) H T) (hc : SC H S (σ 47)) : ∀ (k m t : Nat) (τ1 : Mem) (L : List Nat), t + k = T → k < m → FB τ τ1 → PR σ τ1 H T → RX H 64 (σ 43) τ1 → SX S (σ 47) τ1 → FI L τ1 → L.length ≤ 21 * t → OK (f_X11_tellFits_7 m τ1 (nI t)) (fun q => FB τ q ∧ PR σ q H T ∧ RX H 64 (σ 43) q ∧ FI (L ++ ftA (fitB σ H T S) k t) q) := by
  have h7 := hW.2.1
  intro k
  induction k with
  | zero =>
    intro m t τ1 L hk hm hf hP R hX hI hL
    obtain ⟨m, rfl⟩ : ∃ q, m = q + 1 := ⟨m - 1, by omega⟩
    rw [f_X11_tellFits_7]
    simp only [pu_lit]
    rw [pu_gd (by decide) (by decide), nI_clamp (by decide), hP.2.1, if_pos (nI_le (by omega) (by omega)), ok_some]
    refine ⟨hf, hP, R, ?_⟩
    show FI (L ++ []) _
    rw [List.append_nil]
    exact hI
  | succ k ih =>
    intro m t τ1 L hk hm hf hP R hX hI hL
    obtain ⟨m, rfl⟩ : ∃ q, m = q + 1 := ⟨m - 1, by omega⟩
    rw [f_X11_tellFits_7]
    simp only [pu_lit]
    rw [pu_gd (k := 1) (by decide) (by decide), nI_clamp (n := 1) (by decide), hP.2.1, if_neg (nI_ge (by omega) (by omega)), pu_gd (k := t) (n := 7) (by omega) (by decide), nI_clamp (n := t) (by omega), ltE, R.g25 (by omega) (by omega)]
    obtain ⟨τ2, g1, g2, g3, g4, g5, g6⟩ := R_fits_in (τ := τ) (k7 := f_X11_tellFits_7 m) hW hr hc (t := t) (by omega) 21 KF 0 τ1 (σ 43 (40 + t)) L (by omega) (by decide) hf hP (by rw [upd_id]; exact R) hX hI (by omega)
    rw [g6]
    have l1 := fv_len (f := fitB σ H T S t) (t := t) 21 0
    have := ih m (t + 1) τ2 (L ++ fv (fitB σ H T S t) t 21 0) (by omega) (by omega) g1 g2 g3 g4 g5 (by rw [List.length_append]; omega)
    rw [List.append_assoc] at this
    exact this
theorem R_fits {τ : Mem} (hW : PW σ H T) (hr : RW (σ 43) H T) (hc : SC H S (σ 47)) (hP : PR σ τ H T) (R : RX H 64 (σ 43) τ) (hX : SX S (σ 47) τ) : OK (m_X11_tellFits τ) (fun q => FB τ q ∧ PR σ q H T ∧ RX H 64 (σ 43) q ∧ FI (ftA (fitB σ H T S) T 0) q) := by
  unfold m_X11_tellFits
  simp only [pu_lit]
  rw [ok_lt]
  have B : FB τ (ms τ 0 61 (nI 0)) := ⟨fr.rfl.ms (by simp), fun s _ _ _ d => by rw [ms_same, pk_un d]⟩
  exact R_fits_out (τ := τ) hW hr hc T KF 0 _ [] (by omega) (by unfold KF; have := hW.2.1; omega) B (hP.fr B.1 (by decide)) (R.slot (by decide)) (hX.fr B.1 (by decide) (B.2 45 (by decide) (by decide) (by decide) (by decide))) ⟨by rw [ms_same, pk_us]; rfl, fun i hi => absurd hi (by simp)⟩ (by simp)
end FITS
theorem sc_of {H T : Nat} {σ τ : Mem} (R : RelH H T σ τ) : ∃ S, σ 46 1 = nI S ∧ SC H S (σ 47) ∧ SX S (σ 47) τ := by
  obtain ⟨S, hS, e1, e2, h3, h4⟩ := R.2.2.2.2.2.1
  refine ⟨S, e1, ⟨hS, fun i hi => ?_⟩, e2, fun i hi => ?_⟩
  · obtain ⟨b1, b2, b3, b4, ⟨h, hh, eh⟩, q, q1, q2, eq⟩ := h3 i hi
    have h4' := h4 i (by omega)
    rw [b4] at h4'
    exact ⟨⟨h, hh, b2.symm.trans eh⟩, ⟨q, q1, q2, b3.symm.trans eq⟩, h4'⟩
  · obtain ⟨b1, b2, b3, b4, _⟩ := h3 i hi
    exact ⟨b1, b2, b3, b4⟩
theorem S_pockets : SIM_pockets Rel := by
  intro σ τ p0 ⟨H, T, R⟩
  have h8 := R.1.1
  have h7 := R.1.2.1
  refine sim_N ?_
  have R1 : RelH H T σ (ms τ 0 5 (nI 0)) := R.code
  obtain ⟨S, eS, hc, hX⟩ := sc_of R1
  unfold m_X10_pockets m_X11_pockets
  simp only [pu_lit]
  rcases ix_dec1 p0 2 (by omega) with hb | ⟨w, hw, rfl⟩
  · exact po_throw ⟨H, T, R⟩ ⟨rfl, rfl⟩ (by rw [C_needWhat_f hb]; rfl) (by
      rw [ltE, R_isIn_f (a := 0) (b := 2) (A := 0) (B := 2) (by decide) (by decide) hb]; rfl)
  rw [ltE, C_needWhat_t hw (by decide), xb_inr, R_isIn_t (a := 0) (b := 2) (A := 0) (B := 2) (by decide) (by decide) ⟨by omega, hw⟩ (by decide), sbind, if_neg (show ¬ nI 1 = nI 0 by decide)]
  by_cases c : w = 2
  · subst c
    rw [if_pos rfl, if_pos rfl]
    obtain ⟨q, eq, ⟨r, r1, r2⟩, fq⟩ := (C_asSeen (P := σ) (σ := σ) (c := σ 47) R.1 hc PE.self eS rfl).1
    obtain ⟨u, eu, u1, u2, u3⟩ := R_asSeen R.1 hc R1.2.1 R1.2.2.1 R.2.2.2.1 hX
    have ea := asL_e64 R.1 R1.2.1 hc 12 1 r (σ 43) (R.2.2.2.1.e64 h8 r1) r1
    obtain ⟨d5, dR⟩ := R.done (fq.mono (by decide)) u2 (RQs.ofA u3)
    rw [eq, sbind, eu, sbind, r2, u1, ea]
    by_cases b : bI (asL σ H T (σ 47) S 12 1 (σ 43)) = nI 0
    · rw [if_pos b, if_pos b]; exact po_val dR d5 rfl rfl
    · rw [if_neg b, if_neg b]; exact po_val dR d5 rfl rfl
  · rw [if_neg (by rw [nI_eq (by omega) (by omega)]; exact c), if_neg (by rw [nI_eq (by omega) (by omega)]; exact c)]
    obtain ⟨σ2, g1, g2⟩ := C_pock_out (x1 := nI w) R.1 R1.2.1 R.2.2.2.1 hc eS T KF 0 σ [] (by omega) (by unfold KF; omega) fr.rfl (by simp)
    have g2' : f_X10_pockets_33 (nI w) KF σ (nI 0) (-nI 1) (nI 0) = _ := g2
    obtain ⟨q, eq, q1, q2, q3, q4⟩ := R_fits R.1 R.2.2.2.1 hc R1.2.1 R1.2.2.1 hX
    obtain ⟨d5, dR⟩ := R.done (g1.mono (by decide)) q3 q1.s
    have hlen := ftA_len (f := fitB σ H T S) T 0
    rw [g2', eq, sbind, List.nil_append]
    by_cases d : nI w = nI 0
    · rw [if_pos d, if_pos d, q4.1]; exact po_val dR d5 rfl rfl
    · rw [if_neg d, if_neg d, q4.1]
      cases hL : ftA (fitB σ H T S) T 0 with
      | nil => rw [if_pos (by rfl)]; exact po_val dR d5 rfl rfl
      | cons a L =>
        rw [hL] at q4 hlen
        rw [List.length_cons] at hlen
        rw [List.length_cons, if_neg (nz' (by omega) (by omega)), pu_gd (by decide) (by decide), nI_clamp (by decide), q4.2 0 (by simp)]
        exact po_val dR d5 rfl rfl

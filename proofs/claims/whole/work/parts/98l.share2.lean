/-! shares: the class -/
def LK (P : Mem) (r : Rw) (t h : Nat) : Nat := if nI 0 < lnS P r h t then (lnS P r h t).toNatClampNeg else 0
theorem lk_ok {P : Mem} {r : Rw} {t h : Nat} : LK P r t h ≤ 1001 ∧ (nI 0 < lnS P r h t → lnS P r h t = nI (LK P r t h) ∧ LK P r t h ≠ 0) ∧ (¬ nI 0 < lnS P r h t → LK P r t h = 0) := by
  have key : ∀ v : Int32, nI 0 < v → v ≤ nI 1001 → v.toNatClampNeg ≤ 1001 ∧ v = nI v.toNatClampNeg ∧ v.toNatClampNeg ≠ 0 := by
    intro v h1 h2
    rcases ix_dec1 v 1001 (by decide) with (q | q) | ⟨j, hj, rfl⟩
    · exact absurd q (Int32.not_lt.mpr (Int32.le_of_lt h1))
    · exact absurd q (Int32.not_lt.mpr h2)
    · rw [nI_clamp (by omega)]
      have := (nI_ltI (by omega) (by omega)).mp h1
      exact ⟨hj, rfl, by omega⟩
  have hb : lnS P r h t ≤ nI 1001 := by
    unfold lnS
    by_cases c : bt (r 62) h = nI 1
    · rw [if_pos c]; decide
    · rw [if_neg c]
      unfold lkS
      have cl : ∀ v : Int32, imax (-nI 999) (imin (nI 999) v) ≤ nI 999 ∧ imax (-nI 999) (imin (nI 999) v) + nI 2 ≤ nI 1001 := by
        intro v
        have e : ∃ z : Int, -999 ≤ z ∧ z ≤ 999 ∧ (imax (-nI 999) (imin (nI 999) v)).toInt = z := by
          unfold imax imin
          have n9 : (-nI 999 : Int32).toInt = -999 := by decide
          have p9 : (nI 999 : Int32).toInt = 999 := by decide
          by_cases d : v < nI 999
          · rw [if_pos d]
            have d1 := Int32.lt_iff_toInt_lt.mp d
            rw [p9] at d1
            by_cases d2 : -nI 999 < v
            · rw [if_pos d2]
              have d3 := Int32.lt_iff_toInt_lt.mp d2
              rw [n9] at d3
              exact ⟨v.toInt, by omega, by omega, rfl⟩
            · rw [if_neg d2]; exact ⟨-999, by omega, by omega, n9⟩
          · rw [if_neg d, if_pos (by decide)]; exact ⟨999, by omega, by omega, p9⟩
        obtain ⟨z, z1, z2, z3⟩ := e
        refine ⟨Int32.le_iff_toInt_le.mpr (by rw [z3, show (nI 999 : Int32).toInt = 999 by decide]; exact z2), Int32.le_iff_toInt_le.mpr ?_⟩
        rw [Int32.toInt_add, z3, show (nI 2 : Int32).toInt = 2 by decide, show (nI 1001 : Int32).toInt = 1001 by decide, Int.bmod_eq_of_le (by omega) (by omega)]
        omega
      by_cases d : P 27 t = nI 1
      · rw [if_pos d]; exact (cl _).2
      · rw [if_neg d]; exact Int32.le_trans (cl _).1 (by decide)
  unfold LK
  by_cases c : nI 0 < lnS P r h t
  · rw [if_pos c]
    obtain ⟨k1, k2, k3⟩ := key _ c hb
    exact ⟨k1, fun _ => ⟨k2, k3⟩, fun z => absurd c z⟩
  · rw [if_neg c]
    exact ⟨by omega, fun z => absurd z c, fun _ => rfl⟩
section SHARE
variable {P : Mem} {H T each : Nat} {lk : Nat → Nat → Nat}
/-- what the class was told: sets, tenants, each, likings -/
def TS (lk : Nat → Nat → Nat) (H T each : Nat) (σ : Mem) : Prop := σ 38 4 = nI (2 ^ H) ∧ σ 38 3 = nI T ∧ σ 38 5 = nI each ∧ ∀ t, t < T → ∀ h, h < H → (nI 0 < σ 39 (t * 8 + h) → σ 39 (t * 8 + h) = nI (lk t h) ∧ lk t h ≠ 0) ∧ (¬ nI 0 < σ 39 (t * 8 + h) → lk t h = 0)
theorem TS.fr {σ σ1 : Mem} (h : TS lk H T each σ) (hf : fr [40, 41] σ σ1) : TS lk H T each σ1 := by
  unfold TS
  rw [hf 38 (by decide), hf 39 (by decide)]
  exact h
theorem p2_256 {H : Nat} (h8 : H ≤ 8) : 2 ^ H ≤ 256 := Nat.pow_le_pow_right (n := 2) (by decide) h8
theorem C_worth {σ : Mem} {t s : Nat} (h8 : H ≤ 8) (h7 : T ≤ 7) (hl : ∀ t h, lk t h ≤ 1001) (hS : TS lk H T each σ) (ht : t < T) (hs : s < 2 ^ H) : m_X7_worthOf σ (nI t) (nI s) = some (enc (wO (lk t) each s)) := by
  have h256 := p2_256 h8
  have loop : ∀ (k n h a : Nat), h + k = 8 → k < n → a ≤ 1001 * h → f_X7_worthOf_18 (nI t) (nI s) n σ (nI a) (nI h) = some (enc (wk (lk t) s k h a)) := by
    intro k
    induction k with
    | zero =>
      intro n h a hk hn ha
      obtain ⟨n, rfl⟩ : ∃ q, n = q + 1 := ⟨n - 1, by omega⟩
      rw [f_X7_worthOf_18]
      simp only [pu_lit]
      rw [if_pos (nI_le (by omega) (by omega))]
      rfl
    | succ k ih =>
      intro n h a hk hn ha
      obtain ⟨n, rfl⟩ : ∃ q, n = q + 1 := ⟨n - 1, by omega⟩
      rw [f_X7_worthOf_18]
      simp only [pu_lit]
      rw [if_neg (nI_ge (by omega) (by omega))]
      show (if bt (nI s) h = nI 1 then _ else _) = some (enc (if bt (nI s) h = nI 1 then (if lk t h = 0 then none else wk (lk t) s k (h + 1) (a + lk t h)) else wk (lk t) s k (h + 1) a))
      by_cases c : bt (nI s) h = nI 1
      · have hH : h < H := by
          rcases Nat.lt_or_ge h H with q | q
          · exact q
          · exact absurd c (bt_hi hs q (by omega))
        obtain ⟨l1, l2⟩ := hS.2.2.2 t ht h hH
        rw [if_pos c, if_pos c, pk_mul, nI_add, pu_gd (by omega) (by decide), nI_clamp (by omega), ltE]
        by_cases d : nI 0 < σ 39 (t * 8 + h)
        · obtain ⟨l3, l4⟩ := l1 d
          have := hl t h
          rw [if_pos d, if_neg l4, ltE, l3, nI_add, nI_add]
          exact ih n (h + 1) (a + lk t h) (by omega) (by omega) (by omega)
        · rw [if_neg d, if_pos (l2 d)]; rfl
      · rw [if_neg c, if_neg c, nI_add]
        exact ih n (h + 1) a (by omega) (by omega) (by omega)
  unfold m_X7_worthOf wO
  simp only [pu_lit]
  rw [C_bits (by omega), sbind, hS.2.2.1]
  by_cases c : pop (nI s) ≤ nI each
  · rw [if_pos c, if_pos c]; exact loop 8 KF 0 0 (by omega) (by decide) (by omega)
  · rw [if_neg c, if_neg c]; rfl
theorem enc_none {o : Option Nat} (h : ∀ a, o = some a → a < 2147483648) : enc o = -nI 1 ↔ o = none := by
  cases o with
  | none => exact ⟨fun _ => rfl, fun _ => rfl⟩
  | some a =>
    constructor
    · intro e
      have e' : nI a = -nI 1 := e
      exact absurd e' (fun z => (nI_nm1 (h a rfl)).mp z)
    · intro e; cases e
theorem C_best {σ : Mem} {t s : Nat} {w : Nat → Option Nat} {b : Nat → Nat} (ht : t < 7) (hs : s < 256) (hw : ∀ p, p ≤ s → σ 40 p = enc (w p)) (hwl : ∀ p a, w p = some a → a ≤ 8008) (hb : ∀ q, q < 256 → Sub (s ^^^ q) s → q ≤ s → σ 41 ((t + 1) * 256 + q) = nI (b q)) (hbl : ∀ q, b q ≤ 100000) : m_X7_bestOf σ (nI t) (nI s) = some (nI (dnC (gO w b s) s (s + 1) s 0)) := by
  have loop : ∀ (k n p i m : Nat), p < k → p < n → p + i ≤ s → Sub p s → m ≤ 200000 → f_X7_bestOf_8 (nI t) (nI s) n σ (nI m) (nI p) (nI i) = some (nI (dnC (gO w b s) s k p m)) := by
    intro k
    induction k with
    | zero => intro n p i m h; exact absurd h (by omega)
    | succ k ih =>
      intro n p i m hp hn hi hsub hm
      obtain ⟨n, rfl⟩ : ∃ q, n = q + 1 := ⟨n - 1, by omega⟩
      have hx : s ^^^ p < 256 := Nat.xor_lt_two_pow (n := 8) (by omega) (by omega)
      have hxx : s ^^^ (s ^^^ p) = p := by rw [← Nat.xor_assoc, Nat.xor_self, Nat.zero_xor]
      have hxs : s ^^^ p ≤ s := by
        have e1 := hsub.x
        rw [show nI s &&& (nI p ^^^ -nI 1) = nI (s ^^^ p) from e1] at e1
        have hle : ∀ a, a < 256 → ∀ c, c < 256 → (nI a &&& nI c).toNatClampNeg ≤ a := by
          intro a ha c hc
          rw [nI_and, nI_clamp (Nat.lt_of_le_of_lt Nat.and_le_left (by omega))]
          exact Nat.and_le_left
        have e2 : nI s &&& nI (s ^^^ p) = nI (s ^^^ p) := by
          rw [← hsub.x]
          apply gb_ext
          intro i hi
          rw [gb_and, gb_and]
          cases gb (nI s) i <;> simp
        have := hle s hs (s ^^^ p) hx
        rw [e2, nI_clamp (by omega)] at this
        exact this
      rw [f_X7_bestOf_8]
      simp only [pu_lit]
      rw [if_neg (nI_nlt (by omega) (by omega)), pu_gd (k := p) (by omega) (by decide), nI_clamp (n := p) (by omega), ltE, hw p (by omega)]
      show _ = some (nI (if p = 0 then stM (gO w b s p) m else dnC (gO w b s) s k ((p - 1) &&& s) (stM (gO w b s p) m)))
      have nxt : ∀ (m2 : Nat), m2 ≤ 200000 → (if nI p = nI 0 then some (nI m2) else lt ((nI p - nI 1) &&& nI s) fun y => f_X7_bestOf_8 (nI t) (nI s) n σ (nI m2) y (nI i + nI 1)) = some (nI (if p = 0 then m2 else dnC (gO w b s) s k ((p - 1) &&& s) m2)) := by
        intro m2 h2
        by_cases c : p = 0
        · subst c; rw [if_pos rfl, if_pos rfl]
        · have := down (s := s) c
          rw [if_neg (nz' (by omega) (by omega)), if_neg c, ltE, pk_sub (by omega), nI_and, nI_add]
          exact ih n _ (i + 1) m2 (by omega) (by omega) (by omega) (sub_and _ _) h2
      cases ew : w p with
      | none =>
        rw [if_pos (by rfl)]
        have : stM (gO w b s p) m = m := by unfold gO; rw [ew]; rfl
        rw [this]
        exact nxt m hm
      | some a =>
        have ha := hwl p a ew
        have hbb := hbl (s ^^^ p)
        have e1 : ¬ enc (some a) = -nI 1 := fun z => (nI_nm1 (show a < 2147483648 by omega)).mp z
        have e2 : stM (gO w b s p) m = max m (a + b (s ^^^ p)) := by unfold gO; rw [ew]; rfl
        rw [if_neg e1, nI_add, nI_xor, pk_mul, nI_add, pu_gd (k := (t + 1) * 256 + (s ^^^ p)) (by omega) (by decide), nI_clamp (n := (t + 1) * 256 + (s ^^^ p)) (by omega), ltE, hb (s ^^^ p) hx (by rw [hxx]; exact hsub) hxs, e2]
        show (if nI p = nI 0 then some (imax (nI m) (nI a + nI (b (s ^^^ p)))) else lt ((nI p - nI 1) &&& nI s) fun y => f_X7_bestOf_8 (nI t) (nI s) n σ (imax (nI m) (nI a + nI (b (s ^^^ p)))) y (nI i + nI 1)) = _
        rw [nI_add, imax_nI (by omega) (by omega)]
        exact nxt _ (by omega)
  unfold m_X7_bestOf
  simp only [pu_lit]
  exact loop (s + 1) KF s 0 0 (by omega) (by unfold KF; omega) (by omega) (sub_self s) (by omega)
/-- best, from tenant t on -/
def BT (lk : Nat → Nat → Nat) (H T each t : Nat) (f : Rw) : Prop := ∀ u, t ≤ u → u ≤ T → ∀ s, s < 2 ^ H → f (u * 256 + s) = nI (bS lk each (T - u) u s)
theorem C_weigh_in {k39 : Mem → Int32 → Option Mem} {σ0 : Mem} {t : Nat} (h8 : H ≤ 8) (h7 : T ≤ 7) (hl : ∀ t h, lk t h ≤ 1001) (ht : t < T) : ∀ (k n x : Nat) (σ : Mem), x + k = 2 ^ H → k < n → fr [40, 41] σ0 σ → TS lk H T each σ → BT lk H T each (t + 1) (σ 41) → (∀ p, p < x → σ 40 p = enc (wO (lk t) each p)) → (∀ s, s < x → σ 41 (t * 256 + s) = nI (bS lk each (T - t) t s)) → ∃ q, fr [40, 41] σ0 q ∧ BT lk H T each t (q 41) ∧ f_X7_weigh_45 k39 (nI t) n σ (nI x) = k39 q (nI t + -nI 1) := by
  have h256 := p2_256 h8
  intro k
  induction k with
  | zero =>
    intro n x σ hk hn hf hS hB hw hx
    obtain ⟨n, rfl⟩ : ∃ q, n = q + 1 := ⟨n - 1, by omega⟩
    refine ⟨σ, hf, fun u h1 h2 s hs => ?_, ?_⟩
    · by_cases c : u = t
      · subst c; exact hx s (by omega)
      · exact hB u (by omega) h2 s hs
    · rw [f_X7_weigh_45, hS.1, if_pos (nI_le (by omega) (by omega))]
      simp only [pu_lit]
  | succ k ih =>
    intro n x σ hk hn hf hS hB hw hx
    obtain ⟨n, rfl⟩ : ∃ q, n = q + 1 := ⟨n - 1, by omega⟩
    rw [f_X7_weigh_45, hS.1, if_neg (nI_ge (by omega) (by omega)), C_worth h8 h7 hl hS ht (s := x) (by omega), sbind, pu_gd (by omega) (by decide), nI_clamp (by omega), ltE]
    have hf2 : fr [40, 41] σ0 (ms σ 40 x (enc (wO (lk t) each x))) := hf.ms (by simp)
    have hw2 : ∀ p, p ≤ x → ms σ 40 x (enc (wO (lk t) each x)) 40 p = enc (wO (lk t) each p) := fun p hp => by
      rw [ms_same]
      by_cases c : p = x
      · subst c; exact pk_us
      · rw [pk_un c]; exact hw p (by omega)
    have hbb : ∀ q, bS lk each (T - (t + 1)) (t + 1) q ≤ 100000 := fun q => by
      have := bS_le (each := each) hl (T - (t + 1)) (t + 1) q
      omega
    rw [C_best (b := bS lk each (T - (t + 1)) (t + 1)) (w := wO (lk t) each) (by omega) (by omega) hw2 (fun p a e => wO_le (hl t) e) (fun q hq _ hqs => by rw [ms_ne (by decide)]; exact hB (t + 1) (Nat.le_refl _) (by omega) q (by omega)) hbb, sbind]
    simp only [pu_lit]
    rw [pk_mul, nI_add, pu_gd (by omega) (by decide), nI_clamp (by omega), ltE, nI_add]
    have ej : T - t = (T - (t + 1)) + 1 := by omega
    refine ih n (x + 1) _ (by omega) (by omega) (hf2.ms (by simp)) ((hS.fr (fr.rfl.ms (by simp))).fr (fr.rfl.ms (by simp))) (fun u h1 h2 s hs => ?_) (fun p hp => ?_) (fun s hs => ?_)
    · rw [ms_same, pk_un (by omega), ms_ne (by decide)]; exact hB u h1 h2 s hs
    · rw [ms_ne (by decide)]; exact hw2 p (by omega)
    · rw [ms_same]
      by_cases c : s = x
      · subst c; rw [pk_us, ej]; rfl
      · rw [pk_un (by omega), ms_ne (by decide)]; exact hx s (by omega)
theorem C_weigh_out {σ0 : Mem} (h8 : H ≤ 8) (h7 : T ≤ 7) (hl : ∀ t h, lk t h ≤ 1001) : ∀ (t n : Nat) (σ : Mem) (x : Int32), t ≤ T → t < n → x = nI t + -nI 1 → fr [40, 41] σ0 σ → TS lk H T each σ → BT lk H T each t (σ 41) → OK (f_X7_weigh_39 n σ x) (fun q => fr [40, 41] σ0 q ∧ TS lk H T each q ∧ BT lk H T each 0 (q 41)) := by
  intro t
  induction t with
  | zero =>
    intro n σ x ht hn hx hf hS hB
    obtain ⟨n, rfl⟩ : ∃ q, n = q + 1 := ⟨n - 1, by omega⟩
    subst hx
    rw [f_X7_weigh_39, if_pos (by decide), ok_some]
    exact ⟨hf, hS, hB⟩
  | succ t ih =>
    intro n σ x ht hn hx hf hS hB
    obtain ⟨n, rfl⟩ : ∃ q, n = q + 1 := ⟨n - 1, by omega⟩
    have ex : x = nI t := by
      rw [hx]
      exact pu_m1
    subst ex
    rw [f_X7_weigh_39]
    simp only [pu_lit]
    rw [if_neg (nn0 (by omega))]
    have h256 := p2_256 h8
    obtain ⟨q, q1, q2, q3⟩ := C_weigh_in (k39 := f_X7_weigh_39 n) (σ0 := σ) h8 h7 hl (t := t) (by omega) (2 ^ H) KF 0 σ (by omega) (by unfold KF; omega) fr.rfl hS hB (fun p hp => absurd hp (by omega)) (fun s hs => absurd hs (by omega))
    rw [q3]
    exact ih n q _ (by omega) (by omega) rfl (hf.trans q1) (hS.fr q1) q2
theorem C_weigh {σ : Mem} (h8 : H ≤ 8) (h7 : T ≤ 7) (hl : ∀ t h, lk t h ≤ 1001) (hS : TS lk H T each σ) : OK (m_X7_weigh σ) (fun q => fr [40, 41] σ q ∧ TS lk H T each q ∧ BT lk H T each 0 (q 41)) := by
  have h256 := p2_256 h8
  have z : ∀ (k n x : Nat) (σ1 : Mem), x + k = 2 ^ H → k < n → fr [40, 41] σ σ1 → (∀ s, s < x → σ1 41 (T * 256 + s) = nI 0) → OK (f_X7_weigh_2 n σ1 (nI x)) (fun q => fr [40, 41] σ q ∧ TS lk H T each q ∧ BT lk H T each 0 (q 41)) := by
    intro k
    induction k with
    | zero =>
      intro n x σ1 hk hn hf h0
      obtain ⟨n, rfl⟩ : ∃ q, n = q + 1 := ⟨n - 1, by omega⟩
      have hS1 := hS.fr hf
      rw [f_X7_weigh_2, hS1.1, if_pos (nI_le (by omega) (by omega)), ok_lt, hS1.2.1]
      refine C_weigh_out h8 h7 hl T KF σ1 _ (Nat.le_refl _) (by unfold KF; omega) ?_ hf hS1 (fun u h1 h2 s hs => ?_)
      · simp only [pu_lit]
        rw [Int32.sub_eq_add_neg]
      · have : u = T := by omega
        subst this
        rw [Nat.sub_self]
        exact h0 s (by omega)
    | succ k ih =>
      intro n x σ1 hk hn hf h0
      obtain ⟨n, rfl⟩ : ∃ q, n = q + 1 := ⟨n - 1, by omega⟩
      have hS1 := hS.fr hf
      rw [f_X7_weigh_2, hS1.1, if_neg (nI_ge (by omega) (by omega)), hS1.2.1]
      simp only [pu_lit]
      rw [pk_mul, nI_add, pu_gd (by omega) (by decide), nI_clamp (by omega), ok_lt, nI_add]
      refine ih n (x + 1) _ (by omega) (by omega) (hf.ms (by simp)) (fun s hs => ?_)
      rw [ms_same]
      by_cases c : s = x
      · subst c; exact pk_us
      · rw [pk_un (by omega)]; exact h0 s (by omega)
  exact z (2 ^ H) KF 0 σ (by omega) (by unfold KF; omega) fr.rfl (fun s hs => absurd hs (by omega))
end SHARE

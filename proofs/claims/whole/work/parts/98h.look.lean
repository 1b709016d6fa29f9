/-! look: whose a house would be, how many unlike -/
def ow (σ : Mem) (H T a h : Nat) : Int32 := qS σ H T (upd (σ 43) (40 + a / 100) (nI (a % 100))) (24 + h)
def bo (σ : Mem) (H T a h : Nat) : Nat := (ow σ H T a h + nI 1).toNatClampNeg
def Mn (b : Nat → Nat) : Nat → Int32
  | 0 => nI 0
  | n + 1 => Mn b n ||| b1 (b n)
theorem Mn_congr {b c : Nat → Nat} : ∀ {n : Nat}, (∀ i, i < n → b i = c i) → Mn b n = Mn c n
  | 0, _ => rfl
  | n + 1, h => by
    show Mn b n ||| b1 (b n) = Mn c n ||| b1 (c n)
    rw [Mn_congr (fun i hi => h i (by omega)), h n (by omega)]
theorem pop_or : ∀ s, s < 256 → ∀ b, b < 8 → pop (nI s ||| b1 b) = if bt (nI s) b = nI 1 then pop (nI s) else pop (nI s) + nI 1 := by decide +kernel
/-- how many are unlike -/
def nwL (b : Nat → Nat) (i : Nat) : Nat → Nat → Bool
  | 0, _ => true
  | k + 1, j => !(decide (b j = b i)) && nwL b i k (j + 1)
def dcN (b : Nat → Nat) : Nat → Int32
  | 0 => nI 0
  | n + 1 => dcN b n + bI (nwL b n n 0)
theorem nwL_iff {b : Nat → Nat} {i : Nat} : ∀ (k j : Nat), nwL b i k j = true ↔ ∀ q, j ≤ q → q < j + k → ¬ b q = b i
  | 0, j => ⟨fun _ q h1 h2 => absurd h2 (by omega), fun _ => rfl⟩
  | k + 1, j => by
    show (!(decide (b j = b i)) && nwL b i k (j + 1)) = true ↔ _
    rw [Bool.and_eq_true, nwL_iff k (j + 1)]
    constructor
    · rintro ⟨h1, h2⟩ q hq1 hq2
      by_cases c : q = j
      · subst c; simpa using h1
      · exact h2 q (by omega) (by omega)
    · intro h
      refine ⟨by simpa using h j (by omega) (by omega), fun q h1 h2 => h q (by omega) (by omega)⟩
theorem Mn_ok {b : Nat → Nat} : ∀ {n : Nat}, (∀ i, i < n → b i < 8) → ∃ s, s < 256 ∧ Mn b n = nI s ∧ pop (nI s) = dcN b n ∧ ∀ c, c < 8 → (bt (nI s) c = nI 1 ↔ ∃ i, i < n ∧ b i = c)
  | 0, _ => ⟨0, by decide, rfl, show pop (nI 0) = nI 0 by decide +kernel, fun c hc => by
      have : ∀ c, c < 8 → ¬ bt (nI 0) c = nI 1 := by decide +kernel
      exact ⟨fun h => absurd h (this c hc), fun ⟨i, hi, _⟩ => absurd hi (by omega)⟩⟩
  | n + 1, h => by
    obtain ⟨s, hs, e1, e2, e3⟩ := Mn_ok (b := b) (n := n) (fun i hi => h i (by omega))
    have hb := h n (by omega)
    obtain ⟨o1, o2⟩ := or_bit s hs (b n) hb
    refine ⟨(nI s ||| b1 (b n)).toNatClampNeg, o1, ?_, ?_, fun c hc => ?_⟩
    · show Mn b n ||| b1 (b n) = _
      rw [e1]; exact o2
    · rw [← o2, pop_or s hs (b n) hb, e2]
      show _ = dcN b n + bI (nwL b n n 0)
      by_cases d : bt (nI s) (b n) = nI 1
      · rw [if_pos d]
        obtain ⟨i, hi, ei⟩ := (e3 (b n) hb).mp d
        have : nwL b n n 0 = false := by
          by_cases q : nwL b n n 0 = true
          · exact absurd ei ((nwL_iff n 0).mp q i (by omega) (by omega))
          · simpa using q
        rw [this]
        show _ = dcN b n + nI 0
        rw [add_0]
      · rw [if_neg d]
        have : nwL b n n 0 = true := (nwL_iff n 0).mpr (fun q h1 h2 eq => d ((e3 (b n) hb).mpr ⟨q, by omega, eq⟩))
        rw [this]
        rfl
    · rw [← o2]
      by_cases d : c = b n
      · subst d
        exact ⟨fun _ => ⟨n, by omega, rfl⟩, fun _ => bt_or_same (by omega)⟩
      · rw [bt_or_ne (by omega) (by omega) d, e3 c hc]
        constructor
        · rintro ⟨i, hi, ei⟩; exact ⟨i, by omega, ei⟩
        · rintro ⟨i, hi, ei⟩
          by_cases q : i = n
          · subst q; exact absurd ei.symm d
          · exact ⟨i, by omega, ei⟩
section LOOK
variable {H T S : Nat} {σ : Mem}
theorem ow_ok {a h : Nat} (hW : PW σ H T) (hr : RW (σ 43) H T) (ha : a / 100 < 7) (hh : h < 8) : ow σ H T a h + nI 1 = nI (bo σ H T a h) ∧ bo σ H T a h < 8 := by
  have h7 := hW.2.1
  have hw := qS_W hW (hr.up (j := 40 + a / 100) (v := nI (a % 100)) hW.1 (by omega))
  unfold bo
  rcases hw.1 h hh with e | ⟨t, ht, e⟩
  · have : ow σ H T a h = -nI 1 := e
    rw [this]
    exact ⟨by decide, by decide⟩
  · have : ow σ H T a h = nI t := e
    rw [this, nI_add, nI_clamp (by omega)]
    exact ⟨rfl, by omega⟩
theorem ow_inj {a c h : Nat} (hW : PW σ H T) (hr : RW (σ 43) H T) (ha : a / 100 < 7) (hc : c / 100 < 7) (hh : h < 8) : ow σ H T a h = ow σ H T c h ↔ bo σ H T a h = bo σ H T c h := by
  obtain ⟨a1, a2⟩ := ow_ok hW hr ha hh
  obtain ⟨c1, c2⟩ := ow_ok hW hr hc hh
  constructor
  · intro e
    unfold bo
    rw [e]
  · intro e
    have : ow σ H T a h + nI 1 = ow σ H T c h + nI 1 := by rw [a1, c1, e]
    have e2 := congrArg (fun z => z - nI 1) this
    simpa [Int32.add_sub_cancel] using e2
def CM : List Nat := [30, 33, 35, 36, 37, 56, 57]
theorem C_meetT {σ1 : Mem} {r : Rw} (h8 : H ≤ 8) (e0 : σ1 23 0 = nI H) (e56 : σ1 56 = r) : ∀ (k n h : Nat) (σ2 : Mem), h + k = H → k < n → fr [57] σ1 σ2 → (∀ j, j < h → σ2 57 j = σ1 57 j ||| (nI 1 <<< ((r (24 + j) + nI 1) &&& nI 31))) → (∀ j, h ≤ j → σ2 57 j = σ1 57 j) → OK (f_X10_meetOwnersOfTrial_2 n σ2 (nI h)) (fun q => fr [57] σ1 q ∧ ∀ j, j < H → q 57 j = σ1 57 j ||| (nI 1 <<< ((r (24 + j) + nI 1) &&& nI 31))) := by
  intro k
  induction k with
  | zero =>
    intro n h σ2 hk hn hf h1 h2
    obtain ⟨n, rfl⟩ : ∃ q, n = q + 1 := ⟨n - 1, by omega⟩
    have e0' : σ2 23 0 = nI H := by rw [hf 23 (by decide)]; exact e0
    rw [f_X10_meetOwnersOfTrial_2, e0', if_pos (nI_le (by omega) (by omega)), ok_some]
    exact ⟨hf, fun j hj => h1 j (by omega)⟩
  | succ k ih =>
    intro n h σ2 hk hn hf h1 h2
    obtain ⟨n, rfl⟩ : ∃ q, n = q + 1 := ⟨n - 1, by omega⟩
    have e0' : σ2 23 0 = nI H := by rw [hf 23 (by decide)]; exact e0
    have e56' : σ2 56 = r := by rw [hf 56 (by decide)]; exact e56
    rw [f_X10_meetOwnersOfTrial_2, e0', if_neg (nI_ge (by omega) (by omega))]
    simp only [pu_lit]
    rw [pu_gd (k := h) (n := 8) (by omega) (by decide), nI_add, pu_gd (k := 24 + h) (by omega) (by decide), nI_clamp (n := 24 + h) (by omega), pu_gd (k := h) (n := 8) (by omega) (by decide), nI_clamp (n := h) (by omega), ok_lt, e56', h2 h (Nat.le_refl _), nI_add]
    refine ih n (h + 1) _ (by omega) (by omega) (hf.ms (by simp)) (fun j hj => ?_) (fun j hj => ?_)
    · rw [ms_same]
      by_cases c : j = h
      · subst c; rw [pk_us]
      · rw [pk_un c]; exact h1 j (by omega)
    · rw [ms_same, pk_un (by omega)]; exact h2 j (by omega)
def MO (σ : Mem) (H T : Nat) (L : List Nat) (σ1 : Mem) : Prop := ∀ h, h < H → σ1 57 h = Mn (fun i => bo σ H T (L.getD i 0) h) L.length
theorem C_meet_in {τ : Mem} {k23 : Mem → Int32 → Option Mem} {t : Nat} (hW : PW σ H T) (hP : PR σ τ H T) (hr : RW (σ 43) H T) (hc : SC H S (σ 47)) (eS : σ 46 1 = nI S) (ht : t < 7) : ∀ (k n v : Nat) (σ1 : Mem) (L : List Nat), v + k = 21 → k < n → fr CM σ σ1 → MO σ H T L σ1 → ∃ σ2, fr CM σ σ2 ∧ MO σ H T (L ++ fv (fitB σ H T S t) t k v) σ2 ∧ f_X10_meetOwners_36 k23 (nI t) n σ1 (nI v) = k23 σ2 (nI (t + 1)) := by
  have h8 := hW.1
  intro k
  induction k with
  | zero =>
    intro n v σ1 L hk hn hf hM
    obtain ⟨n, rfl⟩ : ∃ q, n = q + 1 := ⟨n - 1, by omega⟩
    refine ⟨σ1, hf, ?_, ?_⟩
    · show MO σ H T (L ++ []) σ1
      rw [List.append_nil]; exact hM
    · rw [f_X10_meetOwners_36]
      simp only [pu_lit]
      rw [if_pos (nI_lt (by omega) (by omega)), nI_add]
  | succ k ih =>
    intro n v σ1 L hk hn hf hM
    obtain ⟨n, rfl⟩ : ∃ q, n = q + 1 := ⟨n - 1, by omega⟩
    have ef : fv (fitB σ H T S t) t (k + 1) v = if fitB σ H T S t v then (100 * t + v) :: fv (fitB σ H T S t) t k (v + 1) else fv (fitB σ H T S t) t k (v + 1) := rfl
    have e43 : σ1 43 = σ 43 := hf 43 (by decide)
    have hPE : ∀ {u : Mem}, fr CM σ u → PE σ u := fun hu k h1 h2 h3 h4 => hu k (by unfold CM; simp; omega)
    rw [ef, f_X10_meetOwners_36]
    simp only [pu_lit]
    rw [if_neg (nI_nlt (by omega) (by omega)), nI_add, pu_gd (by omega) (by decide), nI_clamp (by omega), e43]
    by_cases c : nI v = σ 43 (40 + t)
    · have fb : fitB σ H T S t v = false := by unfold fitB; simp [c]
      rw [if_pos c, fb, nI_add]
      simp only [Bool.false_eq_true, if_false]
      exact ih n (v + 1) σ1 L (by omega) (by omega) hf hM
    · have fb : fitB σ H T S t v = asL σ H T (σ 47) S 12 1 (upd (σ 43) (40 + t) (nI v)) := by unfold fitB; simp [c]
      obtain ⟨q, eq, q1, q2⟩ := C_fit (v := v) hW hP hr hc eS ht ⟨hPE hf, e43, hf 46 (by decide), hf 47 (by decide)⟩
      have f2 : fr CM σ q.2 := hf.trans (q2.mono (by decide))
      have M2 : MO σ H T L q.2 := fun h hh => by rw [q2 57 (by decide)]; exact hM h hh
      rw [if_neg c, eq, sbind, q1, fb]
      by_cases b : asL σ H T (σ 47) S 12 1 (upd (σ 43) (40 + t) (nI v)) = true
      · rw [b, if_neg (show ¬ bI true = nI 0 by decide)]
        simp only [if_true]
        have e2 : L ++ (100 * t + v) :: fv (fitB σ H T S t) t k (v + 1) = (L ++ [100 * t + v]) ++ fv (fitB σ H T S t) t k (v + 1) := by simp
        obtain ⟨u, eu, fu, r, hr0, hu⟩ := C_with (P := σ) (σ := q.2) hW (hPE f2) (p := 40 + t) (by omega) (v := nI v)
        rw [f2 43 (by decide)] at hr0
        have f57 : u 57 = q.2 57 ∧ fr CM q.2 u := by
          obtain ⟨u', eu', fu', _⟩ := C_with57 (P := σ) (σ := q.2) hW (hPE f2) (p := 40 + t) (by omega) (v := nI v)
          rw [eu] at eu'
          cases eu'
          exact ⟨fu' 57 (by decide), fu'.mono (by decide)⟩
        have f3 : fr CM σ u := f2.trans f57.2
        have e230 : u 23 0 = nI H := by rw [f3 23 (by decide)]; exact hW.2.2.1
        obtain ⟨w, ew, fw, hw⟩ := C_meetT (σ1 := u) (r := u 56) h8 e230 rfl H KF 0 u (by omega) (by unfold KF; omega) fr.rfl (fun j hj => absurd hj (by omega)) (fun j _ => rfl)
        have ew' : m_X10_meetOwnersOfTrial u = some w := ew
        rw [eu, sbind, ew', sbind, nI_add, e2]
        refine ih n (v + 1) w (L ++ [100 * t + v]) (by omega) (by omega) (f3.trans (fw.mono (by decide))) (fun h hh => ?_)
        rw [hw h hh, f57.1, M2 h hh, List.length_append]
        show Mn _ _ ||| _ = Mn _ L.length ||| b1 _
        have a1 : (100 * t + v) / 100 = t := by omega
        have a2 : (100 * t + v) % 100 = v := by omega
        have eow : u 56 (24 + h) = ow σ H T (100 * t + v) h := by
          unfold ow
          rw [a1, a2, hu]
          exact qS_e64 hW hP ((hr.up (j := 40 + t) (v := nI v) h8 (by omega)).e64 h8 hr0.up) hr0.up (24 + h) (by omega)
        rw [eow, (ow_ok hW hr (by omega) (by omega)).1]
        show _ = Mn _ L.length ||| b1 (bo σ H T ((L ++ [100 * t + v]).getD L.length 0) h)
        rw [gD_a]
        have em : Mn (fun i => bo σ H T (L.getD i 0) h) L.length = Mn (fun i => bo σ H T ((L ++ [100 * t + v]).getD i 0) h) L.length := Mn_congr (fun i hi => by rw [gD_l hi])
        rw [em]
        rfl
      · have b' : asL σ H T (σ 47) S 12 1 (upd (σ 43) (40 + t) (nI v)) = false := by simpa using b
        rw [b', if_pos (show bI false = nI 0 by decide), nI_add]
        simp only [Bool.false_eq_true, if_false]
        exact ih n (v + 1) q.2 L (by omega) (by omega) f2 M2
theorem C_meet_out {τ : Mem} (hW : PW σ H T) (hP : PR σ τ H T) (hr : RW (σ 43) H T) (hc : SC H S (σ 47)) (eS : σ 46 1 = nI S) : ∀ (k n t : Nat) (σ1 : Mem) (L : List Nat), t + k = T → k < n → fr CM σ σ1 → MO σ H T L σ1 → OK (f_X10_meetOwners_23 n σ1 (nI t)) (fun q => fr CM σ q ∧ MO σ H T (L ++ ftA (fitB σ H T S) k t) q) := by
  have h7 := hW.2.1
  intro k
  induction k with
  | zero =>
    intro n t σ1 L hk hn hf hM
    obtain ⟨n, rfl⟩ : ∃ q, n = q + 1 := ⟨n - 1, by omega⟩
    have e1 : σ1 23 1 = nI T := by rw [hf 23 (by decide)]; exact hW.2.2.2.1
    rw [f_X10_meetOwners_23, e1, if_pos (nI_le (by omega) (by omega)), ok_some]
    refine ⟨hf, ?_⟩
    show MO σ H T (L ++ []) σ1
    rw [List.append_nil]; exact hM
  | succ k ih =>
    intro n t σ1 L hk hn hf hM
    obtain ⟨n, rfl⟩ : ∃ q, n = q + 1 := ⟨n - 1, by omega⟩
    have e1 : σ1 23 1 = nI T := by rw [hf 23 (by decide)]; exact hW.2.2.2.1
    rw [f_X10_meetOwners_23, e1, if_neg (nI_ge (by omega) (by omega))]
    simp only [pu_lit]
    obtain ⟨σ2, g1, g2, g3⟩ := C_meet_in (k23 := f_X10_meetOwners_23 n) hW hP hr hc eS (t := t) (by omega) 21 KF 0 σ1 L (by omega) (by decide) hf hM
    rw [g3]
    have := ih n (t + 1) σ2 (L ++ fv (fitB σ H T S t) t 21 0) (by omega) (by omega) g1 g2
    rw [List.append_assoc] at this
    exact this
theorem C_meet {τ : Mem} (hW : PW σ H T) (hP : PR σ τ H T) (hr : RW (σ 43) H T) (hc : SC H S (σ 47)) (eS : σ 46 1 = nI S) : OK (m_X10_meetOwners σ) (fun q => fr CM σ q ∧ MO σ H T (ftA (fitB σ H T S) T 0) q) := by
  have z : ∀ (k n h : Nat) (σ1 : Mem), h + k = 8 → k < n → fr CM σ σ1 → (∀ j, j < h → σ1 57 j = nI 0) → OK (f_X10_meetOwners_2 n σ1 (nI h)) (fun q => fr CM σ q ∧ MO σ H T (ftA (fitB σ H T S) T 0) q) := by
    intro k
    induction k with
    | zero =>
      intro n h σ1 hk hn hf h0
      obtain ⟨n, rfl⟩ : ∃ q, n = q + 1 := ⟨n - 1, by omega⟩
      rw [f_X10_meetOwners_2]
      simp only [pu_lit]
      rw [if_pos (nI_le (by omega) (by omega))]
      exact C_meet_out hW hP hr hc eS T KF 0 σ1 [] (by omega) (by unfold KF; have := hW.2.1; omega) hf (fun j hj => h0 j (by have := hW.1; omega))
    | succ k ih =>
      intro n h σ1 hk hn hf h0
      obtain ⟨n, rfl⟩ : ∃ q, n = q + 1 := ⟨n - 1, by omega⟩
      rw [f_X10_meetOwners_2]
      simp only [pu_lit]
      rw [if_neg (nI_ge (by omega) (by omega)), pu_gd (k := h) (n := 8) (by omega) (by decide), nI_clamp (by omega), ok_lt, nI_add]
      refine ih n (h + 1) _ (by omega) (by omega) (hf.ms (by decide)) (fun j hj => ?_)
      rw [ms_same]
      by_cases c : j = h
      · subst c; exact pk_us
      · rw [pk_un c]; exact h0 j (by omega)
  exact z 8 KF 0 σ (by omega) (by decide) fr.rfl (fun j hj => absurd hj (by omega))
/-- the reference: how many unlike among whoseBy's column -/
theorem R_unl_in {τ : Mem} {k4 : Mem → Int32 → Int32 → Option Int32} {b : Nat → Nat} {h i : Nat} {x : Int32} (hh : h < 8) (hi : i < 147) (hb : ∀ j, j ≤ i → (τ 43 (8 * j + h) = τ 43 (8 * i + h) ↔ b j = b i)) : ∀ (k m j : Nat), j + k = i → k + 1 < m → f_X11_unlike_18 k4 (nI h) x (nI i) m τ (nI 1) (nI j) = k4 τ (x + bI (nwL b i k j)) (nI (i + 1)) := by
  intro k
  induction k with
  | zero =>
    intro m j hk hm
    obtain ⟨m, rfl⟩ : ∃ q, m = q + 1 := ⟨m - 1, by omega⟩
    rw [f_X11_unlike_18, if_pos (nI_le (by omega) (by omega))]
    simp only [pu_lit]
    rw [if_neg (show ¬ nI 1 = nI 0 by decide), ltE, nI_add]
    rfl
  | succ k ih =>
    intro m j hk hm
    obtain ⟨m, rfl⟩ : ∃ q, m = q + 1 := ⟨m - 1, by omega⟩
    rw [f_X11_unlike_18, if_neg (nI_ge (by omega) (by omega))]
    simp only [pu_lit]
    rw [if_neg (show ¬ nI 1 = nI 0 by decide), pk_mul, pk_mul, nI_add, nI_add, pu_gd (k := 8 * j + h) (by omega) (by decide), nI_clamp (n := 8 * j + h) (by omega), pu_gd (k := 8 * i + h) (by omega) (by decide), nI_clamp (n := 8 * i + h) (by omega), nI_add]
    show _ = k4 τ (x + bI (!(decide (b j = b i)) && nwL b i k (j + 1))) _
    by_cases c : τ 43 (8 * j + h) = τ 43 (8 * i + h)
    · rw [if_pos c]
      have := (hb j (by omega)).mp c
      simp only [this, decide_true, Bool.not_true, Bool.false_and]
      obtain ⟨m, rfl⟩ : ∃ q, m = q + 1 := ⟨m - 1, by omega⟩
      rw [f_X11_unlike_18]
      simp only [pu_lit, if_true, ltE, nI_add, ite_self]
      rfl
    · rw [if_neg c, ih m (j + 1) (by omega) (by omega)]
      have : ¬ b j = b i := fun q => c ((hb j (by omega)).mpr q)
      simp [this]
theorem R_unl {τ : Mem} {b : Nat → Nat} {h N : Nat} (hh : h < 8) (hN : N ≤ 147) (e61 : τ 0 61 = nI N) (hb : ∀ i j, i < N → j < N → (τ 43 (8 * j + h) = τ 43 (8 * i + h) ↔ b j = b i)) : ∀ (k m i : Nat), i + k = N → k < m → f_X11_unlike_4 (nI h) m τ (dcN b i) (nI i) = some (dcN b N) := by
  intro k
  induction k with
  | zero =>
    intro m i hk hm
    obtain ⟨m, rfl⟩ : ∃ q, m = q + 1 := ⟨m - 1, by omega⟩
    have e : i = N := by omega
    subst e
    rw [f_X11_unlike_4, e61, if_pos nI_le_self]
  | succ k ih =>
    intro m i hk hm
    obtain ⟨m, rfl⟩ : ∃ q, m = q + 1 := ⟨m - 1, by omega⟩
    rw [f_X11_unlike_4, e61, if_neg (nI_ge (by omega) (by omega))]
    have := R_unl_in (k4 := f_X11_unlike_4 (nI h) m) (x := dcN b i) (b := b) hh (i := i) (by omega) (fun j hj => hb i j (by omega) (by omega)) i KF 0 (by omega) (by unfold KF; omega)
    exact this.trans (ih m (i + 1) (by omega) (by omega))
def WB (σ : Mem) (H T : Nat) (L : List Nat) (n : Nat) (τ : Mem) : Prop := ∀ i, i < n → ∀ h, h < H → τ 43 (8 * i + h) = ow σ H T (L.getD i 0) h
theorem R_copy8 {k35 : Mem → Int32 → Option (Int32 × Mem)} {x1 : Int32} {τ : Mem} {i : Nat} (hi : i < 147) : ∀ (k m h : Nat) (τ1 : Mem), h + k = 8 → k < m → fr [43] τ τ1 → (∀ j, j < h → τ1 43 (8 * i + j) = τ 23 j) → (∀ j, j < 8 * i → τ1 43 j = τ 43 j) → ∃ τ2, fr [43] τ τ2 ∧ (∀ j, j < 8 → τ2 43 (8 * i + j) = τ 23 j) ∧ (∀ j, j < 8 * i → τ2 43 j = τ 43 j) ∧ f_X11_look_72 k35 x1 (nI i) m τ1 (nI h) = (m_X11_unpack 34 64 τ2 (nI 0)).bind fun q2 => k35 q2 (nI (i + 1)) := by
  intro k
  induction k with
  | zero =>
    intro m h τ1 hk hm hf h1 h2
    obtain ⟨m, rfl⟩ : ∃ q, m = q + 1 := ⟨m - 1, by omega⟩
    refine ⟨τ1, hf, fun j hj => h1 j (by omega), h2, ?_⟩
    rw [f_X11_look_72]
    simp only [pu_lit]
    rw [if_pos (nI_le (by omega) (by omega)), nI_add]
  | succ k ih =>
    intro m h τ1 hk hm hf h1 h2
    obtain ⟨m, rfl⟩ : ∃ q, m = q + 1 := ⟨m - 1, by omega⟩
    rw [f_X11_look_72]
    simp only [pu_lit]
    rw [if_neg (nI_ge (by omega) (by omega)), pk_mul, nI_add, pu_gd (k := h) (n := 8) (by omega) (by decide), pu_gd (k := 8 * i + h) (by omega) (by decide), nI_clamp (n := 8 * i + h) (by omega), nI_clamp (n := h) (by omega), ltE, nI_add]
    refine ih m (h + 1) _ (by omega) (by omega) (hf.ms (by simp)) (fun j hj => ?_) (fun j hj => ?_)
    · rw [ms_same]
      by_cases c : j = h
      · subst c; rw [pk_us, hf 23 (by decide)]
      · rw [pk_un (by omega)]; exact h1 j (by omega)
    · rw [ms_same, pk_un (by omega)]; exact h2 j hj
/-- frame of look -/
def FL (τ τ1 : Mem) : Prop := fr [0, 20, 21, 22, 23, 24, 25, 26, 27, 29, 30, 31, 32, 33, 43] τ τ1 ∧ ∀ s, s ≠ 41 → s ≠ 42 → s ≠ 43 → τ1 0 s = τ 0 s
theorem R_look {τ : Mem} {L : List Nat} {x1 : Int32} {Q : Int32 × Mem → Prop} (hW : PW σ H T) (hr : RW (σ 43) H T) (hL : ∀ a, a ∈ L → a / 100 < T ∧ a % 100 ≤ 20) (hn : L.length ≤ 147) (kk : ∀ τ1, FL τ τ1 → RX H 64 (σ 43) τ1 → FI L τ1 → WB σ H T L L.length τ1 → OK (f_X11_look_123 x1 KF τ1 (-nI 1) (nI 0) (nI 0)) Q) : ∀ (k m i : Nat) (τ1 : Mem), i + k = L.length → k < m → FL τ τ1 → PR σ τ1 H T → RX H 64 (σ 43) τ1 → FI L τ1 → (∀ j, j < 64 → owc H j → τ1 34 (0 + po j) = σ 43 j) → WB σ H T L i τ1 → OK (f_X11_look_35 x1 m τ1 (nI i)) Q := by
  have h8 := hW.1
  have h7 := hW.2.1
  intro k
  induction k with
  | zero =>
    intro m i τ1 hk hm hf hP R hI h34 hB
    obtain ⟨m, rfl⟩ : ∃ q, m = q + 1 := ⟨m - 1, by omega⟩
    have e : i = L.length := by omega
    subst e
    rw [f_X11_look_35, hI.1, if_pos nI_le_self]
    simp only [pu_lit]
    exact kk τ1 hf R hI hB
  | succ k ih =>
    intro m i τ1 hk hm hf hP R hI h34 hB
    obtain ⟨m, rfl⟩ : ∃ q, m = q + 1 := ⟨m - 1, by omega⟩
    have hi : i < L.length := by omega
    obtain ⟨l1, l2⟩ := hL _ (gD_mem hi)
    rw [f_X11_look_35, hI.1, if_neg (nI_ge (by omega) (by omega))]
    simp only [pu_lit]
    have ha : L.getD i 0 < 100000 := by omega
    rw [pu_gd (k := i) (by omega) (by decide), pu_gnz (by decide) (by decide), pu_gd (k := i) (by omega) (by decide), pu_gnz (by decide) (by decide), nI_clamp (n := i) (by omega), hI.2 i hi, pk_rem (by omega) (by decide) (by decide), pk_div (by omega) (by decide) (by decide), pu_gd (k := L.getD i 0 / 100) (by omega) (by decide), nI_clamp (n := L.getD i 0 / 100) (by omega), ok_lt, ok_bind]
    have A : FA τ1 (ms τ1 25 (L.getD i 0 / 100) (nI (L.getD i 0 % 100))) := FA.m25
    refine ok_mono (R_quarter hW (hP.a A) (R.p25 (t := L.getD i 0 / 100) (by omega)) (hr.up hW.1 (by omega))) (fun q hq => ?_)
    have Aq := A.trans (FA.ofQ hq.2.1)
    have f1 : fr [0, 20, 21, 22, 23, 24, 25, 26, 27, 29, 30, 31, 32, 33] τ1 q := fr.trans (fr.rfl.ms (by simp)) hq.2.1.1
    obtain ⟨τ2, t1, t2, t3, t4⟩ := R_copy8 (k35 := f_X11_look_35 x1 m) (x1 := x1) (τ := q) (i := i) (by omega) 8 KF 0 q (by omega) (by decide) fr.rfl (fun j hj => absurd hj (by omega)) (fun j _ => rfl)
    rw [t4, ok_bind]
    refine ok_mono (R_unpack (k := 34) (b := 0) (r := σ 43) (by decide) (by decide) (by decide) (fun j hj ho => by rw [t1 34 (by decide), f1 34 (by decide)]; exact h34 j hj ho)) (fun w hw => ?_)
    have e0 : ∀ s, s ≠ 41 → s ≠ 42 → s ≠ 43 → w 0 s = τ1 0 s := fun s a b c => by rw [hw.2.2 s a b c, t1 0 (by decide), Aq.2 s a b c]
    have fw : fr [0, 20, 21, 22, 23, 24, 25, 26, 27, 29, 30, 31, 32, 33, 43] τ1 w := ((f1.mono (by decide)).trans (t1.mono (by decide))).trans (hw.2.1.mono (by decide))
    refine ih m (i + 1) w (by omega) (by omega) ⟨hf.1.trans fw, fun s a b c => (e0 s a b c).trans (hf.2 s a b c)⟩ (hP.fr fw (by decide)) hw.1 ?_ (fun j hj ho => ?_) (fun i2 h2 h hh => ?_)
    · unfold FI
      rw [e0 61 (by decide) (by decide) (by decide), fw 42 (by decide)]
      exact hI
    · rw [fw 34 (by decide)]; exact h34 j hj ho
    · rw [hw.2.1 43 (by decide)]
      by_cases c : i2 = i
      · subst c
        rw [t2 h (by omega), hq.1.g23 (by omega) (by omega) (by omega)]
        rfl
      · rw [t3 _ (by omega), f1 43 (by decide)]
        exact hB i2 (by omega) h hh
theorem look_loop {τ σ1 : Mem} {L : List Nat} {x1 : Int32} (hW : PW σ H T) (hr : RW (σ 43) H T) (hL : ∀ a, a ∈ L → a / 100 < T ∧ a % 100 ≤ 20) (hn : L.length ≤ 147) (e0 : σ1 23 0 = nI H) (hM : MO σ H T L σ1) (hP : τ 5 0 = nI H) (hI : FI L τ) (hB : WB σ H T L L.length τ) : ∀ (k n m h : Nat) (a b : Int32), h + k = H → k < n → k < m → ∃ v : Int32, f_X10_look_17 x1 n σ1 a b (nI h) = some (.inr (v, σ1)) ∧ f_X11_look_123 x1 m τ a b (nI h) = some (v, τ) := by
  have h8 := hW.1
  have h7 := hW.2.1
  intro k
  induction k with
  | zero =>
    intro n m h a b hk hn2 hm
    obtain ⟨n, rfl⟩ : ∃ q, n = q + 1 := ⟨n - 1, by omega⟩
    obtain ⟨m, rfl⟩ : ∃ q, m = q + 1 := ⟨m - 1, by omega⟩
    rw [f_X10_look_17, f_X11_look_123, e0]
    simp only [pu_lit]
    rw [if_pos (nI_le (by omega) (by omega)), pu_gd (by decide) (by decide), nI_clamp (by decide), hP, if_pos (nI_le (by omega) (by omega))]
    by_cases c : x1 = nI 0
    · rw [if_pos c, if_pos c]; exact ⟨a, rfl, rfl⟩
    · rw [if_neg c, if_neg c]; exact ⟨b, rfl, rfl⟩
  | succ k ih =>
    intro n m h a b hk hn2 hm
    obtain ⟨n, rfl⟩ : ∃ q, n = q + 1 := ⟨n - 1, by omega⟩
    obtain ⟨m, rfl⟩ : ∃ q, m = q + 1 := ⟨m - 1, by omega⟩
    have key : ∀ i, i < L.length → L.getD i 0 / 100 < 7 := fun i hi => by have := (hL _ (gD_mem hi)).1; omega
    obtain ⟨s, hs, s1, s2, _⟩ := Mn_ok (b := fun i => bo σ H T (L.getD i 0) h) (n := L.length) (fun i hi => (ow_ok hW hr (key i hi) (by omega)).2)
    have un : m_X11_unlike τ (nI h) = some (dcN (fun i => bo σ H T (L.getD i 0) h) L.length) := R_unl (b := fun i => bo σ H T (L.getD i 0) h) (h := h) (by omega) hn hI.1 (fun i j hi hj => by rw [hB j hj h (by omega), hB i hi h (by omega)]; exact ow_inj hW hr (key j hj) (key i hi) (by omega)) L.length KF 0 (by omega) (by unfold KF; omega)
    rw [f_X10_look_17, f_X11_look_123, e0]
    simp only [pu_lit]
    rw [if_neg (nI_ge (by omega) (by omega)), pu_gd (k := 0) (n := 10) (by decide) (by decide), nI_clamp (n := 0) (by decide), hP, if_neg (nI_ge (by omega) (by omega)), pu_gd (k := h) (n := 8) (by omega) (by decide), nI_clamp (n := h) (by omega), hM h (by omega), s1, C_bits hs, sbind, un, sbind, s2, nI_add]
    by_cases c : dcN (fun i => bo σ H T (L.getD i 0) h) L.length ≤ b
    · rw [if_pos c, if_neg (Int32.not_lt.mpr c)]; exact ih n m (h + 1) _ _ (by omega) (by omega) (by omega)
    · rw [if_neg c, if_pos (Int32.not_le.mp c)]; exact ih n m (h + 1) _ _ (by omega) (by omega) (by omega)
theorem S_look : SIM_look Rel := by
  intro σ τ p0 ⟨H, T, R⟩
  have h8 := R.1.1
  have h7 := R.1.2.1
  refine sim_N ?_
  have R1 : RelH H T σ (ms τ 0 5 (nI 0)) := R.code
  obtain ⟨S, eS, hc, hX⟩ := sc_of R1
  unfold m_X10_look m_X11_look
  simp only [pu_lit]
  rcases ix_dec1 p0 1 (by omega) with hb | ⟨w, hw, rfl⟩
  · exact po_throw ⟨H, T, R⟩ ⟨rfl, rfl⟩ (by rw [C_needWhat_f hb]; rfl) (by
      rw [ltE]
      by_cases c : p0 < nI 0
      · rw [if_pos c]; rfl
      · rw [if_neg c, if_neg (Int32.not_le.mpr (hb.resolve_left c))]; rfl)
  rw [ltE, C_needWhat_t hw (by decide), xb_inr, if_neg (nn0 (by omega)), if_pos (nI_le hw (by omega))]
  obtain ⟨q, eq, q1, q2⟩ := C_meet R.1 R1.2.1 R.2.2.2.1 hc eS
  obtain ⟨u, eu, u1, u2, u3, u4⟩ := R_fits R.1 R.2.2.2.1 hc R1.2.1 R1.2.2.1 hX
  obtain ⟨p, ep, p1, p2⟩ := R_packT u3
  have hlen : (ftA (fitB σ H T S) T 0).length ≤ 147 := by have := ftA_len (f := fitB σ H T S) T 0; omega
  have hmem : ∀ a, a ∈ ftA (fitB σ H T S) T 0 → a / 100 < T ∧ a % 100 ≤ 20 := fun a ha => by have := ftA_mem T 0 a ha; omega
  have Ap : FA u p := FA.of p1 (by decide)
  rw [eq, sbind, eu, sbind, ep, sbind]
  have := R_look (τ := p) (L := ftA (fitB σ H T S) T 0) (x1 := nI w) (Q := fun z => ∃ v : Int32, f_X10_look_17 (nI w) KF q (-nI 1) (nI 0) (nI 0) = some (.inr (v, q)) ∧ z.1 = v ∧ FL p z.2 ∧ RX H 64 (σ 43) z.2) R.1 R.2.2.2.1 hmem hlen (fun τ1 g1 g2 g3 g4 => by
    obtain ⟨v, v1, v2⟩ := look_loop (x1 := nI w) (σ1 := q) (τ := τ1) R.1 R.2.2.2.1 hmem hlen (by rw [q1 23 (by decide)]; exact R.1.2.2.1) q2 (by rw [g1.1 5 (by decide)]; exact (u2.a Ap).1) g3 g4 H KF KF 0 (-nI 1) (nI 0) (by omega) (by unfold KF; omega) (by unfold KF; omega)
    exact ⟨(v, τ1), v2, v, v1, rfl, g1, g2⟩) (ftA (fitB σ H T S) T 0).length KF 0 p (by omega) (by unfold KF; omega) ⟨fr.rfl, fun _ _ _ _ => rfl⟩ (u2.a Ap) (u3.keep p1 (by decide)) (u4.a Ap) p2 (fun i hi => absurd hi (by omega))
  obtain ⟨⟨z1, z2⟩, ez, v, v1, v2, v3, v4⟩ := this
  rw [v1, ez]
  have S3 : RQs p z2 := ⟨v3.1.mono (by decide), fun s hs => v3.2 s (fun q => by subst q; exact absurd hs (by decide)) (fun q => by subst q; exact absurd hs (by decide)) (fun q => by subst q; exact absurd hs (by decide))⟩
  obtain ⟨d5, dR⟩ := R.done (q1.mono (by decide)) v4 ((u1.s.trans (RQs.ofA Ap)).trans S3)
  have v2' : z1 = v := v2
  subst v2'
  exact po_val dR d5 rfl rfl
end LOOK

/-! feed: bytes -/
def byN (x : Int32) (s : Nat) : Nat := x.toBitVec.toNat / 2 ^ s % 2 ^ 8
theorem byN_lt {x : Int32} {s : Nat} : byN x s < 256 := Nat.mod_lt _ (by decide)
theorem i8_low (w : Int32) : w.toInt8 = (nI (w.toBitVec.toNat % 2 ^ 8)).toInt8 := by
  apply Int8.toBitVec_inj.mp
  rw [Int32.toBitVec_toInt8, Int32.toBitVec_toInt8]
  apply BitVec.eq_of_getLsbD_eq
  intro i hi
  rw [BitVec.getLsbD_signExtend, BitVec.getLsbD_signExtend, if_pos (by omega), if_pos (by omega)]
  have e : gb w i = gb (nI (w.toBitVec.toNat % 2 ^ 8)) i := by
    rw [gb_nI (by omega), Nat.testBit_mod_two_pow]
    unfold gb
    rw [← BitVec.testBit_toNat]
    simp [hi]
  have e' : w.toBitVec.getLsbD i = (nI (w.toBitVec.toNat % 2 ^ 8)).toBitVec.getLsbD i := e
  rw [e']
theorem gb_255 : ∀ i, i < 32 → gb (nI 255) i = decide (i < 8) := by decide +kernel
theorem byR (x : Int32) (s : Nat) (hs : s ≤ 24) : (x >>> (nI s &&& nI 31)) &&& nI 255 = nI (byN x s) := by
  apply gb_ext
  intro i hi
  rw [gb_and, gb_255 i hi, gb_nI hi]
  unfold byN
  rw [Nat.testBit_mod_two_pow, ← Nat.shiftRight_eq_div_pow, Nat.testBit_shiftRight, gb_sshr s (by omega) x hi]
  by_cases c : i < 8
  · rw [if_pos (by omega)]
    unfold gb
    rw [← BitVec.testBit_toNat]
    simp [c]
  · simp [c]
theorem byC (x : Int32) (s : Nat) (hs : s = 0 ∨ s = 8 ∨ s = 16 ∨ s = 24) : (Int32.toInt8 ((Int32.toInt8 ((Int32.toUInt32 x >>> (Int32.toUInt32 (nI s) &&& Int32.toUInt32 (nI 31))).toInt32)).toInt32)).toInt32 = by8 (byN x s) := by
  have t : (x.toUInt32 >>> (Int32.toUInt32 (nI s) &&& Int32.toUInt32 (nI 31))).toInt32.toBitVec.toNat = x.toBitVec.toNat / 2 ^ s := by
    rcases hs with rfl | rfl | rfl | rfl
    · exact pk_ushr x (nI 0) 0 (by decide +kernel)
    · exact pk_ushr x (nI 8) 8 (by decide +kernel)
    · exact pk_ushr x (nI 16) 16 (by decide +kernel)
    · exact pk_ushr x (nI 24) 24 (by decide +kernel)
  rw [Int8.toInt8_toInt32, i8_low, t]
  rfl
theorem C_add4 {σ : Mem} {x : Int32} {n : Nat} (e1 : σ 3 1 = nI n) (hn : n + 4 ≤ 700) : OK (m_X9_add σ x) (fun q => fr [3, 4] σ q ∧ q 3 1 = nI (n + 4) ∧ (∀ j, j < n → q 4 j = σ 4 j) ∧ ∀ i, i < 4 → q 4 (n + i) = by8 (byN x (24 - 8 * i))) := by
  have loop : ∀ (k m i : Nat) (σ1 : Mem) (z : Int32), i + k = 4 → k < m → z = (if i < 4 then nI (24 - 8 * i) else -nI 8) → fr [3, 4] σ σ1 → σ1 3 1 = nI (n + i) → (∀ j, j < n → σ1 4 j = σ 4 j) → (∀ j, j < i → σ1 4 (n + j) = by8 (byN x (24 - 8 * j))) → OK (f_X9_add_3 x m σ1 z) (fun q => fr [3, 4] σ q ∧ q 3 1 = nI (n + 4) ∧ (∀ j, j < n → q 4 j = σ 4 j) ∧ ∀ i, i < 4 → q 4 (n + i) = by8 (byN x (24 - 8 * i))) := by
    intro k
    induction k with
    | zero =>
      intro m i σ1 z hk hm hz hf h1 h2 h3
      obtain ⟨m, rfl⟩ : ∃ q, m = q + 1 := ⟨m - 1, by omega⟩
      have e : i = 4 := by omega
      subst e
      subst hz
      rw [f_X9_add_3, if_pos (by decide), ok_some]
      exact ⟨hf, h1, h2, h3⟩
    | succ k ih =>
      intro m i σ1 z hk hm hz hf h1 h2 h3
      obtain ⟨m, rfl⟩ : ∃ q, m = q + 1 := ⟨m - 1, by omega⟩
      rw [if_pos (show i < 4 by omega)] at hz
      subst hz
      rw [f_X9_add_3]
      simp only [pu_lit]
      rw [if_neg (nn0 (by omega)), h1, if_neg (nI_ge (by omega) (by omega)), pu_gd (by omega) (by decide), nI_clamp (by omega), byC x (24 - 8 * i) (by omega), ok_lt, ok_lt, ms_ne (by decide), h1, nI_add]
      refine ih m (i + 1) _ _ (by omega) (by omega) ?_ ((hf.ms (by simp)).ms (by simp)) (by rw [ms_at, Nat.add_assoc]) (fun j hj => ?_) (fun j hj => ?_)
      · rcases (show i = 0 ∨ i = 1 ∨ i = 2 ∨ i = 3 by omega) with rfl | rfl | rfl | rfl <;> decide
      · rw [ms_ne (by decide), ms_same, pk_un (by omega)]; exact h2 j hj
      · rw [ms_ne (by decide), ms_same]
        by_cases c : j = i
        · subst c; exact pk_us
        · rw [pk_un (by omega)]; exact h3 j (by omega)
  exact loop 4 KF 0 σ _ (by omega) (by decide) rfl fr.rfl e1 (fun j _ => rfl) (fun j hj => absurd hj (by omega))
def X5 (a b c d e : Int32) (k : Nat) : Int32 := if k = 0 then a else if k = 1 then b else if k = 2 then c else if k = 3 then d else e
theorem R_feed20 {τ : Mem} {a b c d e : Int32} {n : Nat} (hn : n + 20 ≤ 700) : ∀ (k m i : Nat) (τ1 : Mem), i + k = 20 → k < m → fr [0, 19] τ τ1 → (∀ s, s ≠ 21 → τ1 0 s = τ 0 s) → τ1 0 21 = nI (n + i) → (∀ j, j < n → τ1 19 j = τ 19 j) → (∀ j, j < i → τ1 19 (n + j) = nI (byN (X5 a b c d e (j / 4)) (24 - 8 * (j % 4)))) → OK (f_X11_feed_23 a b c d e m τ1 (nI i)) (fun q => q.1 = nI (n + 20) ∧ fr [0, 19] τ q.2 ∧ (∀ s, s ≠ 21 → q.2 0 s = τ 0 s) ∧ q.2 0 21 = nI (n + 20) ∧ (∀ j, j < n → q.2 19 j = τ 19 j) ∧ ∀ j, j < 20 → q.2 19 (n + j) = nI (byN (X5 a b c d e (j / 4)) (24 - 8 * (j % 4)))) := by
  intro k
  induction k with
  | zero =>
    intro m i τ1 hk hm hf h0 h1 h2 h3
    obtain ⟨m, rfl⟩ : ∃ q, m = q + 1 := ⟨m - 1, by omega⟩
    have ei : i = 20 := by omega
    subst ei
    rw [f_X11_feed_23]
    simp only [pu_lit]
    rw [if_pos nI_le_self, ok_some]
    exact ⟨h1, hf, h0, h1, h2, h3⟩
  | succ k ih =>
    intro m i τ1 hk hm hf h0 h1 h2 h3
    obtain ⟨m, rfl⟩ : ∃ q, m = q + 1 := ⟨m - 1, by omega⟩
    have st : f_X11_feed_23 a b c d e (m + 1) τ1 (nI i) = f_X11_feed_76 (f_X11_feed_23 a b c d e m) a b c d e τ1 (nI i) (X5 a b c d e (i / 4)) := by
      rw [f_X11_feed_23]
      simp only [pu_lit]
      rw [if_neg (nI_ge (by omega) (by omega))]
      unfold X5
      by_cases c4 : i < 4
      · rw [if_neg (nI_ge c4 (by omega)), if_pos (show i / 4 = 0 by omega)]
      · rw [if_pos (nI_le (a := 4) (b := i) (by omega) (by omega)), if_neg (show ¬ i / 4 = 0 by omega)]
        by_cases c8 : i < 8
        · rw [if_neg (nI_ge c8 (by omega)), if_pos (show i / 4 = 1 by omega)]
        · rw [if_pos (nI_le (a := 8) (b := i) (by omega) (by omega)), if_neg (show ¬ i / 4 = 1 by omega)]
          by_cases c12 : i < 12
          · rw [if_neg (nI_ge c12 (by omega)), if_pos (show i / 4 = 2 by omega)]
          · rw [if_pos (nI_le (a := 12) (b := i) (by omega) (by omega)), if_neg (show ¬ i / 4 = 2 by omega)]
            by_cases c16 : i < 16
            · rw [if_neg (nI_ge c16 (by omega)), if_pos (show i / 4 = 3 by omega)]
            · rw [if_pos (nI_le (a := 16) (b := i) (by omega) (by omega)), if_neg (show ¬ i / 4 = 3 by omega)]
    rw [st]
    unfold f_X11_feed_76
    simp only [pu_lit]
    have hr : i % 4 < 4 := Nat.mod_lt _ (by decide)
    rw [pu_gnz (by decide) (by decide), h1, pu_gd (by omega) (by decide), nI_clamp (by omega), pk_rem (by omega) (by decide) (by decide), pk_mul, pk_sub (by omega), byR _ _ (by omega), ok_lt, ok_lt, ms_ne (by decide), h1, nI_add, nI_add]
    refine ih m (i + 1) _ (by omega) (by omega) ((hf.ms (by simp)).ms (by simp)) (fun s hs => ?_) (by rw [ms_at, Nat.add_assoc]) (fun j hj => ?_) (fun j hj => ?_)
    · rw [ms_same, pk_un hs, ms_ne (by decide)]; exact h0 s hs
    · rw [ms_ne (by decide), ms_same, pk_un (by omega)]; exact h2 j hj
    · rw [ms_ne (by decide), ms_same]
      by_cases c : j = i
      · subst c; exact pk_us
      · rw [pk_un (by omega)]; exact h3 j (by omega)
theorem RelH.tape {H T : Nat} {σ τ σ1 τ1 : Mem} (h : RelH H T σ τ) (hc : fr [3, 4] σ σ1) (hr : fr [0, 19] τ τ1) (hs : ∀ s, s ≠ 21 → τ1 0 s = τ 0 s) (hT : TR σ1 τ1) : RelH H T σ1 τ1 := by
  obtain ⟨a1, a2, a3, a4, a5, a6, a7, a8, a9, a10⟩ := h
  have hPE : PE σ σ1 := fun k h1 h2 h3 h4 => hc k (by simp; omega)
  refine ⟨a1.of hPE, (a2.of hPE).fr hr (by decide), ?_, ?_, ?_, ?_, ?_, ?_, ?_, hT⟩
  · rw [hc 43 (by decide)]
    exact a3.keep0 (L := [19]) hr (by decide) ⟨hs 41 (by decide), hs 42 (by decide), hs 43 (by decide)⟩
  · rw [hc 43 (by decide)]; exact a4
  · exact a5.of (hc 44 (by decide)) (hc 45 (by decide)) (hs 44 (by decide)) (hr 28 (by decide))
  · exact a6.of (hc 46 (by decide)) (hc 47 (by decide)) (hs 45 (by decide)) (hr 37 (by decide)) (hr 38 (by decide)) (hr 39 (by decide)) (hr 41 (by decide))
  · rw [hc 48 (by decide), hr 18 (by decide)]; exact a7
  · exact a8.of (fun k h1 h2 => hc k (by simp; omega)) (by rw [hc 0 (by decide)]) (fun k h1 h2 => hr k (by simp; omega)) ⟨hs 64 (by decide), hs 65 (by decide), hs 66 (by decide)⟩
  · rw [hc 0 (by decide), hs 30 (by decide)]; exact a9
theorem S_feed : SIM_feed Rel := by
  intro σ τ p0 p1 p2 p3 p4 ⟨H, T, R⟩
  have R1 : RelH H T σ (ms τ 0 5 (nI 0)) := R.code
  obtain ⟨n, hn, e1, e2, e3⟩ := R1.2.2.2.2.2.2.2.2.2
  unfold m_X10_feed m_X11_feed
  simp only [pu_lit]
  rw [ltE, e1, e2, nI_add]
  by_cases c : n ≤ 680
  · rw [if_pos (nI_le c (by omega)), if_pos (nI_le (by omega) (by omega))]
    obtain ⟨q1, x1, f1, s1, o1, b1⟩ := C_add4 (x := p0) e1 (by omega)
    obtain ⟨q2, x2, f2, s2, o2, b2⟩ := C_add4 (x := p1) s1 (by omega)
    obtain ⟨q3, x3, f3, s3, o3, b3⟩ := C_add4 (x := p2) s2 (by omega)
    obtain ⟨q4, x4, f4, s4, o4, b4⟩ := C_add4 (x := p3) s3 (by omega)
    obtain ⟨q5, x5, f5, s5, o5, b5⟩ := C_add4 (x := p4) s4 (by omega)
    obtain ⟨⟨v, w⟩, ew, w1, w2, w3, w4, w5, w6⟩ := R_feed20 (τ := ms τ 0 5 (nI 0)) (a := p0) (b := p1) (c := p2) (d := p3) (e := p4) (n := n) (by omega) 20 KF 0 (ms τ 0 5 (nI 0)) (by omega) (by decide) fr.rfl (fun _ _ => rfl) e2 (fun _ _ => rfl) (fun j hj => absurd hj (by omega))
    dsimp only at w1 w2 w3 w4 w5 w6
    subst w1
    rw [x1, sbind, x2, sbind, x3, sbind, x4, sbind, x5, sbind, ew]
    have s5' : q5 3 1 = nI (n + 20) := s5
    refine ⟨nI (n + 20), q5, w, by rw [s5'], rfl, H, T, R1.tape ((((f1.trans f2).trans f3).trans f4).trans f5) w2 w3 ⟨n + 20, by omega, s5', w4, fun j hj => ?_⟩⟩
    rcases Nat.lt_or_ge j n with q | q
    · obtain ⟨b, hb, g1, g2⟩ := e3 j q
      refine ⟨b, hb, by rw [w5 j q]; exact g1, ?_⟩
      rw [o5 j (by omega), o4 j (by omega), o3 j (by omega), o2 j (by omega), o1 j (by omega)]
      exact g2
    · obtain ⟨i, rfl⟩ : ∃ i, j = n + i := ⟨j - n, by omega⟩
      have hi : i < 20 := by omega
      refine ⟨_, byN_lt, w6 i hi, ?_⟩
      have hr : i % 4 < 4 := Nat.mod_lt _ (by decide)
      rcases (show i / 4 = 0 ∨ i / 4 = 1 ∨ i / 4 = 2 ∨ i / 4 = 3 ∨ i / 4 = 4 by omega) with q | q | q | q | q
      · have := b1 (i % 4) hr
        rw [o5 _ (by omega), o4 _ (by omega), o3 _ (by omega), o2 _ (by omega), show n + i = n + i % 4 by omega, this, q]; rfl
      · have := b2 (i % 4) hr
        rw [o5 _ (by omega), o4 _ (by omega), o3 _ (by omega), show n + i = n + 4 + i % 4 by omega, this, q]; rfl
      · have := b3 (i % 4) hr
        rw [o5 _ (by omega), o4 _ (by omega), show n + i = n + 4 + 4 + i % 4 by omega, this, q]; rfl
      · have := b4 (i % 4) hr
        rw [o5 _ (by omega), show n + i = n + 4 + 4 + 4 + i % 4 by omega, this, q]; rfl
      · have := b5 (i % 4) hr
        rw [show n + i = n + 4 + 4 + 4 + 4 + i % 4 by omega, this, q]; rfl
  · rw [if_neg (nI_ge (by omega) (by omega)), if_neg (nI_ge (by omega) (by omega))]
    exact ⟨_, _, _, rfl, rfl, H, T, R1⟩

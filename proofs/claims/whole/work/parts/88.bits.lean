/-! bits (the first family of kit/laws/BITS.to-paste, its bt named gb here), and how many a set has -/
def gb (x : Int32) (i : Nat) : Bool := x.toBitVec.getLsbD i
theorem gb_ext {x y : Int32} (h : ∀ i, i < 32 → gb x i = gb y i) : x = y := Int32.toBitVec_inj.mp (BitVec.eq_of_getLsbD_eq (fun i hi => h i hi))
theorem gb_or (x y : Int32) (i : Nat) : gb (x ||| y) i = (gb x i || gb y i) := by unfold gb; rw [Int32.toBitVec_or, BitVec.getLsbD_or]
theorem gb_and (x y : Int32) (i : Nat) : gb (x &&& y) i = (gb x i && gb y i) := by unfold gb; rw [Int32.toBitVec_and, BitVec.getLsbD_and]
theorem gb_xor (x y : Int32) (i : Nat) : gb (x ^^^ y) i = (gb x i ^^ gb y i) := by unfold gb; rw [Int32.toBitVec_xor, BitVec.getLsbD_xor]
theorem gb_m1 : ∀ i, i < 32 → gb (-nI 1) i = true := by decide +kernel
theorem gb_1 : ∀ i, i < 32 → gb (nI 1) i = decide (i = 0) := by decide +kernel
theorem gb_0 (i : Nat) : gb (nI 0) i = false := BitVec.getLsbD_zero
theorem sl_n : ∀ n, n < 32 → ((nI n &&& nI 31).toBitVec.smod 32).toNat = n := by decide +kernel
theorem gb_shl (n : Nat) (hn : n < 32) (x : Int32) {i : Nat} (hi : i < 32) : gb (x <<< (nI n &&& nI 31)) i = (decide (n ≤ i) && gb x (i - n)) := by
  unfold gb
  rw [Int32.toBitVec_shiftLeft]
  show (x.toBitVec <<< ((nI n &&& nI 31).toBitVec.smod 32).toNat).getLsbD i = _
  rw [sl_n n hn, BitVec.getLsbD_shiftLeft]
  rcases Nat.lt_or_ge i n with h | h
  · simp [h, Nat.not_le.mpr h]
  · simp [hi, h, Nat.not_lt.mpr h]
theorem gb_sshr (n : Nat) (hn : n < 32) (x : Int32) {i : Nat} (hi : i < 32) : gb (x >>> (nI n &&& nI 31)) i = if n + i < 32 then gb x (n + i) else gb x 31 := by
  unfold gb
  rw [Int32.toBitVec_shiftRight]
  show (x.toBitVec.sshiftRight ((nI n &&& nI 31).toBitVec.smod 32).toNat).getLsbD i = _
  rw [sl_n n hn, BitVec.getLsbD_sshiftRight, BitVec.msb_eq_getLsbD_last]
  simp [hi]
theorem bt_gb {x : Int32} {h : Nat} (hh : h < 32) : bt x h = if gb x h then nI 1 else nI 0 := by
  apply gb_ext
  intro i hi
  unfold bt
  rw [gb_and, gb_sshr h hh x hi, gb_1 i hi]
  by_cases c : i = 0
  · subst c
    rw [if_pos (by omega)]
    by_cases g : gb x h
    · simp [g, gb_1]
    · simp [g, gb_0]
  · by_cases g : gb x h
    · simp [g, gb_1, c, hi]
    · simp [g, gb_0, c]
theorem bt_01 {x : Int32} {h : Nat} (hh : h < 32) : bt x h = nI 0 ∨ bt x h = nI 1 := by
  rw [bt_gb hh]
  by_cases g : gb x h
  · simp [g]
  · simp [g]
theorem bt_n1 {x : Int32} {h : Nat} (hh : h < 32) : ¬ bt x h = nI 1 ↔ bt x h = nI 0 := by
  rcases bt_01 (x := x) hh with e | e <;> rw [e] <;> decide
theorem bt_n0 {x : Int32} {h : Nat} (hh : h < 32) : ¬ bt x h = nI 0 ↔ bt x h = nI 1 := by
  rcases bt_01 (x := x) hh with e | e <;> rw [e] <;> decide
theorem b1_gb {h i : Nat} (hh : h < 32) (hi : i < 32) : gb (b1 h) i = decide (i = h) := by
  unfold b1
  rw [gb_shl h hh _ hi, gb_1 (i - h) (by omega)]
  by_cases c : i = h
  · subst c; simp
  · by_cases d : h ≤ i
    · have : ¬ i - h = 0 := by omega
      simp [c, d, this]
    · simp [c, d]
theorem bt_or_same {x : Int32} {h : Nat} (hh : h < 32) : bt (x ||| b1 h) h = nI 1 := by
  rw [bt_gb hh, gb_or, b1_gb hh hh]
  simp
theorem bt_or_ne {x : Int32} {h i : Nat} (hh : h < 32) (hi : i < 32) (n : i ≠ h) : bt (x ||| b1 h) i = bt x i := by
  rw [bt_gb hi, bt_gb hi, gb_or, b1_gb hh hi]
  simp [n]
theorem bt_clr_ne {x : Int32} {h i : Nat} (hh : h < 32) (hi : i < 32) (n : i ≠ h) : bt (x &&& (b1 h ^^^ -nI 1)) i = bt x i := by
  rw [bt_gb hi, bt_gb hi, gb_and, gb_xor, b1_gb hh hi, gb_m1 i hi]
  simp [n]
theorem or_0 (x : Int32) : x ||| nI 0 = x := by
  apply gb_ext
  intro i hi
  rw [gb_or, gb_0, Bool.or_false]
/-! sets of eight -/
def sB (b : Bool) (h : Nat) (a : Int32) : Int32 := if b then a ||| b1 h else a
def cB (b : Bool) (a : Int32) : Int32 := if b then a + nI 1 else a
def st8 (c0 c1 c2 c3 c4 c5 c6 c7 : Bool) : Int32 := sB c7 7 (sB c6 6 (sB c5 5 (sB c4 4 (sB c3 3 (sB c2 2 (sB c1 1 (sB c0 0 (nI 0))))))))
def cn8 (c0 c1 c2 c3 c4 c5 c6 c7 : Bool) : Int32 := cB c7 (cB c6 (cB c5 (cB c4 (cB c3 (cB c2 (cB c1 (cB c0 (nI 0))))))))
def bs8 (h : Nat) (c0 c1 c2 c3 c4 c5 c6 c7 : Bool) : Int32 :=
  if 7 ≤ h then cB (if h = 0 then false else [c0, c1, c2, c3, c4, c5, c6, c7].getD (h - 1) false) (nI 0)
  else cB ([c0, c1, c2, c3, c4, c5, c6, c7].getD (h + 1) false) (cB (if h = 0 then false else [c0, c1, c2, c3, c4, c5, c6, c7].getD (h - 1) false) (nI 0))
def z0 : Mem := fun _ _ => nI 0
def pop (s : Int32) : Int32 := (f_X11_bitsOf_4 40 z0 (nI 0) s).getD (nI 0)
theorem bits_z (τ : Mem) : ∀ (n : Nat) (a x : Int32), f_X11_bitsOf_4 n τ a x = f_X11_bitsOf_4 n z0 a x
  | 0, _, _ => rfl
  | n + 1, a, x => by
    rw [f_X11_bitsOf_4, f_X11_bitsOf_4]
    by_cases c : x = 0
    · rw [if_pos c, if_pos c]
    · rw [if_neg c, if_neg c]; exact bits_z τ n _ _
theorem bits_up : ∀ (n m : Nat) (a x v : Int32), f_X11_bitsOf_4 n z0 a x = some v → n ≤ m → f_X11_bitsOf_4 m z0 a x = some v
  | 0, _, _, _, _, h, _ => by cases h
  | n + 1, m, a, x, v, h, hm => by
    obtain ⟨m, rfl⟩ : ∃ q, m = q + 1 := ⟨m - 1, by omega⟩
    rw [f_X11_bitsOf_4] at h ⊢
    by_cases c : x = 0
    · rw [if_pos c] at h ⊢; exact h
    · rw [if_neg c] at h ⊢; exact bits_up n m _ _ _ h (by omega)
theorem pop_all : ∀ s, s < 256 → f_X11_bitsOf_4 9 z0 (nI 0) (nI s) = some (pop (nI s)) ∧ m_J6_bitCount_0f7a4 z0 (nI s) = some (pop (nI s)) := by decide +kernel
theorem R_bits {τ : Mem} {s : Nat} (hs : s < 256) : m_X11_bitsOf τ (nI s) = some (pop (nI s)) := by
  unfold m_X11_bitsOf
  rw [bits_z]
  exact bits_up 9 KF _ _ _ (pop_all s hs).1 (by decide)
theorem C_bits {σ : Mem} {s : Nat} (hs : s < 256) : m_J6_bitCount_0f7a4 σ (nI s) = some (pop (nI s)) := (pop_all s hs).2
theorem st8_lt : ∀ c0 c1 c2 c3 c4 c5 c6 c7 : Bool, ((st8 c0 c1 c2 c3 c4 c5 c6 c7).toNatClampNeg < 256 ∧ st8 c0 c1 c2 c3 c4 c5 c6 c7 = nI (st8 c0 c1 c2 c3 c4 c5 c6 c7).toNatClampNeg) ∧ pop (st8 c0 c1 c2 c3 c4 c5 c6 c7) = cn8 c0 c1 c2 c3 c4 c5 c6 c7 := by decide +kernel
theorem bs8_ok : ∀ h, h < 8 → ∀ c0 c1 c2 c3 c4 c5 c6 c7 : Bool, f_X11_bitsOf_4 9 z0 (nI 0) (st8 c0 c1 c2 c3 c4 c5 c6 c7 &&& ((b1 h <<< (nI 1 &&& nI 31)) ||| (b1 h >>> (nI 1 &&& nI 31)))) = some (bs8 h c0 c1 c2 c3 c4 c5 c6 c7) := by decide +kernel
theorem or_bit : ∀ s, s < 256 → ∀ h, h < 8 → (nI s ||| b1 h).toNatClampNeg < 256 ∧ nI s ||| b1 h = nI (nI s ||| b1 h).toNatClampNeg := by decide +kernel
theorem hs8 {r : Rw} {o : Int32} : hsL r o 8 0 (nI 0) = st8 (decide (r 24 = o)) (decide (r 25 = o)) (decide (r 26 = o)) (decide (r 27 = o)) (decide (r 28 = o)) (decide (r 29 = o)) (decide (r 30 = o)) (decide (r 31 = o)) := by
  simp [hsL, st8, sB]
theorem mb8 {r : Rw} {t : Nat} : mbN r t 8 = cn8 (decide (r 24 = nI t)) (decide (r 25 = nI t)) (decide (r 26 = nI t)) (decide (r 27 = nI t)) (decide (r 28 = nI t)) (decide (r 29 = nI t)) (decide (r 30 = nI t)) (decide (r 31 = nI t)) := by
  simp [mbN, cn8, cB]
theorem bsS8 {r : Rw} {t h : Nat} (hh : h < 8) : bsS (fun h => r (24 + h)) h t = bs8 h (decide (r 24 = nI t)) (decide (r 25 = nI t)) (decide (r 26 = nI t)) (decide (r 27 = nI t)) (decide (r 28 = nI t)) (decide (r 29 = nI t)) (decide (r 30 = nI t)) (decide (r 31 = nI t)) := by
  rcases (show h = 0 ∨ h = 1 ∨ h = 2 ∨ h = 3 ∨ h = 4 ∨ h = 5 ∨ h = 6 ∨ h = 7 by omega) with rfl | rfl | rfl | rfl | rfl | rfl | rfl | rfl <;> simp [bsS, bs8, cB, nI_add]
theorem hsL_none {r : Rw} {o : Int32} : ∀ (k h : Nat) (a : Int32), (∀ j, h ≤ j → j < h + k → ¬ r (24 + j) = o) → hsL r o k h a = a
  | 0, _, _, _ => rfl
  | k + 1, h, a, hn => by
    show hsL r o k (h + 1) _ = a
    rw [if_neg (hn h (by omega) (by omega))]
    exact hsL_none k (h + 1) a (fun j h1 h2 => hn j (by omega) (by omega))
theorem hsL_add {r : Rw} {o : Int32} : ∀ (k m h : Nat) (a : Int32), hsL r o (k + m) h a = hsL r o m (h + k) (hsL r o k h a)
  | 0, m, h, a => by rw [Nat.zero_add]; rfl
  | k + 1, m, h, a => by
    rw [show k + 1 + m = (k + m) + 1 by omega]
    show hsL r o (k + m) (h + 1) _ = hsL r o m (h + (k + 1)) (hsL r o k (h + 1) _)
    rw [hsL_add k m (h + 1)]
    rw [show h + 1 + k = h + (k + 1) by omega]
theorem hsL_8 {r : Rw} {o : Int32} {H : Nat} (hH : H ≤ 8) (hn : ∀ j, H ≤ j → j < 8 → ¬ r (24 + j) = o) : hsL r o H 0 (nI 0) = hsL r o 8 0 (nI 0) := by
  obtain ⟨m, e⟩ : ∃ m, 8 = H + m := ⟨8 - H, by omega⟩
  rw [e, hsL_add, hsL_none m (0 + H) _ (fun j h1 h2 => hn j (by omega) (by omega))]
def hsR (H : Nat) (r : Rw) : Rw := fun j => if j < 24 + H then r j else -nI 2
theorem hsL_set {r : Rw} {o : Int32} {H : Nat} (hH : H ≤ 8) : ∃ s, s < 256 ∧ hsL r o H 0 (nI 0) = nI s := by
  have key : ∀ c0 c1 c2 c3 c4 c5 c6 c7 : Bool, ∃ s, s < 256 ∧ st8 c0 c1 c2 c3 c4 c5 c6 c7 = nI s := fun c0 c1 c2 c3 c4 c5 c6 c7 => ⟨_, (st8_lt c0 c1 c2 c3 c4 c5 c6 c7).1⟩
  rcases (show H = 0 ∨ H = 1 ∨ H = 2 ∨ H = 3 ∨ H = 4 ∨ H = 5 ∨ H = 6 ∨ H = 7 ∨ H = 8 by omega) with rfl | rfl | rfl | rfl | rfl | rfl | rfl | rfl | rfl
  · exact ⟨0, by decide, rfl⟩
  · have := key (decide (r 24 = o)) false false false false false false false
    simpa [hsL, st8, sB] using this
  · have := key (decide (r 24 = o)) (decide (r 25 = o)) false false false false false false
    simpa [hsL, st8, sB] using this
  · have := key (decide (r 24 = o)) (decide (r 25 = o)) (decide (r 26 = o)) false false false false false
    simpa [hsL, st8, sB] using this
  · have := key (decide (r 24 = o)) (decide (r 25 = o)) (decide (r 26 = o)) (decide (r 27 = o)) false false false false
    simpa [hsL, st8, sB] using this
  · have := key (decide (r 24 = o)) (decide (r 25 = o)) (decide (r 26 = o)) (decide (r 27 = o)) (decide (r 28 = o)) false false false
    simpa [hsL, st8, sB] using this
  · have := key (decide (r 24 = o)) (decide (r 25 = o)) (decide (r 26 = o)) (decide (r 27 = o)) (decide (r 28 = o)) (decide (r 29 = o)) false false
    simpa [hsL, st8, sB] using this
  · have := key (decide (r 24 = o)) (decide (r 25 = o)) (decide (r 26 = o)) (decide (r 27 = o)) (decide (r 28 = o)) (decide (r 29 = o)) (decide (r 30 = o)) false
    simpa [hsL, st8, sB] using this
  · rw [hs8]; exact key _ _ _ _ _ _ _ _
theorem R_many {τ : Mem} {r : Rw} {H t : Nat} (hH : H ≤ 8) (hn : ∀ j, H ≤ j → j < 8 → ¬ r (24 + j) = nI t) : m_X11_bitsOf τ (hsL r (nI t) H 0 (nI 0)) = some (mbN r t 8) := by
  rw [hsL_8 hH hn, hs8, mb8]
  have h := st8_lt (decide (r 24 = nI t)) (decide (r 25 = nI t)) (decide (r 26 = nI t)) (decide (r 27 = nI t)) (decide (r 28 = nI t)) (decide (r 29 = nI t)) (decide (r 30 = nI t)) (decide (r 31 = nI t))
  rw [← h.2, h.1.2]
  exact R_bits h.1.1
theorem R_beside {τ : Mem} {r : Rw} {H t h : Nat} (hh : h < 8) (hH : H ≤ 8) (hn : ∀ j, H ≤ j → j < 8 → ¬ r (24 + j) = nI t) : m_X11_bitsOf τ (hsL r (nI t) H 0 (nI 0) &&& ((b1 h <<< (nI 1 &&& nI 31)) ||| (b1 h >>> (nI 1 &&& nI 31)))) = some (bsS (fun h => r (24 + h)) h t) := by
  rw [hsL_8 hH hn, hs8, bsS8 hh]
  unfold m_X11_bitsOf
  rw [bits_z]
  exact bits_up 9 KF _ _ _ (bs8_ok h hh _ _ _ _ _ _ _ _) (by decide)

/-! years by a seed -/
def drS (s : Int32) : Int32 := s * nI 1103515245 + nI 12345
def dvB (s : Int32) : Nat := s.toBitVec.toNat / 2 ^ 16 % 2 ^ 15
def dv (s : Int32) (n : Nat) : Nat := dvB s % n
theorem gb_32767 : ∀ i, i < 32 → gb (nI 32767) i = decide (i < 15) := by decide +kernel
theorem drC (s : Int32) : ((s.toUInt32 >>> (Int32.toUInt32 (nI 16) &&& Int32.toUInt32 (nI 31))).toInt32) &&& nI 32767 = nI (dvB s) := by
  rw [pk_and _ (m := nI 32767) 15 (by decide +kernel)]
  congr 1
  unfold dvB
  have t : (s.toUInt32 >>> (Int32.toUInt32 (nI 16) &&& Int32.toUInt32 (nI 31))).toInt32.toBitVec.toNat = s.toBitVec.toNat / 2 ^ 16 := pk_ushr s (nI 16) 16 (by decide +kernel)
  rw [t]
theorem drR (s : Int32) : (s >>> (nI 16 &&& nI 31)) &&& nI 32767 = nI (dvB s) := by
  rw [← drC s]
  apply gb_ext
  intro i hi
  rw [gb_and, gb_and, gb_32767 i hi]
  by_cases c : i < 15
  · have e1 : gb (s >>> (nI 16 &&& nI 31)) i = gb s (16 + i) := by
      rw [gb_sshr 16 (by decide) s hi, if_pos (by omega)]
    have e2 : gb ((s.toUInt32 >>> (Int32.toUInt32 (nI 16) &&& Int32.toUInt32 (nI 31))).toInt32) i = gb s (16 + i) := by
      unfold gb
      rw [← BitVec.testBit_toNat, ← BitVec.testBit_toNat]
      have := pk_ushr s (nI 16) 16 (by decide +kernel)
      have t : (s.toUInt32 >>> (Int32.toUInt32 (nI 16) &&& Int32.toUInt32 (nI 31))).toInt32.toBitVec.toNat = s.toBitVec.toNat / 2 ^ 16 := this
      rw [t, ← Nat.shiftRight_eq_div_pow, Nat.testBit_shiftRight]
    rw [e1, e2]
  · simp [c]
theorem dv_lt {s : Int32} {n : Nat} (h : 0 < n) : dv s n < n := Nat.mod_lt _ h
theorem C_draw {σ : Mem} {n : Nat} (h0 : 0 < n) (hn : n < 1000) : m_X8_draw σ (nI n) = some (nI (dv (drS (σ 22 4)) n), ms σ 22 4 (drS (σ 22 4))) := by
  have hb : dvB (drS (σ 22 4)) < 2 ^ 15 := Nat.mod_lt _ (by decide)
  unfold m_X8_draw
  simp only [pu_lit]
  rw [ltE, if_pos (nI_lt h0 (by omega)), pu_gnz h0 (by omega), ms_at]
  have e : (((σ 22 4 * nI 1103515245 + nI 12345).toUInt32 >>> ((nI 16).toUInt32 &&& (nI 31).toUInt32)).toInt32) &&& nI 32767 = nI (dvB (drS (σ 22 4))) := drC _
  rw [e, pk_rem (by omega) h0 (by omega)]
  rfl
theorem R_draw {τ : Mem} {n : Nat} (h0 : 0 < n) (hn : n < 1000) : m_X11_drawOf τ (nI n) = some (nI (dv (drS (τ 0 63)) n), ms τ 0 63 (drS (τ 0 63))) := by
  have hb : dvB (drS (τ 0 63)) < 2 ^ 15 := Nat.mod_lt _ (by decide)
  unfold m_X11_drawOf
  simp only [pu_lit]
  rw [ltE, pu_gnz h0 (by omega), ms_at]
  have e : ((τ 0 63 * nI 1103515245 + nI 12345) >>> (nI 16 &&& nI 31)) &&& nI 32767 = nI (dvB (drS (τ 0 63))) := drR _
  rw [e, pk_rem (by omega) h0 (by omega)]
  rfl
def dsR (H T : Nat) (r : Rw) (s : Int32) : Rw := upd (if bt (r 62) (dv (drS s) H) = nI 0 then upd r 61 (r 61 ||| b1 (dv (drS s) H)) else r) (40 + dv (drS (drS s)) T) (nI (dv (drS (drS (drS s))) 21))
section YEARS
variable {P : Mem} {H T : Nat}
theorem C_disturb {σ : Mem} (hW : PW P H T) (hP : PE P σ) (h0 : 0 < H) (t0 : 0 < T) : OK (m_X8_disturb 56 σ) (fun q => q 56 = dsR H T (σ 56) (σ 22 4) ∧ q 22 4 = drS (drS (drS (σ 22 4))) ∧ fr [22, 56] σ q) := by
  have h8 := hW.1
  have h7 := hW.2.1
  have e0 : σ 23 0 = nI H := by rw [hP 23 (by decide) (by decide) (by decide) (by decide)]; exact hW.2.2.1
  have e1 : σ 23 1 = nI T := by rw [hP 23 (by decide) (by decide) (by decide) (by decide)]; exact hW.2.2.2.1
  have d1 := dv_lt (s := drS (σ 22 4)) h0
  have d2 := dv_lt (s := drS (drS (σ 22 4))) t0
  unfold m_X8_disturb dsR
  simp only [pu_lit]
  rw [e0, C_draw h0 (by omega), ok_bind, ok_some]
  dsimp only
  rw [pu_gd (k := 62) (by decide) (by decide), nI_clamp (n := 62) (by decide), pu_gd (k := 61) (by decide) (by decide), pu_gd (k := 61) (by decide) (by decide), nI_clamp (n := 61) (by decide)]
  show OK (if bt (σ 56 62) (dv (drS (σ 22 4)) H) = nI 0 then _ else _) _
  by_cases c : bt (σ 56 62) (dv (drS (σ 22 4)) H) = nI 0
  · rw [if_pos c, if_pos c, ok_lt, ms_ne (show 56 ≠ 22 by decide), ms_ne (show 23 ≠ 56 by decide), ms_ne (show 23 ≠ 22 by decide), e1, C_draw t0 (by omega), ok_bind, ok_some]
    dsimp only
    rw [C_draw (by decide) (by decide), ok_bind, ok_some]
    dsimp only
    simp only [nI_add]
    rw [ms_at, ms_ne (show 22 ≠ 56 by decide), ms_at, pu_gd (by omega) (by decide), nI_clamp (by omega), ok_lt, ok_some]
    refine ⟨?_, ?_, ?_⟩
    · rw [ms_same, ms_ne (by decide), ms_ne (by decide), ms_same, ms_ne (by decide)]
      rfl
    · rw [ms_ne (by decide), ms_at]
    · exact ((((fr.rfl.ms (by simp)).ms (by simp)).ms (by simp)).ms (by simp)).ms (by simp)
  · rw [if_neg c, if_neg c, ms_ne (show 23 ≠ 22 by decide), e1, C_draw t0 (by omega), ok_bind, ok_some]
    dsimp only
    rw [C_draw (by decide) (by decide), ok_bind, ok_some]
    dsimp only
    simp only [nI_add]
    rw [ms_at, ms_at, pu_gd (by omega) (by decide), nI_clamp (by omega), ok_lt, ok_some]
    refine ⟨?_, ?_, ?_⟩
    · rw [ms_same, ms_ne (by decide), ms_ne (by decide), ms_ne (by decide)]
    · rw [ms_ne (by decide), ms_at]
    · exact (((fr.rfl.ms (by simp)).ms (by simp)).ms (by simp)).ms (by simp)
def FY (τ τ1 : Mem) : Prop := fr [0, 20, 21, 22, 23, 24, 25, 26, 27, 29, 30, 31, 32, 33] τ τ1 ∧ ∀ s, s ≠ 41 → s ≠ 42 → s ≠ 43 → s ≠ 63 → τ1 0 s = τ 0 s
theorem FY.rfl {τ : Mem} : FY τ τ := ⟨fr.rfl, fun _ _ _ _ _ => Eq.refl _⟩
theorem FY.trans {τ τ1 τ2 : Mem} (h : FY τ τ1) (h2 : FY τ1 τ2) : FY τ τ2 := ⟨h.1.trans h2.1, fun s a b c d => (h2.2 s a b c d).trans (h.2 s a b c d)⟩
theorem FY.ofQ {τ τ1 : Mem} (h : FQ τ τ1) : FY τ τ1 := ⟨h.1, fun s a b c _ => h.2 s a b c⟩
theorem FY.s {τ τ1 : Mem} (h : FY τ τ1) : RQs τ τ1 := ⟨h.1.mono (by decide), fun s hs => h.2 s (fun q => by subst q; exact absurd hs (by decide)) (fun q => by subst q; exact absurd hs (by decide)) (fun q => by subst q; exact absurd hs (by decide)) (fun q => by subst q; exact absurd hs (by decide))⟩
theorem R_something {τ : Mem} {r : Rw} (hW : PW P H T) (hP : PR P τ H T) (R : RX H 64 r τ) (h0 : 0 < H) (t0 : 0 < T) : OK (m_X11_something τ) (fun q => RX H 64 (dsR H T r (τ 0 63)) q ∧ q 0 63 = drS (drS (drS (τ 0 63))) ∧ FY τ q) := by
  have h8 := hW.1
  have h7 := hW.2.1
  have d1 := dv_lt (s := drS (τ 0 63)) h0
  have d2 := dv_lt (s := drS (drS (τ 0 63))) t0
  unfold m_X11_something dsR
  simp only [pu_lit]
  rw [pu_gd (k := 0) (by decide) (by decide), nI_clamp (n := 0) (by decide), hP.1, if_neg (nz' h0 (by omega)), pu_gd (k := 1) (by decide) (by decide), nI_clamp (n := 1) (by decide), hP.2.1, if_neg (nz' t0 (by omega)), pu_gd (k := 0) (by decide) (by decide), R_draw h0 (by omega), ok_bind, ok_some]
  dsimp only
  have R1 : RX H 64 r (ms τ 0 63 (drS (τ 0 63))) := R.slot (by decide)
  rw [R1.gS (by omega), R_isOf, ok_bind, ok_some, R1.gL, ms_ne (show 5 ≠ 0 by decide), hP.2.1]
  have e5 : ∀ a b, ms (ms τ 0 63 a) 0 43 b 5 1 = nI T := fun a b => by rw [ms_ne (by decide), ms_ne (by decide)]; exact hP.2.1
  by_cases c : bt (r 62) (dv (drS (τ 0 63)) H) = nI 0
  · rw [if_pos c, if_neg (show ¬ bt (r 62) (dv (drS (τ 0 63)) H) = nI 1 by rw [c]; decide), if_pos (Eq.refl _), ok_lt, e5, pu_gd (k := 1) (by decide) (by decide), R_draw t0 (by omega), ok_bind, ok_some]
    dsimp only
    rw [R_draw (by decide) (by decide), ok_bind, ok_some]
    dsimp only
    have s1 : ∀ a b, ms (ms τ 0 63 a) 0 43 b 0 63 = a := fun a b => by rw [ms_same, pk_un (by decide), ms_same, pk_us]
    rw [s1, ms_at, pu_gd (k := dv (drS (drS (τ 0 63))) T) (n := 7) (by omega) (by decide), nI_clamp (by omega), ok_lt, ok_some]
    refine ⟨?_, ?_, ?_, ?_⟩
    · exact (((R1.pLed).slot (by decide)).slot (by decide)).p25 (by omega)
    · rw [ms_ne (by decide), ms_at]
    · exact ((((fr.rfl.ms (by simp)).ms (by simp)).ms (by simp)).ms (by simp)).ms (by simp)
    · intro s a b c d
      rw [ms_ne (by decide), ms_same, pk_un d, ms_same, pk_un d, ms_same, pk_un c, ms_same, pk_un d]
  · have c1 := (bt_n0 (by omega)).mp c
    rw [if_neg c, if_pos c1, if_neg (show ¬ nI 1 = nI 0 by decide), pu_gd (k := 1) (by decide) (by decide), R_draw t0 (by omega), ok_bind, ok_some]
    dsimp only
    rw [R_draw (by decide) (by decide), ok_bind, ok_some]
    dsimp only
    rw [ms_at, ms_at, pu_gd (k := dv (drS (drS (τ 0 63))) T) (n := 7) (by omega) (by decide), nI_clamp (by omega), ok_lt, ok_some]
    refine ⟨?_, ?_, ?_, ?_⟩
    · exact ((R1.slot (by decide)).slot (by decide)).p25 (by omega)
    · rw [ms_ne (by decide), ms_at]
    · exact (((fr.rfl.ms (by simp)).ms (by simp)).ms (by simp)).ms (by simp)
    · intro s a b c d
      rw [ms_ne (by decide), ms_same, pk_un d, ms_same, pk_un d, ms_same, pk_un d]
theorem dsR_W {r : Rw} {s : Int32} (hW : PW P H T) (t0 : 0 < T) (hr : RW r H T) : RW (dsR H T r s) H T := by
  have h7 := hW.2.1
  have d2 := dv_lt (s := drS (drS s)) t0
  unfold dsR
  by_cases c : bt (r 62) (dv (drS s) H) = nI 0
  · rw [if_pos c]; exact (hr.up hW.1 (by omega)).up hW.1 (by omega)
  · rw [if_neg c]; exact hr.up hW.1 (by omega)
theorem moves_loop {σ τ : Mem} {r b : Rw} {k11 k61 : Mem → Int32 → Int32 → Option (Int32 × Mem)} {x2 x3 x5 : Int32} (h8 : H ≤ 8) (e0 : σ 23 0 = nI H) (e56 : σ 56 = r) (e36 : ∀ j, j < 8 → σ 36 j = b j) (f0 : τ 5 0 = nI H) (f23 : ∀ j, j < H → τ 23 j = r (24 + j)) (f31 : ∀ j, j < H → τ 31 j = b j) : ∀ (k n m h : Nat) (a : Int32), h + k = H → k < n → k < m → ∃ y, f_X8_passYears_50 56 k11 x2 x5 n σ a (nI h) = k11 σ y (x5 + 1) ∧ f_X11_years_78 k61 x2 x3 x5 m τ a (nI h) = k61 τ y (x5 + 1) := by
  intro k
  induction k with
  | zero =>
    intro n m h a hk hn hm
    obtain ⟨n, rfl⟩ : ∃ q, n = q + 1 := ⟨n - 1, by omega⟩
    obtain ⟨m, rfl⟩ : ∃ q, m = q + 1 := ⟨m - 1, by omega⟩
    refine ⟨a, ?_, ?_⟩
    · rw [f_X8_passYears_50, e0, if_pos (nI_le (by omega) (by omega))]
    · rw [f_X11_years_78]
      have e : (0 : Int32) = nI 0 := rfl
      rw [e, pu_gd (by decide) (by decide), nI_clamp (by decide), f0, if_pos (nI_le (by omega) (by omega))]
  | succ k ih =>
    intro n m h a hk hn hm
    obtain ⟨n, rfl⟩ : ∃ q, n = q + 1 := ⟨n - 1, by omega⟩
    obtain ⟨m, rfl⟩ : ∃ q, m = q + 1 := ⟨m - 1, by omega⟩
    rw [f_X8_passYears_50, e0, if_neg (nI_ge (by omega) (by omega)), f_X11_years_78]
    have e : ∀ z : Int32, z + nI 0 = z := add_0
    simp only [pu_lit]
    rw [pu_gd (k := 0) (by decide) (by decide), nI_clamp (n := 0) (by decide), f0, if_neg (nI_ge (by omega) (by omega)), nI_add, nI_add, pu_gd (k := 24 + h) (by omega) (by decide), nI_clamp (n := 24 + h) (by omega), pu_gd (k := h) (n := 8) (by omega) (by decide), pu_gd (k := h) (n := 8) (by omega) (by decide), pu_gd (k := h) (n := 8) (by omega) (by decide), nI_clamp (n := h) (by omega), e56, e36 h (by omega), f23 h (by omega), f31 h (by omega), ltE, ltE, ltE, ltE]
    by_cases c : r (24 + h) = b h
    · rw [if_pos c, if_pos c]; exact ih n m (h + 1) _ (by omega) (by omega) (by omega)
    · rw [if_neg c, if_neg c]; exact ih n m (h + 1) _ (by omega) (by omega) (by omega)
def CY : List Nat := [22, 30, 33, 35, 36, 37, 56]
theorem pe_cy {σ σ1 : Mem} (hf : fr CY σ σ1) : PE σ σ1 := fun k h1 h2 h3 h4 => hf k (by unfold CY; simp; omega)
theorem years_loop {σ : Mem} {r0 : Rw} {w N : Nat} (hW : PW σ H T) (hN : N ≤ 40) (hw : w ≤ 2) : ∀ (k n m i : Nat) (σ1 τ1 : Mem) (r : Rw) (a : Int32), i + k = N → k < n → k < m → fr CY σ σ1 → σ1 56 = r → PR σ τ1 H T → RX H 64 r τ1 → RW r H T → σ1 22 4 = τ1 0 63 → (∀ j, j < 64 → owc H j → τ1 34 (0 + po j) = r0 j) →
    ∃ (v : Int32) (σ2 τ2 : Mem) (r2 : Rw), f_X8_passYears_11 56 (nI N) n σ1 a (nI i) = some (v, σ2) ∧ fr CY σ σ2 ∧ σ2 56 = r2 ∧ RW r2 H T ∧ f_X11_years_61 (nI N) (nI w) m τ1 a (nI i) = some (if w = 0 then v else if w = 1 then pop (r2 62) else coL r2 T 0 (nI 0), τ2) ∧ RX H 64 r0 τ2 ∧ RQs τ1 τ2 := by
  have h8 := hW.1
  have h7 := hW.2.1
  intro k
  induction k with
  | zero =>
    intro n m i σ1 τ1 r a hk hn hm hf e56 hP R hr es h34
    obtain ⟨n, rfl⟩ : ∃ q, n = q + 1 := ⟨n - 1, by omega⟩
    obtain ⟨m, rfl⟩ : ∃ q, m = q + 1 := ⟨m - 1, by omega⟩
    obtain ⟨u, eu, u1, u2⟩ := R_unpackT h34
    obtain ⟨s, hs, e62⟩ := hr.2.2.1
    refine ⟨a, σ1, u, r, ?_, hf, e56, hr, ?_, u1, u2⟩
    · rw [f_X8_passYears_11, if_pos (nI_le (by omega) (by omega))]
    · rw [f_X11_years_61, if_pos (nI_le (by omega) (by omega))]
      simp only [pu_lit]
      rw [R.gS (by omega), e62, R_bits hs, sbind, R_coins hP.2.1 h7 (fun t ht => R.g27 (by omega) ht), sbind, eu, sbind, sbind, sbind]
      by_cases c : w = 0
      · subst c; rw [if_pos rfl, if_pos rfl]
      · rw [if_neg (show ¬ nI w = nI 0 by rw [nI_eq (by omega) (by omega)]; exact c), if_neg c]
        by_cases d : w = 1
        · subst d; rw [if_pos rfl, if_pos rfl]
        · rw [if_neg (show ¬ nI w = nI 1 by rw [nI_eq (by omega) (by omega)]; exact d), if_neg d]
  | succ k ih =>
    intro n m i σ1 τ1 r a hk hn hm hf e56 hP R hr es h34
    obtain ⟨n, rfl⟩ : ∃ q, n = q + 1 := ⟨n - 1, by omega⟩
    obtain ⟨m, rfl⟩ : ∃ q, m = q + 1 := ⟨m - 1, by omega⟩
    have e0 : σ1 23 0 = nI H := by rw [hf 23 (by decide)]; exact hW.2.2.1
    have e1 : σ1 23 1 = nI T := by rw [hf 23 (by decide)]; exact hW.2.2.2.1
    rw [f_X8_passYears_11, if_neg (nI_ge (by omega) (by omega)), f_X11_years_61, if_neg (nI_ge (by omega) (by omega))]
    simp only [pu_lit]
    have go : ∀ (σ2 τ2 : Mem) (r2 : Rw), fr CY σ σ2 → σ2 56 = r2 → RX H 64 r2 τ2 → RW r2 H T → FY τ1 τ2 → σ2 22 4 = τ2 0 63 →
        ∃ (v : Int32) (σ3 τ3 : Mem) (r3 : Rw), ((m_X8_passQuarter 56 σ2).bind fun q3 => f_X8_passYears_50 56 (f_X8_passYears_11 56 (nI N) n) (nI N) (nI i) KF q3 a (nI 0)) = some (v, σ3) ∧ fr CY σ σ3 ∧ σ3 56 = r3 ∧ RW r3 H T ∧ ((m_X11_aQuarter τ2).bind fun q10 => f_X11_years_78 (f_X11_years_61 (nI N) (nI w) m) (nI N) (nI w) (nI i) KF q10 a (nI 0)) = some (if w = 0 then v else if w = 1 then pop (r3 62) else coL r3 T 0 (nI 0), τ3) ∧ RX H 64 r0 τ3 ∧ RQs τ1 τ3 := by
      intro σ2 τ2 r2 hf2 e2 R2 hr2 F2 s2
      obtain ⟨q, eq, q1, q2, q3⟩ := C_quarter (r1 := 56) (Or.inr rfl) hW (pe_cy hf2)
      obtain ⟨u, eu, u1, u2, u3⟩ := R_quarter hW (hP.s F2.s) R2 hr2
      rw [e2] at q1 q3
      have fq : fr CY σ q := hf2.trans (q2.mono (by decide))
      have F3 : FY τ1 u := F2.trans (FY.ofQ u2)
      have hP3 := hP.s F3.s
      obtain ⟨y, y1, y2⟩ := moves_loop (H := H) (k11 := f_X8_passYears_11 56 (nI N) n) (k61 := f_X11_years_61 (nI N) (nI w) m) (x2 := nI N) (x3 := nI w) (x5 := nI i) h8 (by rw [fq 23 (by decide)]; exact hW.2.2.1) q1 q3 hP3.1 (fun j hj => u1.g23 (by omega) (by omega) (by omega)) u3 H KF KF 0 a (by omega) (by unfold KF; omega) (by unfold KF; omega)
      rw [eq, sbind, eu, sbind, y1, y2, nI_1]
      obtain ⟨v, σ3, τ3, r3, z1, z2, z3, z4, z5, z6, z7⟩ := ih n m (i + 1) q u (qS σ H T r2) y (by omega) (by omega) (by omega) fq q1 hP3 u1 (qS_W hW hr2) (by rw [q2 22 (by decide), s2, u2.2 63 (by decide) (by decide) (by decide)]) (fun j hj ho => by rw [F3.1 34 (by decide)]; exact h34 j hj ho)
      exact ⟨v, σ3, τ3, r3, z1, z2, z3, z4, z5, z6, F3.s.trans z7⟩
    rcases Nat.eq_zero_or_pos H with hz | hz
    · have er : m_X11_something τ1 = some τ1 := by
        unfold m_X11_something
        simp only [pu_lit]
        rw [pu_gd (k := 0) (by decide) (by decide), nI_clamp (n := 0) (by decide), hP.1, if_pos (by rw [hz])]
      rw [e0, if_pos (by rw [hz]; exact nI_le_self), er, sbind]
      exact go σ1 τ1 r hf e56 R hr FY.rfl es
    · rw [e0, if_neg (nle' hz (by omega)), e1]
      rcases Nat.eq_zero_or_pos T with tz | tz
      · have er : m_X11_something τ1 = some τ1 := by
          unfold m_X11_something
          simp only [pu_lit]
          rw [pu_gd (k := 0) (by decide) (by decide), nI_clamp (n := 0) (by decide), hP.1, if_neg (nz' hz (by omega)), pu_gd (k := 1) (by decide) (by decide), nI_clamp (n := 1) (by decide), hP.2.1, if_pos (by rw [tz])]
        rw [if_pos (by rw [tz]; exact nI_le_self), er, sbind]
        exact go σ1 τ1 r hf e56 R hr FY.rfl es
      · rw [if_neg (nle' tz (by omega))]
        obtain ⟨q, eq, q1, q2, q3⟩ := C_disturb hW (pe_cy hf) hz tz
        obtain ⟨u, eu, u1, u2, u3⟩ := R_something hW hP R hz tz
        rw [eq, sbind, eu, sbind]
        rw [e56, es] at q1
        rw [es] at q2
        exact go q u _ (hf.trans (q3.mono (by decide))) q1 u1 (dsR_W hW tz hr) u3 (q2.trans u2.symm)
theorem S_years : SIM_years Rel := by
  intro σ τ p0 p1 p2 ⟨H, T, R⟩
  have h8 := R.1.1
  have h7 := R.1.2.1
  refine sim_NI ?_
  have R1 : RelH H T σ (ms τ 0 5 (nI 0)) := R.code
  unfold m_X10_years m_X11_years
  simp only [pu_lit]
  rcases ix_dec1 p2 2 (by omega) with hb | ⟨w, hw, rfl⟩
  · exact po_throw ⟨H, T, R⟩ (Or.inl ⟨rfl, rfl⟩) (by rw [C_needWhat_f hb]; rfl) (by
      rw [ltE, R_isIn_f (a := 0) (b := 2) (A := 0) (B := 2) (by decide) (by decide) hb]; rfl)
  rw [ltE, C_needWhat_t hw (by decide), xb_inr, R_isIn_t (a := 0) (b := 2) (A := 0) (B := 2) (by decide) (by decide) ⟨by omega, hw⟩ (by decide), sbind, if_neg (show ¬ nI 1 = nI 0 by decide)]
  rcases ix_dec1 p1 40 (by omega) with hb | ⟨N, hN, rfl⟩
  · exact po_throw ⟨H, T, R⟩ (Or.inr ⟨rfl, rfl⟩) (by rw [C_needAhead_f hb]; rfl) (by
      rw [R_isIn_f (a := 0) (b := 40) (A := 0) (B := 40) (by decide) (by decide) hb]; rfl)
  rw [C_needAhead_t hN, xb_inr, R_isIn_t (a := 0) (b := 40) (A := 0) (B := 40) (by decide) (by decide) ⟨by omega, hN⟩ (by decide), sbind, if_neg (show ¬ nI 1 = nI 0 by decide)]
  obtain ⟨u, eu, u1, u2⟩ := C_copy (σ := σ)
  obtain ⟨q, eq, q1, q2⟩ := R_packT R1.2.2.1
  have Sq : RQs (ms τ 0 5 (nI 0)) q := RQs.of q1 (by decide)
  have S7 : RQs q (ms q 0 63 p0) := ⟨fr.rfl.ms (by decide), fun s hs => by rw [ms_same, pk_un (fun z => by subst z; exact absurd hs (by decide))]⟩
  have f1 : fr CY σ (ms u 22 4 p0) := (u1.mono (by decide)).ms (by decide)
  obtain ⟨v, σ2, τ2, r2, z1, z2, z3, z4, z5, z6, z7⟩ := years_loop (r0 := σ 43) (w := w) R.1 hN hw N KF KF 0 (ms u 22 4 p0) (ms q 0 63 p0) (u 56) (nI 0) (by omega) (by unfold KF; omega) (by unfold KF; omega) f1 (ms_ne (by decide)) ((R1.2.1.s Sq).s S7) (((R1.2.2.1.keep q1 (by decide)).slot (by decide)).e64 u2) (R.2.2.2.1.e64 h8 u2) (ms_at.trans ms_at.symm) (fun j hj ho => by rw [ms_ne (by decide)]; exact q2 j hj ho)
  have ec : m_X8_passYears 56 u p0 (nI N) = some (v, σ2) := by
    unfold m_X8_passYears
    simp only [pu_lit]
    rw [ltE]
    exact z1
  obtain ⟨d5, dR⟩ := R.done (z2.mono (by decide)) z6 ((Sq.trans S7).trans z7)
  obtain ⟨s, hs, e62⟩ := z4.2.2.1
  rw [eu, sbind, ec, sbind, eq, sbind, ltE, z5]
  dsimp only
  by_cases c : w = 0
  · subst c
    rw [if_pos rfl, if_pos rfl]
    exact po_val dR d5 rfl rfl
  · rw [if_neg (show ¬ nI w = nI 0 by rw [nI_eq (by omega) (by omega)]; exact c), if_neg c]
    by_cases d : w = 1
    · subst d
      rw [if_pos rfl, if_pos rfl, pu_gd (by decide) (by decide), nI_clamp (by decide), z3, e62, C_bits hs, sbind]
      exact po_val dR d5 rfl rfl
    · rw [if_neg (show ¬ nI w = nI 1 by rw [nI_eq (by omega) (by omega)]; exact d), if_neg d, C_coins (pe_cy z2) R.1, sbind, z3]
      exact po_val dR d5 rfl rfl
end YEARS

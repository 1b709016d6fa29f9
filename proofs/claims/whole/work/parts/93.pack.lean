/-! the reference: rows packed and unpacked; whether a number lies between two -/
def po (j : Nat) : Nat := if j < 61 then 3 + j else 63 - j
theorem po_inj {a b : Nat} (ha : a < 64) (hb : b < 64) (h : po a = po b) : a = b := by
  unfold po at h
  split at h <;> split at h <;> omega
theorem po_lt {a : Nat} (ha : a < 64) : po a < 64 := by
  unfold po
  split <;> omega
theorem po_eq {j : Nat} (h : j < 61) : po j = 3 + j := by unfold po; rw [if_pos h]
def RP (D : Nat → Prop) (r : Rw) (m : Rw) (b : Nat) : Prop := ∀ j, j < 64 → D j → m (b + po j) = r j
theorem RP.up {D D2 : Nat → Prop} {r m : Rw} {b j0 i : Nat} {v : Int32} (h : RP D r m b) (hj : j0 < 64) (hv : v = r j0) (hi : i = b + po j0) (hD : ∀ j, j < 64 → D2 j → D j ∨ j = j0) : RP D2 r (upd m i v) b := by
  intro j hj2 hd
  subst hi
  by_cases c : j = j0
  · subst c; rw [pk_us]; exact hv
  · rw [pk_un (fun q => c (po_inj hj2 hj (by omega)))]
    exact h j hj2 ((hD j hj2 hd).resolve_right c)
def RD (D : Nat → Prop) (r : Rw) (τ : Mem) : Prop := ∀ j, j < 64 → D j → τ (pc j) (pi j) = r j
theorem RD.up {D D2 : Nat → Prop} {r : Rw} {τ : Mem} {j0 k i : Nat} {v : Int32} (h : RD D r τ) (hj : j0 < 64) (hv : v = r j0) (hk : pc j0 = k ∧ pi j0 = i) (hD : ∀ j, j < 64 → D2 j → D j ∨ j = j0) : RD D2 r (ms τ k i v) := by
  intro j hj2 hd
  obtain ⟨rfl, rfl⟩ := hk
  by_cases c : j = j0
  · subst c; rw [ms_same, pk_us]; exact hv
  · have h2 := h j hj2 ((hD j hj2 hd).resolve_right c)
    by_cases d : pc j = pc j0
    · rw [d, ms_same, pk_un (fun q => c (pc_inj j hj2 j0 hj d q)), ← d]
      exact h2
    · rw [ms_ne d]; exact h2
section PACK
variable {τ : Mem} {r : Rw}
theorem R_pack_loop2 {k n1 b : Nat} (hk : k ∉ [0, 20, 21, 22, 23, 24, 25, 26, 27]) (hb : b + 64 ≤ n1) (hn : n1 ≤ 2560) (R : RX 1 64 r τ) : ∀ (m n t : Nat) (τ1 : Mem), t + m = 7 → m < n → fr [k] τ τ1 → RP (fun j => j < 40 ∨ 61 ≤ j ∨ (40 ≤ j ∧ j < 61 ∧ (j - 40) % 7 < t)) r (τ1 k) b → (∀ i, i < b ∨ b + 64 ≤ i → τ1 k i = τ k i) → OK (f_X11_pack_128 k n1 (nI (b + 43)) n τ1 (nI t)) (fun q => fr [k] τ q ∧ RP (fun _ => True) r (q k) b ∧ ∀ i, i < b ∨ b + 64 ≤ i → q k i = τ k i) := by
  simp only [List.mem_cons, not_or] at hk
  intro m
  induction m with
  | zero =>
    intro n t τ1 hm hn2 hf hr ho
    obtain ⟨n, rfl⟩ : ∃ q, n = q + 1 := ⟨n - 1, by omega⟩
    rw [f_X11_pack_128]
    simp only [pu_lit]
    rw [if_pos (nI_le (by omega) (by omega)), ok_some]
    exact ⟨hf, fun j hj _ => hr j hj (by omega), ho⟩
  | succ m ih =>
    intro n t τ1 hm hn2 hf hr ho
    obtain ⟨n, rfl⟩ : ∃ q, n = q + 1 := ⟨n - 1, by omega⟩
    have a25 : τ1 25 t = r (40 + t) := by rw [hf 25 (by simp; omega)]; exact R.g25 (by omega) (by omega)
    have a26 : τ1 26 t = r (47 + t) := by rw [hf 26 (by simp; omega)]; exact R.g26 (by omega) (by omega)
    have a27 : τ1 27 t = r (54 + t) := by rw [hf 27 (by simp; omega)]; exact R.g27 (by omega) (by omega)
    rw [f_X11_pack_128]
    simp only [pu_lit]
    rw [if_neg (nI_ge (by omega) (by omega))]
    simp (disch := omega) only [pu_lit, nI_add, pu_gd, nI_clamp, nI_leI, nI_ltI, nI_eq, ok_some, ok_bind, ok_ite, ok_lt, pu_gz1, pu_gz0, pu_gnz, ms_ne, a25, a26, a27]
    refine ih n (t + 1) _ (by omega) (by omega) (((hf.ms (by simp)).ms (by simp)).ms (by simp)) ?_ (fun i hi => ?_)
    · simp only [ms_same]
      refine RP.up (D := fun j => j < 40 ∨ 61 ≤ j ∨ (40 ≤ j ∧ j < 61 ∧ (j - 40) % 7 < t) ∨ j = 40 + t ∨ j = 47 + t) (j0 := 54 + t) ?_ (by omega) rfl (by rw [po_eq (by omega)]; omega) (by omega)
      refine RP.up (D := fun j => j < 40 ∨ 61 ≤ j ∨ (40 ≤ j ∧ j < 61 ∧ (j - 40) % 7 < t) ∨ j = 40 + t) (j0 := 47 + t) ?_ (by omega) rfl (by rw [po_eq (by omega)]; omega) (by omega)
      exact hr.up (j0 := 40 + t) (by omega) rfl (by rw [po_eq (by omega)]; omega) (by omega)
    · simp only [ms_same]
      rw [pk_un (by omega), pk_un (by omega), pk_un (by omega)]
      exact ho i hi
theorem R_pack_loop1 {k n1 b : Nat} (hk : k ∉ [0, 20, 21, 22, 23, 24, 25, 26, 27]) (hb : b + 64 ≤ n1) (hn : n1 ≤ 2560) (R : RX 1 64 r τ) : ∀ (m n h : Nat) (τ1 : Mem), h + m = 8 → m < n → fr [k] τ τ1 → RP (fun j => 61 ≤ j ∨ (j < 40 ∧ j % 8 < h)) r (τ1 k) b → (∀ i, i < b ∨ b + 64 ≤ i → τ1 k i = τ k i) → OK (f_X11_pack_32 k n1 (nI (b + 3)) n τ1 (nI h)) (fun q => fr [k] τ q ∧ RP (fun _ => True) r (q k) b ∧ ∀ i, i < b ∨ b + 64 ≤ i → q k i = τ k i) := by
  have hk' := hk
  simp only [List.mem_cons, not_or] at hk
  intro m
  induction m with
  | zero =>
    intro n h τ1 hm hn2 hf hr ho
    obtain ⟨n, rfl⟩ : ∃ q, n = q + 1 := ⟨n - 1, by omega⟩
    rw [f_X11_pack_32]
    simp only [pu_lit]
    rw [if_pos (nI_le (by omega) (by omega)), nI_add]
    exact R_pack_loop2 hk' hb hn R 7 KF 0 τ1 (by omega) (by decide) hf (fun j hj hd => hr j hj (by omega)) ho
  | succ m ih =>
    intro n h τ1 hm hn2 hf hr ho
    obtain ⟨n, rfl⟩ : ∃ q, n = q + 1 := ⟨n - 1, by omega⟩
    have a20 : τ1 20 h = r h := by rw [hf 20 (by simp; omega)]; exact R.g20 (by omega) (by omega)
    have a21 : τ1 21 h = r (8 + h) := by rw [hf 21 (by simp; omega)]; exact R.g21 (by omega) (by omega)
    have a22 : τ1 22 h = r (16 + h) := by rw [hf 22 (by simp; omega)]; exact R.g22 (by omega) (by omega)
    have a23 : τ1 23 h = r (24 + h) := by rw [hf 23 (by simp; omega)]; exact R.g23 (by omega) (by omega) (by omega)
    have a24 : τ1 24 h = r (32 + h) := by rw [hf 24 (by simp; omega)]; exact R.g24 (by omega) (by omega)
    rw [f_X11_pack_32]
    simp only [pu_lit]
    rw [if_neg (nI_ge (by omega) (by omega))]
    simp (disch := omega) only [pu_lit, nI_add, pu_gd, nI_clamp, nI_leI, nI_ltI, nI_eq, ok_some, ok_bind, ok_ite, ok_lt, pu_gz1, pu_gz0, pu_gnz, ms_ne, a20, a21, a22, a23, a24]
    refine ih n (h + 1) _ (by omega) (by omega) (((((hf.ms (by simp)).ms (by simp)).ms (by simp)).ms (by simp)).ms (by simp)) ?_ (fun i hi => ?_)
    · simp only [ms_same]
      refine RP.up (D := fun j => 61 ≤ j ∨ (j < 40 ∧ j % 8 < h) ∨ j = h ∨ j = 8 + h ∨ j = 16 + h ∨ j = 24 + h) (j0 := 32 + h) ?_ (by omega) rfl (by rw [po_eq (by omega)]; omega) (by omega)
      refine RP.up (D := fun j => 61 ≤ j ∨ (j < 40 ∧ j % 8 < h) ∨ j = h ∨ j = 8 + h ∨ j = 16 + h) (j0 := 24 + h) ?_ (by omega) rfl (by rw [po_eq (by omega)]; omega) (by omega)
      refine RP.up (D := fun j => 61 ≤ j ∨ (j < 40 ∧ j % 8 < h) ∨ j = h ∨ j = 8 + h) (j0 := 16 + h) ?_ (by omega) rfl (by rw [po_eq (by omega)]; omega) (by omega)
      refine RP.up (D := fun j => 61 ≤ j ∨ (j < 40 ∧ j % 8 < h) ∨ j = h) (j0 := 8 + h) ?_ (by omega) rfl (by rw [po_eq (by omega)]; omega) (by omega)
      exact hr.up (j0 := h) (by omega) rfl (by rw [po_eq (by omega)]; omega) (by omega)
    · simp only [ms_same]
      rw [pk_un (by omega), pk_un (by omega), pk_un (by omega), pk_un (by omega), pk_un (by omega)]
      exact ho i hi
theorem R_pack1 {k n1 b : Nat} (hk : k ∉ [0, 20, 21, 22, 23, 24, 25, 26, 27]) (hb : b + 64 ≤ n1) (hn : n1 ≤ 2560) (R : RX 1 64 r τ) : OK (m_X11_pack k n1 τ (nI b)) (fun q => fr [k] τ q ∧ (∀ j, j < 64 → q k (b + po j) = r j) ∧ ∀ i, i < b ∨ b + 64 ≤ i → q k i = τ k i) := by
  have hk0 : k ≠ 0 := fun q => hk (by subst q; simp)
  unfold m_X11_pack
  simp only [pu_lit]
  have a1 := R.gQ (by omega)
  have a2 := R.gS (by omega)
  have a3 := R.gL
  simp (disch := omega) only [pu_lit, nI_add, pu_gd, nI_clamp, nI_leI, nI_ltI, nI_eq, ok_some, ok_bind, ok_ite, ok_lt, pu_gz1, pu_gz0, pu_gnz, ms_ne, a1, a2, a3]
  refine ok_mono (R_pack_loop1 hk hb hn R 8 KF 0 _ (by omega) (by decide) (((fr.rfl.ms (by simp)).ms (by simp)).ms (by simp)) ?_ (fun i hi => ?_)) (fun q hq => ⟨hq.1, fun j hj => hq.2.1 j hj trivial, hq.2.2⟩)
  · simp only [ms_same]
    refine RP.up (D := fun j => j = 63 ∨ j = 62) (j0 := 61) ?_ (by omega) rfl rfl (by omega)
    refine RP.up (D := fun j => j = 63) (j0 := 62) ?_ (by omega) rfl rfl (by omega)
    exact RP.up (D := fun _ => False) (j0 := 63) (fun j _ h => h.elim) (by omega) rfl rfl (by omega)
  · simp only [ms_same]
    rw [pk_un (by omega), pk_un (by omega), pk_un (by omega)]
/-- the reference's row cells and three slots of its object alone -/
def FU (τ τ1 : Mem) : Prop := fr [0, 20, 21, 22, 23, 24, 25, 26, 27] τ τ1 ∧ ∀ s, s ≠ 41 → s ≠ 42 → s ≠ 43 → τ1 0 s = τ 0 s
theorem FU.put {τ τ1 : Mem} {k j : Nat} {x : Int32} (h : FU τ τ1) (hk : k ∈ [20, 21, 22, 23, 24, 25, 26, 27]) : FU τ (ms τ1 k j x) := by
  refine ⟨h.1.ms (List.mem_cons_of_mem _ hk), fun s a b c => ?_⟩
  have : (0 : Nat) ≠ k := fun q => by subst q; exact absurd hk (by decide)
  rw [ms_ne this]
  exact h.2 s a b c
theorem FU.put0 {τ τ1 : Mem} {j : Nat} {x : Int32} (h : FU τ τ1) (hj : j = 41 ∨ j = 42 ∨ j = 43) : FU τ (ms τ1 0 j x) := by
  refine ⟨h.1.ms (by simp), fun s a b c => ?_⟩
  rw [ms_same, pk_un (by omega)]
  exact h.2 s a b c
theorem R_unpack_loop2 {k n1 b : Nat} (hk : k ∉ [0, 20, 21, 22, 23, 24, 25, 26, 27]) (hb : b + 64 ≤ n1) (hn : n1 ≤ 2560) (hr : ∀ j, j < 64 → τ k (b + po j) = r j) : ∀ (m n t : Nat) (τ1 : Mem), t + m = 7 → m < n → FU τ τ1 → RD (fun j => j < 40 ∨ 61 ≤ j ∨ (40 ≤ j ∧ j < 61 ∧ (j - 40) % 7 < t)) r τ1 → OK (f_X11_unpack_128 k n1 (nI (b + 43)) n τ1 (nI t)) (fun q => RX 1 64 r q ∧ FU τ q) := by
  intro m
  induction m with
  | zero =>
    intro n t τ1 hm hn2 hf hd
    obtain ⟨n, rfl⟩ : ∃ q, n = q + 1 := ⟨n - 1, by omega⟩
    rw [f_X11_unpack_128]
    simp only [pu_lit]
    rw [if_pos (nI_le (by omega) (by omega)), ok_some]
    exact ⟨fun j hj _ _ => hd j hj (by omega), hf⟩
  | succ m ih =>
    intro n t τ1 hm hn2 hf hd
    obtain ⟨n, rfl⟩ : ∃ q, n = q + 1 := ⟨n - 1, by omega⟩
    have ek : τ1 k = τ k := hf.1 k hk
    simp only [List.mem_cons, not_or] at hk
    have e1 : τ k (b + 43 + t) = r (40 + t) := by rw [← hr (40 + t) (by omega), po_eq (by omega)]; congr 1; omega
    have e2 : τ k (b + 43 + 7 + t) = r (47 + t) := by rw [← hr (47 + t) (by omega), po_eq (by omega)]; congr 1; omega
    have e3 : τ k (b + 43 + 14 + t) = r (54 + t) := by rw [← hr (54 + t) (by omega), po_eq (by omega)]; congr 1; omega
    rw [f_X11_unpack_128]
    simp only [pu_lit]
    rw [if_neg (nI_ge (by omega) (by omega))]
    simp (disch := omega) only [pu_lit, nI_add, pu_gd, nI_clamp, nI_leI, nI_ltI, nI_eq, ok_some, ok_bind, ok_ite, ok_lt, pu_gz1, pu_gz0, pu_gnz, ms_ne, ek, e1, e2, e3]
    refine ih n (t + 1) _ (by omega) (by omega) (((hf.put (by simp)).put (by simp)).put (by simp)) ?_
    refine RD.up (D := fun j => j < 40 ∨ 61 ≤ j ∨ (40 ≤ j ∧ j < 61 ∧ (j - 40) % 7 < t) ∨ j = 40 + t ∨ j = 47 + t) (j0 := 54 + t) ?_ (by omega) rfl ⟨(pc_eq.2 t (by omega)).2.2.2.2.1, (pc_eq.2 t (by omega)).2.2.2.2.2⟩ (by omega)
    refine RD.up (D := fun j => j < 40 ∨ 61 ≤ j ∨ (40 ≤ j ∧ j < 61 ∧ (j - 40) % 7 < t) ∨ j = 40 + t) (j0 := 47 + t) ?_ (by omega) rfl ⟨(pc_eq.2 t (by omega)).2.2.1, (pc_eq.2 t (by omega)).2.2.2.1⟩ (by omega)
    exact hd.up (j0 := 40 + t) (by omega) rfl ⟨(pc_eq.2 t (by omega)).1, (pc_eq.2 t (by omega)).2.1⟩ (by omega)
theorem R_unpack_loop1 {k n1 b : Nat} (hk : k ∉ [0, 20, 21, 22, 23, 24, 25, 26, 27]) (hb : b + 64 ≤ n1) (hn : n1 ≤ 2560) (hr : ∀ j, j < 64 → τ k (b + po j) = r j) : ∀ (m n h : Nat) (τ1 : Mem), h + m = 8 → m < n → FU τ τ1 → RD (fun j => 61 ≤ j ∨ (j < 40 ∧ j % 8 < h)) r τ1 → OK (f_X11_unpack_32 k n1 (nI (b + 3)) n τ1 (nI h)) (fun q => RX 1 64 r q ∧ FU τ q) := by
  intro m
  induction m with
  | zero =>
    intro n h τ1 hm hn2 hf hd
    obtain ⟨n, rfl⟩ : ∃ q, n = q + 1 := ⟨n - 1, by omega⟩
    rw [f_X11_unpack_32]
    simp only [pu_lit]
    rw [if_pos (nI_le (by omega) (by omega)), nI_add]
    exact R_unpack_loop2 hk hb hn hr 7 KF 0 τ1 (by omega) (by decide) hf (fun j hj h2 => hd j hj (by omega))
  | succ m ih =>
    intro n h τ1 hm hn2 hf hd
    obtain ⟨n, rfl⟩ : ∃ q, n = q + 1 := ⟨n - 1, by omega⟩
    have ek : τ1 k = τ k := hf.1 k hk
    simp only [List.mem_cons, not_or] at hk
    have e1 : τ k (b + 3 + h) = r h := by rw [← hr h (by omega), po_eq (by omega)]; congr 1; omega
    have e2 : τ k (b + 3 + 8 + h) = r (8 + h) := by rw [← hr (8 + h) (by omega), po_eq (by omega)]; congr 1; omega
    have e3 : τ k (b + 3 + 16 + h) = r (16 + h) := by rw [← hr (16 + h) (by omega), po_eq (by omega)]; congr 1; omega
    have e4 : τ k (b + 3 + 24 + h) = r (24 + h) := by rw [← hr (24 + h) (by omega), po_eq (by omega)]; congr 1; omega
    have e5 : τ k (b + 3 + 32 + h) = r (32 + h) := by rw [← hr (32 + h) (by omega), po_eq (by omega)]; congr 1; omega
    rw [f_X11_unpack_32]
    simp only [pu_lit]
    rw [if_neg (nI_ge (by omega) (by omega))]
    simp (disch := omega) only [pu_lit, nI_add, pu_gd, nI_clamp, nI_leI, nI_ltI, nI_eq, ok_some, ok_bind, ok_ite, ok_lt, pu_gz1, pu_gz0, pu_gnz, ms_ne, ek, e1, e2, e3, e4, e5]
    refine ih n (h + 1) _ (by omega) (by omega) (((((hf.put (by simp)).put (by simp)).put (by simp)).put (by simp)).put (by simp)) ?_
    have p8 := pc_eq.1 h (by omega)
    refine RD.up (D := fun j => 61 ≤ j ∨ (j < 40 ∧ j % 8 < h) ∨ j = h ∨ j = 8 + h ∨ j = 16 + h ∨ j = 24 + h) (j0 := 32 + h) ?_ (by omega) rfl ⟨p8.2.2.2.2.2.2.2.2.1, p8.2.2.2.2.2.2.2.2.2⟩ (by omega)
    refine RD.up (D := fun j => 61 ≤ j ∨ (j < 40 ∧ j % 8 < h) ∨ j = h ∨ j = 8 + h ∨ j = 16 + h) (j0 := 24 + h) ?_ (by omega) rfl ⟨p8.2.2.2.2.2.2.1, p8.2.2.2.2.2.2.2.1⟩ (by omega)
    refine RD.up (D := fun j => 61 ≤ j ∨ (j < 40 ∧ j % 8 < h) ∨ j = h ∨ j = 8 + h) (j0 := 16 + h) ?_ (by omega) rfl ⟨p8.2.2.2.2.1, p8.2.2.2.2.2.1⟩ (by omega)
    refine RD.up (D := fun j => 61 ≤ j ∨ (j < 40 ∧ j % 8 < h) ∨ j = h) (j0 := 8 + h) ?_ (by omega) rfl ⟨p8.2.2.1, p8.2.2.2.1⟩ (by omega)
    exact hd.up (j0 := h) (by omega) rfl ⟨p8.1, p8.2.1⟩ (by omega)
theorem R_unpack1 {k n1 b : Nat} (hk : k ∉ [0, 20, 21, 22, 23, 24, 25, 26, 27]) (hb : b + 64 ≤ n1) (hn : n1 ≤ 2560) (hr : ∀ j, j < 64 → τ k (b + po j) = r j) : OK (m_X11_unpack k n1 τ (nI b)) (fun q => RX 1 64 r q ∧ FU τ q) := by
  have hk0 : k ≠ 0 := fun q => hk (by subst q; simp)
  unfold m_X11_unpack
  simp only [pu_lit]
  have e1 : τ k b = r 63 := by rw [← hr 63 (by omega)]; rfl
  have e2 : τ k (b + 1) = r 62 := by rw [← hr 62 (by omega)]; rfl
  have e3 : τ k (b + 2) = r 61 := by rw [← hr 61 (by omega)]; rfl
  simp (disch := omega) only [pu_lit, nI_add, pu_gd, nI_clamp, nI_leI, nI_ltI, nI_eq, ok_some, ok_bind, ok_ite, ok_lt, pu_gz1, pu_gz0, pu_gnz, ms_ne, e1, e2, e3]
  have F0 : FU τ τ := ⟨fr.rfl, fun _ _ _ _ => rfl⟩
  refine R_unpack_loop1 hk hb hn hr 8 KF 0 _ (by omega) (by decide) (((F0.put0 (by simp)).put0 (by simp)).put0 (by simp)) ?_
  refine RD.up (D := fun j => j = 63 ∨ j = 62) (j0 := 61) ?_ (by omega) rfl (by decide) (by omega)
  refine RD.up (D := fun j => j = 63) (j0 := 62) ?_ (by omega) rfl (by decide) (by omega)
  exact RD.up (D := fun _ => False) (j0 := 63) (fun j _ h => h.elim) (by omega) rfl (by decide) (by omega)
theorem R_pack {H k n1 b : Nat} (hk : k ∉ [0, 20, 21, 22, 23, 24, 25, 26, 27]) (hb : b + 64 ≤ n1) (hn : n1 ≤ 2560) (R : RX H 64 r τ) : OK (m_X11_pack k n1 τ (nI b)) (fun q => fr [k] τ q ∧ (∀ j, j < 64 → owc H j → q k (b + po j) = r j) ∧ ∀ i, i < b ∨ b + 64 ≤ i → q k i = τ k i) := by
  have R1 : RX 1 64 (fun j => τ (pc j) (pi j)) τ := fun j _ _ _ => rfl
  refine ok_mono (R_pack1 hk hb hn R1) (fun q hq => ⟨hq.1, fun j hj ho => ?_, hq.2.2⟩)
  exact (hq.2.1 j hj).trans (R j hj (by omega) ho)
theorem R_unpack {H k n1 b : Nat} (hk : k ∉ [0, 20, 21, 22, 23, 24, 25, 26, 27]) (hb : b + 64 ≤ n1) (hn : n1 ≤ 2560) (hr : ∀ j, j < 64 → owc H j → τ k (b + po j) = r j) : OK (m_X11_unpack k n1 τ (nI b)) (fun q => RX H 64 r q ∧ FU τ q) := by
  refine ok_mono (R_unpack1 (r := fun j => τ k (b + po j)) hk hb hn (fun _ _ => rfl)) (fun q hq => ⟨fun j hj he ho => ?_, hq.2⟩)
  exact (hq.1 j hj he (fun _ _ => Nat.one_ne_zero)).trans (hr j hj ho)
end PACK
/-! between two numbers -/
theorem cmp_lt {x y : Int32} : lg_cmp (Int32.toInt64 x) (Int32.toInt64 y) < 0 ↔ x < y := by
  have e1 : (Int32.toInt64 x).toInt = x.toInt := Int32.toInt_toInt64 x
  have e2 : (Int32.toInt64 y).toInt = y.toInt := Int32.toInt_toInt64 y
  unfold lg_cmp
  by_cases c : Int32.toInt64 x > Int32.toInt64 y
  · rw [if_pos c]
    have := Int64.lt_iff_toInt_lt.mp c
    rw [e1, e2] at this
    constructor
    · intro q; exact absurd q (by decide)
    · intro q; have := Int32.lt_iff_toInt_lt.mp q; omega
  · rw [if_neg c]
    by_cases d : Int32.toInt64 x = Int32.toInt64 y
    · rw [if_pos d]
      have : x.toInt = y.toInt := by rw [← e1, ← e2, d]
      constructor
      · intro q; exact absurd q (by decide)
      · intro q; have := Int32.lt_iff_toInt_lt.mp q; omega
    · rw [if_neg d]
      have c2 : ¬ y.toInt < x.toInt := by rw [← e1, ← e2]; exact fun q => c (Int64.lt_iff_toInt_lt.mpr q)
      have d2 : ¬ x.toInt = y.toInt := by rw [← e1, ← e2]; exact fun q => d (Int64.toInt_inj.mp q)
      constructor
      · intro _; exact Int32.lt_iff_toInt_lt.mpr (by omega)
      · intro _; decide
theorem cmp_gt {x y : Int32} : 0 < lg_cmp (Int32.toInt64 x) (Int32.toInt64 y) ↔ y < x := by
  have e1 : (Int32.toInt64 x).toInt = x.toInt := Int32.toInt_toInt64 x
  have e2 : (Int32.toInt64 y).toInt = y.toInt := Int32.toInt_toInt64 y
  unfold lg_cmp
  by_cases c : Int32.toInt64 x > Int32.toInt64 y
  · rw [if_pos c]
    have := Int64.lt_iff_toInt_lt.mp c
    rw [e1, e2] at this
    constructor
    · intro _; exact Int32.lt_iff_toInt_lt.mpr this
    · intro _; decide
  · rw [if_neg c]
    have c2 : ¬ y.toInt < x.toInt := by rw [← e1, ← e2]; exact fun q => c (Int64.lt_iff_toInt_lt.mpr q)
    by_cases d : Int32.toInt64 x = Int32.toInt64 y
    · rw [if_pos d]
      constructor
      · intro q; exact absurd q (by decide)
      · intro q; exact absurd (Int32.lt_iff_toInt_lt.mp q) c2
    · rw [if_neg d]
      constructor
      · intro q; exact absurd q (by decide)
      · intro q; exact absurd (Int32.lt_iff_toInt_lt.mp q) c2
theorem R_isIn {τ : Mem} {x a b : Int32} {A B : Int64} (hA : A = Int32.toInt64 a) (hB : B = Int32.toInt64 b) : m_X11_isIn τ (Int32.toInt64 x) A B = some (if x < a then nI 0 else if b < x then nI 0 else nI 1) := by
  subst hA hB
  unfold m_X11_isIn
  by_cases c : x < a
  · rw [if_pos (cmp_lt.mpr c), if_pos c]; rfl
  · rw [if_neg (fun q => c (cmp_lt.mp q)), if_neg c]
    by_cases d : b < x
    · rw [if_pos (cmp_gt.mpr d), if_pos d]; rfl
    · rw [if_neg (fun q => d (cmp_gt.mp q)), if_neg d]; rfl
theorem lt_pred {x : Int32} {n : Nat} (hn : n < 1000) : nI n - nI 1 < x ↔ nI n ≤ x := by
  have e : (nI n - nI 1 : Int32).toInt = (n : Int) - 1 := pk_sub_toInt (by omega) (by omega)
  rw [Int32.lt_iff_toInt_lt, Int32.le_iff_toInt_le, e, nI_toInt (by omega)]
  omega
section ISH
variable {τ : Mem} {H T : Nat} {x : Int32}
theorem R_isHouse (h0 : τ 5 0 = nI H) (h8 : H ≤ 8) : m_X11_isHouse τ x = some (if x < nI 0 then nI 0 else if nI H ≤ x then nI 0 else nI 1) := by
  unfold m_X11_isHouse
  rw [R_isIn (a := nI 0) (b := nI H - nI 1) (by decide) (by simp only [pu_lit]; rw [nI_clamp (by decide), h0])]
  simp only [pu_lit]
  rw [pu_gd (by decide) (by decide)]
  have e : (nI H - nI 1 < x) = (nI H ≤ x) := propext (lt_pred (by omega))
  simp only [e]
  show gz _ _ = _
  by_cases c : x < nI 0
  · rw [if_pos c]; rfl
  · rw [if_neg c]
    by_cases d : nI H ≤ x
    · rw [if_pos d]; rfl
    · rw [if_neg d]; rfl
theorem R_isTenant (h0 : τ 5 1 = nI T) (h8 : T ≤ 7) : m_X11_isTenant τ x = some (if x < nI 0 then nI 0 else if nI T ≤ x then nI 0 else nI 1) := by
  unfold m_X11_isTenant
  rw [R_isIn (a := nI 0) (b := nI T - nI 1) (by decide) (by simp only [pu_lit]; rw [nI_clamp (by decide), h0])]
  simp only [pu_lit]
  rw [pu_gd (by decide) (by decide)]
  have e : (nI T - nI 1 < x) = (nI T ≤ x) := propext (lt_pred (by omega))
  simp only [e]
  show gz _ _ = _
  by_cases c : x < nI 0
  · rw [if_pos c]; rfl
  · rw [if_neg c]
    by_cases d : nI T ≤ x
    · rw [if_pos d]; rfl
    · rw [if_neg d]; rfl
end ISH

/-! part 2: plain rows over the models. OK x P: the model answers, and P holds of its answer -/
def OK {α : Type} (x : Option α) (P : α → Prop) : Prop := ∃ r, x = some r ∧ P r
theorem ok_some {α : Type} {v : α} {P : α → Prop} : OK (some v) P ↔ P v :=
  ⟨fun ⟨_, h, p⟩ => by cases h; exact p, fun p => ⟨v, rfl, p⟩⟩
theorem ok_bind {α β : Type} {x : Option α} {f : α → Option β} {P : β → Prop} : OK (x.bind f) P ↔ OK x (fun a => OK (f a) P) := by
  cases x with
  | none => constructor <;> (rintro ⟨r, h, p⟩; cases h)
  | some a => rw [ok_some]; exact Iff.rfl
theorem ok_ite {α : Type} {c : Prop} {inst : Decidable c} {a b : Option α} {P : α → Prop} : OK (@ite _ c inst a b) P ↔ (c → OK a P) ∧ (¬ c → OK b P) := by
  by_cases h : c <;> simp [h]
theorem ok_lt {α β : Type} {x : α} {f : α → Option β} {P : β → Prop} : OK (lt x f) P ↔ OK (f x) P := Iff.rfl
theorem ok_mono {α : Type} {x : Option α} {Q P : α → Prop} (h : OK x Q) (k : ∀ a, Q a → P a) : OK x P := by
  obtain ⟨r, e, q⟩ := h
  exact ⟨r, e, k r q⟩
theorem ok_eq {α : Type} {x : Option α} {v : α} {P : α → Prop} (e : x = some v) (p : P v) : OK x P := ⟨v, e, p⟩
theorem pu_lit (n : Nat) : (OfNat.ofNat n : Int32) = nI n := Decidable.byContradiction (fun h => h rfl)
theorem ite_some {α : Type} {c : Prop} {inst : Decidable c} {a b : α} : @ite _ c inst (some a) (some b) = some (@ite _ c inst a b) := by
  by_cases h : c <;> simp [h]
theorem sub_sub_s (a b : Int32) : a - (a - b) = b := by
  rw [Int32.sub_eq_iff_eq_add, Int32.add_comm, Int32.sub_add_cancel]
theorem pu_gd {α : Type} {k n : Nat} {x : Option α} (h : k < n) (hn : n < 2147483648) : gd (nI k) n x = x := by
  unfold gd
  rw [if_neg (nI_in h (by omega))]
theorem pu_gz1 {α : Type} {x : Option α} : gz (nI 1) x = x := rfl
theorem pu_gz0 {α : Type} {x : Option α} : gz (nI 0) x = x := rfl
theorem pu_gnz {α : Type} {k : Nat} {x : Option α} (h : 0 < k) (hk : k < 2147483648) : gnz (nI k) x = x := by
  unfold gnz
  rw [if_neg (nI_ne0 h (by omega))]
theorem ms_same {σ : Mem} {k j : Nat} {x : Int32} : ms σ k j x k = upd (σ k) j x := va_up_self _ _ _
theorem ms_ne {σ : Mem} {k j q : Nat} {x : Int32} (h : q ≠ k) : ms σ k j x q = σ q := va_up_ne _ _ h
theorem mcp_same {σ : Mem} {k0 k1 : Nat} {a b n : Int32} : mcp σ k0 k1 a b n k1 = va_cpy (σ k0) (σ k1) a.toNatClampNeg b.toNatClampNeg n.toNatClampNeg := va_up_self _ _ _
theorem mcp_ne {σ : Mem} {k0 k1 q : Nat} {a b n : Int32} (h : q ≠ k1) : mcp σ k0 k1 a b n q = σ q := va_up_ne _ _ h
theorem pu_gcp {α : Type} {a b n n0 n1 : Nat} {x : Option α} (h0 : a + n ≤ n0) (h1 : b + n ≤ n1) (h2 : n0 < 2147483648) (h3 : n1 < 2147483648) : gcp (nI a) (nI b) (nI n) n0 n1 x = x := by
  unfold gcp
  rw [if_pos]
  refine ⟨nI_pos (by omega), nI_pos (by omega), nI_pos (by omega), ?_, ?_⟩
  · rw [nI_clamp (by omega), nI_clamp (by omega)]; exact h0
  · rw [nI_clamp (by omega), nI_clamp (by omega)]; exact h1
theorem m1_lt0 : (-nI 1 : Int32) < nI 0 := by decide
theorem nI_nm1 {t : Nat} (h : t < 2147483648) : (nI t = -nI 1) = False := by
  apply eq_false
  intro e
  have h1 := nI_pos (n := t) (by omega)
  rw [e] at h1
  exact h1 m1_lt0
theorem m1_nI {t : Nat} (h : t < 2147483648) : (-nI 1 = nI t) = False := by
  apply eq_false
  intro e
  exact (nI_nm1 h).mp e.symm
theorem nI_lt0 {t : Nat} (h : t < 2147483648) : (nI t < nI 0) = False := eq_false (nI_pos (by omega))
def fr (L : List Nat) (σ σ1 : Mem) : Prop := ∀ k, k ∉ L → σ1 k = σ k
theorem fr.rfl {L : List Nat} {σ : Mem} : fr L σ σ := fun _ _ => Eq.refl _
theorem fr.trans {L : List Nat} {σ σ1 σ2 : Mem} (h : fr L σ σ1) (h2 : fr L σ1 σ2) : fr L σ σ2 := fun k hk => (h2 k hk).trans (h k hk)
theorem fr.mono {L L2 : List Nat} {σ σ1 : Mem} (h : fr L σ σ1) (hs : ∀ k, k ∈ L → k ∈ L2) : fr L2 σ σ1 := fun k hk => h k (fun q => hk (hs k q))
theorem fr.ms {L : List Nat} {σ σ1 : Mem} {k j : Nat} {x : Int32} (h : fr L σ σ1) (hk : k ∈ L) : fr L σ (ms σ1 k j x) := fun q hq => by
  have hne : q ≠ k := fun e => hq (e ▸ hk)
  rw [ms_ne hne]
  exact h q hq
theorem fr.mcp {L : List Nat} {σ σ1 : Mem} {k0 k1 : Nat} {a b n : Int32} (h : fr L σ σ1) (hk : k1 ∈ L) : fr L σ (mcp σ1 k0 k1 a b n) := fun q hq => by
  have hne : q ≠ k1 := fun e => hq (e ▸ hk)
  rw [mcp_ne hne]
  exact h q hq
theorem nI_le_self {n : Nat} : nI n ≤ nI n := Int32.le_refl _
/-- an int that is an index below n -/
theorem ix_of {x : Int32} {n : Nat} (h0 : ¬ x < nI 0) (h1 : ¬ nI n ≤ x) (hn : n < 2147483648) : ∃ j, j < n ∧ x = nI j := by
  rcases pk_ix x (n := n) (by omega) with h | h | h
  · exact absurd h h0
  · exact absurd h h1
  · exact h
theorem nz' {n : Nat} (h0 : 0 < n) (h : n < 2147483648) : ¬ nI n = nI 0 := nI_ne0 h0 (by omega)
theorem nle' {n : Nat} (h0 : 0 < n) (h : n < 2147483648) : ¬ nI n ≤ nI 0 := nI_nle h0 (by omega)
theorem nn0 {n : Nat} (h : n < 2147483648) : ¬ nI n < nI 0 := nI_pos (by omega)
theorem sbind {α β : Type} (a : α) (f : α → Option β) : (some a).bind f = f a := rfl

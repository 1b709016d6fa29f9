def ms (σ : Mem) (k j : Nat) (x : Int32) : Mem := va_up σ k (upd (σ k) j x)
def mcp (σ : Mem) (k0 k1 : Nat) (sp dp n : Int32) : Mem := va_up σ k1 (va_cpy (σ k0) (σ k1) sp.toNatClampNeg dp.toNatClampNeg n.toNatClampNeg)
def gcp {α : Type} (sp dp n : Int32) (n0 n1 : Nat) (x : Option α) : Option α := if ¬ sp < 0 ∧ ¬ dp < 0 ∧ ¬ n < 0 ∧ sp.toNatClampNeg + n.toNatClampNeg ≤ n0 ∧ dp.toNatClampNeg + n.toNatClampNeg ≤ n1 then x else none
theorem gcp_some {α : Type} {sp dp n : Int32} {n0 n1 : Nat} {x : Option α} {r : α} (h : gcp sp dp n n0 n1 x = some r) : (¬ sp < 0 ∧ ¬ dp < 0 ∧ ¬ n < 0 ∧ sp.toNatClampNeg + n.toNatClampNeg ≤ n0 ∧ dp.toNatClampNeg + n.toNatClampNeg ≤ n1) ∧ x = some r := by
  unfold gcp at h
  by_cases hi : ¬ sp < 0 ∧ ¬ dp < 0 ∧ ¬ n < 0 ∧ sp.toNatClampNeg + n.toNatClampNeg ≤ n0 ∧ dp.toNatClampNeg + n.toNatClampNeg ≤ n1
  · rw [if_pos hi] at h; exact ⟨hi, h⟩
  · rw [if_neg hi] at h; cases h
def lt {α β : Type} (x : α) (f : α → β) : β := f x
theorem lt_e {α β : Type} {x : α} {f : α → β} {z : β} (h : lt x f = z) : ∃ y, y = x ∧ f y = z := ⟨x, rfl, h⟩
def imax (x y : Int32) : Int32 := if x < y then y else x
def imin (x y : Int32) : Int32 := if y < x then y else x
theorem wi_nm {V : WV} {A : Nat → Prop} {s : State} {H : Heap} {locs : List Loc} {σ σ1 : Mem} (e : σ1 = σ) (I : WI V A s H locs σ) : WI V A s H locs σ1 := e ▸ I
section ROWS2
variable {p : Program} {l : Launch} {e : Env} {R : Room} {s : State} {m : MethodId} {args : Array Value} {below : List Frame} {meth : Method} {c : Code} {H : Heap} {locs : List Loc} {cells slots : Nat} {Q : State → Prop} {cc : ByteArray} {pc : Nat} {ls : Array Slot} {rest : List Value} {nL : Nat} {own : String} {A : Nat → Prop} {σ : Mem} {V : WV} {ret : Option FieldType} {lvs : List (Nat × Value)} {idx : Nat}
theorem nm_i {x y : Int32} (h : y = x) (k : W p l e R s m args below meth c H locs cells slots Q (F0 m pc ls (.int y :: rest))) : W p l e R s m args below meth c H locs cells slots Q (F0 m pc ls (.int x :: rest)) := h ▸ k
theorem gm_st : Cond.static Lib.Math.max.name ∈ GG := gg_2 (List.mem_of_getElem? (i := 222) (by decide +kernel)) (by decide +kernel)
theorem gm_in : Cond.initialized "java/lang/Math" ∈ GG := gg_1 (List.mem_of_getElem? (i := 18) (by decide +kernel)) (by decide +kernel)
theorem gm_cd : Cond.code Lib.Math.max.name Lib.Math.max.code 2 (some .int) ∈ GG := gg_2 (List.mem_of_getElem? (i := 223) (by decide +kernel)) (by decide +kernel)
theorem gn_st : Cond.static Lib.Math.min.name ∈ GG := gg_2 (List.mem_of_getElem? (i := 219) (by decide +kernel)) (by decide +kernel)
theorem gn_cd : Cond.code Lib.Math.min.name Lib.Math.min.code 2 (some .int) ∈ GG := gg_2 (List.mem_of_getElem? (i := 220) (by decide +kernel)) (by decide +kernel)
theorem gc_nt : Cond.native arraycopyName ∈ GG := gg_2 (List.mem_of_getElem? (i := 92) (by decide +kernel)) (by decide +kernel)
theorem gc_st : Cond.static arraycopyName ∈ GG := gg_2 (List.mem_of_getElem? (i := 91) (by decide +kernel)) (by decide +kernel)
theorem gc_in : Cond.initialized "java/lang/System" ∈ GG := gg_1 (List.mem_of_getElem? (i := 12) (by decide +kernel)) (by decide +kernel)
theorem r_max (X : CX p s m meth c args cc nL own ret) (hl : lv_has ls nL lvs) (hw : Cond.methodLink own idx Lib.Math.max.name ∈ GG) (hR : 1 ≤ R.frames ∧ (rest.map fun v => v.category).sum + 13 ≤ R.locals) {x y : Int32} (d : decode cc pc = .ok (.invokestatic idx, 3))
    (kk : W p l e R s m args below meth c H locs 0 0 Q (F0 m (pc + 3) ls (.int (imax x y) :: rest))) : W p l e R s m args below meth c H locs 0 0 Q (F0 m pc ls (.int y :: .int x :: rest)) :=
  va_mmax X.1 X.2.1 (X.2.2.1.trans hl.1.symm) X.2.2.2.1 (X.2.2.2.2.1 _ hw) (X.2.2.2.2.1 _ gm_st) (X.2.2.2.2.1 _ gm_in) (X.2.2.2.2.1 _ gm_cd) hR.1 hR.2 (Nat.zero_le _) (Nat.zero_le _) d kk
theorem r_min (X : CX p s m meth c args cc nL own ret) (hl : lv_has ls nL lvs) (hw : Cond.methodLink own idx Lib.Math.min.name ∈ GG) (hR : 1 ≤ R.frames ∧ (rest.map fun v => v.category).sum + 13 ≤ R.locals) {x y : Int32} (d : decode cc pc = .ok (.invokestatic idx, 3))
    (kk : W p l e R s m args below meth c H locs 0 0 Q (F0 m (pc + 3) ls (.int (imin x y) :: rest))) : W p l e R s m args below meth c H locs 0 0 Q (F0 m pc ls (.int y :: .int x :: rest)) :=
  va_mmin X.1 X.2.1 (X.2.2.1.trans hl.1.symm) X.2.2.2.1 (X.2.2.2.2.1 _ hw) (X.2.2.2.2.1 _ gn_st) (X.2.2.2.2.1 _ gm_in) (X.2.2.2.2.1 _ gn_cd) hR.1 hR.2 (Nat.zero_le _) (Nat.zero_le _) d kk
theorem r_copy (X : CX p s m meth c args cc nL own ret) (I : WI V A s H locs σ) (hl : lv_has ls nL lvs) (hw : Cond.methodLink own idx arraycopyName ∈ GG) {k0 k1 n0 n1 t0 : Nat} (hk0 : k0 < V.2.2.2.2.1) (hk1 : k1 < V.2.2.2.2.1) {cA : ClassId} (ht : V.2.1[t0]? = some (cA, .int)) (hc0 : ∀ r, V.2.2.1 k0 r = .inl (cA, n0, .inl r)) (hc1 : ∀ r, V.2.2.1 k1 r = .inl (cA, n1, .inl r))
    {sp dp n : Int32} (hcp : ¬ sp < 0 ∧ ¬ dp < 0 ∧ ¬ n < 0 ∧ sp.toNatClampNeg + n.toNatClampNeg ≤ n0 ∧ dp.toNatClampNeg + n.toNatClampNeg ≤ n1) (hR : 1 ≤ R.frames ∧ (rest.map fun v => v.category).sum + (nativeFrameWords "java/lang/System" "arraycopy" 5 + 11) ≤ R.locals) (d : decode cc pc = .ok (.invokestatic idx, 3))
    (kk : ∀ (H1 : Heap) (locs1 : List Loc), WI V A s H1 locs1 (mcp σ k0 k1 sp dp n) → W p l e R s m args below meth c H1 locs1 cells slots Q (F0 m (pc + 3) ls rest)) : W p l e R s m args below meth c H locs cells slots Q (F0 m pc ls (.int n :: .int dp :: .ref (V.2.2.2.1 k1) :: .int sp :: .ref (V.2.2.2.1 k0) :: rest)) := by
  refine va_copyi (D := V.1) (cl := vwCl) (tys := V.2.1) X.1 X.2.1 (X.2.2.1.trans hl.1.symm) X.2.2.2.1 (X.2.2.2.2.1 _ hw) (X.2.2.2.2.1 _ gc_nt) (X.2.2.2.2.1 _ gc_st) (X.2.2.2.2.1 _ gc_in) I.1 I.2.1 I.2.2.1 I.2.2.2.1 k0 k1 t0 t0 (by rw [gw_get hk0, hc0]) (by rw [gw_get hk1, hc1]) ht ht rfl hcp.1 hcp.2.1 hcp.2.2.1 hcp.2.2.2.1 hcp.2.2.2.2 (fun _ _ => rfl) hR.1 hR.2 d (fun H1 locs1 hP hD hS => ?_)
  rw [← hc1, gw_set hk1] at hP hD
  exact kk H1 locs1 ⟨I.1, hP, hD, hS, I.2.2.2.2⟩
end ROWS2
section ROWS3
variable {p : Program} {l : Launch} {e : Env} {R : Room} {s : State} {m : MethodId} {args : Array Value} {below : List Frame} {meth : Method} {c : Code} {H : Heap} {locs : List Loc} {cells slots : Nat} {Q : State → Prop} {cc : ByteArray} {pc : Nat} {ls : Array Slot} {rest : List Value} {nL : Nat} {own : String} {A : Nat → Prop} {σ : Mem} {V : WV} {ret : Option FieldType} {lvs : List (Nat × Value)} {idx : Nat}
variable {y : MethodName} {bytes : ByteArray} {maxL n : Nat} {ty : Option FieldType} {rm : Room} {As : List Value} {st0 : List Value}
theorem r_tret {ty : FieldType} (X : CX p s m meth c args cc nL own (some ty)) {σ1 : Mem} {v : Int32} (I : WI V A s H locs σ1) {r : Int32 × Mem} (h : r = (v, σ1)) (hn : narrow ty (.int v) = .int v) (d : decode cc pc = .ok (.ireturn, 1)) : W p l e R s m args below meth c H locs 0 0 (MQ below (QI V A r) args s 0 0 A) (F0 m pc ls [.int v]) := by
  subst h
  exact W.zret (v := v) X.1 X.2.1 X.2.2.2.2.2.1 hn (fun t ht hW => ⟨⟨v, (), rfl, rfl, by rw [ht]; exact I.2.1, va_K.moved hW.alike I.1, I.2.2.1⟩, I.2.2.2.1.F ht⟩) I.2.2.2.1.2.2 d X.2.2.2.2.2.2
/-- a receiver that is no cell of the world -/
theorem r_callGI (X : CX p s m meth c args cc nL own ret) (I : WI V A s H locs σ) (hl : lv_has ls nL lvs) {b : Nat} {r : Int32 × Mem} (hM : CI l V y (.code y bytes maxL ty :: GG) rm (.ref b :: As) σ r) (hy : YV y bytes maxL ty n) (hw : Cond.methodLink own idx y ∈ GG) (hrm : rm.cells = 0 ∧ rm.slots = 0 ∧ rm.frames + 1 ≤ R.frames ∧ 8 + (maxL + 11) + rm.locals ≤ R.locals) (hrecv : ∃ cell : Cell, H[b]? = some cell ∧ cell.vm.isStatics = false ∧ s.vm.findClass y.cls = some cell.cls) (hn : As.length = n) (hst : st0 = As.reverse ++ .ref b :: rest) (hrest : (rest.map fun v => v.category).sum ≤ 8) (d : decode cc pc = .ok (.invokevirtual idx, 3))
    (kk : ∀ (H1 : Heap) (locs1 : List Loc), WI V A s H1 locs1 r.2 → W p l e R s m args below meth c H1 locs1 0 0 Q (F0 m (pc + 3) ls (.int r.1 :: rest))) : W p l e R s m args below meth c H locs 0 0 Q (F0 m pc ls st0) := by
  have hts := X.2.2.2.2.1
  refine va_calli (va_runV (As := As) (rest := rest) (C := y.cls) (b := b) ⟨X.1, X.2.1, X.2.2.1, X.2.2.2.1, hts⟩ (hM H.size) ⟨callB_of n hts (gg_in hy.1) rfl hrm.1 hrm.2.1 (hts _ hy.2.1) (hts _ hw) hy.2.2.2.2 hrm.2.2, hts _ hy.2.2.1, hts _ hy.2.2.2.1⟩ ⟨WT.blind, hrecv, fun U hU hW => I.pre hU hW⟩ rfl hn hl.1 hst (lv_room hrest) d ⟨Nat.zero_le _, Nat.zero_le _⟩) I.2.2.2.1 (fun q _ h => I.free q h) I.free (fun v u t H1 locs1 ht hvm hw hB hz1 hk1 hS => ?_)
  obtain ⟨hP1, hK1, hD1⟩ := hB
  rw [ht] at hP1
  rw [hw]
  exact kk H1 locs1 ⟨I.1, hP1, hD1.weaken (fun _ _ _ h => I.free _ h), hS, I.2.2.2.2⟩
end ROWS3
section ROWS4
variable {p : Program} {l : Launch} {e : Env} {R : Room} {s : State} {m : MethodId} {args : Array Value} {below : List Frame} {meth : Method} {c : Code} {H : Heap} {locs : List Loc} {cells slots : Nat} {Q : State → Prop} {cc : ByteArray} {pc : Nat} {ls : Array Slot} {rest : List Value} {nL : Nat} {own : String} {A : Nat → Prop} {σ : Mem} {V : WV} {ret : Option FieldType}
theorem r_putV (X : CX p s m meth c args cc nL own ret) (I : WI V A s H locs σ) {k : Nat} (hk : k < V.2.2.2.2.1) {ci : Nat} {fs : List Value} (hc : V.2.2.1 k (σ k) = .inr (ci, fs)) {C : String} {T : u_T} {N : Nat} (hcl : vwCl[ci]? = some (C, T, N)) (hin : ∀ w ∈ u_ws C T N, w ∈ GG) (ty0 : Nat → FieldType) (hty : ∀ k, k < N → parseFieldDescriptor (T k).2.2.1 = some (ty0 k)) (hnm : ∀ a, a < N → ∀ b, b < N → a ≠ b → (T a).2.1 ≠ (T b).2.1) (j : Nat) (hj : j < N) {idx : Nat} (hw : Cond.fieldLink own idx (T j).1 (T j).2.1 (T j).2.2.1 ∈ GG) (hfin : (T j).2.2.2 = false) {x : Int32} {v : Value} (hn : narrow (ty0 j) v = v) (hfit : fits (ty0 j) v = true) (hl : j < fs.length)
    (hset : V.2.2.1 k (upd (σ k) j x) = .inr (ci, fs.set j v)) (d : decode cc pc = .ok (.putfield idx, 3))
    (kk : ∀ (H1 : Heap) (locs1 : List Loc), WI V A s H1 locs1 (va_up σ k (upd (σ k) j x)) → W p l e R s m args below meth c H1 locs1 cells slots Q (F0 m (pc + 3) ls rest)) : W p l e R s m args below meth c H locs cells slots Q (F0 m pc ls (v :: .ref (V.2.2.2.1 k) :: rest)) := by
  refine va_put (D := V.1) (cl := vwCl) (tys := V.2.1) (ty := ty0 j) X.1 X.2.1 X.2.2.2.2.1 hin ty0 hty hnm X.2.2.2.1 I.1 I.2.1 I.2.2.1 I.2.2.2.1 k (fs := fs) (by rw [gw_get hk, hc]) hcl j hj (X.2.2.2.2.1 _ hw) (fun _ h => h) hfin (hty j hj) hn hfit hl d (fun H1 locs1 hP hD hS => ?_)
  rw [← hset, gw_set hk] at hP hD
  exact kk H1 locs1 ⟨I.1, hP, hD, hS, I.2.2.2.2⟩
theorem r_zald (X : CX p s m meth c args cc nL own ret) (I : WI V A s H locs σ) {k n t0 : Nat} (hk : k < V.2.2.2.2.1) {cA : ClassId} (ht : V.2.1[t0]? = some (cA, .boolean)) (hc : V.2.2.1 k (σ k) = .inl (cA, n, .inl (σ k))) {i : Int32} (hin : vp_in i n) (d : decode cc pc = .ok (.baload, 1))
    (kk : W p l e R s m args below meth c H locs cells slots Q (F0 m (pc + 1) ls (.int (σ k i.toNatClampNeg) :: rest))) : W p l e R s m args below meth c H locs cells slots Q (F0 m pc ls (.int i :: .ref (V.2.2.2.1 k) :: rest)) :=
  va_zald (D := V.1) (cl := vwCl) (tys := V.2.1) X.1 X.2.1 I.1 I.2.1 k t0 (by rw [gw_get hk, hc]) ht hin d kk
theorem r_zast (X : CX p s m meth c args cc nL own ret) (I : WI V A s H locs σ) {k n t0 : Nat} (hk : k < V.2.2.2.2.1) {cA : ClassId} (ht : V.2.1[t0]? = some (cA, .boolean)) (hc : ∀ r, V.2.2.1 k r = .inl (cA, n, .inl r)) {i x : Int32} (hz : narrow .boolean (.int x) = .int x ∧ fits .boolean (.int x) = true) (hin : vp_in i n) (d : decode cc pc = .ok (.bastore, 1))
    (kk : ∀ (H1 : Heap) (locs1 : List Loc), WI V A s H1 locs1 (va_up σ k (upd (σ k) i.toNatClampNeg x)) → W p l e R s m args below meth c H1 locs1 cells slots Q (F0 m (pc + 1) ls rest)) : W p l e R s m args below meth c H locs cells slots Q (F0 m pc ls (.int x :: .int i :: .ref (V.2.2.2.1 k) :: rest)) := by
  refine va_zast (D := V.1) (cl := vwCl) (tys := V.2.1) X.1 X.2.1 I.1 I.2.1 I.2.2.1 I.2.2.2.1 k t0 (by rw [gw_get hk, hc]) ht hin d (fun H1 locs1 hP hD hS => ?_)
  have hv : vp_nar .boolean x = x := by unfold vp_nar; rw [hz.1]
  rw [hv, ← hc, gw_set hk] at hP hD
  exact kk H1 locs1 ⟨I.1, hP, hD, hS, I.2.2.2.2⟩
theorem r_aald (X : CX p s m meth c args cc nL own ret) (I : WI V A s H locs σ) {k n t0 : Nat} (hk : k < V.2.2.2.2.1) {cA : ClassId} {C : String} {f : Nat → Option Nat} (ht : V.2.1[t0]? = some (cA, .object C)) (hc : V.2.2.1 k (σ k) = .inl (cA, n, .inr (.inr (.inr (.inr f))))) {i : Int32} {b : Nat} (hf : f i.toNatClampNeg = some b) (hin : vp_in i n) (d : decode cc pc = .ok (.aaload, 1))
    (kk : W p l e R s m args below meth c H locs cells slots Q (F0 m (pc + 1) ls (.ref b :: rest))) : W p l e R s m args below meth c H locs cells slots Q (F0 m pc ls (.int i :: .ref (V.2.2.2.1 k) :: rest)) := by
  refine va_aldq (D := V.1) (cl := vwCl) (tys := V.2.1) X.1 X.2.1 I.1 I.2.1 k t0 (by rw [gw_get hk, hc]) ht hin d ?_
  rw [hf]
  exact kk
theorem r_alenS (X : CX p s m meth c args cc nL own ret) (I : WI V A s H locs σ) {k t0 : Nat} (hk : k < V.2.2.2.2.1) {cA : ClassId} {ty : FieldType} {x : vp_A} (ht : V.2.1[t0]? = some (cA, ty)) (hc : V.2.2.1 k (σ k) = .inl (cA, x)) {v : Int32} (hv : Int32.ofNat x.1 = v) (d : decode cc pc = .ok (.arraylength, 1))
    (kk : W p l e R s m args below meth c H locs cells slots Q (F0 m (pc + 1) ls (.int v :: rest))) : W p l e R s m args below meth c H locs cells slots Q (F0 m pc ls (.ref (V.2.2.2.1 k) :: rest)) :=
  va_alen (D := V.1) (cl := vwCl) (tys := V.2.1) X.1 X.2.1 I.1 I.2.1 k t0 (by rw [gw_get hk, hc]) ht hv d kk
end ROWS4

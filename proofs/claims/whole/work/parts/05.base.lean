/-! the base: a flat memory (cell, place) of ints, worlds over it, rows of the machine over such worlds -/
abbrev Mem : Type := Nat → Nat → Int32
/-- what holds of cells that no method changes -/
abbrev FX : Type := (Nat → Prop) → State → Heap → Prop
def FOK (F : FX) : Prop := (∀ (A : Nat → Prop) (u U : State) (H : Heap), U.vm = u.vm → F A u H → F A U H) ∧ (∀ (A : Nat → Prop) (s U : State) (H : Heap), s.WarmedH U.vm → F A s H → F A U H) ∧ (∀ (A : Nat → Prop) (U : State) (H H1 : Heap), (∀ a : Nat, a < H.size → ¬ A a → H1[a]? = H[a]?) → F A U H → F A U H1) ∧ ∀ (A B : Nat → Prop) (U : State) (H : Heap), (∀ q, B q → A q) → F A U H → F B U H
abbrev WV : Type := va_G × List (ClassId × FieldType) × (Nat → (Nat → Int32) → va_E) × (Nat → Nat) × Nat × FX
def GG : List Cond := lw_tbl.filter goodWord
theorem gg_tbl : ∀ w ∈ GG, w ∈ lw_tbl := fun w h => (List.mem_filter.mp h).1
theorem gg_good : ∀ w ∈ GG, goodWord w = true := fun w h => (List.mem_filter.mp h).2
theorem gg_mk {w : Cond} (h : w ∈ tables_1) (g : goodWord w = true) : w ∈ GG := List.mem_filter.mpr ⟨List.mem_append_right _ h, g⟩
theorem gg_1 {w : Cond} (h : w ∈ tables_1_1) (g : goodWord w = true) : w ∈ GG := gg_mk (List.mem_append_left _ h) g
theorem gg_2 {w : Cond} (h : w ∈ tables_1_2) (g : goodWord w = true) : w ∈ GG := gg_mk (List.mem_append_right _ (List.mem_append_left _ h)) g
theorem gg_3 {w : Cond} (h : w ∈ tables_1_3) (g : goodWord w = true) : w ∈ GG := gg_mk (List.mem_append_right _ (List.mem_append_right _ (List.mem_append_left _ h))) g
theorem gg_4 {w : Cond} (h : w ∈ tables_1_4) (g : goodWord w = true) : w ∈ GG := gg_mk (List.mem_append_right _ (List.mem_append_right _ (List.mem_append_right _ (List.mem_append_left _ h)))) g
theorem gg_5 {w : Cond} (h : w ∈ tables_1_5) (g : goodWord w = true) : w ∈ GG := gg_mk (List.mem_append_right _ (List.mem_append_right _ (List.mem_append_right _ (List.mem_append_right _ (List.mem_append_left _ h))))) g
theorem gg_6 {w : Cond} (h : w ∈ tables_1_6) (g : goodWord w = true) : w ∈ GG := gg_mk (List.mem_append_right _ (List.mem_append_right _ (List.mem_append_right _ (List.mem_append_right _ (List.mem_append_right _ (List.mem_append_left _ h)))))) g
theorem gg_7 {w : Cond} (h : w ∈ tables_1_7) (g : goodWord w = true) : w ∈ GG := gg_mk (List.mem_append_right _ (List.mem_append_right _ (List.mem_append_right _ (List.mem_append_right _ (List.mem_append_right _ (List.mem_append_right _ (List.mem_append_left _ h))))))) g
theorem gg_8 {w : Cond} (h : w ∈ tables_1_8) (g : goodWord w = true) : w ∈ GG := gg_mk (List.mem_append_right _ (List.mem_append_right _ (List.mem_append_right _ (List.mem_append_right _ (List.mem_append_right _ (List.mem_append_right _ (List.mem_append_right _ h))))))) g
theorem gg_s {q : MethodName × Nat} (h : q ∈ lw_privs) : Cond.selects q.1.cls q.1 q.1 ∈ GG := List.mem_filter.mpr ⟨List.mem_append_left _ (List.mem_map.mpr ⟨q, h, rfl⟩), rfl⟩
theorem gg_ps (ws : List Cond) (ps : List Nat) (hp : ws = ps.filterMap (fun i => lw_tbl[i]?)) (h : ws.all goodWord = true) : ∀ w ∈ ws, w ∈ GG := by
  intro w hw
  have h1 := List.all_eq_true.mp h w hw
  rw [hp] at hw
  obtain ⟨i, -, hi⟩ := List.mem_filterMap.mp hw
  exact List.mem_filter.mpr ⟨List.mem_of_getElem? hi, h1⟩
theorem gg_in {w : Cond} (h : w ∈ GG) : GoodIn GG (w :: GG) := by
  intro x hx
  rcases List.mem_cons.mp hx with rfl | hx
  · exact ⟨h, good_of_word (gg_good _ h)⟩
  · exact ⟨hx, good_of_word (gg_good _ hx)⟩
def gw (V : WV) (σ : Mem) : va_W := (List.range V.2.2.2.2.1).map (fun k => (V.2.2.2.1 k, V.2.2.1 k (σ k)))
theorem gw_get {V : WV} {σ : Mem} {k : Nat} (h : k < V.2.2.2.2.1) : (gw V σ)[k]? = some (V.2.2.2.1 k, V.2.2.1 k (σ k)) := by
  simp [gw, List.getElem?_map, List.getElem?_range h]
theorem gw_len {V : WV} {σ : Mem} : (gw V σ).length = V.2.2.2.2.1 := by simp [gw]
theorem gw_set {V : WV} {σ : Mem} {k : Nat} {r : Nat → Int32} (h : k < V.2.2.2.2.1) : (gw V σ).set k (V.2.2.2.1 k, V.2.2.1 k r) = gw V (va_up σ k r) := by
  apply List.ext_getElem?
  intro j
  by_cases hj : j = k
  · subst hj
    rw [List.getElem?_set_self (by rw [gw_len]; exact h), gw_get h, va_up_self]
  · rw [List.getElem?_set_ne (Ne.symm hj)]
    by_cases hl : j < V.2.2.2.2.1
    · rw [gw_get hl, gw_get hl, va_up_ne _ _ hj]
    · rw [List.getElem?_eq_none (by rw [gw_len]; omega), List.getElem?_eq_none (by rw [gw_len]; omega)]
/-- the method that runs: its code, its locals, its class, the words, what it returns -/
def CX (p : Program) (s : State) (m : MethodId) (meth : Method) (c : Code) (args : Array Value) (cc : ByteArray) (nL : Nat) (own : String) (ret : Option FieldType) : Prop :=
  p.tables.exec = Jvm.exec ∧ c.code = cc ∧ c.maxLocals = nL ∧ s.vm.findClass own = some m.cls ∧ (∀ w ∈ GG, w.before args s = true) ∧ meth.sig.returnType = ret ∧ meth.locks = false
/-- the world of σ stands in H -/
def WI (V : WV) (A : Nat → Prop) (s : State) (H : Heap) (locs : List Loc) (σ : Mem) : Prop :=
  va_K V.1 vwCl V.2.1 s ∧ va_P V.1 vwCl (gw V σ) H ∧ va_D A (gw V σ) ∧ va_S A s.heap H locs ∧ (∀ q, s.heap.size ≤ q → A q) ∧ FOK V.2.2.2.2.2 ∧ V.2.2.2.2.2 A s s.heap
def WT (V : WV) (A : Nat → Prop) (σ : Mem) (t : State) : Prop := va_P V.1 vwCl (gw V σ) t.heap ∧ va_K V.1 vwCl V.2.1 t ∧ va_D A (gw V σ)
def AW (V : WV) (sz : Nat) : Nat → Prop := fun q => (∃ k, k < V.2.2.2.2.1 ∧ q = V.2.2.2.1 k) ∨ sz ≤ q
def PC (V : WV) (av : List Value) (sz : Nat) (σ : Mem) : Array Value → State → Prop := va_Pc av (fun U => U.heap.size = sz ∧ WT V (fun _ => True) σ U ∧ FOK V.2.2.2.2.2 ∧ V.2.2.2.2.2 (AW V sz) U U.heap)
def QI (V : WV) (A : Nat → Prop) (r : Int32 × Mem) : Array Value → State → Outcome → State → Prop := va_Qi (fun x (_ : Unit) => x = r.1) (fun _ t => WT V A r.2 t) A
def QV (V : WV) (A : Nat → Prop) (r : Mem) : Array Value → State → Outcome → State → Prop := va_Qv (fun (_ : Unit) => True) (fun _ t => WT V A r t) A
def CI (l : Launch) (V : WV) (y : MethodName) (ws : List Cond) (rm : Room) (av : List Value) (σ : Mem) (r : Int32 × Mem) : Prop :=
  ∀ sz : Nat, Met l y ws rm (PC V av sz σ) (QI V (AW V sz) r) 0 0 (AW V sz)
def CV (l : Launch) (V : WV) (y : MethodName) (ws : List Cond) (rm : Room) (av : List Value) (σ : Mem) (r : Mem) : Prop :=
  ∀ sz : Nat, Met l y ws rm (PC V av sz σ) (QV V (AW V sz) r) 0 0 (AW V sz)
theorem WI.free {V : WV} {A : Nat → Prop} {s : State} {H : Heap} {locs : List Loc} {σ : Mem} (I : WI V A s H locs σ) : ∀ q, AW V H.size q → A q := by
  intro q h
  rcases h with ⟨k, hk, rfl⟩ | h
  · exact I.2.2.1.2 k _ (gw_get hk)
  · exact I.2.2.2.2.1 q (Nat.le_trans I.2.2.2.1.1 h)
theorem AW.dom {V : WV} {sz : Nat} {σ : Mem} {B : Nat → Prop} (h : va_D B (gw V σ)) : va_D (AW V sz) (gw V σ) := by
  refine ⟨h.1, fun k q hk => ?_⟩
  have hl : k < V.2.2.2.2.1 := by
    have := (List.getElem?_eq_some_iff.mp hk).1
    rwa [gw_len] at this
  rw [gw_get hl] at hk
  cases hk
  exact Or.inl ⟨k, hl, rfl⟩
theorem WT.blind {V : WV} {σ : Mem} {av : List Value} {sz : Nat} : FrameBlind (PC V av sz σ) := by
  intro a U g mk q
  obtain ⟨q0, q1, ⟨qP, qK, qD⟩, qo, qF⟩ := q
  exact ⟨q0, q1, ⟨qP, va_K.moved (u := U) (U := U.calling g mk a) (Vm.Alike.refl U.vm) qK, qD⟩, qo, qo.1 _ U (U.calling g mk a) _ rfl qF⟩
theorem WI.facts {V : WV} {A : Nat → Prop} {s U : State} {H : Heap} {locs : List Loc} {σ : Mem} (I : WI V A s H locs σ) (hU : U.heap = H) (hW : s.WarmedH U.vm) : V.2.2.2.2.2 (AW V H.size) U U.heap := by
  have h1 := I.2.2.2.2.2.1.2.2.1 A s s.heap H I.2.2.2.1.2.1 I.2.2.2.2.2.2
  have h2 := I.2.2.2.2.2.1.2.2.2 A (AW V H.size) s H I.free h1
  rw [hU]
  exact I.2.2.2.2.2.1.2.1 _ s U H hW h2
theorem WI.pre {V : WV} {A : Nat → Prop} {s U : State} {H : Heap} {locs : List Loc} {σ : Mem} {av : List Value} (I : WI V A s H locs σ) (hU : U.heap = H) (hW : s.WarmedH U.vm) : PC V av H.size σ av.toArray U :=
  ⟨rfl, by rw [hU], ⟨by rw [hU]; exact I.2.1, va_K.moved hW.alike I.1, I.2.2.1.weaken (fun _ _ _ _ => trivial)⟩, I.2.2.2.2.2.1, I.facts hU hW⟩
section ROWS
variable {p : Program} {l : Launch} {e : Env} {R : Room} {s : State} {m : MethodId} {args : Array Value} {below : List Frame} {meth : Method} {c : Code} {H : Heap} {locs : List Loc} {cells slots : Nat} {Q : State → Prop} {cc : ByteArray} {pc : Nat} {ls : Array Slot} {rest : List Value} {nL : Nat} {own : String} {A : Nat → Prop} {σ : Mem} {V : WV} {ret : Option FieldType}
theorem r_get (X : CX p s m meth c args cc nL own ret) (I : WI V A s H locs σ) {k : Nat} (hk : k < V.2.2.2.2.1) {ci : Nat} {fs : List Value} (hc : V.2.2.1 k (σ k) = .inr (ci, fs)) {C : String} {T : u_T} {N : Nat} (hcl : vwCl[ci]? = some (C, T, N)) (hin : ∀ w ∈ u_ws C T N, w ∈ GG) (j : Nat) (hj : j < N) {idx : Nat} (hw : Cond.fieldLink own idx (T j).1 (T j).2.1 (T j).2.2.1 ∈ GG) {v : Value} (hv : fs[j]? = some v) (d : decode cc pc = .ok (.getfield idx, 3))
    (kk : W p l e R s m args below meth c H locs cells slots Q (F0 m (pc + 3) ls (v :: rest))) : W p l e R s m args below meth c H locs cells slots Q (F0 m pc ls (.ref (V.2.2.2.1 k) :: rest)) :=
  va_get (D := V.1) (cl := vwCl) (tys := V.2.1) X.1 X.2.1 X.2.2.2.2.1 hin X.2.2.2.1 I.1 I.2.1 k (by rw [gw_get hk, hc]) hcl j hj (X.2.2.2.2.1 _ hw) (fun _ h => h) hv d kk
theorem r_put (X : CX p s m meth c args cc nL own ret) (I : WI V A s H locs σ) {k : Nat} (hk : k < V.2.2.2.2.1) {ci : Nat} {fs : List Value} (hc : V.2.2.1 k (σ k) = .inr (ci, fs)) {C : String} {T : u_T} {N : Nat} (hcl : vwCl[ci]? = some (C, T, N)) (hin : ∀ w ∈ u_ws C T N, w ∈ GG) (ty0 : Nat → FieldType) (hty : ∀ k, k < N → parseFieldDescriptor (T k).2.2.1 = some (ty0 k)) (hnm : ∀ a, a < N → ∀ b, b < N → a ≠ b → (T a).2.1 ≠ (T b).2.1) (j : Nat) (hj : j < N) {idx : Nat} (hw : Cond.fieldLink own idx (T j).1 (T j).2.1 (T j).2.2.1 ∈ GG) (hfin : (T j).2.2.2 = false) {x : Int32} (hn : narrow (ty0 j) (.int x) = .int x) (hfit : fits (ty0 j) (.int x) = true) (hl : j < fs.length)
    (hset : V.2.2.1 k (upd (σ k) j x) = .inr (ci, fs.set j (.int x))) (d : decode cc pc = .ok (.putfield idx, 3))
    (kk : ∀ (H1 : Heap) (locs1 : List Loc), WI V A s H1 locs1 (va_up σ k (upd (σ k) j x)) → W p l e R s m args below meth c H1 locs1 cells slots Q (F0 m (pc + 3) ls rest)) : W p l e R s m args below meth c H locs cells slots Q (F0 m pc ls (.int x :: .ref (V.2.2.2.1 k) :: rest)) := by
  refine va_put (D := V.1) (cl := vwCl) (tys := V.2.1) (ty := ty0 j) X.1 X.2.1 X.2.2.2.2.1 hin ty0 hty hnm X.2.2.2.1 I.1 I.2.1 I.2.2.1 I.2.2.2.1 k (fs := fs) (by rw [gw_get hk, hc]) hcl j hj (X.2.2.2.2.1 _ hw) (fun _ h => h) hfin (hty j hj) hn hfit hl d (fun H1 locs1 hP hD hS => ?_)
  rw [← hset, gw_set hk] at hP hD
  exact kk H1 locs1 ⟨I.1, hP, hD, hS, I.2.2.2.2⟩
theorem r_iald (X : CX p s m meth c args cc nL own ret) (I : WI V A s H locs σ) {k n t0 : Nat} (hk : k < V.2.2.2.2.1) {cA : ClassId} (ht : V.2.1[t0]? = some (cA, .int)) (hc : V.2.2.1 k (σ k) = .inl (cA, n, .inl (σ k))) {i : Int32} (hin : vp_in i n) (d : decode cc pc = .ok (.iaload, 1))
    (kk : W p l e R s m args below meth c H locs cells slots Q (F0 m (pc + 1) ls (.int (σ k i.toNatClampNeg) :: rest))) : W p l e R s m args below meth c H locs cells slots Q (F0 m pc ls (.int i :: .ref (V.2.2.2.1 k) :: rest)) :=
  va_iald (D := V.1) (cl := vwCl) (tys := V.2.1) X.1 X.2.1 I.1 I.2.1 k t0 (by rw [gw_get hk, hc]) ht hin d kk
theorem r_iast (X : CX p s m meth c args cc nL own ret) (I : WI V A s H locs σ) {k n t0 : Nat} (hk : k < V.2.2.2.2.1) {cA : ClassId} (ht : V.2.1[t0]? = some (cA, .int)) (hc : ∀ r, V.2.2.1 k r = .inl (cA, n, .inl r)) {i x : Int32} (hin : vp_in i n) (d : decode cc pc = .ok (.iastore, 1))
    (kk : ∀ (H1 : Heap) (locs1 : List Loc), WI V A s H1 locs1 (va_up σ k (upd (σ k) i.toNatClampNeg x)) → W p l e R s m args below meth c H1 locs1 cells slots Q (F0 m (pc + 1) ls rest)) : W p l e R s m args below meth c H locs cells slots Q (F0 m pc ls (.int x :: .int i :: .ref (V.2.2.2.1 k) :: rest)) := by
  refine va_iast (D := V.1) (cl := vwCl) (tys := V.2.1) X.1 X.2.1 I.1 I.2.1 I.2.2.1 I.2.2.2.1 k t0 (by rw [gw_get hk, hc]) ht hin d (fun H1 locs1 hP hD hS => ?_)
  rw [← hc, gw_set hk] at hP hD
  exact kk H1 locs1 ⟨I.1, hP, hD, hS, I.2.2.2.2⟩
theorem r_bald (X : CX p s m meth c args cc nL own ret) (I : WI V A s H locs σ) {k n t0 : Nat} (hk : k < V.2.2.2.2.1) {cA : ClassId} (ht : V.2.1[t0]? = some (cA, .byte)) (hc : V.2.2.1 k (σ k) = .inl (cA, n, .inl (σ k))) {i : Int32} (hin : vp_in i n) (d : decode cc pc = .ok (.baload, 1))
    (kk : W p l e R s m args below meth c H locs cells slots Q (F0 m (pc + 1) ls (.int (σ k i.toNatClampNeg) :: rest))) : W p l e R s m args below meth c H locs cells slots Q (F0 m pc ls (.int i :: .ref (V.2.2.2.1 k) :: rest)) :=
  va_bald (D := V.1) (cl := vwCl) (tys := V.2.1) X.1 X.2.1 I.1 I.2.1 k t0 (by rw [gw_get hk, hc]) ht hin d kk
theorem r_bast (X : CX p s m meth c args cc nL own ret) (I : WI V A s H locs σ) {k n t0 : Nat} (hk : k < V.2.2.2.2.1) {cA : ClassId} (ht : V.2.1[t0]? = some (cA, .byte)) (hc : ∀ r, V.2.2.1 k r = .inl (cA, n, .inl r)) {i x : Int32} (hin : vp_in i n) (d : decode cc pc = .ok (.bastore, 1))
    (kk : ∀ (H1 : Heap) (locs1 : List Loc), WI V A s H1 locs1 (va_up σ k (upd (σ k) i.toNatClampNeg x.toInt8.toInt32)) → W p l e R s m args below meth c H1 locs1 cells slots Q (F0 m (pc + 1) ls rest)) : W p l e R s m args below meth c H locs cells slots Q (F0 m pc ls (.int x :: .int i :: .ref (V.2.2.2.1 k) :: rest)) := by
  refine va_bast (D := V.1) (cl := vwCl) (tys := V.2.1) X.1 X.2.1 I.1 I.2.1 I.2.2.1 I.2.2.2.1 k t0 (by rw [gw_get hk, hc]) ht hin d (fun H1 locs1 hP hD hS => ?_)
  rw [vp_nar_byte, ← hc, gw_set hk] at hP hD
  exact kk H1 locs1 ⟨I.1, hP, hD, hS, I.2.2.2.2⟩
theorem r_alen (X : CX p s m meth c args cc nL own ret) (I : WI V A s H locs σ) {k n t0 : Nat} (hk : k < V.2.2.2.2.1) {cA : ClassId} {ty : FieldType} (ht : V.2.1[t0]? = some (cA, ty)) (hc : V.2.2.1 k (σ k) = .inl (cA, n, .inl (σ k))) {v : Int32} (hv : Int32.ofNat n = v) (d : decode cc pc = .ok (.arraylength, 1))
    (kk : W p l e R s m args below meth c H locs cells slots Q (F0 m (pc + 1) ls (.int v :: rest))) : W p l e R s m args below meth c H locs cells slots Q (F0 m pc ls (.ref (V.2.2.2.1 k) :: rest)) :=
  va_alen (D := V.1) (cl := vwCl) (tys := V.2.1) X.1 X.2.1 I.1 I.2.1 k t0 (by rw [gw_get hk, hc]) ht hv d kk
/-- answers -/
theorem r_iret (X : CX p s m meth c args cc nL own (some .int)) {σ1 : Mem} {v : Int32} (I : WI V A s H locs σ1) {r : Int32 × Mem} (h : r = (v, σ1)) (d : decode cc pc = .ok (.ireturn, 1)) : W p l e R s m args below meth c H locs 0 0 (MQ below (QI V A r) args s 0 0 A) (F0 m pc ls [.int v]) := by
  subst h
  exact W.iret (v := v) X.1 X.2.1 X.2.2.2.2.2.1 (fun t ht hW => ⟨⟨v, (), rfl, rfl, by rw [ht]; exact I.2.1, va_K.moved hW.alike I.1, I.2.2.1⟩, I.2.2.2.1.F ht⟩) I.2.2.2.1.2.2 d X.2.2.2.2.2.2
theorem r_zret (X : CX p s m meth c args cc nL own (some .boolean)) {σ1 : Mem} {v : Int32} (I : WI V A s H locs σ1) {r : Int32 × Mem} (h : r = (v, σ1)) (hn : narrow .boolean (.int v) = .int v) (d : decode cc pc = .ok (.ireturn, 1)) : W p l e R s m args below meth c H locs 0 0 (MQ below (QI V A r) args s 0 0 A) (F0 m pc ls [.int v]) := by
  subst h
  exact W.zret (v := v) X.1 X.2.1 X.2.2.2.2.2.1 hn (fun t ht hW => ⟨⟨v, (), rfl, rfl, by rw [ht]; exact I.2.1, va_K.moved hW.alike I.1, I.2.2.1⟩, I.2.2.2.1.F ht⟩) I.2.2.2.1.2.2 d X.2.2.2.2.2.2
theorem r_vret (X : CX p s m meth c args cc nL own none) {σ1 : Mem} (I : WI V A s H locs σ1) {r : Mem} (h : r = σ1) (d : decode cc pc = .ok (.return_, 1)) : W p l e R s m args below meth c H locs 0 0 (MQ below (QV V A r) args s 0 0 A) (F0 m pc ls []) := by
  subst h
  exact W.vret X.1 X.2.1 X.2.2.2.2.2.1 (fun t ht hW => ⟨⟨(), rfl, trivial, by rw [ht]; exact I.2.1, va_K.moved hW.alike I.1, I.2.2.1⟩, I.2.2.2.1.F ht⟩) I.2.2.2.1.2.2 d X.2.2.2.2.2.2
/-- calls: the callee's words, found in GG -/
def YV (y : MethodName) (bytes : ByteArray) (maxL : Nat) (ty : Option FieldType) (n : Nat) : Prop :=
  Cond.code y bytes maxL ty ∈ GG ∧ Cond.initialized y.cls ∈ GG ∧ Cond.instanceMethod y ∈ GG ∧ Cond.selects y.cls y y ∈ GG ∧ y.cls ≠ "java/lang/invoke/MethodHandle" ∧ y.cls ≠ "java/lang/invoke/VarHandle" ∧ (parseMethodDescriptor y.desc).map (fun d => d.parameters.length) = some n
def YS (y : MethodName) (bytes : ByteArray) (maxL : Nat) (ty : Option FieldType) (n : Nat) : Prop :=
  Cond.code y bytes maxL ty ∈ GG ∧ Cond.initialized y.cls ∈ GG ∧ Cond.static y ∈ GG ∧ y.cls ≠ "java/lang/invoke/MethodHandle" ∧ y.cls ≠ "java/lang/invoke/VarHandle" ∧ (parseMethodDescriptor y.desc).map (fun d => d.parameters.length) = some n
variable {y : MethodName} {bytes : ByteArray} {maxL n : Nat} {ty : Option FieldType} {rm : Room} {As : List Value} {st0 : List Value} {lvs : List (Nat × Value)} {idx : Nat}
theorem r_callVI (X : CX p s m meth c args cc nL own ret) (I : WI V A s H locs σ) (hl : lv_has ls nL lvs) {k : Nat} {r : Int32 × Mem} (hM : CI l V y (.code y bytes maxL ty :: GG) rm (.ref (V.2.2.2.1 k) :: As) σ r) (hy : YV y bytes maxL ty n) (hw : Cond.methodLink own idx y ∈ GG) (hrm : rm.cells = 0 ∧ rm.slots = 0 ∧ rm.frames + 1 ≤ R.frames ∧ 8 + (maxL + 11) + rm.locals ≤ R.locals) (hk : k < V.2.2.2.2.1) {ci : Nat} {fs : List Value} {T : u_T} {N : Nat} (hc : V.2.2.1 k (σ k) = .inr (ci, fs)) (hcl : vwCl[ci]? = some (y.cls, T, N)) (hn : As.length = n) (hst : st0 = As.reverse ++ .ref (V.2.2.2.1 k) :: rest) (hrest : (rest.map fun v => v.category).sum ≤ 8) (d : decode cc pc = .ok (.invokevirtual idx, 3))
    (kk : ∀ (H1 : Heap) (locs1 : List Loc), WI V A s H1 locs1 r.2 → W p l e R s m args below meth c H1 locs1 0 0 Q (F0 m (pc + 3) ls (.int r.1 :: rest))) : W p l e R s m args below meth c H locs 0 0 Q (F0 m pc ls st0) := by
  have hts := X.2.2.2.2.1
  refine va_calli (va_runV (As := As) (rest := rest) (C := y.cls) (b := V.2.2.2.1 k) ⟨X.1, X.2.1, X.2.2.1, X.2.2.2.1, hts⟩ (hM H.size) ⟨callB_of n hts (gg_in hy.1) rfl hrm.1 hrm.2.1 (hts _ hy.2.1) (hts _ hw) hy.2.2.2.2 hrm.2.2, hts _ hy.2.2.1, hts _ hy.2.2.2.1⟩ ⟨WT.blind, va_recv (q := (y.cls, T, N)) I.1 I.2.1 hcl (by rw [gw_get hk, hc]), fun U hU hW => I.pre hU hW⟩ rfl hn hl.1 hst (lv_room hrest) d ⟨Nat.zero_le _, Nat.zero_le _⟩) I.2.2.2.1 (fun q _ h => I.free q h) I.free (fun v u t H1 locs1 ht hvm hw hB hz1 hk1 hS => ?_)
  obtain ⟨hP1, hK1, hD1⟩ := hB
  rw [ht] at hP1
  rw [hw]
  exact kk H1 locs1 ⟨I.1, hP1, hD1.weaken (fun _ _ _ h => I.free _ h), hS, I.2.2.2.2⟩
theorem r_callVV (X : CX p s m meth c args cc nL own ret) (I : WI V A s H locs σ) (hl : lv_has ls nL lvs) {k : Nat} {r : Mem} (hM : CV l V y (.code y bytes maxL ty :: GG) rm (.ref (V.2.2.2.1 k) :: As) σ r) (hy : YV y bytes maxL ty n) (hw : Cond.methodLink own idx y ∈ GG) (hrm : rm.cells = 0 ∧ rm.slots = 0 ∧ rm.frames + 1 ≤ R.frames ∧ 8 + (maxL + 11) + rm.locals ≤ R.locals) (hk : k < V.2.2.2.2.1) {ci : Nat} {fs : List Value} {T : u_T} {N : Nat} (hc : V.2.2.1 k (σ k) = .inr (ci, fs)) (hcl : vwCl[ci]? = some (y.cls, T, N)) (hn : As.length = n) (hst : st0 = As.reverse ++ .ref (V.2.2.2.1 k) :: rest) (hrest : (rest.map fun v => v.category).sum ≤ 8) (d : decode cc pc = .ok (.invokevirtual idx, 3))
    (kk : ∀ (H1 : Heap) (locs1 : List Loc), WI V A s H1 locs1 r → W p l e R s m args below meth c H1 locs1 0 0 Q (F0 m (pc + 3) ls rest)) : W p l e R s m args below meth c H locs 0 0 Q (F0 m pc ls st0) := by
  have hts := X.2.2.2.2.1
  refine va_callv (va_runV (As := As) (rest := rest) (C := y.cls) (b := V.2.2.2.1 k) ⟨X.1, X.2.1, X.2.2.1, X.2.2.2.1, hts⟩ (hM H.size) ⟨callB_of n hts (gg_in hy.1) rfl hrm.1 hrm.2.1 (hts _ hy.2.1) (hts _ hw) hy.2.2.2.2 hrm.2.2, hts _ hy.2.2.1, hts _ hy.2.2.2.1⟩ ⟨WT.blind, va_recv (q := (y.cls, T, N)) I.1 I.2.1 hcl (by rw [gw_get hk, hc]), fun U hU hW => I.pre hU hW⟩ rfl hn hl.1 hst (lv_room hrest) d ⟨Nat.zero_le _, Nat.zero_le _⟩) I.2.2.2.1 (fun q _ h => I.free q h) I.free (fun u t H1 locs1 ht hvm hw hB hz1 hk1 hS => ?_)
  obtain ⟨hP1, hK1, hD1⟩ := hB
  rw [ht] at hP1
  exact kk H1 locs1 ⟨I.1, hP1, hD1.weaken (fun _ _ _ h => I.free _ h), hS, I.2.2.2.2⟩
theorem r_callSI (X : CX p s m meth c args cc nL own ret) (I : WI V A s H locs σ) (hl : lv_has ls nL lvs) {r : Int32 × Mem} (hM : CI l V y (.code y bytes maxL ty :: GG) rm As σ r) (hy : YS y bytes maxL ty n) (hw : Cond.methodLink own idx y ∈ GG) (hrm : rm.cells = 0 ∧ rm.slots = 0 ∧ rm.frames + 1 ≤ R.frames ∧ 8 + (maxL + 11) + rm.locals ≤ R.locals) (hn : As.length = n) (hst : st0 = As.reverse ++ rest) (hrest : (rest.map fun v => v.category).sum ≤ 8) (d : decode cc pc = .ok (.invokestatic idx, 3))
    (kk : ∀ (H1 : Heap) (locs1 : List Loc), WI V A s H1 locs1 r.2 → W p l e R s m args below meth c H1 locs1 0 0 Q (F0 m (pc + 3) ls (.int r.1 :: rest))) : W p l e R s m args below meth c H locs 0 0 Q (F0 m pc ls st0) := by
  have hts := X.2.2.2.2.1
  refine va_calli (va_runS (As := As) (rest := rest) ⟨X.1, X.2.1, X.2.2.1, X.2.2.2.1, hts⟩ (hM H.size) ⟨callB_of n hts (gg_in hy.1) rfl hrm.1 hrm.2.1 (hts _ hy.2.1) (hts _ hw) hy.2.2.2 hrm.2.2, hts _ hy.2.2.1⟩ ⟨WT.blind, fun U hU hW => I.pre hU hW⟩ rfl hn hl.1 hst (lv_room hrest) d ⟨Nat.zero_le _, Nat.zero_le _⟩) I.2.2.2.1 (fun q _ h => I.free q h) I.free (fun v u t H1 locs1 ht hvm hw hB hz1 hk1 hS => ?_)
  obtain ⟨hP1, hK1, hD1⟩ := hB
  rw [ht] at hP1
  rw [hw]
  exact kk H1 locs1 ⟨I.1, hP1, hD1.weaken (fun _ _ _ h => I.free _ h), hS, I.2.2.2.2⟩
theorem r_callSV (X : CX p s m meth c args cc nL own ret) (I : WI V A s H locs σ) (hl : lv_has ls nL lvs) {r : Mem} (hM : CV l V y (.code y bytes maxL ty :: GG) rm As σ r) (hy : YS y bytes maxL ty n) (hw : Cond.methodLink own idx y ∈ GG) (hrm : rm.cells = 0 ∧ rm.slots = 0 ∧ rm.frames + 1 ≤ R.frames ∧ 8 + (maxL + 11) + rm.locals ≤ R.locals) (hn : As.length = n) (hst : st0 = As.reverse ++ rest) (hrest : (rest.map fun v => v.category).sum ≤ 8) (d : decode cc pc = .ok (.invokestatic idx, 3))
    (kk : ∀ (H1 : Heap) (locs1 : List Loc), WI V A s H1 locs1 r → W p l e R s m args below meth c H1 locs1 0 0 Q (F0 m (pc + 3) ls rest)) : W p l e R s m args below meth c H locs 0 0 Q (F0 m pc ls st0) := by
  have hts := X.2.2.2.2.1
  refine va_callv (va_runS (As := As) (rest := rest) ⟨X.1, X.2.1, X.2.2.1, X.2.2.2.1, hts⟩ (hM H.size) ⟨callB_of n hts (gg_in hy.1) rfl hrm.1 hrm.2.1 (hts _ hy.2.1) (hts _ hw) hy.2.2.2 hrm.2.2, hts _ hy.2.2.1⟩ ⟨WT.blind, fun U hU hW => I.pre hU hW⟩ rfl hn hl.1 hst (lv_room hrest) d ⟨Nat.zero_le _, Nat.zero_le _⟩) I.2.2.2.1 (fun q _ h => I.free q h) I.free (fun u t H1 locs1 ht hvm hw hB hz1 hk1 hS => ?_)
  obtain ⟨hP1, hK1, hD1⟩ := hB
  rw [ht] at hP1
  exact kk H1 locs1 ⟨I.1, hP1, hD1.weaken (fun _ _ _ h => I.free _ h), hS, I.2.2.2.2⟩
end ROWS
/-- contracts out of walks -/
theorem mk_CI {l : Launch} {V : WV} {y : MethodName} {cc : ByteArray} {nL : Nat} {ret : Option FieldType} {rm : Room} {av : List Value} {σ : Mem} {r : Int32 × Mem} (hy : plainName y.cls = true) (hlen : (lg_sl av).length ≤ nL)
    (body : ∀ (p : Program) (e : Env) (s : State) (m : MethodId) (args : Array Value) (below : List Frame) (meth : Method) (c : Code) (A : Nat → Prop) (ls : Array Slot), CX p s m meth c args cc nL y.cls ret → WI V A s s.heap [] σ → lv_has ls nL (lv_args 0 av) → W p l e rm s m args below meth c s.heap [] 0 0 (MQ below (QI V A r) args s 0 0 A) (F0 m 0 ls [])) :
    CI l V y (.code y cc nL ret :: GG) rm av σ r := by
  intro sz
  refine Met.ofW (cc := cc) (maxL := nL) (ret := ret) hy rfl ?_
  intro p e s m args below meth c s₁ B hml hv
  obtain ⟨rfl, hsz, ⟨hP, hK, hD0⟩, hok, hF⟩ := hv
  have hts := atoms_spec (ws := .code y cc nL ret :: GG) B.pre
  subst hsz
  rw [lg_entry_eq]
  exact body p e s m _ below meth c (AW V s.heap.size) _ ⟨B.exec, B.bytes, hml, findClass_of_methodNamed B.named, fun w h => hts w (List.mem_cons_of_mem _ h), B.returns, B.notSynchronized⟩ ⟨hK, hP, AW.dom hD0, va_S.rf, fun q h => Or.inr h, hok, hF⟩ (lv_entry av hlen)
theorem mk_CV {l : Launch} {V : WV} {y : MethodName} {cc : ByteArray} {nL : Nat} {ret : Option FieldType} {rm : Room} {av : List Value} {σ : Mem} {r : Mem} (hy : plainName y.cls = true) (hlen : (lg_sl av).length ≤ nL)
    (body : ∀ (p : Program) (e : Env) (s : State) (m : MethodId) (args : Array Value) (below : List Frame) (meth : Method) (c : Code) (A : Nat → Prop) (ls : Array Slot), CX p s m meth c args cc nL y.cls ret → WI V A s s.heap [] σ → lv_has ls nL (lv_args 0 av) → W p l e rm s m args below meth c s.heap [] 0 0 (MQ below (QV V A r) args s 0 0 A) (F0 m 0 ls [])) :
    CV l V y (.code y cc nL ret :: GG) rm av σ r := by
  intro sz
  refine Met.ofW (cc := cc) (maxL := nL) (ret := ret) hy rfl ?_
  intro p e s m args below meth c s₁ B hml hv
  obtain ⟨rfl, hsz, ⟨hP, hK, hD0⟩, hok, hF⟩ := hv
  have hts := atoms_spec (ws := .code y cc nL ret :: GG) B.pre
  subst hsz
  rw [lg_entry_eq]
  exact body p e s m _ below meth c (AW V s.heap.size) _ ⟨B.exec, B.bytes, hml, findClass_of_methodNamed B.named, fun w h => hts w (List.mem_cons_of_mem _ h), B.returns, B.notSynchronized⟩ ⟨hK, hP, AW.dom hD0, va_S.rf, fun q h => Or.inr h, hok, hF⟩ (lv_entry av hlen)
/-- guards of the models, and their parting in walks -/
def gd {α : Type} (i : Int32) (n : Nat) (x : Option α) : Option α := if i < 0 ∨ n ≤ i.toNatClampNeg then none else x
theorem gd_some {α : Type} {i : Int32} {n : Nat} {x : Option α} {r : α} (h : gd i n x = some r) : vp_in i n ∧ x = some r := by
  unfold gd at h
  by_cases hi : i < 0 ∨ n ≤ i.toNatClampNeg
  · rw [if_pos hi] at h; cases h
  · rw [if_neg hi] at h; exact ⟨hi, h⟩
def gnz {α : Type} (i : Int32) (x : Option α) : Option α := if i = 0 then none else x
theorem gnz_some {α : Type} {i : Int32} {x : Option α} {r : α} (h : gnz i x = some r) : ¬ i = 0 ∧ x = some r := by
  unfold gnz at h
  by_cases hi : i = 0
  · rw [if_pos hi] at h; cases h
  · rw [if_neg hi] at h; exact ⟨hi, h⟩
def gz {α : Type} (i : Int32) (x : Option α) : Option α := if i = 0 ∨ i = 1 then x else none
theorem gz_some {α : Type} {i : Int32} {x : Option α} {r : α} (h : gz i x = some r) : (narrow .boolean (.int i) = .int i ∧ fits .boolean (.int i) = true) ∧ x = some r := by
  unfold gz at h
  by_cases hi : i = 0 ∨ i = 1
  · rw [if_pos hi] at h
    refine ⟨?_, h⟩
    rcases hi with rfl | rfl <;> exact ⟨by decide +kernel, by decide +kernel⟩
  · rw [if_neg hi] at h; cases h
theorem ite_t {α : Type} {P : Prop} {inst : Decidable P} {x y z : α} (h : (@ite α P inst x y) = z) (c : P) : x = z := by rw [if_pos c] at h; exact h
theorem ite_f {α : Type} {P : Prop} {inst : Decidable P} {x y z : α} (h : (@ite α P inst x y) = z) (c : ¬ P) : y = z := by rw [if_neg c] at h; exact h
theorem bd {α β : Type} {x : Option α} {f : α → Option β} {r : β} (h : x.bind f = some r) : ∃ a, x = some a ∧ f a = some r := by
  cases x with
  | none => cases h
  | some a => exact ⟨a, rfl, h⟩
def KF : Nat := 4096

/-! throwing methods: contracts, rows with counters -/
section ROWSK
variable {p : Program} {l : Launch} {e : Env} {R : Room} {s : State} {m : MethodId} {args : Array Value} {below : List Frame} {meth : Method} {c : Code} {H : Heap} {locs : List Loc} {cells slots : Nat} {Q : State → Prop} {cc : ByteArray} {pc : Nat} {ls : Array Slot} {rest : List Value} {nL : Nat} {own : String} {A : Nat → Prop} {σ : Mem} {V : WV} {ret : Option FieldType}
variable {y : MethodName} {bytes : ByteArray} {maxL n : Nat} {ty : Option FieldType} {rm : Room} {As : List Value} {st0 : List Value} {lvs : List (Nat × Value)} {idx : Nat}
theorem r_callVIk (X : CX p s m meth c args cc nL own ret) (I : WI V A s H locs σ) (hl : lv_has ls nL lvs) {k : Nat} {r : Int32 × Mem} (hM : CI l V y (.code y bytes maxL ty :: GG) rm (.ref (V.2.2.2.1 k) :: As) σ r) (hy : YV y bytes maxL ty n) (hw : Cond.methodLink own idx y ∈ GG) (hrm : rm.cells = 0 ∧ rm.slots = 0 ∧ rm.frames + 1 ≤ R.frames ∧ 8 + (maxL + 11) + rm.locals ≤ R.locals) (hk : k < V.2.2.2.2.1) {ci : Nat} {fs : List Value} {T : u_T} {N : Nat} (hc : V.2.2.1 k (σ k) = .inr (ci, fs)) (hcl : vwCl[ci]? = some (y.cls, T, N)) (hn : As.length = n) (hst : st0 = As.reverse ++ .ref (V.2.2.2.1 k) :: rest) (hrest : (rest.map fun v => v.category).sum ≤ 8) (hcs : cells ≤ R.cells ∧ slots ≤ R.slots) (d : decode cc pc = .ok (.invokevirtual idx, 3))
    (kk : ∀ (H1 : Heap) (locs1 : List Loc), WI V A s H1 locs1 r.2 → W p l e R s m args below meth c H1 locs1 cells slots Q (F0 m (pc + 3) ls (.int r.1 :: rest))) : W p l e R s m args below meth c H locs cells slots Q (F0 m pc ls st0) := by
  have hts := X.2.2.2.2.1
  refine va_calli (va_runV (As := As) (rest := rest) (C := y.cls) (b := V.2.2.2.1 k) ⟨X.1, X.2.1, X.2.2.1, X.2.2.2.1, hts⟩ (hM H.size) ⟨callB_of n hts (gg_in hy.1) rfl hrm.1 hrm.2.1 (hts _ hy.2.1) (hts _ hw) hy.2.2.2.2 hrm.2.2, hts _ hy.2.2.1, hts _ hy.2.2.2.1⟩ ⟨WT.blind, va_recv (q := (y.cls, T, N)) I.1 I.2.1 hcl (by rw [gw_get hk, hc]), fun U hU hW => I.pre hU hW⟩ rfl hn hl.1 hst (lv_room hrest) d hcs) I.2.2.2.1 (fun q _ h => I.free q h) I.free (fun v u t H1 locs1 ht hvm hw hB hz1 hk1 hS => ?_)
  obtain ⟨hP1, hK1, hD1⟩ := hB
  rw [ht] at hP1
  rw [hw]
  exact kk H1 locs1 ⟨I.1, hP1, hD1.weaken (fun _ _ _ h => I.free _ h), hS, I.2.2.2.2⟩
theorem r_callVVk (X : CX p s m meth c args cc nL own ret) (I : WI V A s H locs σ) (hl : lv_has ls nL lvs) {k : Nat} {r : Mem} (hM : CV l V y (.code y bytes maxL ty :: GG) rm (.ref (V.2.2.2.1 k) :: As) σ r) (hy : YV y bytes maxL ty n) (hw : Cond.methodLink own idx y ∈ GG) (hrm : rm.cells = 0 ∧ rm.slots = 0 ∧ rm.frames + 1 ≤ R.frames ∧ 8 + (maxL + 11) + rm.locals ≤ R.locals) (hk : k < V.2.2.2.2.1) {ci : Nat} {fs : List Value} {T : u_T} {N : Nat} (hc : V.2.2.1 k (σ k) = .inr (ci, fs)) (hcl : vwCl[ci]? = some (y.cls, T, N)) (hn : As.length = n) (hst : st0 = As.reverse ++ .ref (V.2.2.2.1 k) :: rest) (hrest : (rest.map fun v => v.category).sum ≤ 8) (hcs : cells ≤ R.cells ∧ slots ≤ R.slots) (d : decode cc pc = .ok (.invokevirtual idx, 3))
    (kk : ∀ (H1 : Heap) (locs1 : List Loc), WI V A s H1 locs1 r → W p l e R s m args below meth c H1 locs1 cells slots Q (F0 m (pc + 3) ls rest)) : W p l e R s m args below meth c H locs cells slots Q (F0 m pc ls st0) := by
  have hts := X.2.2.2.2.1
  refine va_callv (va_runV (As := As) (rest := rest) (C := y.cls) (b := V.2.2.2.1 k) ⟨X.1, X.2.1, X.2.2.1, X.2.2.2.1, hts⟩ (hM H.size) ⟨callB_of n hts (gg_in hy.1) rfl hrm.1 hrm.2.1 (hts _ hy.2.1) (hts _ hw) hy.2.2.2.2 hrm.2.2, hts _ hy.2.2.1, hts _ hy.2.2.2.1⟩ ⟨WT.blind, va_recv (q := (y.cls, T, N)) I.1 I.2.1 hcl (by rw [gw_get hk, hc]), fun U hU hW => I.pre hU hW⟩ rfl hn hl.1 hst (lv_room hrest) d hcs) I.2.2.2.1 (fun q _ h => I.free q h) I.free (fun u t H1 locs1 ht hvm hw hB hz1 hk1 hS => ?_)
  obtain ⟨hP1, hK1, hD1⟩ := hB
  rw [ht] at hP1
  exact kk H1 locs1 ⟨I.1, hP1, hD1.weaken (fun _ _ _ h => I.free _ h), hS, I.2.2.2.2⟩
theorem r_callSIk (X : CX p s m meth c args cc nL own ret) (I : WI V A s H locs σ) (hl : lv_has ls nL lvs) {r : Int32 × Mem} (hM : CI l V y (.code y bytes maxL ty :: GG) rm As σ r) (hy : YS y bytes maxL ty n) (hw : Cond.methodLink own idx y ∈ GG) (hrm : rm.cells = 0 ∧ rm.slots = 0 ∧ rm.frames + 1 ≤ R.frames ∧ 8 + (maxL + 11) + rm.locals ≤ R.locals) (hn : As.length = n) (hst : st0 = As.reverse ++ rest) (hrest : (rest.map fun v => v.category).sum ≤ 8) (hcs : cells ≤ R.cells ∧ slots ≤ R.slots) (d : decode cc pc = .ok (.invokestatic idx, 3))
    (kk : ∀ (H1 : Heap) (locs1 : List Loc), WI V A s H1 locs1 r.2 → W p l e R s m args below meth c H1 locs1 cells slots Q (F0 m (pc + 3) ls (.int r.1 :: rest))) : W p l e R s m args below meth c H locs cells slots Q (F0 m pc ls st0) := by
  have hts := X.2.2.2.2.1
  refine va_calli (va_runS (As := As) (rest := rest) ⟨X.1, X.2.1, X.2.2.1, X.2.2.2.1, hts⟩ (hM H.size) ⟨callB_of n hts (gg_in hy.1) rfl hrm.1 hrm.2.1 (hts _ hy.2.1) (hts _ hw) hy.2.2.2 hrm.2.2, hts _ hy.2.2.1⟩ ⟨WT.blind, fun U hU hW => I.pre hU hW⟩ rfl hn hl.1 hst (lv_room hrest) d hcs) I.2.2.2.1 (fun q _ h => I.free q h) I.free (fun v u t H1 locs1 ht hvm hw hB hz1 hk1 hS => ?_)
  obtain ⟨hP1, hK1, hD1⟩ := hB
  rw [ht] at hP1
  rw [hw]
  exact kk H1 locs1 ⟨I.1, hP1, hD1.weaken (fun _ _ _ h => I.free _ h), hS, I.2.2.2.2⟩
theorem r_callSVk (X : CX p s m meth c args cc nL own ret) (I : WI V A s H locs σ) (hl : lv_has ls nL lvs) {r : Mem} (hM : CV l V y (.code y bytes maxL ty :: GG) rm As σ r) (hy : YS y bytes maxL ty n) (hw : Cond.methodLink own idx y ∈ GG) (hrm : rm.cells = 0 ∧ rm.slots = 0 ∧ rm.frames + 1 ≤ R.frames ∧ 8 + (maxL + 11) + rm.locals ≤ R.locals) (hn : As.length = n) (hst : st0 = As.reverse ++ rest) (hrest : (rest.map fun v => v.category).sum ≤ 8) (hcs : cells ≤ R.cells ∧ slots ≤ R.slots) (d : decode cc pc = .ok (.invokestatic idx, 3))
    (kk : ∀ (H1 : Heap) (locs1 : List Loc), WI V A s H1 locs1 r → W p l e R s m args below meth c H1 locs1 cells slots Q (F0 m (pc + 3) ls rest)) : W p l e R s m args below meth c H locs cells slots Q (F0 m pc ls st0) := by
  have hts := X.2.2.2.2.1
  refine va_callv (va_runS (As := As) (rest := rest) ⟨X.1, X.2.1, X.2.2.1, X.2.2.2.1, hts⟩ (hM H.size) ⟨callB_of n hts (gg_in hy.1) rfl hrm.1 hrm.2.1 (hts _ hy.2.1) (hts _ hw) hy.2.2.2 hrm.2.2, hts _ hy.2.2.1⟩ ⟨WT.blind, fun U hU hW => I.pre hU hW⟩ rfl hn hl.1 hst (lv_room hrest) d hcs) I.2.2.2.1 (fun q _ h => I.free q h) I.free (fun u t H1 locs1 ht hvm hw hB hz1 hk1 hS => ?_)
  obtain ⟨hP1, hK1, hD1⟩ := hB
  rw [ht] at hP1
  exact kk H1 locs1 ⟨I.1, hP1, hD1.weaken (fun _ _ _ h => I.free _ h), hS, I.2.2.2.2⟩
theorem r_maxk (X : CX p s m meth c args cc nL own ret) (hl : lv_has ls nL lvs) (hw : Cond.methodLink own idx Lib.Math.max.name ∈ GG) (hR : 1 ≤ R.frames ∧ (rest.map fun v => v.category).sum + 13 ≤ R.locals) (hcs : cells ≤ R.cells ∧ slots ≤ R.slots) {x y : Int32} (d : decode cc pc = .ok (.invokestatic idx, 3))
    (kk : W p l e R s m args below meth c H locs cells slots Q (F0 m (pc + 3) ls (.int (imax x y) :: rest))) : W p l e R s m args below meth c H locs cells slots Q (F0 m pc ls (.int y :: .int x :: rest)) :=
  va_mmax X.1 X.2.1 (X.2.2.1.trans hl.1.symm) X.2.2.2.1 (X.2.2.2.2.1 _ hw) (X.2.2.2.2.1 _ gm_st) (X.2.2.2.2.1 _ gm_in) (X.2.2.2.2.1 _ gm_cd) hR.1 hR.2 hcs.1 hcs.2 d kk
theorem r_mink (X : CX p s m meth c args cc nL own ret) (hl : lv_has ls nL lvs) (hw : Cond.methodLink own idx Lib.Math.min.name ∈ GG) (hR : 1 ≤ R.frames ∧ (rest.map fun v => v.category).sum + 13 ≤ R.locals) (hcs : cells ≤ R.cells ∧ slots ≤ R.slots) {x y : Int32} (d : decode cc pc = .ok (.invokestatic idx, 3))
    (kk : W p l e R s m args below meth c H locs cells slots Q (F0 m (pc + 3) ls (.int (imin x y) :: rest))) : W p l e R s m args below meth c H locs cells slots Q (F0 m pc ls (.int y :: .int x :: rest)) :=
  va_mmin X.1 X.2.1 (X.2.2.1.trans hl.1.symm) X.2.2.2.1 (X.2.2.2.2.1 _ hw) (X.2.2.2.2.1 _ gn_st) (X.2.2.2.2.1 _ gm_in) (X.2.2.2.2.1 _ gn_cd) hR.1 hR.2 hcs.1 hcs.2 d kk
end ROWSK
def exNm (k : Nat) : String := if k = 0 then "java/util/NoSuchElementException" else "java/lang/IllegalArgumentException"
def xb {α β : Type} (x : Option ((Nat × Mem) ⊕ α)) (f : α → Option ((Nat × Mem) ⊕ β)) : Option ((Nat × Mem) ⊕ β) := x.bind fun z => match z with
  | .inl e => some (.inl e)
  | .inr q => f q
theorem xb_e {α β : Type} {x : Option ((Nat × Mem) ⊕ α)} {f : α → Option ((Nat × Mem) ⊕ β)} {r : (Nat × Mem) ⊕ β} (h : xb x f = some r) : ∃ z, x = some z ∧ ((∃ e, z = .inl e ∧ r = .inl e) ∨ ∃ q, z = .inr q ∧ f q = some r) := by
  cases x with
  | none => cases h
  | some z =>
    refine ⟨z, rfl, ?_⟩
    cases z with
    | inl e => exact Or.inl ⟨e, rfl, (Option.some.inj h).symm⟩
    | inr q => exact Or.inr ⟨q, rfl, h⟩
def QXI (V : WV) (A : Nat → Prop) (r : (Nat × Mem) ⊕ (Int32 × Mem)) : Array Value → State → Outcome → State → Prop := va_Qi (fun x (u : Mem) => r = .inr (x, u)) (fun u t => WT V A u t) A
def QXV (V : WV) (A : Nat → Prop) (r : (Nat × Mem) ⊕ Mem) : Array Value → State → Outcome → State → Prop := va_Qv (fun (u : Mem) => r = .inr u) (fun u t => WT V A u t) A
def XX {β : Type} (V : WV) (A : Nat → Prop) (r : (Nat × Mem) ⊕ β) : String → State → State → Prop := vx_X (fun _ : Mem => True) (fun E u t => (∃ k, r = .inl (k, u) ∧ E = exNm k) ∧ WT V A u t) A
def CXI (l : Launch) (V : WV) (y : MethodName) (ws : List Cond) (rm : Room) (mc ms : Nat) (av : List Value) (σ : Mem) (r : (Nat × Mem) ⊕ (Int32 × Mem)) : Prop :=
  ∀ sz : Nat, vx_Met l y ws rm (PC V av sz σ) (QXI V (AW V sz) r) (XX V (AW V sz) r) mc ms (AW V sz)
def CXV (l : Launch) (V : WV) (y : MethodName) (ws : List Cond) (rm : Room) (mc ms : Nat) (av : List Value) (σ : Mem) (r : (Nat × Mem) ⊕ Mem) : Prop :=
  ∀ sz : Nat, vx_Met l y ws rm (PC V av sz σ) (QXV V (AW V sz) r) (XX V (AW V sz) r) mc ms (AW V sz)
theorem mk_CXI {l : Launch} {V : WV} {y : MethodName} {cc : ByteArray} {nL mc ms : Nat} {ret : Option FieldType} {rm : Room} {av : List Value} {σ : Mem} {r : (Nat × Mem) ⊕ (Int32 × Mem)} (hy : plainName y.cls = true) (hlen : (lg_sl av).length ≤ nL)
    (body : ∀ (p : Program) (e : Env) (s : State) (m : MethodId) (args : Array Value) (below : List Frame) (meth : Method) (c : Code) (A : Nat → Prop) (ls : Array Slot), CX p s m meth c args cc nL y.cls ret → (∀ x ∈ c.exceptionTable.toList, False) → WI V A s s.heap [] σ → lv_has ls nL (lv_args 0 av) → W p l e rm s m args below meth c s.heap [] 0 0 (vx_MQ below (QXI V A r) (XX V A r) args s mc ms A) (F0 m 0 ls [])) :
    CXI l V y (.code y cc nL ret :: GG) rm mc ms av σ r := by
  intro sz
  refine vx_ofW (cc := cc) (maxL := nL) (ret := ret) hy rfl ?_
  intro p e s m args below meth c s₁ B hml hex hv
  obtain ⟨rfl, hsz, ⟨hP, hK, hD0⟩, hok, hF⟩ := hv
  have hts := atoms_spec (ws := .code y cc nL ret :: GG) B.pre
  subst hsz
  rw [lg_entry_eq]
  exact body p e s m _ below meth c (AW V s.heap.size) _ ⟨B.exec, B.bytes, hml, findClass_of_methodNamed B.named, fun w h => hts w (List.mem_cons_of_mem _ h), B.returns, B.notSynchronized⟩ hex ⟨hK, hP, AW.dom hD0, va_S.rf, fun q h => Or.inr h, hok, hF⟩ (lv_entry av hlen)
theorem mk_CXV {l : Launch} {V : WV} {y : MethodName} {cc : ByteArray} {nL mc ms : Nat} {ret : Option FieldType} {rm : Room} {av : List Value} {σ : Mem} {r : (Nat × Mem) ⊕ Mem} (hy : plainName y.cls = true) (hlen : (lg_sl av).length ≤ nL)
    (body : ∀ (p : Program) (e : Env) (s : State) (m : MethodId) (args : Array Value) (below : List Frame) (meth : Method) (c : Code) (A : Nat → Prop) (ls : Array Slot), CX p s m meth c args cc nL y.cls ret → (∀ x ∈ c.exceptionTable.toList, False) → WI V A s s.heap [] σ → lv_has ls nL (lv_args 0 av) → W p l e rm s m args below meth c s.heap [] 0 0 (vx_MQ below (QXV V A r) (XX V A r) args s mc ms A) (F0 m 0 ls [])) :
    CXV l V y (.code y cc nL ret :: GG) rm mc ms av σ r := by
  intro sz
  refine vx_ofW (cc := cc) (maxL := nL) (ret := ret) hy rfl ?_
  intro p e s m args below meth c s₁ B hml hex hv
  obtain ⟨rfl, hsz, ⟨hP, hK, hD0⟩, hok, hF⟩ := hv
  have hts := atoms_spec (ws := .code y cc nL ret :: GG) B.pre
  subst hsz
  rw [lg_entry_eq]
  exact body p e s m _ below meth c (AW V s.heap.size) _ ⟨B.exec, B.bytes, hml, findClass_of_methodNamed B.named, fun w h => hts w (List.mem_cons_of_mem _ h), B.returns, B.notSynchronized⟩ hex ⟨hK, hP, AW.dom hD0, va_S.rf, fun q h => Or.inr h, hok, hF⟩ (lv_entry av hlen)
section ROWSX
variable {p : Program} {l : Launch} {e : Env} {R : Room} {s : State} {m : MethodId} {args : Array Value} {below : List Frame} {meth : Method} {c : Code} {H : Heap} {locs : List Loc} {cells slots mc ms : Nat} {cc : ByteArray} {pc : Nat} {ls : Array Slot} {rest : List Value} {nL : Nat} {own : String} {A : Nat → Prop} {σ : Mem} {V : WV} {ret : Option FieldType} {lvs : List (Nat × Value)} {idx : Nat}
theorem r_xiret (X : CX p s m meth c args cc nL own (some .int)) {σ1 : Mem} {v : Int32} (I : WI V A s H locs σ1) {r : (Nat × Mem) ⊕ (Int32 × Mem)} (h : r = .inr (v, σ1)) (hc : cells ≤ mc ∧ slots ≤ ms) (d : decode cc pc = .ok (.ireturn, 1)) : W p l e R s m args below meth c H locs cells slots (vx_MQ below (QXI V A r) (XX V A r) args s mc ms A) (F0 m pc ls [.int v]) :=
  W.widen hc.1 hc.2 (vx_ret (W.iret (v := v) X.1 X.2.1 X.2.2.2.2.2.1 (fun t ht hW => ⟨⟨v, σ1, rfl, h, by rw [ht]; exact I.2.1, va_K.moved hW.alike I.1, I.2.2.1⟩, I.2.2.2.1.F ht⟩) I.2.2.2.1.2.2 d X.2.2.2.2.2.2))
theorem r_xzret (X : CX p s m meth c args cc nL own (some .boolean)) {σ1 : Mem} {v : Int32} (I : WI V A s H locs σ1) {r : (Nat × Mem) ⊕ (Int32 × Mem)} (h : r = .inr (v, σ1)) (hc : cells ≤ mc ∧ slots ≤ ms) (hn : narrow .boolean (.int v) = .int v) (d : decode cc pc = .ok (.ireturn, 1)) : W p l e R s m args below meth c H locs cells slots (vx_MQ below (QXI V A r) (XX V A r) args s mc ms A) (F0 m pc ls [.int v]) :=
  W.widen hc.1 hc.2 (vx_ret (W.zret (v := v) X.1 X.2.1 X.2.2.2.2.2.1 hn (fun t ht hW => ⟨⟨v, σ1, rfl, h, by rw [ht]; exact I.2.1, va_K.moved hW.alike I.1, I.2.2.1⟩, I.2.2.2.1.F ht⟩) I.2.2.2.1.2.2 d X.2.2.2.2.2.2))
theorem r_xvret (X : CX p s m meth c args cc nL own none) {σ1 : Mem} (I : WI V A s H locs σ1) {r : (Nat × Mem) ⊕ Mem} (h : r = .inr σ1) (hc : cells ≤ mc ∧ slots ≤ ms) (d : decode cc pc = .ok (.return_, 1)) : W p l e R s m args below meth c H locs cells slots (vx_MQ below (QXV V A r) (XX V A r) args s mc ms A) (F0 m pc ls []) :=
  W.widen hc.1 hc.2 (vx_ret (W.vret X.1 X.2.1 X.2.2.2.2.2.1 (fun t ht hW => ⟨⟨σ1, rfl, h, by rw [ht]; exact I.2.1, va_K.moved hW.alike I.1, I.2.2.1⟩, I.2.2.2.1.F ht⟩) I.2.2.2.1.2.2 d X.2.2.2.2.2.2))
/-- the words of a throw -/
def TW (own : String) (ik ic : Nat) (cls : String) : Prop := Cond.classLink own ik cls ∈ GG ∧ Cond.initialized cls ∈ GG ∧ (∀ w ∈ (vx_atS own ic cls ["java/lang/RuntimeException", "java/lang/Exception"]).filter goodWord, w ∈ GG) ∧ (∀ w ∈ (vx_atS own ic cls ["java/lang/RuntimeException", "java/lang/Exception"]).filter (fun w => !goodWord w), w ∈ XW) ∧ ∀ w ∈ vx_atS own ic cls ["java/lang/RuntimeException", "java/lang/Exception"], vx_ot w = true
theorem XX.thrown {β : Type} {r : (Nat × Mem) ⊕ β} {k : Nat} {σ1 : Mem} (I : WI V A s H locs σ1) (h : r = .inl (k, σ1)) : ∀ t : State, s.vm.Alike t.vm → H.size ≤ t.heap.size → (∀ q : Nat, q < H.size → t.heap[q]? = H[q]?) → XX V A r (exNm k) s t := by
  intro t hv hz hq
  refine ⟨σ1, trivial, ⟨⟨k, h, rfl⟩, I.2.1.kept (fun j q hj => hq q.1 (I.2.1 j q hj).lt), va_K.moved hv I.1, I.2.2.1⟩, Nat.le_trans I.2.2.2.1.1 hz, fun q h1 h2 => ?_⟩
  rw [hq q (Nat.lt_of_lt_of_le h1 I.2.2.2.1.1)]
  exact I.2.2.2.1.2.1 q h1 h2
theorem r_throwS {β : Type} {Qc : Array Value → State → Outcome → State → Prop} (hlt : l.stackTraces = false) (X : CX p s m meth c args cc nL own ret) (hex : ∀ x ∈ c.exceptionTable.toList, False) {σ1 : Mem} (I : WI V A s H locs σ1) {x : XE} (hV : V.2.2.2.2.2 = FF x) (hl : lv_has ls nL lvs) {r : (Nat × Mem) ⊕ β} {k : Nat} (h : r = .inl (k, σ1)) {ik is ic : Nat} (hT : TW own ik ic (exNm k)) (hfit : Bundle.fit (exNm k) = true) {w : Nat} (hw : w < 50) (ho : sOwn.getD w "" = own) (hi : sIdx.getD w 0 = is)
    (hR : 2 + 3 < R.frames ∧ (rest.map fun v => v.category).sum + (13 * (2 + 1) + 43) ≤ R.locals ∧ cells + 1 ≤ R.cells ∧ slots + 6 ≤ R.slots) (hc : cells + 1 ≤ mc ∧ slots + 6 ≤ ms)
    (d0 : decode cc pc = .ok (.new ik, 3)) (d3 : decode cc (pc + 3) = .ok (.dup, 1)) (d4 : decode cc (pc + 4) = .ok (.ldc is, 2)) (d6 : decode cc (pc + 6) = .ok (.invokespecial ic, 3)) (d9 : decode cc (pc + 9) = .ok (.athrow, 1)) :
    W p l e R s m args below meth c H locs cells slots (vx_MQ below Qc (XX V A r) args s mc ms A) (F0 m pc ls rest) := by
  have hF := I.2.2.2.2.2.2
  rw [hV] at hF
  subst ho; subst hi
  exact vx_throwS (names := ["java/lang/RuntimeException", "java/lang/Exception"]) (A := A) X.1 X.2.1 hlt X.2.2.2.1 hfit (by decide +kernel) (X.2.2.2.2.1 _ hT.1) (X.2.2.2.2.1 _ hT.2.1) (hF.1 w hw).1 (vx_hat (B := XW) (fun w h => X.2.2.2.2.1 _ (hT.2.2.1 w h)) hT.2.2.2.1 (fun w h => va_Nw.use (XW_tab w h) (hF.2.2.2.2.2.2.1 w h))) (fun w h => by
    rcases List.mem_cons.mp h with rfl | h
    · exact (by unfold vx_ot; rw [gg_good _ hT.1]; simp)
    · rcases List.mem_cons.mp h with rfl | h
      · exact (by unfold vx_ot; rw [gg_good _ hT.2.1]; simp)
      · exact hT.2.2.2.2 w h) hF.2.2.2.2.1 hF.2.2.2.2.2.1 I.2.2.2.1 (hl.1.trans X.2.2.1.symm) d0 d3 d4 d6 d9 (fun x hx => (hex x hx).elim) hR.1 hR.2.1 hR.2.2.1 hR.2.2.2 X.2.2.2.2.2.2 (XX.thrown I h) I.2.2.2.1.2.2 hc.1 hc.2
theorem r_throwSW {β : Type} {Qc : Array Value → State → Outcome → State → Prop} (hlt : l.stackTraces = false) (X : CX p s m meth c args cc nL own ret) (hex : ∀ x ∈ c.exceptionTable.toList, False) {σ1 : Mem} (I : WI V A s H locs σ1) {x : XE} (hV : V.2.2.2.2.2 = FF x) (hl : lv_has ls nL lvs) {r : (Nat × Mem) ⊕ β} {k : Nat} (h : r = .inl (k, σ1)) {ik is ic : Nat} (hT : TW own ik ic (exNm k)) (hfit : Bundle.fit (exNm k) = true) {w : Nat} (hw : w < 50) (ho : sOwn.getD w "" = own) (hi : sIdx.getD w 0 = is)
    (hR : 2 + 3 < R.frames ∧ (rest.map fun v => v.category).sum + (13 * (2 + 1) + 43) ≤ R.locals ∧ cells + 1 ≤ R.cells ∧ slots + 6 ≤ R.slots) (hc : cells + 1 ≤ mc ∧ slots + 6 ≤ ms)
    (d0 : decode cc pc = .ok (.new ik, 3)) (d3 : decode cc (pc + 3) = .ok (.dup, 1)) (d4 : decode cc (pc + 4) = .ok (.ldc_w is, 3)) (d7 : decode cc (pc + 7) = .ok (.invokespecial ic, 3)) (d10 : decode cc (pc + 10) = .ok (.athrow, 1)) :
    W p l e R s m args below meth c H locs cells slots (vx_MQ below Qc (XX V A r) args s mc ms A) (F0 m pc ls rest) := by
  have hF := I.2.2.2.2.2.2
  rw [hV] at hF
  subst ho; subst hi
  exact vx_throwSW (names := ["java/lang/RuntimeException", "java/lang/Exception"]) (A := A) X.1 X.2.1 hlt X.2.2.2.1 hfit (by decide +kernel) (X.2.2.2.2.1 _ hT.1) (X.2.2.2.2.1 _ hT.2.1) (hF.1 w hw).1 (vx_hat (B := XW) (fun w h => X.2.2.2.2.1 _ (hT.2.2.1 w h)) hT.2.2.2.1 (fun w h => va_Nw.use (XW_tab w h) (hF.2.2.2.2.2.2.1 w h))) (fun w h => by
    rcases List.mem_cons.mp h with rfl | h
    · exact (by unfold vx_ot; rw [gg_good _ hT.1]; simp)
    · rcases List.mem_cons.mp h with rfl | h
      · exact (by unfold vx_ot; rw [gg_good _ hT.2.1]; simp)
      · exact hT.2.2.2.2 w h) hF.2.2.2.2.1 hF.2.2.2.2.2.1 I.2.2.2.1 (hl.1.trans X.2.2.1.symm) d0 d3 d4 d7 d10 (fun x hx => (hex x hx).elim) hR.1 hR.2.1 hR.2.2.1 hR.2.2.2 X.2.2.2.2.2.2 (XX.thrown I h) I.2.2.2.1.2.2 hc.1 hc.2
variable {y : MethodName} {bytes : ByteArray} {maxL n : Nat} {ty : Option FieldType} {rm : Room} {As : List Value} {st0 : List Value}
theorem r_callXV {β : Type} {Qc : Array Value → State → Outcome → State → Prop} (X : CX p s m meth c args cc nL own ret) (hex : ∀ x ∈ c.exceptionTable.toList, False) (I : WI V A s H locs σ) (hl : lv_has ls nL lvs) {k : Nat} {z : (Nat × Mem) ⊕ Mem} {r : (Nat × Mem) ⊕ β} {F : Mem → Prop} (hM : CXV l V y (.code y bytes maxL ty :: GG) rm 1 6 (.ref (V.2.2.2.1 k) :: As) σ z) (hy : YV y bytes maxL ty n) (hw : Cond.methodLink own idx y ∈ GG) (hrm : rm.cells = 1 ∧ rm.slots = 6 ∧ rm.frames + 1 ≤ R.frames ∧ 8 + (maxL + 11) + rm.locals ≤ R.locals) (hk : k < V.2.2.2.2.1) {ci : Nat} {fs : List Value} {T : u_T} {N : Nat} (hc : V.2.2.1 k (σ k) = .inr (ci, fs)) (hcl : vwCl[ci]? = some (y.cls, T, N)) (hn : As.length = n) (hst : st0 = As.reverse ++ .ref (V.2.2.2.1 k) :: rest) (hrest : (rest.map fun v => v.category).sum ≤ 8) (hcs : cells + 1 ≤ R.cells ∧ slots + 6 ≤ R.slots) (hms : cells + 1 ≤ mc ∧ slots + 6 ≤ ms) (d : decode cc pc = .ok (.invokevirtual idx, 3))
    (h : (∃ e, z = .inl e ∧ r = .inl e) ∨ ∃ q, z = .inr q ∧ F q)
    (kk : ∀ (q : Mem), F q → ∀ (H1 : Heap) (locs1 : List Loc), WI V A s H1 locs1 q → W p l e R s m args below meth c H1 locs1 (cells + 1) (slots + 6) (vx_MQ below Qc (XX V A r) args s mc ms A) (F0 m (pc + 3) ls rest)) : W p l e R s m args below meth c H locs cells slots (vx_MQ below Qc (XX V A r) args s mc ms A) (F0 m pc ls st0) := by
  have hts := X.2.2.2.2.1
  refine vx_callv (vx_runV (As := As) (rest := rest) (C := y.cls) (b := V.2.2.2.1 k) ⟨X.1, X.2.1, X.2.2.1, X.2.2.2.1, hts⟩ (hM H.size) ⟨callB_of n hts (gg_in hy.1) rfl hrm.1 hrm.2.1 (hts _ hy.2.1) (hts _ hw) hy.2.2.2.2 hrm.2.2, hts _ hy.2.2.1, hts _ hy.2.2.2.1⟩ ⟨WT.blind, va_recv (q := (y.cls, T, N)) I.1 I.2.1 hcl (by rw [gw_get hk, hc]), fun U hU hW => I.pre hU hW⟩ rfl hn hl.1 hst (lv_room hrest) d hcs) I.2.2.2.1 (fun q _ h => I.free q h) I.free (fun q _ h => I.free q h) (fun E ce q9 u t H1 locs1 ht hvm hpx hB hz1 hk1 hS hce hcv hcl9 => ?_) (fun u t H1 locs1 ht hvm hw hB hz1 hk1 hS => ?_)
  · obtain ⟨⟨k9, hz, hE⟩, hP1, hK1, hD1⟩ := hB
    rcases h with ⟨e9, h1, h2⟩ | ⟨q, h1, -⟩
    · rw [hz] at h1
      cases h1
      refine vx_out (fun x hx => (hex x hx).elim) X.2.2.2.2.2.2 hce hcv hcl9 (fun t9 ht9 hv9 => ⟨u, trivial, ⟨⟨k9, h2, hE⟩, by rw [ht9, ← ht]; exact hP1, va_K.moved hv9 I.1, hD1.weaken (fun _ _ _ h => I.free _ h)⟩, hS.F ht9⟩) hS.2.2 hms.1 hms.2
    · rw [hz] at h1; cases h1
  · obtain ⟨hP1, hK1, hD1⟩ := hB
    rw [ht] at hP1
    rcases h with ⟨e9, h1, h2⟩ | ⟨q, h1, h2⟩
    · rw [hw] at h1; cases h1
    · rw [hw] at h1
      cases h1
      exact kk u h2 H1 locs1 ⟨I.1, hP1, hD1.weaken (fun _ _ _ h => I.free _ h), hS, I.2.2.2.2⟩
end ROWSX


/-! constructors: rows over lists of cells -/
/-- calls of a nest mate's constructor -/
def NL : List (String × Nat × MethodName) := [(RX10, 9, yX3_init), (RX3, 11, yX5_init), (RX5, 11, yX9_init), (RX5, 20, yX4_init), (RX3, 25, yX2_init), (RX2, 36, yX4_init), (RX10, 23, yX8_init), (RX8, 11, yX2_init), (RX10, 35, yX7_init), (RX10, 42, yX1_init), (RX1, 17, yX0_init), (RX1, 24, yX6_init)]
def NWs (U : State) : Prop := ∀ w ∈ NL, va_Nw (.methodLinkNest w.1 w.2.1 w.2.2 "DogLeases") U
theorem NWs.warm {s U : State} (hW : s.WarmedH U.vm) (h : NWs s) : NWs U := fun w hw => va_Nw.warmM hW (h w hw)
theorem NWs.same {u U : State} (e : u.vm = U.vm) (h : NWs u) : NWs U := fun w hw => va_Nw.same rfl e (h w hw)
def LI (D : va_G) (tys : List (ClassId × FieldType)) (A : Nat → Prop) (s : State) (H : Heap) (locs : List Loc) (ws : va_W) : Prop :=
  va_K D vwCl tys s ∧ va_P D vwCl ws H ∧ va_D A ws ∧ va_S A s.heap H locs ∧ (∀ q, s.heap.size ≤ q → A q) ∧ NWs s
def LT (D : va_G) (tys : List (ClassId × FieldType)) (A : Nat → Prop) (ws : va_W) (t : State) : Prop := va_P D vwCl ws t.heap ∧ va_K D vwCl tys t ∧ va_D A ws
def NQ (D : va_G) (tys : List (ClassId × FieldType)) (q : Nat) (w1 : (Nat → Nat) → va_W) (A : Nat → Prop) : Array Value → State → Outcome → State → Prop := va_Qv (fun f : Nat → Nat => f 0 = q) (fun f t => LT D tys A (w1 f) t) A
def NP (D : va_G) (tys : List (ClassId × FieldType)) (q sz : Nat) (e0 : va_E) : Array Value → State → Prop := va_Pc [.ref q] (fun U => U.heap.size = sz ∧ LT D tys (fun _ => True) [(q, e0)] U ∧ NWs U)
/-- a constructor's contract: at the new cell q with its defaults e0; then the cells w1 f stand, f 0 = q, the others new -/
def CN (l : Launch) (D : va_G) (tys : List (ClassId × FieldType)) (y : MethodName) (cc : ByteArray) (rm : Room) (e0 : va_E) (w1 : (Nat → Nat) → va_W) (mc ms : Nat) : Prop :=
  ∀ q sz : Nat, Met l y (.code y cc 1 none :: GG) rm (NP D tys q sz e0) (NQ D tys q w1 (va_A [(q, e0)] sz)) mc ms (va_A [(q, e0)] sz)
theorem NP.blind {D : va_G} {tys : List (ClassId × FieldType)} {q sz : Nat} {e0 : va_E} : FrameBlind (NP D tys q sz e0) := by
  intro a U g mk x
  obtain ⟨q0, q1, ⟨qP, qK, qD⟩, qN⟩ := x
  exact ⟨q0, q1, ⟨qP, va_K.moved (u := U) (U := U.calling g mk a) (Vm.Alike.refl U.vm) qK, qD⟩, qN.same rfl⟩
theorem mk_CN {l : Launch} {D : va_G} {tys : List (ClassId × FieldType)} {y : MethodName} {cc : ByteArray} {rm : Room} {e0 : va_E} {w1 : (Nat → Nat) → va_W} {mc ms : Nat} (hy : plainName y.cls = true) (hyn : y.name = "<init>")
    (body : ∀ (p : Program) (e : Env) (s : State) (m : MethodId) (args : Array Value) (below : List Frame) (meth : Method) (c : Code) (A : Nat → Prop) (ls : Array Slot) (q : Nat), CX p s m meth c args cc 1 y.cls none → meth.name = "<init>" → LI D tys A s s.heap [] [(q, e0)] → lv_has ls 1 [(0, .ref q)] → W p l e rm s m args below meth c s.heap [] 0 0 (MQ below (NQ D tys q w1 A) args s mc ms A) (F0 m 0 ls [])) :
    CN l D tys y cc rm e0 w1 mc ms := by
  intro q sz
  refine Met.ofW (cc := cc) (maxL := 1) (ret := none) hy rfl ?_
  intro p e s m args below meth c s₁ B hml hv
  obtain ⟨rfl, hsz, ⟨hP, hK, hD0⟩, hN⟩ := hv
  have hts := atoms_spec (ws := .code y cc 1 none :: GG) B.pre
  subst hsz
  rw [lg_entry_eq]
  exact body p e s m _ below meth c (va_A [(q, e0)] s.heap.size) _ q ⟨B.exec, B.bytes, hml, findClass_of_methodNamed B.named, fun w h => hts w (List.mem_cons_of_mem _ h), B.returns, B.notSynchronized⟩ ((name_of_methodNamed B.named B.method).1.trans hyn) ⟨hK, hP, hD0.self, va_S.rf, fun q h => Or.inr h, hN⟩ (lv_entry [.ref q] (Nat.le_of_ble_eq_true rfl))
section MKROWS
variable {p : Program} {l : Launch} {e : Env} {R : Room} {s : State} {m : MethodId} {args : Array Value} {below : List Frame} {meth : Method} {c : Code} {H : Heap} {locs : List Loc} {cells slots : Nat} {Q : State → Prop} {cc : ByteArray} {pc : Nat} {ls : Array Slot} {rest : List Value} {nL : Nat} {own : String} {A : Nat → Prop} {ret : Option FieldType} {D : va_G} {tys : List (ClassId × FieldType)} {ws : va_W} {idx : Nat} {lvs : List (Nat × Value)}
theorem n_obj (X : CX p s m meth c args cc nL own ret) (hl : lv_has ls nL lvs) {a : Nat} (h1 : Cond.methodLink own idx Lib.objectInit ∈ GG) (h2 : Cond.instanceMethod Lib.objectInit ∈ GG) (h3 : Cond.code Lib.objectInit ⟨#[0xb1]⟩ 1 none ∈ GG) (hf : 1 ≤ R.frames) (hlo : 12 ≤ R.locals) (d : decode cc pc = .ok (.invokespecial idx, 3))
    (kk : W p l e R s m args below meth c H locs cells slots Q (F0 m (pc + 3) ls [])) : W p l e R s m args below meth c H locs cells slots Q (F0 m pc ls [.ref a]) :=
  W.objInit X.1 X.2.1 X.2.2.2.1 (X.2.2.2.2.1 _ h1) (X.2.2.2.2.1 _ h2) (X.2.2.2.2.1 _ h3) rfl (by rw [X.2.2.1]; exact hl.1) rfl d hf hlo (W.eq (g2 := F0 m (pc + 3) ls []) rfl kk)
theorem n_arr {at0 : ArrayType} {ty : FieldType} (X : CX p s m meth c args cc nL own ret) (I : LI D tys A s H locs ws) {t0 : Nat} {cA0 : ClassId} (ht : tys[t0]? = some (cA0, ty)) (hty : newarray.typeOf at0 = ty) (hra : ∀ cA, va_RA s cA ty → s.vm.findClass ("[" ++ ty.toString) = some cA) (hw : Cond.arrayClass ty ∈ GG)
    {n : Int32} {N : Nat} {a0 : vp_A} (ha : ∀ cA : ClassId, vp_cell cA a0 = arrV cA N (fun _ => defaultValue ty)) (hn : ¬ n < 0) (hN : n.toNatClampNeg = N) (hby : N * componentBytes ty ≤ 536870912) (hc : cells + 1 ≤ R.cells) (hs : slots + N ≤ R.slots) (d : decode cc pc = .ok (.newarray at0, 2))
    (kk : ∀ (q : Nat) (H1 : Heap), LI D tys A s H1 locs (ws ++ [(q, .inl (cA0, a0))]) → W p l e R s m args below meth c H1 locs (cells + 1) (slots + N) Q (F0 m (pc + 2) ls (.ref q :: rest))) : W p l e R s m args below meth c H locs cells slots Q (F0 m pc ls (.int n :: rest)) := by
  obtain ⟨hK, hP, hD, hS, hA, hNW⟩ := I
  subst hty
  refine va_newaK X.1 X.2.1 (X.2.2.2.2.1 _ hw) rfl d rfl hn hN hby hc hs rfl fun H1 cA e1 z1 o1 hAr hNm => ?_
  have ecA : cA = cA0 := Option.some.inj (hNm.symm.trans (hra cA0 (hK.2 t0 _ ht).2))
  subst ecA
  have hk : ∀ (k : Nat) (x : Nat × va_E), ws[k]? = some x → H1[x.1]? = H[x.1]? := fun k x hx => o1 x.1 ((hP k x hx).lt)
  refine kk H.size H1 ⟨hK, ((hP.kept hk).app (fun k x hx => ?_)), (hD.push hP rfl (hA _ hS.1)), ⟨Nat.le_trans hS.1 (by omega), fun x h1 h2 => (o1 x (Nat.lt_of_lt_of_le h1 hS.1)).trans (hS.2.1 x h1 h2), hS.2.2⟩, hA, hNW⟩
  have hz : k < 1 := (List.getElem?_eq_some_iff.mp hx).1
  rw [show k = 0 by omega] at hx
  cases hx
  show H1[H.size]? = some (vp_cell _ _)
  rw [ha]
  exact e1
theorem n_new (X : CX p s m meth c args cc nL own ret) (I : LI D tys A s H locs ws) {C : String} {T : u_T} {N ci : Nat} (hin : ∀ w ∈ u_ws C T N, w ∈ GG) (ty : Nat → FieldType) (hty : ∀ k, k < N → parseFieldDescriptor (T k).2.2.1 = some (ty k)) (h1 : Cond.classLink own idx C ∈ GG) (h2 : Cond.instantiable C N ∈ GG) (h3 : Cond.initialized C ∈ GG) (hcl : vwCl[ci]? = some (C, T, N)) {fs : List Value} (hfs : ∀ j, j < N → defaultValue (ty j) = vp_V fs j) (hc : cells + 1 ≤ R.cells) (hs : slots + N ≤ R.slots) (d : decode cc pc = .ok (.new idx, 3))
    (kk : ∀ (q : Nat) (H1 : Heap), LI D tys A s H1 locs (ws ++ [(q, .inr (ci, fs))]) → W p l e R s m args below meth c H1 locs (cells + 1) (slots + N) Q (F0 m (pc + 3) ls (.ref q :: rest))) : W p l e R s m args below meth c H locs cells slots Q (F0 m pc ls rest) :=
  va_new X.1 X.2.1 X.2.2.2.2.1 hin ty hty X.2.2.2.1 (X.2.2.2.2.1 _ h1) (X.2.2.2.2.1 _ h2) (X.2.2.2.2.1 _ h3) I.1 I.2.1 I.2.2.1 I.2.2.2.1 I.2.2.2.2.1 hcl hfs hc hs d (fun q H1 a b cc => kk q H1 ⟨I.1, a, b, cc, I.2.2.2.2⟩)
theorem n_put (X : CX p s m meth c args cc nL own ret) (I : LI D tys A s H locs ws) {q0 a ci : Nat} {fs : List Value} (he : ws[q0]? = some (a, .inr (ci, fs))) {C : String} {T : u_T} {N : Nat} (hcl : vwCl[ci]? = some (C, T, N)) (hin : ∀ w ∈ u_ws C T N, w ∈ GG) (ty0 : Nat → FieldType) (hty : ∀ k, k < N → parseFieldDescriptor (T k).2.2.1 = some (ty0 k)) (hnm : ∀ a, a < N → ∀ b, b < N → a ≠ b → (T a).2.1 ≠ (T b).2.1) (j : Nat) (hj : j < N) (hw : Cond.fieldLink own idx (T j).1 (T j).2.1 (T j).2.2.1 ∈ GG) (hfin : (T j).2.2.2 = false) {v : Value} (hn : narrow (ty0 j) v = v) (hfit : fits (ty0 j) v = true) (hl : j < fs.length) (d : decode cc pc = .ok (.putfield idx, 3))
    (kk : ∀ (H1 : Heap) (locs1 : List Loc), LI D tys A s H1 locs1 (ws.set q0 (a, .inr (ci, fs.set j v))) → W p l e R s m args below meth c H1 locs1 cells slots Q (F0 m (pc + 3) ls rest)) : W p l e R s m args below meth c H locs cells slots Q (F0 m pc ls (v :: .ref a :: rest)) :=
  va_put (D := D) (cl := vwCl) (tys := tys) (ty := ty0 j) X.1 X.2.1 X.2.2.2.2.1 hin ty0 hty hnm X.2.2.2.1 I.1 I.2.1 I.2.2.1 I.2.2.2.1 q0 (fs := fs) he hcl j hj (X.2.2.2.2.1 _ hw) (fun _ h => h) hfin (hty j hj) hn hfit hl d (fun H1 locs1 hP hD hS => kk H1 locs1 ⟨I.1, hP, hD, hS, I.2.2.2.2⟩)
theorem n_putF (X : CX p s m meth c args cc nL own ret) (hmn : meth.name = "<init>") (I : LI D tys A s H locs ws) {q0 a ci : Nat} {fs : List Value} (he : ws[q0]? = some (a, .inr (ci, fs))) {C : String} {T : u_T} {N : Nat} (hcl : vwCl[ci]? = some (C, T, N)) (hin : ∀ w ∈ u_ws C T N, w ∈ GG) (ty0 : Nat → FieldType) (hty : ∀ k, k < N → parseFieldDescriptor (T k).2.2.1 = some (ty0 k)) (hnm : ∀ a, a < N → ∀ b, b < N → a ≠ b → (T a).2.1 ≠ (T b).2.1) (j : Nat) (hj : j < N) (hw : Cond.fieldLink own idx (T j).1 (T j).2.1 (T j).2.2.1 ∈ GG) (hfin : (T j).2.2.2 = true) (hdc : (T j).1 = own) {v : Value} (hn : narrow (ty0 j) v = v) (hfit : fits (ty0 j) v = true) (hl : j < fs.length) (d : decode cc pc = .ok (.putfield idx, 3))
    (kk : ∀ (H1 : Heap) (locs1 : List Loc), LI D tys A s H1 locs1 (ws.set q0 (a, .inr (ci, fs.set j v))) → W p l e R s m args below meth c H1 locs1 cells slots Q (F0 m (pc + 3) ls rest)) : W p l e R s m args below meth c H locs cells slots Q (F0 m pc ls (v :: .ref a :: rest)) :=
  va_putF (D := D) (cl := vwCl) (tys := tys) (ty := ty0 j) X.1 X.2.1 X.2.2.2.2.1 hin ty0 hty hnm X.2.2.2.1 I.1 I.2.1 I.2.2.1 I.2.2.2.1 q0 (fs := fs) he hcl j hj (X.2.2.2.2.1 _ hw) (fun _ h => h) hfin hmn hdc (hty j hj) hn hfit hl d (fun H1 locs1 hP hD hS => kk H1 locs1 ⟨I.1, hP, hD, hS, I.2.2.2.2⟩)
theorem n_get (X : CX p s m meth c args cc nL own ret) (I : LI D tys A s H locs ws) {q0 a ci : Nat} {fs : List Value} (he : ws[q0]? = some (a, .inr (ci, fs))) {C : String} {T : u_T} {N : Nat} (hcl : vwCl[ci]? = some (C, T, N)) (hin : ∀ w ∈ u_ws C T N, w ∈ GG) (j : Nat) (hj : j < N) (hw : Cond.fieldLink own idx (T j).1 (T j).2.1 (T j).2.2.1 ∈ GG) {v : Value} (hv : fs[j]? = some v) (d : decode cc pc = .ok (.getfield idx, 3))
    (kk : W p l e R s m args below meth c H locs cells slots Q (F0 m (pc + 3) ls (v :: rest))) : W p l e R s m args below meth c H locs cells slots Q (F0 m pc ls (.ref a :: rest)) :=
  va_get (D := D) (cl := vwCl) (tys := tys) X.1 X.2.1 X.2.2.2.2.1 hin X.2.2.2.1 I.1 I.2.1 q0 he hcl j hj (X.2.2.2.2.1 _ hw) (fun _ h => h) hv d kk
def YN (y : MethodName) (bytes : ByteArray) : Prop :=
  Cond.code y bytes 1 none ∈ GG ∧ Cond.initialized y.cls ∈ GG ∧ Cond.instanceMethod y ∈ GG ∧ y.name = "<init>" ∧ y.cls ≠ "java/lang/invoke/MethodHandle" ∧ y.cls ≠ "java/lang/invoke/VarHandle" ∧ (parseMethodDescriptor y.desc).map (fun d => d.parameters.length) = some 0
theorem n_call (X : CX p s m meth c args cc nL own ret) {wr : va_W} {q : Nat} {e0 : va_E} (I : LI D tys A s H locs (wr ++ [(q, e0)])) (hl : lv_has ls nL lvs) {y : MethodName} {bytes : ByteArray} {rm : Room} {w1 : (Nat → Nat) → va_W} {mc ms : Nat} (hM : CN l D tys y bytes rm e0 w1 mc ms) (hy : YN y bytes) (hw : (own, idx, y) ∈ NL) (hrm : rm.cells = mc ∧ rm.slots = ms ∧ rm.frames + 1 ≤ R.frames ∧ 8 + (1 + 11) + rm.locals ≤ R.locals) (hc : cells + mc ≤ R.cells ∧ slots + ms ≤ R.slots) (isR : List Nat) (hR : isR.map (fun i => (wr ++ [(q, e0)])[i]?) = wr.map some) (hnd : va_nd isR = true) (n0 : Nat) (hC : [n0].map (fun i => (wr ++ [(q, e0)])[i]?) = [(q, e0)].map some) (hdis : ∀ i ∈ isR, i ∉ [n0]) (hrest : (rest.map fun v => v.category).sum ≤ 8) (d : decode cc pc = .ok (.invokespecial idx, 3))
    (kk : ∀ (f : Nat → Nat) (H1 : Heap) (locs1 : List Loc), f 0 = q → LI D tys A s H1 locs1 (wr ++ w1 f) → W p l e R s m args below meth c H1 locs1 (cells + mc) (slots + ms) Q (F0 m (pc + 3) ls rest)) : W p l e R s m args below meth c H locs cells slots Q (F0 m pc ls (.ref q :: rest)) := by
  have hts := X.2.2.2.2.1
  have hFc := va_free (wc := [(q, e0)]) I.2.2.1 I.2.2.2.1 I.2.2.2.2.1 [n0] hC
  have hPc : va_P D vwCl [(q, e0)] H := I.2.1.sub [n0] (by
    have h0 : (wr ++ [(q, e0)])[n0]? = some (q, e0) := by simpa using hC
    simp [h0])
  have hDc : va_D A [(q, e0)] := I.2.2.1.sub [n0] (by simp [va_nd]) hC
  refine va_callv (va_runIN (As := []) (rest := rest) ⟨X.1, X.2.1, X.2.2.1, X.2.2.2.1, hts⟩ (hM q H.size) ⟨va_cnB 0 hts (gg_in hy.1) rfl hrm.1 hrm.2.1 (I.2.2.2.2.2 _ hw) (hts _ hy.2.1) hy.2.2.2.2 hrm.2.2, hy.2.2.2.1, hts _ hy.2.2.1⟩ ⟨NP.blind, fun U hU hW => ⟨rfl, by rw [hU], ⟨by rw [hU]; exact hPc, va_K.moved hW.alike I.1, hDc.weaken (fun _ _ _ _ => trivial)⟩, I.2.2.2.2.2.warm hW⟩⟩ rfl rfl hl.1 rfl (lv_room hrest) d hc) I.2.2.2.1 (fun q _ h => hFc q h) hFc (fun f t H1 locs1 ht hvm hw hB hz1 hk1 hS => ?_)
  obtain ⟨hP1, hK1, hD1⟩ := hB
  rw [ht] at hP1
  obtain ⟨hP, hD⟩ := va_join (wr := wr) (w1 := w1 f) I.2.1 I.2.2.1 [n0] isR hC hR hnd hdis hk1 hFc hP1 hD1
  exact kk f H1 locs1 hw ⟨I.1, hP, hD, hS, I.2.2.2.2⟩
theorem n_ret (X : CX p s m meth c args cc nL own none) (I : LI D tys A s H locs ws) {q : Nat} {w1 : (Nat → Nat) → va_W} (f : Nat → Nat) (hq : f 0 = q) (is : List Nat) (h1 : is.filterMap (fun i => ws[i]?) = w1 f) (h2 : is.map (fun i => ws[i]?) = (w1 f).map some) (hnd : va_nd is = true) (d : decode cc pc = .ok (.return_, 1)) : W p l e R s m args below meth c H locs cells slots (MQ below (NQ D tys q w1 A) args s cells slots A) (F0 m pc ls []) :=
  W.vret X.1 X.2.1 X.2.2.2.2.2.1 (fun t ht hW => ⟨⟨f, rfl, hq, by rw [ht]; exact I.2.1.sub is h1, va_K.moved hW.alike I.1, I.2.2.1.sub is hnd h2⟩, I.2.2.2.1.F ht⟩) I.2.2.2.1.2.2 d X.2.2.2.2.2.2
end MKROWS

/-! the law's helpers: methods with a table of handlers, a row of one long -/
def CIm (l : Launch) (V : WV) (y : MethodName) (ws : List Cond) (rm : Room) (mc ms : Nat) (av : List Value) (σ : Mem) (r : Int32 × Mem) : Prop :=
  ∀ sz : Nat, Met l y ws rm (PC V av sz σ) (QI V (AW V sz) r) mc ms (AW V sz)
theorem mk_CIm {l : Launch} {V : WV} {y : MethodName} {cc : ByteArray} {nL mc ms : Nat} {ret : Option FieldType} {hh : List (Nat × Nat × Nat × Nat)} {rm : Room} {av : List Value} {σ : Mem} {r : Int32 × Mem} (hy : plainName y.cls = true) (hlen : (lg_sl av).length ≤ nL)
    (body : ∀ (p : Program) (e : Env) (s : State) (m : MethodId) (args : Array Value) (below : List Frame) (meth : Method) (c : Code) (A : Nat → Prop) (ls : Array Slot), CX p s m meth c args cc nL y.cls ret → c.exceptionTable.toList = tableOf hh → WI V A s s.heap [] σ → lv_has ls nL (lv_args 0 av) → W p l e rm s m args below meth c s.heap [] 0 0 (MQ below (QI V A r) args s mc ms A) (F0 m 0 ls [])) :
    CIm l V y (.codeWith y cc nL ret hh :: GG) rm mc ms av σ r := by
  intro sz
  refine va_MetW (cc := cc) (maxL := nL) (ret := ret) (hh := hh) hy rfl ?_
  intro p e s m args below meth c s₁ B hml hv
  obtain ⟨rfl, hsz, ⟨hP, hK, hD0⟩, hok, hF⟩ := hv
  have hts := atoms_spec (ws := .codeWith y cc nL ret hh :: GG) B.pre
  have htab := vx_table (x := y) B (hts _ List.mem_cons_self)
  subst hsz
  rw [lg_entry_eq]
  exact body p e s m _ below meth c (AW V s.heap.size) _ ⟨B.exec, B.bytes, hml, findClass_of_methodNamed B.named, fun w h => hts w (List.mem_cons_of_mem _ h), B.returns, B.notSynchronized⟩ htab ⟨hK, hP, AW.dom hD0, va_S.rf, fun q h => Or.inr h, hok, hF⟩ (lv_entry av hlen)
def hb {α : Type} (x : Option ((Nat × Mem) ⊕ (Int32 × Mem))) (f : Nat → Mem → Option α) (g : Int32 → Mem → Option α) : Option α := x.bind fun z => match z with
  | .inl e => f e.1 e.2
  | .inr q => g q.1 q.2
theorem hb_e {α : Type} {x : Option ((Nat × Mem) ⊕ (Int32 × Mem))} {f : Nat → Mem → Option α} {g : Int32 → Mem → Option α} {r : α} (h : hb x f g = some r) : ∃ z, x = some z ∧ ((∃ k u, z = .inl (k, u) ∧ f k u = some r) ∨ ∃ v u, z = .inr (v, u) ∧ g v u = some r) := by
  cases x with
  | none => cases h
  | some z =>
    refine ⟨z, rfl, ?_⟩
    cases z with
    | inl e => exact Or.inl ⟨e.1, e.2, rfl, h⟩
    | inr q => exact Or.inr ⟨q.1, q.2, rfl, h⟩
section ROWSH
variable {p : Program} {l : Launch} {e : Env} {R : Room} {s : State} {m : MethodId} {args : Array Value} {below : List Frame} {meth : Method} {c : Code} {H : Heap} {locs : List Loc} {cells slots mc ms : Nat} {Q : State → Prop} {cc : ByteArray} {pc : Nat} {ls : Array Slot} {rest : List Value} {nL : Nat} {own : String} {A : Nat → Prop} {σ : Mem} {V : WV} {ret : Option FieldType} {lvs : List (Nat × Value)} {idx : Nat}
theorem r_iretm (X : CX p s m meth c args cc nL own (some .int)) {σ1 : Mem} {v : Int32} (I : WI V A s H locs σ1) {r : Int32 × Mem} (h : r = (v, σ1)) (hc : cells ≤ mc ∧ slots ≤ ms) (d : decode cc pc = .ok (.ireturn, 1)) : W p l e R s m args below meth c H locs cells slots (MQ below (QI V A r) args s mc ms A) (F0 m pc ls [.int v]) := by
  subst h
  exact W.widen hc.1 hc.2 (W.iret (v := v) X.1 X.2.1 X.2.2.2.2.2.1 (fun t ht hW => ⟨⟨v, (), rfl, rfl, by rw [ht]; exact I.2.1, va_K.moved hW.alike I.1, I.2.2.1⟩, I.2.2.2.1.F ht⟩) I.2.2.2.1.2.2 d X.2.2.2.2.2.2)
theorem r_lald (X : CX p s m meth c args cc nL own ret) (I : WI V A s H locs σ) {k n t0 : Nat} (hk : k < V.2.2.2.2.1) {cA : ClassId} (ht : V.2.1[t0]? = some (cA, .long)) (hc : V.2.2.1 k (σ k) = .inl (cA, n, .inr (.inl (fun j => Int32.toInt64 (σ k j))))) {i : Int32} (hin : vp_in i n) (d : decode cc pc = .ok (.laload, 1))
    (kk : W p l e R s m args below meth c H locs cells slots Q (F0 m (pc + 1) ls (.long (Int32.toInt64 (σ k i.toNatClampNeg)) :: rest))) : W p l e R s m args below meth c H locs cells slots Q (F0 m pc ls (.int i :: .ref (V.2.2.2.1 k) :: rest)) :=
  va_lald (D := V.1) (cl := vwCl) (tys := V.2.1) X.1 X.2.1 I.1 I.2.1 k t0 (by rw [gw_get hk, hc]) ht hin d kk
theorem r_last (X : CX p s m meth c args cc nL own ret) (I : WI V A s H locs σ) {k n t0 : Nat} (hk : k < V.2.2.2.2.1) {cA : ClassId} (ht : V.2.1[t0]? = some (cA, .long)) (hc : ∀ r : Nat → Int32, V.2.2.1 k r = .inl (cA, n, .inr (.inl (fun j => Int32.toInt64 (r j))))) {i x : Int32} {v : Int64} (hv : v = Int32.toInt64 x) (hin : vp_in i n) (d : decode cc pc = .ok (.lastore, 1))
    (kk : ∀ (H1 : Heap) (locs1 : List Loc), WI V A s H1 locs1 (va_up σ k (upd (σ k) i.toNatClampNeg x)) → W p l e R s m args below meth c H1 locs1 cells slots Q (F0 m (pc + 1) ls rest)) : W p l e R s m args below meth c H locs cells slots Q (F0 m pc ls (.long v :: .int i :: .ref (V.2.2.2.1 k) :: rest)) := by
  refine va_last (D := V.1) (cl := vwCl) (tys := V.2.1) X.1 X.2.1 I.1 I.2.1 I.2.2.1 I.2.2.2.1 k t0 (by rw [gw_get hk, hc]) ht hin d (fun H1 locs1 hP hD hS => ?_)
  have e9 : vp_updL (fun j => Int32.toInt64 (σ k j)) i.toNatClampNeg v = fun j => Int32.toInt64 (upd (σ k) i.toNatClampNeg x j) := by
    funext j
    unfold vp_updL upd
    by_cases hj : j = i.toNatClampNeg
    · rw [if_pos hj, if_pos hj, hv]
    · rw [if_neg hj, if_neg hj]
  rw [e9, ← hc (upd (σ k) i.toNatClampNeg x), gw_set hk] at hP hD
  exact kk H1 locs1 ⟨I.1, hP, hD, hS, I.2.2.2.2⟩
variable {y : MethodName} {bytes : ByteArray} {maxL n : Nat} {ty : Option FieldType} {rm : Room} {As : List Value} {st0 : List Value}
theorem r_callH (X : CX p s m meth c args cc nL own ret) (I : WI V A s H locs σ) (hl : lv_has ls nL lvs) {k mc1 ms1 : Nat} {z : (Nat × Mem) ⊕ (Int32 × Mem)} {F : Nat → Mem → Prop} {G : Int32 → Mem → Prop} (hM : CXI l V y (.code y bytes maxL ty :: GG) rm mc1 ms1 (.ref (V.2.2.2.1 k) :: As) σ z) (hy : YV y bytes maxL ty n) (hw : Cond.methodLink own idx y ∈ GG) (hrm : rm.cells = mc1 ∧ rm.slots = ms1 ∧ rm.frames + 1 ≤ R.frames ∧ 8 + (maxL + 11) + rm.locals ≤ R.locals) (hk : k < V.2.2.2.2.1) {ci : Nat} {fs : List Value} {T : u_T} {N : Nat} (hc : V.2.2.1 k (σ k) = .inr (ci, fs)) (hcl : vwCl[ci]? = some (y.cls, T, N)) (hn : As.length = n) (hst : st0 = As.reverse ++ .ref (V.2.2.2.1 k) :: rest) (hrest : (rest.map fun v => v.category).sum ≤ 8) (hcs : cells + mc1 ≤ R.cells ∧ slots + ms1 ≤ R.slots) (d : decode cc pc = .ok (.invokevirtual idx, 3))
    (h : (∃ k u, z = .inl (k, u) ∧ F k u) ∨ ∃ v u, z = .inr (v, u) ∧ G v u)
    (kx : ∀ (k : Nat) (u : Mem), F k u → ∀ (H1 : Heap) (locs1 : List Loc) (q9 : Addr) (ce : Cell), WI V A s H1 locs1 u → H1[q9]? = some ce → ce.vm = .none → s.vm.findClass (exNm k) = some ce.cls → vx_W p l e R s m args below meth c H1 locs1 (cells + mc1) (slots + ms1) Q (F0 m pc ls rest) q9)
    (kk : ∀ (v : Int32) (u : Mem), G v u → ∀ (H1 : Heap) (locs1 : List Loc), WI V A s H1 locs1 u → W p l e R s m args below meth c H1 locs1 (cells + mc1) (slots + ms1) Q (F0 m (pc + 3) ls (.int v :: rest))) : W p l e R s m args below meth c H locs cells slots Q (F0 m pc ls st0) := by
  have hts := X.2.2.2.2.1
  refine vx_calli (vx_runV (As := As) (rest := rest) (C := y.cls) (b := V.2.2.2.1 k) ⟨X.1, X.2.1, X.2.2.1, X.2.2.2.1, hts⟩ (hM H.size) ⟨callB_of n hts (gg_in hy.1) rfl hrm.1 hrm.2.1 (hts _ hy.2.1) (hts _ hw) hy.2.2.2.2 hrm.2.2, hts _ hy.2.2.1, hts _ hy.2.2.2.1⟩ ⟨WT.blind, va_recv (q := (y.cls, T, N)) I.1 I.2.1 hcl (by rw [gw_get hk, hc]), fun U hU hW => I.pre hU hW⟩ rfl hn hl.1 hst (lv_room hrest) d hcs) I.2.2.2.1 (fun q _ h => I.free q h) I.free (fun q _ h => I.free q h) (fun E ce q9 u t H1 locs1 ht hvm hpx hB hz1 hk1 hS hce hcv hcl9 => ?_) (fun v u t H1 locs1 ht hvm hw hB hz1 hk1 hS => ?_)
  · obtain ⟨⟨k9, hz, hE⟩, hP1, hK1, hD1⟩ := hB
    rw [ht] at hP1
    rcases h with ⟨k2, u2, h1, h2⟩ | ⟨v2, u2, h1, -⟩
    · rw [hz] at h1
      cases h1
      rw [hE] at hcl9
      exact kx k9 u h2 H1 locs1 q9 ce ⟨I.1, hP1, hD1.weaken (fun _ _ _ h => I.free _ h), hS, I.2.2.2.2⟩ hce hcv hcl9
    · rw [hz] at h1; cases h1
  · obtain ⟨hP1, hK1, hD1⟩ := hB
    rw [ht] at hP1
    rcases h with ⟨k2, u2, h1, h2⟩ | ⟨v2, u2, h1, h2⟩
    · rw [hw] at h1; cases h1
    · rw [hw] at h1
      cases h1
      exact kk v u h2 H1 locs1 ⟨I.1, hP1, hD1.weaken (fun _ _ _ h => I.free _ h), hS, I.2.2.2.2⟩
/-- caught: by the handler that names the class itself; one ahead of it names the other class -/
theorem r_catch1 (X : CX p s m meth c args cc nL own ret) {hd : Nat × Nat × Nat × Nat} {suf : List (Nat × Nat × Nat × Nat)} (htab : c.exceptionTable.toList = tableOf (hd :: suf)) (I : WI V A s H locs σ) {x : XE} (hV : V.2.2.2.2.2 = FF x) {k : Nat} (hlk : Cond.classLink own hd.2.2.2 (exNm k) ∈ GG) (hcx : Cond.castable (exNm k) (exNm k) ∈ XW) (hcov : covers ⟨hd.1, hd.2.1, hd.2.2.1, hd.2.2.2⟩ pc = true) (h0 : hd.2.2.2 ≠ 0) {q9 : Addr} {ce : Cell} (hce : H[q9]? = some ce) (hcv : ce.vm = .none) (hcl : s.vm.findClass (exNm k) = some ce.cls)
    (kk : W p l e R s m args below meth c H locs cells slots Q (F0 m hd.2.2.1 ls [.ref q9])) : vx_W p l e R s m args below meth c H locs cells slots Q (F0 m pc ls rest) q9 := by
  have hF := I.2.2.2.2.2.2
  rw [hV] at hF
  exact vx_catch (own := own) (name := exNm k) (E := exNm k) X.2.2.2.1 [] ⟨hd.1, hd.2.1, hd.2.2.1, hd.2.2.2⟩ (tableOf suf) htab (fun z hz => nomatch hz) hcov h0 (X.2.2.2.2.1 _ hlk) (va_Nw.use (XW_tab _ hcx) (hF.2.2.2.2.2.2.1 _ hcx)) hce hcv hcl kk
theorem r_catch2 (X : CX p s m meth c args cc nL own ret) {hd0 hd : Nat × Nat × Nat × Nat} (htab : c.exceptionTable.toList = tableOf [hd0, hd]) (I : WI V A s H locs σ) {x : XE} (hV : V.2.2.2.2.2 = FF x) (hlk0 : Cond.classLink own hd0.2.2.2 (exNm 0) ∈ GG) (h00 : hd0.2.2.2 ≠ 0) (hlk : Cond.classLink own hd.2.2.2 (exNm 1) ∈ GG) (hcov : covers ⟨hd.1, hd.2.1, hd.2.2.1, hd.2.2.2⟩ pc = true) (h0 : hd.2.2.2 ≠ 0) {q9 : Addr} {ce : Cell} (hce : H[q9]? = some ce) (hcv : ce.vm = .none) (hcl : s.vm.findClass (exNm 1) = some ce.cls)
    (kk : W p l e R s m args below meth c H locs cells slots Q (F0 m hd.2.2.1 ls [.ref q9])) : vx_W p l e R s m args below meth c H locs cells slots Q (F0 m pc ls rest) q9 := by
  have hF := I.2.2.2.2.2.2
  rw [hV] at hF
  have hcx : Cond.castable (exNm 1) (exNm 1) ∈ XW := by decide +kernel
  refine vx_catch (own := own) (name := exNm 1) (E := exNm 1) X.2.2.2.1 [⟨hd0.1, hd0.2.1, hd0.2.2.1, hd0.2.2.2⟩] ⟨hd.1, hd.2.1, hd.2.2.1, hd.2.2.2⟩ [] htab (fun z hz => ?_) hcov h0 (X.2.2.2.2.1 _ hlk) (va_Nw.use (XW_tab _ hcx) (hF.2.2.2.2.2.2.1 _ hcx)) hce hcv hcl kk
  rcases List.mem_cons.mp hz with rfl | hz
  · exact Or.inr ⟨h00, exNm 0, X.2.2.2.2.1 _ hlk0, hF.2.2.2.2.2.2.2⟩
  · cases hz
end ROWSH

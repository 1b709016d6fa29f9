/-! two worlds side by side: a call on one leaves the other -/
def DJ (V V' : WV) : Prop := ∀ i, i < V.2.2.2.2.1 → ∀ j, j < V'.2.2.2.2.1 → V.2.2.2.1 i ≠ V'.2.2.2.1 j
theorem DJ.symm {V V' : WV} (h : DJ V V') : DJ V' V := fun i hi j hj e => h j hj i hi e.symm
theorem WI.keep2 {V V' : WV} {A : Nat → Prop} {s : State} {H H1 : Heap} {locs locs1 : List Loc} {τ : Mem} (J : WI V' A s H locs τ) (hd : DJ V V') (hk : ∀ q : Nat, q < H.size → ¬ AW V H.size q → H1[q]? = H[q]?) (hS : va_S A s.heap H1 locs1) : WI V' A s H1 locs1 τ := by
  refine ⟨J.1, J.2.1.kept (fun j q hj => ?_), J.2.2.1, hS, J.2.2.2.2⟩
  have hlt := (J.2.1 j q hj).lt
  have hl : j < V'.2.2.2.2.1 := by
    have := (List.getElem?_eq_some_iff.mp hj).1
    rwa [gw_len] at this
  rw [gw_get hl] at hj
  cases hj
  refine hk _ hlt (fun h => ?_)
  rcases h with ⟨k, hk9, e⟩ | h
  · exact hd k hk9 j hl e.symm
  · exact absurd hlt (Nat.not_lt.mpr h)
def YW (y : MethodName) (bytes : ByteArray) (maxL : Nat) (ty : Option FieldType) (hh : List (Nat × Nat × Nat × Nat)) (n : Nat) : Prop :=
  Cond.codeWith y bytes maxL ty hh ∈ GG ∧ Cond.initialized y.cls ∈ GG ∧ Cond.static y ∈ GG ∧ (y.cls ≠ "java/lang/invoke/MethodHandle" ∧ y.cls ≠ "java/lang/invoke/VarHandle") ∧ (parseMethodDescriptor y.desc).map (fun d => d.parameters.length) = some n
theorem lg_self (x : Int64) : lg_cmp x x = 0 := by
  unfold lg_cmp
  rw [if_neg Int64.lt_irrefl, if_pos rfl]
section ROWS2W
variable {p : Program} {l : Launch} {e : Env} {R : Room} {s : State} {m : MethodId} {args : Array Value} {below : List Frame} {meth : Method} {c : Code} {H : Heap} {locs : List Loc} {cells slots : Nat} {Q : State → Prop} {cc : ByteArray} {pc : Nat} {ls : Array Slot} {rest : List Value} {nL : Nat} {own : String} {A : Nat → Prop} {σ τ : Mem} {V V' : WV} {ret : Option FieldType} {lvs : List (Nat × Value)} {idx : Nat}
variable {y : MethodName} {bytes : ByteArray} {maxL n : Nat} {ty : Option FieldType} {rm : Room} {As : List Value} {st0 : List Value}
theorem r2VI (X : CX p s m meth c args cc nL own ret) (I : WI V A s H locs σ) (J : WI V' A s H locs τ) (hd : DJ V V') (hl : lv_has ls nL lvs) {k : Nat} {r : Int32 × Mem} (hM : CI l V y (.code y bytes maxL ty :: GG) rm (.ref (V.2.2.2.1 k) :: As) σ r) (hy : YV y bytes maxL ty n) (hw : Cond.methodLink own idx y ∈ GG) (hrm : rm.cells = 0 ∧ rm.slots = 0 ∧ rm.frames + 1 ≤ R.frames ∧ 8 + (maxL + 11) + rm.locals ≤ R.locals) (hk : k < V.2.2.2.2.1) {ci : Nat} {fs : List Value} {T : u_T} {N : Nat} (hc : V.2.2.1 k (σ k) = .inr (ci, fs)) (hcl : vwCl[ci]? = some (y.cls, T, N)) (hn : As.length = n) (hst : st0 = As.reverse ++ .ref (V.2.2.2.1 k) :: rest) (hrest : (rest.map fun v => v.category).sum ≤ 8) (hcs : cells ≤ R.cells ∧ slots ≤ R.slots) (d : decode cc pc = .ok (.invokevirtual idx, 3))
    (kk : ∀ (H1 : Heap) (locs1 : List Loc), WI V A s H1 locs1 r.2 → WI V' A s H1 locs1 τ → W p l e R s m args below meth c H1 locs1 cells slots Q (F0 m (pc + 3) ls (.int r.1 :: rest))) : W p l e R s m args below meth c H locs cells slots Q (F0 m pc ls st0) := by
  have hts := X.2.2.2.2.1
  refine va_calli (va_runV (As := As) (rest := rest) (C := y.cls) (b := V.2.2.2.1 k) ⟨X.1, X.2.1, X.2.2.1, X.2.2.2.1, hts⟩ (hM H.size) ⟨callB_of n hts (gg_in hy.1) rfl hrm.1 hrm.2.1 (hts _ hy.2.1) (hts _ hw) hy.2.2.2.2 hrm.2.2, hts _ hy.2.2.1, hts _ hy.2.2.2.1⟩ ⟨WT.blind, va_recv (q := (y.cls, T, N)) I.1 I.2.1 hcl (by rw [gw_get hk, hc]), fun U hU hW => I.pre hU hW⟩ rfl hn hl.1 hst (lv_room hrest) d hcs) I.2.2.2.1 (fun q _ h => I.free q h) I.free (fun v u t H1 locs1 ht hvm hw hB hz1 hk1 hS => ?_)
  obtain ⟨hP1, hK1, hD1⟩ := hB
  rw [ht] at hP1
  rw [hw]
  exact kk H1 locs1 ⟨I.1, hP1, hD1.weaken (fun _ _ _ h => I.free _ h), hS, I.2.2.2.2⟩ (J.keep2 hd hk1 hS)
theorem r2VV (X : CX p s m meth c args cc nL own ret) (I : WI V A s H locs σ) (J : WI V' A s H locs τ) (hd : DJ V V') (hl : lv_has ls nL lvs) {k : Nat} {r : Mem} (hM : CV l V y (.code y bytes maxL ty :: GG) rm (.ref (V.2.2.2.1 k) :: As) σ r) (hy : YV y bytes maxL ty n) (hw : Cond.methodLink own idx y ∈ GG) (hrm : rm.cells = 0 ∧ rm.slots = 0 ∧ rm.frames + 1 ≤ R.frames ∧ 8 + (maxL + 11) + rm.locals ≤ R.locals) (hk : k < V.2.2.2.2.1) {ci : Nat} {fs : List Value} {T : u_T} {N : Nat} (hc : V.2.2.1 k (σ k) = .inr (ci, fs)) (hcl : vwCl[ci]? = some (y.cls, T, N)) (hn : As.length = n) (hst : st0 = As.reverse ++ .ref (V.2.2.2.1 k) :: rest) (hrest : (rest.map fun v => v.category).sum ≤ 8) (hcs : cells ≤ R.cells ∧ slots ≤ R.slots) (d : decode cc pc = .ok (.invokevirtual idx, 3))
    (kk : ∀ (H1 : Heap) (locs1 : List Loc), WI V A s H1 locs1 r → WI V' A s H1 locs1 τ → W p l e R s m args below meth c H1 locs1 cells slots Q (F0 m (pc + 3) ls rest)) : W p l e R s m args below meth c H locs cells slots Q (F0 m pc ls st0) := by
  have hts := X.2.2.2.2.1
  refine va_callv (va_runV (As := As) (rest := rest) (C := y.cls) (b := V.2.2.2.1 k) ⟨X.1, X.2.1, X.2.2.1, X.2.2.2.1, hts⟩ (hM H.size) ⟨callB_of n hts (gg_in hy.1) rfl hrm.1 hrm.2.1 (hts _ hy.2.1) (hts _ hw) hy.2.2.2.2 hrm.2.2, hts _ hy.2.2.1, hts _ hy.2.2.2.1⟩ ⟨WT.blind, va_recv (q := (y.cls, T, N)) I.1 I.2.1 hcl (by rw [gw_get hk, hc]), fun U hU hW => I.pre hU hW⟩ rfl hn hl.1 hst (lv_room hrest) d hcs) I.2.2.2.1 (fun q _ h => I.free q h) I.free (fun u t H1 locs1 ht hvm hw hB hz1 hk1 hS => ?_)
  obtain ⟨hP1, hK1, hD1⟩ := hB
  rw [ht] at hP1
  exact kk H1 locs1 ⟨I.1, hP1, hD1.weaken (fun _ _ _ h => I.free _ h), hS, I.2.2.2.2⟩ (J.keep2 hd hk1 hS)
theorem r2SI (X : CX p s m meth c args cc nL own ret) (I : WI V A s H locs σ) (J : WI V' A s H locs τ) (hd : DJ V V') (hl : lv_has ls nL lvs) {mc1 ms1 : Nat} {hh : List (Nat × Nat × Nat × Nat)} {r : Int32 × Mem} (hM : CIm l V y (.codeWith y bytes maxL ty hh :: GG) rm mc1 ms1 As σ r) (hy : YW y bytes maxL ty hh n) (hw : Cond.methodLink own idx y ∈ GG) (hrm : rm.cells = mc1 ∧ rm.slots = ms1 ∧ rm.frames + 1 ≤ R.frames ∧ 8 + (maxL + 11) + rm.locals ≤ R.locals) (hn : As.length = n) (hst : st0 = As.reverse ++ rest) (hrest : (rest.map fun v => v.category).sum ≤ 8) (hcs : cells + mc1 ≤ R.cells ∧ slots + ms1 ≤ R.slots) (d : decode cc pc = .ok (.invokestatic idx, 3))
    (kk : ∀ (H1 : Heap) (locs1 : List Loc), WI V A s H1 locs1 r.2 → WI V' A s H1 locs1 τ → W p l e R s m args below meth c H1 locs1 (cells + mc1) (slots + ms1) Q (F0 m (pc + 3) ls (.int r.1 :: rest))) : W p l e R s m args below meth c H locs cells slots Q (F0 m pc ls st0) := by
  have hts := X.2.2.2.2.1
  refine va_calli (vx_runSW (As := As) (rest := rest) (hh := hh) ⟨X.1, X.2.1, X.2.2.1, X.2.2.2.1, hts⟩ (hM H.size) ⟨⟨hrm.1, hrm.2.1, hrm.2.2.1, hrm.2.2.2, pay_in hts (gg_in hy.1), List.mem_cons_self⟩, hts _ hy.1, hts _ hy.2.1, hy.2.2.2.1, fun sig h => ?_, hts _ hw, hts _ hy.2.2.1⟩ ⟨WT.blind, fun U hU hW => I.pre hU hW⟩ rfl hn hl.1 hst (lv_room hrest) d hcs) I.2.2.2.1 (fun q _ h => I.free q h) I.free (fun v u t H1 locs1 ht hvm hw hB hz1 hk1 hS => ?_)
  · have h2 := hy.2.2.2.2
    rw [h] at h2
    exact (Option.some.inj h2).symm
  · obtain ⟨hP1, hK1, hD1⟩ := hB
    rw [ht] at hP1
    rw [hw]
    exact kk H1 locs1 ⟨I.1, hP1, hD1.weaken (fun _ _ _ h => I.free _ h), hS, I.2.2.2.2⟩ (J.keep2 hd hk1 hS)
end ROWS2W
theorem tw_1202 : (.methodLink RL 109 yX10_feed : Cond) ∈ GG := gg_2 (List.mem_of_getElem? (i := 134) (by decide +kernel)) (by decide +kernel)
theorem tw_1203 : (.code yX10_feed cX10_feed 6 (some .int) : Cond) ∈ GG := gg_2 (List.mem_of_getElem? (i := 137) (by decide +kernel)) (by decide +kernel)
theorem tw_1204 : (.initialized yX10_feed.cls : Cond) ∈ GG := gg_1 (List.mem_of_getElem? (i := 1) (by decide +kernel)) (by decide +kernel)
theorem tw_1205 : (.instanceMethod yX10_feed : Cond) ∈ GG := gg_2 (List.mem_of_getElem? (i := 135) (by decide +kernel)) (by decide +kernel)
theorem tw_1206 : (.selects yX10_feed.cls yX10_feed yX10_feed : Cond) ∈ GG := gg_2 (List.mem_of_getElem? (i := 136) (by decide +kernel)) (by decide +kernel)
theorem tw_1207 : (.methodLink RL 113 yX11_feed : Cond) ∈ GG := gg_6 (List.mem_of_getElem? (i := 214) (by decide +kernel)) (by decide +kernel)
theorem tw_1208 : (.code yX11_feed cX11_feed 8 (some .int) : Cond) ∈ GG := gg_6 (List.mem_of_getElem? (i := 217) (by decide +kernel)) (by decide +kernel)
theorem tw_1209 : (.initialized yX11_feed.cls : Cond) ∈ GG := gg_1 (List.mem_of_getElem? (i := 13) (by decide +kernel)) (by decide +kernel)
theorem tw_1210 : (.instanceMethod yX11_feed : Cond) ∈ GG := gg_6 (List.mem_of_getElem? (i := 215) (by decide +kernel)) (by decide +kernel)
theorem tw_1211 : (.selects yX11_feed.cls yX11_feed yX11_feed : Cond) ∈ GG := gg_6 (List.mem_of_getElem? (i := 216) (by decide +kernel)) (by decide +kernel)
theorem tw_1212 : (.methodLink RL 114 yL_terrace : Cond) ∈ GG := gg_3 (List.mem_of_getElem? (i := 29) (by decide +kernel)) (by decide +kernel)
theorem tw_1213 : (.codeWith yL_terrace cL_terrace 4 (some .int) [(0, 9, 12, 13)] : Cond) ∈ GG := gg_3 (List.mem_of_getElem? (i := 31) (by decide +kernel)) (by decide +kernel)
theorem tw_1214 : (.initialized yL_terrace.cls : Cond) ∈ GG := gg_1 (List.mem_of_getElem? (i := 0) (by decide +kernel)) (by decide +kernel)
theorem tw_1215 : (.static yL_terrace : Cond) ∈ GG := gg_3 (List.mem_of_getElem? (i := 30) (by decide +kernel)) (by decide +kernel)
theorem tw_1216 : (.methodLink RL 119 yX11_terrace : Cond) ∈ GG := gg_6 (List.mem_of_getElem? (i := 218) (by decide +kernel)) (by decide +kernel)
theorem tw_1217 : (.code yX11_terrace cX11_terrace 3 (some .int) : Cond) ∈ GG := gg_6 (List.mem_of_getElem? (i := 221) (by decide +kernel)) (by decide +kernel)
theorem tw_1218 : (.initialized yX11_terrace.cls : Cond) ∈ GG := gg_1 (List.mem_of_getElem? (i := 13) (by decide +kernel)) (by decide +kernel)
theorem tw_1219 : (.instanceMethod yX11_terrace : Cond) ∈ GG := gg_6 (List.mem_of_getElem? (i := 219) (by decide +kernel)) (by decide +kernel)
theorem tw_1220 : (.selects yX11_terrace.cls yX11_terrace yX11_terrace : Cond) ∈ GG := gg_6 (List.mem_of_getElem? (i := 220) (by decide +kernel)) (by decide +kernel)
theorem tw_1221 : (.methodLink RL 120 yX11_thrown : Cond) ∈ GG := gg_6 (List.mem_of_getElem? (i := 210) (by decide +kernel)) (by decide +kernel)
theorem tw_1222 : (.code yX11_thrown cX11_thrown 1 (some .int) : Cond) ∈ GG := gg_6 (List.mem_of_getElem? (i := 213) (by decide +kernel)) (by decide +kernel)
theorem tw_1223 : (.initialized yX11_thrown.cls : Cond) ∈ GG := gg_1 (List.mem_of_getElem? (i := 13) (by decide +kernel)) (by decide +kernel)
theorem tw_1224 : (.instanceMethod yX11_thrown : Cond) ∈ GG := gg_6 (List.mem_of_getElem? (i := 211) (by decide +kernel)) (by decide +kernel)
theorem tw_1225 : (.selects yX11_thrown.cls yX11_thrown yX11_thrown : Cond) ∈ GG := gg_6 (List.mem_of_getElem? (i := 212) (by decide +kernel)) (by decide +kernel)
theorem tw_1226 : (.methodLink RL 124 yX10_fault : Cond) ∈ GG := gg_2 (List.mem_of_getElem? (i := 142) (by decide +kernel)) (by decide +kernel)
theorem tw_1227 : (.code yX10_fault cX10_fault 1 (some .int) : Cond) ∈ GG := gg_2 (List.mem_of_getElem? (i := 145) (by decide +kernel)) (by decide +kernel)
theorem tw_1228 : (.initialized yX10_fault.cls : Cond) ∈ GG := gg_1 (List.mem_of_getElem? (i := 1) (by decide +kernel)) (by decide +kernel)
theorem tw_1229 : (.instanceMethod yX10_fault : Cond) ∈ GG := gg_2 (List.mem_of_getElem? (i := 143) (by decide +kernel)) (by decide +kernel)
theorem tw_1230 : (.selects yX10_fault.cls yX10_fault yX10_fault : Cond) ∈ GG := gg_2 (List.mem_of_getElem? (i := 144) (by decide +kernel)) (by decide +kernel)
theorem tw_1231 : (.methodLink RL 127 yX11_fault : Cond) ∈ GG := gg_7 (List.mem_of_getElem? (i := 88) (by decide +kernel)) (by decide +kernel)
theorem tw_1232 : (.code yX11_fault cX11_fault 1 (some .int) : Cond) ∈ GG := gg_7 (List.mem_of_getElem? (i := 91) (by decide +kernel)) (by decide +kernel)
theorem tw_1233 : (.initialized yX11_fault.cls : Cond) ∈ GG := gg_1 (List.mem_of_getElem? (i := 13) (by decide +kernel)) (by decide +kernel)
theorem tw_1234 : (.instanceMethod yX11_fault : Cond) ∈ GG := gg_7 (List.mem_of_getElem? (i := 89) (by decide +kernel)) (by decide +kernel)
theorem tw_1235 : (.selects yX11_fault.cls yX11_fault yX11_fault : Cond) ∈ GG := gg_7 (List.mem_of_getElem? (i := 90) (by decide +kernel)) (by decide +kernel)
theorem tw_1236 : (.methodLink RL 128 yL_count : Cond) ∈ GG := gg_4 (List.mem_of_getElem? (i := 69) (by decide +kernel)) (by decide +kernel)
theorem tw_1237 : (.codeWith yL_count cL_count 4 (some .int) [(0, 9, 12, 18)] : Cond) ∈ GG := gg_4 (List.mem_of_getElem? (i := 71) (by decide +kernel)) (by decide +kernel)
theorem tw_1238 : (.initialized yL_count.cls : Cond) ∈ GG := gg_1 (List.mem_of_getElem? (i := 0) (by decide +kernel)) (by decide +kernel)
theorem tw_1239 : (.static yL_count : Cond) ∈ GG := gg_4 (List.mem_of_getElem? (i := 70) (by decide +kernel)) (by decide +kernel)
theorem tw_1240 : (.methodLink RL 130 yX11_count : Cond) ∈ GG := gg_7 (List.mem_of_getElem? (i := 92) (by decide +kernel)) (by decide +kernel)
theorem tw_1241 : (.code yX11_count cX11_count 2 (some .int) : Cond) ∈ GG := gg_7 (List.mem_of_getElem? (i := 95) (by decide +kernel)) (by decide +kernel)
theorem tw_1242 : (.initialized yX11_count.cls : Cond) ∈ GG := gg_1 (List.mem_of_getElem? (i := 13) (by decide +kernel)) (by decide +kernel)
theorem tw_1243 : (.instanceMethod yX11_count : Cond) ∈ GG := gg_7 (List.mem_of_getElem? (i := 93) (by decide +kernel)) (by decide +kernel)
theorem tw_1244 : (.selects yX11_count.cls yX11_count yX11_count : Cond) ∈ GG := gg_7 (List.mem_of_getElem? (i := 94) (by decide +kernel)) (by decide +kernel)
theorem tw_1245 : (.methodLink RL 131 yL_house : Cond) ∈ GG := gg_4 (List.mem_of_getElem? (i := 101) (by decide +kernel)) (by decide +kernel)
theorem tw_1246 : (.codeWith yL_house cL_house 5 (some .int) [(0, 10, 13, 18)] : Cond) ∈ GG := gg_4 (List.mem_of_getElem? (i := 103) (by decide +kernel)) (by decide +kernel)
theorem tw_1247 : (.initialized yL_house.cls : Cond) ∈ GG := gg_1 (List.mem_of_getElem? (i := 0) (by decide +kernel)) (by decide +kernel)
theorem tw_1248 : (.static yL_house : Cond) ∈ GG := gg_4 (List.mem_of_getElem? (i := 102) (by decide +kernel)) (by decide +kernel)
theorem tw_1249 : (.methodLink RL 134 yX11_house : Cond) ∈ GG := gg_7 (List.mem_of_getElem? (i := 104) (by decide +kernel)) (by decide +kernel)
theorem tw_1250 : (.code yX11_house cX11_house 3 (some .int) : Cond) ∈ GG := gg_7 (List.mem_of_getElem? (i := 107) (by decide +kernel)) (by decide +kernel)
theorem tw_1251 : (.initialized yX11_house.cls : Cond) ∈ GG := gg_1 (List.mem_of_getElem? (i := 13) (by decide +kernel)) (by decide +kernel)
theorem tw_1252 : (.instanceMethod yX11_house : Cond) ∈ GG := gg_7 (List.mem_of_getElem? (i := 105) (by decide +kernel)) (by decide +kernel)
theorem tw_1253 : (.selects yX11_house.cls yX11_house yX11_house : Cond) ∈ GG := gg_7 (List.mem_of_getElem? (i := 106) (by decide +kernel)) (by decide +kernel)
theorem tw_1254 : (.methodLink RL 135 yL_tenant : Cond) ∈ GG := gg_4 (List.mem_of_getElem? (i := 119) (by decide +kernel)) (by decide +kernel)
theorem tw_1255 : (.codeWith yL_tenant cL_tenant 5 (some .int) [(0, 10, 13, 18)] : Cond) ∈ GG := gg_4 (List.mem_of_getElem? (i := 121) (by decide +kernel)) (by decide +kernel)
theorem tw_1256 : (.initialized yL_tenant.cls : Cond) ∈ GG := gg_1 (List.mem_of_getElem? (i := 0) (by decide +kernel)) (by decide +kernel)
theorem tw_1257 : (.static yL_tenant : Cond) ∈ GG := gg_4 (List.mem_of_getElem? (i := 120) (by decide +kernel)) (by decide +kernel)
theorem tw_1258 : (.methodLink RL 137 yX11_tenant : Cond) ∈ GG := gg_7 (List.mem_of_getElem? (i := 133) (by decide +kernel)) (by decide +kernel)
theorem tw_1259 : (.code yX11_tenant cX11_tenant 3 (some .int) : Cond) ∈ GG := gg_7 (List.mem_of_getElem? (i := 136) (by decide +kernel)) (by decide +kernel)
theorem tw_1260 : (.initialized yX11_tenant.cls : Cond) ∈ GG := gg_1 (List.mem_of_getElem? (i := 13) (by decide +kernel)) (by decide +kernel)
theorem tw_1261 : (.instanceMethod yX11_tenant : Cond) ∈ GG := gg_7 (List.mem_of_getElem? (i := 134) (by decide +kernel)) (by decide +kernel)
theorem tw_1262 : (.selects yX11_tenant.cls yX11_tenant yX11_tenant : Cond) ∈ GG := gg_7 (List.mem_of_getElem? (i := 135) (by decide +kernel)) (by decide +kernel)
theorem tw_1263 : (.methodLink RL 138 yX10_quarters : Cond) ∈ GG := gg_2 (List.mem_of_getElem? (i := 146) (by decide +kernel)) (by decide +kernel)
theorem tw_1264 : (.code yX10_quarters cX10_quarters 2 (some .int) : Cond) ∈ GG := gg_2 (List.mem_of_getElem? (i := 149) (by decide +kernel)) (by decide +kernel)
theorem tw_1265 : (.initialized yX10_quarters.cls : Cond) ∈ GG := gg_1 (List.mem_of_getElem? (i := 1) (by decide +kernel)) (by decide +kernel)
theorem tw_1266 : (.instanceMethod yX10_quarters : Cond) ∈ GG := gg_2 (List.mem_of_getElem? (i := 147) (by decide +kernel)) (by decide +kernel)
theorem tw_1267 : (.selects yX10_quarters.cls yX10_quarters yX10_quarters : Cond) ∈ GG := gg_2 (List.mem_of_getElem? (i := 148) (by decide +kernel)) (by decide +kernel)
theorem tw_1268 : (.methodLink RL 141 yX11_quarters : Cond) ∈ GG := gg_7 (List.mem_of_getElem? (i := 145) (by decide +kernel)) (by decide +kernel)
theorem tw_1269 : (.code yX11_quarters cX11_quarters 2 (some .int) : Cond) ∈ GG := gg_7 (List.mem_of_getElem? (i := 148) (by decide +kernel)) (by decide +kernel)
theorem tw_1270 : (.initialized yX11_quarters.cls : Cond) ∈ GG := gg_1 (List.mem_of_getElem? (i := 13) (by decide +kernel)) (by decide +kernel)
theorem tw_1271 : (.instanceMethod yX11_quarters : Cond) ∈ GG := gg_7 (List.mem_of_getElem? (i := 146) (by decide +kernel)) (by decide +kernel)
theorem tw_1272 : (.selects yX11_quarters.cls yX11_quarters yX11_quarters : Cond) ∈ GG := gg_7 (List.mem_of_getElem? (i := 147) (by decide +kernel)) (by decide +kernel)
theorem tw_1273 : (.methodLink RL 142 yL_buy : Cond) ∈ GG := gg_4 (List.mem_of_getElem? (i := 132) (by decide +kernel)) (by decide +kernel)
theorem tw_1274 : (.codeWith yL_buy cL_buy 5 (some .int) [(0, 10, 13, 18)] : Cond) ∈ GG := gg_4 (List.mem_of_getElem? (i := 134) (by decide +kernel)) (by decide +kernel)
theorem tw_1275 : (.initialized yL_buy.cls : Cond) ∈ GG := gg_1 (List.mem_of_getElem? (i := 0) (by decide +kernel)) (by decide +kernel)
theorem tw_1276 : (.static yL_buy : Cond) ∈ GG := gg_4 (List.mem_of_getElem? (i := 133) (by decide +kernel)) (by decide +kernel)
theorem tw_1277 : (.methodLink RL 144 yX11_buy : Cond) ∈ GG := gg_7 (List.mem_of_getElem? (i := 197) (by decide +kernel)) (by decide +kernel)
theorem tw_1278 : (.code yX11_buy cX11_buy 3 (some .int) : Cond) ∈ GG := gg_7 (List.mem_of_getElem? (i := 200) (by decide +kernel)) (by decide +kernel)
theorem tw_1279 : (.initialized yX11_buy.cls : Cond) ∈ GG := gg_1 (List.mem_of_getElem? (i := 13) (by decide +kernel)) (by decide +kernel)
theorem tw_1280 : (.instanceMethod yX11_buy : Cond) ∈ GG := gg_7 (List.mem_of_getElem? (i := 198) (by decide +kernel)) (by decide +kernel)
theorem tw_1281 : (.selects yX11_buy.cls yX11_buy yX11_buy : Cond) ∈ GG := gg_7 (List.mem_of_getElem? (i := 199) (by decide +kernel)) (by decide +kernel)
theorem tw_1282 : (.methodLink RL 145 yL_cats : Cond) ∈ GG := gg_4 (List.mem_of_getElem? (i := 140) (by decide +kernel)) (by decide +kernel)
theorem tw_1283 : (.codeWith yL_cats cL_cats 5 (some .int) [(0, 10, 13, 18)] : Cond) ∈ GG := gg_4 (List.mem_of_getElem? (i := 142) (by decide +kernel)) (by decide +kernel)
theorem tw_1284 : (.initialized yL_cats.cls : Cond) ∈ GG := gg_1 (List.mem_of_getElem? (i := 0) (by decide +kernel)) (by decide +kernel)
theorem tw_1285 : (.static yL_cats : Cond) ∈ GG := gg_4 (List.mem_of_getElem? (i := 141) (by decide +kernel)) (by decide +kernel)
theorem tw_1286 : (.methodLink RL 147 yX11_cats : Cond) ∈ GG := gg_7 (List.mem_of_getElem? (i := 202) (by decide +kernel)) (by decide +kernel)
theorem tw_1287 : (.code yX11_cats cX11_cats 4 (some .int) : Cond) ∈ GG := gg_7 (List.mem_of_getElem? (i := 205) (by decide +kernel)) (by decide +kernel)
theorem tw_1288 : (.initialized yX11_cats.cls : Cond) ∈ GG := gg_1 (List.mem_of_getElem? (i := 13) (by decide +kernel)) (by decide +kernel)
theorem tw_1289 : (.instanceMethod yX11_cats : Cond) ∈ GG := gg_7 (List.mem_of_getElem? (i := 203) (by decide +kernel)) (by decide +kernel)
theorem tw_1290 : (.selects yX11_cats.cls yX11_cats yX11_cats : Cond) ∈ GG := gg_7 (List.mem_of_getElem? (i := 204) (by decide +kernel)) (by decide +kernel)
theorem tw_1291 : (.methodLink RL 148 yL_lead : Cond) ∈ GG := gg_4 (List.mem_of_getElem? (i := 152) (by decide +kernel)) (by decide +kernel)
theorem tw_1292 : (.codeWith yL_lead cL_lead 5 (some .int) [(0, 17, 20, 18)] : Cond) ∈ GG := gg_4 (List.mem_of_getElem? (i := 154) (by decide +kernel)) (by decide +kernel)
theorem tw_1293 : (.initialized yL_lead.cls : Cond) ∈ GG := gg_1 (List.mem_of_getElem? (i := 0) (by decide +kernel)) (by decide +kernel)
theorem tw_1294 : (.static yL_lead : Cond) ∈ GG := gg_4 (List.mem_of_getElem? (i := 153) (by decide +kernel)) (by decide +kernel)
theorem tw_1295 : (.methodLink RL 151 yX11_lead : Cond) ∈ GG := gg_7 (List.mem_of_getElem? (i := 207) (by decide +kernel)) (by decide +kernel)
theorem tw_1296 : (.code yX11_lead cX11_lead 3 (some .boolean) : Cond) ∈ GG := gg_7 (List.mem_of_getElem? (i := 210) (by decide +kernel)) (by decide +kernel)
theorem tw_1297 : (.initialized yX11_lead.cls : Cond) ∈ GG := gg_1 (List.mem_of_getElem? (i := 13) (by decide +kernel)) (by decide +kernel)
theorem tw_1298 : (.instanceMethod yX11_lead : Cond) ∈ GG := gg_7 (List.mem_of_getElem? (i := 208) (by decide +kernel)) (by decide +kernel)
theorem tw_1299 : (.selects yX11_lead.cls yX11_lead yX11_lead : Cond) ∈ GG := gg_7 (List.mem_of_getElem? (i := 209) (by decide +kernel)) (by decide +kernel)
theorem tw_1300 : (.methodLink RL 152 yL_temper : Cond) ∈ GG := gg_4 (List.mem_of_getElem? (i := 159) (by decide +kernel)) (by decide +kernel)
theorem tw_1301 : (.codeWith yL_temper cL_temper 5 (some .int) [(0, 10, 13, 18)] : Cond) ∈ GG := gg_4 (List.mem_of_getElem? (i := 161) (by decide +kernel)) (by decide +kernel)
theorem tw_1302 : (.initialized yL_temper.cls : Cond) ∈ GG := gg_1 (List.mem_of_getElem? (i := 0) (by decide +kernel)) (by decide +kernel)
theorem tw_1303 : (.static yL_temper : Cond) ∈ GG := gg_4 (List.mem_of_getElem? (i := 160) (by decide +kernel)) (by decide +kernel)
theorem tw_1304 : (.methodLink RL 154 yX11_temper : Cond) ∈ GG := gg_7 (List.mem_of_getElem? (i := 215) (by decide +kernel)) (by decide +kernel)
theorem tw_1305 : (.code yX11_temper cX11_temper 4 (some .int) : Cond) ∈ GG := gg_7 (List.mem_of_getElem? (i := 218) (by decide +kernel)) (by decide +kernel)
theorem tw_1306 : (.initialized yX11_temper.cls : Cond) ∈ GG := gg_1 (List.mem_of_getElem? (i := 13) (by decide +kernel)) (by decide +kernel)
theorem tw_1307 : (.instanceMethod yX11_temper : Cond) ∈ GG := gg_7 (List.mem_of_getElem? (i := 216) (by decide +kernel)) (by decide +kernel)
theorem tw_1308 : (.selects yX11_temper.cls yX11_temper yX11_temper : Cond) ∈ GG := gg_7 (List.mem_of_getElem? (i := 217) (by decide +kernel)) (by decide +kernel)
theorem tw_1309 : (.methodLink RL 155 yX10_undo : Cond) ∈ GG := gg_2 (List.mem_of_getElem? (i := 236) (by decide +kernel)) (by decide +kernel)
theorem tw_1310 : (.code yX10_undo cX10_undo 1 (some .int) : Cond) ∈ GG := gg_2 (List.mem_of_getElem? (i := 239) (by decide +kernel)) (by decide +kernel)
theorem tw_1311 : (.initialized yX10_undo.cls : Cond) ∈ GG := gg_1 (List.mem_of_getElem? (i := 1) (by decide +kernel)) (by decide +kernel)
theorem tw_1312 : (.instanceMethod yX10_undo : Cond) ∈ GG := gg_2 (List.mem_of_getElem? (i := 237) (by decide +kernel)) (by decide +kernel)
theorem tw_1313 : (.selects yX10_undo.cls yX10_undo yX10_undo : Cond) ∈ GG := gg_2 (List.mem_of_getElem? (i := 238) (by decide +kernel)) (by decide +kernel)
theorem tw_1314 : (.methodLink RL 158 yX11_undo : Cond) ∈ GG := gg_7 (List.mem_of_getElem? (i := 219) (by decide +kernel)) (by decide +kernel)
theorem tw_1315 : (.code yX11_undo cX11_undo 1 (some .int) : Cond) ∈ GG := gg_7 (List.mem_of_getElem? (i := 222) (by decide +kernel)) (by decide +kernel)
theorem tw_1316 : (.initialized yX11_undo.cls : Cond) ∈ GG := gg_1 (List.mem_of_getElem? (i := 13) (by decide +kernel)) (by decide +kernel)
theorem tw_1317 : (.instanceMethod yX11_undo : Cond) ∈ GG := gg_7 (List.mem_of_getElem? (i := 220) (by decide +kernel)) (by decide +kernel)
theorem tw_1318 : (.selects yX11_undo.cls yX11_undo yX11_undo : Cond) ∈ GG := gg_7 (List.mem_of_getElem? (i := 221) (by decide +kernel)) (by decide +kernel)
theorem tw_1319 : (.methodLink RL 159 yL_then : Cond) ∈ GG := gg_4 (List.mem_of_getElem? (i := 166) (by decide +kernel)) (by decide +kernel)
theorem tw_1320 : (.codeWith yL_then cL_then 5 (some .int) [(0, 10, 13, 18), (0, 10, 17, 13)] : Cond) ∈ GG := gg_4 (List.mem_of_getElem? (i := 168) (by decide +kernel)) (by decide +kernel)
theorem tw_1321 : (.initialized yL_then.cls : Cond) ∈ GG := gg_1 (List.mem_of_getElem? (i := 0) (by decide +kernel)) (by decide +kernel)
theorem tw_1322 : (.static yL_then : Cond) ∈ GG := gg_4 (List.mem_of_getElem? (i := 167) (by decide +kernel)) (by decide +kernel)
theorem tw_1323 : (.methodLink RL 161 yX11_then : Cond) ∈ GG := gg_7 (List.mem_of_getElem? (i := 227) (by decide +kernel)) (by decide +kernel)
theorem tw_1324 : (.code yX11_then cX11_then 4 (some .int) : Cond) ∈ GG := gg_7 (List.mem_of_getElem? (i := 230) (by decide +kernel)) (by decide +kernel)
theorem tw_1325 : (.initialized yX11_then.cls : Cond) ∈ GG := gg_1 (List.mem_of_getElem? (i := 13) (by decide +kernel)) (by decide +kernel)
theorem tw_1326 : (.instanceMethod yX11_then : Cond) ∈ GG := gg_7 (List.mem_of_getElem? (i := 228) (by decide +kernel)) (by decide +kernel)
theorem tw_1327 : (.selects yX11_then.cls yX11_then yX11_then : Cond) ∈ GG := gg_7 (List.mem_of_getElem? (i := 229) (by decide +kernel)) (by decide +kernel)
theorem tw_1328 : (.methodLink RL 162 yL_purse : Cond) ∈ GG := gg_4 (List.mem_of_getElem? (i := 187) (by decide +kernel)) (by decide +kernel)
theorem tw_1329 : (.codeWith yL_purse cL_purse 6 (some .int) [(0, 12, 15, 18), (0, 12, 19, 13)] : Cond) ∈ GG := gg_4 (List.mem_of_getElem? (i := 189) (by decide +kernel)) (by decide +kernel)
theorem tw_1330 : (.initialized yL_purse.cls : Cond) ∈ GG := gg_1 (List.mem_of_getElem? (i := 0) (by decide +kernel)) (by decide +kernel)
theorem tw_1331 : (.static yL_purse : Cond) ∈ GG := gg_4 (List.mem_of_getElem? (i := 188) (by decide +kernel)) (by decide +kernel)
theorem tw_1332 : (.methodLink RL 165 yX11_purse : Cond) ∈ GG := gg_7 (List.mem_of_getElem? (i := 232) (by decide +kernel)) (by decide +kernel)
theorem tw_1333 : (.code yX11_purse cX11_purse 5 (some .int) : Cond) ∈ GG := gg_7 (List.mem_of_getElem? (i := 235) (by decide +kernel)) (by decide +kernel)
theorem tw_1334 : (.initialized yX11_purse.cls : Cond) ∈ GG := gg_1 (List.mem_of_getElem? (i := 13) (by decide +kernel)) (by decide +kernel)
theorem tw_1335 : (.instanceMethod yX11_purse : Cond) ∈ GG := gg_7 (List.mem_of_getElem? (i := 233) (by decide +kernel)) (by decide +kernel)
theorem tw_1336 : (.selects yX11_purse.cls yX11_purse yX11_purse : Cond) ∈ GG := gg_7 (List.mem_of_getElem? (i := 234) (by decide +kernel)) (by decide +kernel)
theorem tw_1337 : (.methodLink RL 166 yL_sealed : Cond) ∈ GG := gg_4 (List.mem_of_getElem? (i := 199) (by decide +kernel)) (by decide +kernel)
theorem tw_1338 : (.codeWith yL_sealed cL_sealed 4 (some .int) [(0, 9, 12, 18)] : Cond) ∈ GG := gg_4 (List.mem_of_getElem? (i := 201) (by decide +kernel)) (by decide +kernel)
theorem tw_1339 : (.initialized yL_sealed.cls : Cond) ∈ GG := gg_1 (List.mem_of_getElem? (i := 0) (by decide +kernel)) (by decide +kernel)
theorem tw_1340 : (.static yL_sealed : Cond) ∈ GG := gg_4 (List.mem_of_getElem? (i := 200) (by decide +kernel)) (by decide +kernel)
theorem tw_1341 : (.methodLink RL 168 yX11_sealed : Cond) ∈ GG := gg_7 (List.mem_of_getElem? (i := 236) (by decide +kernel)) (by decide +kernel)
theorem tw_1342 : (.code yX11_sealed cX11_sealed 4 (some .int) : Cond) ∈ GG := gg_7 (List.mem_of_getElem? (i := 239) (by decide +kernel)) (by decide +kernel)
theorem tw_1343 : (.initialized yX11_sealed.cls : Cond) ∈ GG := gg_1 (List.mem_of_getElem? (i := 13) (by decide +kernel)) (by decide +kernel)
theorem tw_1344 : (.instanceMethod yX11_sealed : Cond) ∈ GG := gg_7 (List.mem_of_getElem? (i := 237) (by decide +kernel)) (by decide +kernel)
theorem tw_1345 : (.selects yX11_sealed.cls yX11_sealed yX11_sealed : Cond) ∈ GG := gg_7 (List.mem_of_getElem? (i := 238) (by decide +kernel)) (by decide +kernel)
theorem tw_1346 : (.methodLink RL 169 yL_gets : Cond) ∈ GG := gg_4 (List.mem_of_getElem? (i := 211) (by decide +kernel)) (by decide +kernel)
theorem tw_1347 : (.codeWith yL_gets cL_gets 5 (some .int) [(0, 10, 13, 18)] : Cond) ∈ GG := gg_4 (List.mem_of_getElem? (i := 213) (by decide +kernel)) (by decide +kernel)
theorem tw_1348 : (.initialized yL_gets.cls : Cond) ∈ GG := gg_1 (List.mem_of_getElem? (i := 0) (by decide +kernel)) (by decide +kernel)
theorem tw_1349 : (.static yL_gets : Cond) ∈ GG := gg_4 (List.mem_of_getElem? (i := 212) (by decide +kernel)) (by decide +kernel)
theorem tw_1350 : (.methodLink RL 171 yX11_gets : Cond) ∈ GG := gg_8 (List.mem_of_getElem? (i := 0) (by decide +kernel)) (by decide +kernel)
theorem tw_1351 : (.code yX11_gets cX11_gets 5 (some .int) : Cond) ∈ GG := gg_8 (List.mem_of_getElem? (i := 3) (by decide +kernel)) (by decide +kernel)
theorem tw_1352 : (.initialized yX11_gets.cls : Cond) ∈ GG := gg_1 (List.mem_of_getElem? (i := 13) (by decide +kernel)) (by decide +kernel)
theorem tw_1353 : (.instanceMethod yX11_gets : Cond) ∈ GG := gg_8 (List.mem_of_getElem? (i := 1) (by decide +kernel)) (by decide +kernel)
theorem tw_1354 : (.selects yX11_gets.cls yX11_gets yX11_gets : Cond) ∈ GG := gg_8 (List.mem_of_getElem? (i := 2) (by decide +kernel)) (by decide +kernel)
theorem tw_1355 : (.methodLink RL 172 yL_loses : Cond) ∈ GG := gg_4 (List.mem_of_getElem? (i := 223) (by decide +kernel)) (by decide +kernel)
theorem tw_1356 : (.codeWith yL_loses cL_loses 4 (some .int) [(0, 9, 12, 18)] : Cond) ∈ GG := gg_4 (List.mem_of_getElem? (i := 225) (by decide +kernel)) (by decide +kernel)
theorem tw_1357 : (.initialized yL_loses.cls : Cond) ∈ GG := gg_1 (List.mem_of_getElem? (i := 0) (by decide +kernel)) (by decide +kernel)
theorem tw_1358 : (.static yL_loses : Cond) ∈ GG := gg_4 (List.mem_of_getElem? (i := 224) (by decide +kernel)) (by decide +kernel)
theorem tw_1359 : (.methodLink RL 174 yX11_loses : Cond) ∈ GG := gg_8 (List.mem_of_getElem? (i := 4) (by decide +kernel)) (by decide +kernel)
theorem tw_1360 : (.code yX11_loses cX11_loses 5 (some .int) : Cond) ∈ GG := gg_8 (List.mem_of_getElem? (i := 7) (by decide +kernel)) (by decide +kernel)
theorem tw_1361 : (.initialized yX11_loses.cls : Cond) ∈ GG := gg_1 (List.mem_of_getElem? (i := 13) (by decide +kernel)) (by decide +kernel)
theorem tw_1362 : (.instanceMethod yX11_loses : Cond) ∈ GG := gg_8 (List.mem_of_getElem? (i := 5) (by decide +kernel)) (by decide +kernel)
theorem tw_1363 : (.selects yX11_loses.cls yX11_loses yX11_loses : Cond) ∈ GG := gg_8 (List.mem_of_getElem? (i := 6) (by decide +kernel)) (by decide +kernel)
theorem tw_1364 : (.methodLink RL 175 yL_most : Cond) ∈ GG := gg_4 (List.mem_of_getElem? (i := 230) (by decide +kernel)) (by decide +kernel)
theorem tw_1365 : (.codeWith yL_most cL_most 4 (some .int) [(0, 9, 12, 13)] : Cond) ∈ GG := gg_4 (List.mem_of_getElem? (i := 232) (by decide +kernel)) (by decide +kernel)
theorem tw_1366 : (.initialized yL_most.cls : Cond) ∈ GG := gg_1 (List.mem_of_getElem? (i := 0) (by decide +kernel)) (by decide +kernel)
theorem tw_1367 : (.static yL_most : Cond) ∈ GG := gg_4 (List.mem_of_getElem? (i := 231) (by decide +kernel)) (by decide +kernel)
theorem tw_1368 : (.methodLink RL 177 yX11_most : Cond) ∈ GG := gg_8 (List.mem_of_getElem? (i := 8) (by decide +kernel)) (by decide +kernel)
theorem tw_1369 : (.code yX11_most cX11_most 6 (some .int) : Cond) ∈ GG := gg_8 (List.mem_of_getElem? (i := 11) (by decide +kernel)) (by decide +kernel)
theorem tw_1370 : (.initialized yX11_most.cls : Cond) ∈ GG := gg_1 (List.mem_of_getElem? (i := 13) (by decide +kernel)) (by decide +kernel)
theorem tw_1371 : (.instanceMethod yX11_most : Cond) ∈ GG := gg_8 (List.mem_of_getElem? (i := 9) (by decide +kernel)) (by decide +kernel)
theorem tw_1372 : (.selects yX11_most.cls yX11_most yX11_most : Cond) ∈ GG := gg_8 (List.mem_of_getElem? (i := 10) (by decide +kernel)) (by decide +kernel)
theorem tw_1373 : (.methodLink RL 178 yL_row : Cond) ∈ GG := gg_5 (List.mem_of_getElem? (i := 3) (by decide +kernel)) (by decide +kernel)
theorem tw_1374 : (.codeWith yL_row cL_row 5 (some .int) [(0, 10, 13, 18)] : Cond) ∈ GG := gg_5 (List.mem_of_getElem? (i := 5) (by decide +kernel)) (by decide +kernel)
theorem tw_1375 : (.initialized yL_row.cls : Cond) ∈ GG := gg_1 (List.mem_of_getElem? (i := 0) (by decide +kernel)) (by decide +kernel)
theorem tw_1376 : (.static yL_row : Cond) ∈ GG := gg_5 (List.mem_of_getElem? (i := 4) (by decide +kernel)) (by decide +kernel)
theorem tw_1377 : (.methodLink RL 180 yX11_row : Cond) ∈ GG := gg_8 (List.mem_of_getElem? (i := 12) (by decide +kernel)) (by decide +kernel)
theorem tw_1378 : (.code yX11_row cX11_row 7 (some .int) : Cond) ∈ GG := gg_8 (List.mem_of_getElem? (i := 15) (by decide +kernel)) (by decide +kernel)
theorem tw_1379 : (.initialized yX11_row.cls : Cond) ∈ GG := gg_1 (List.mem_of_getElem? (i := 13) (by decide +kernel)) (by decide +kernel)
theorem tw_1380 : (.instanceMethod yX11_row : Cond) ∈ GG := gg_8 (List.mem_of_getElem? (i := 13) (by decide +kernel)) (by decide +kernel)
theorem tw_1381 : (.selects yX11_row.cls yX11_row yX11_row : Cond) ∈ GG := gg_8 (List.mem_of_getElem? (i := 14) (by decide +kernel)) (by decide +kernel)
theorem tw_1382 : (.methodLink RL 181 yL_empty : Cond) ∈ GG := gg_5 (List.mem_of_getElem? (i := 10) (by decide +kernel)) (by decide +kernel)
theorem tw_1383 : (.codeWith yL_empty cL_empty 4 (some .int) [(0, 9, 12, 13)] : Cond) ∈ GG := gg_5 (List.mem_of_getElem? (i := 12) (by decide +kernel)) (by decide +kernel)
theorem tw_1384 : (.initialized yL_empty.cls : Cond) ∈ GG := gg_1 (List.mem_of_getElem? (i := 0) (by decide +kernel)) (by decide +kernel)
theorem tw_1385 : (.static yL_empty : Cond) ∈ GG := gg_5 (List.mem_of_getElem? (i := 11) (by decide +kernel)) (by decide +kernel)
theorem tw_1386 : (.methodLink RL 183 yX11_empty : Cond) ∈ GG := gg_8 (List.mem_of_getElem? (i := 16) (by decide +kernel)) (by decide +kernel)
theorem tw_1387 : (.code yX11_empty cX11_empty 3 (some .int) : Cond) ∈ GG := gg_8 (List.mem_of_getElem? (i := 19) (by decide +kernel)) (by decide +kernel)
theorem tw_1388 : (.initialized yX11_empty.cls : Cond) ∈ GG := gg_1 (List.mem_of_getElem? (i := 13) (by decide +kernel)) (by decide +kernel)
theorem tw_1389 : (.instanceMethod yX11_empty : Cond) ∈ GG := gg_8 (List.mem_of_getElem? (i := 17) (by decide +kernel)) (by decide +kernel)
theorem tw_1390 : (.selects yX11_empty.cls yX11_empty yX11_empty : Cond) ∈ GG := gg_8 (List.mem_of_getElem? (i := 18) (by decide +kernel)) (by decide +kernel)
theorem tw_1391 : (.methodLink RL 184 yL_liking : Cond) ∈ GG := gg_5 (List.mem_of_getElem? (i := 17) (by decide +kernel)) (by decide +kernel)
theorem tw_1392 : (.codeWith yL_liking cL_liking 5 (some .int) [(0, 10, 13, 18)] : Cond) ∈ GG := gg_5 (List.mem_of_getElem? (i := 19) (by decide +kernel)) (by decide +kernel)
theorem tw_1393 : (.initialized yL_liking.cls : Cond) ∈ GG := gg_1 (List.mem_of_getElem? (i := 0) (by decide +kernel)) (by decide +kernel)
theorem tw_1394 : (.static yL_liking : Cond) ∈ GG := gg_5 (List.mem_of_getElem? (i := 18) (by decide +kernel)) (by decide +kernel)
theorem tw_1395 : (.methodLink RL 186 yX11_liking : Cond) ∈ GG := gg_8 (List.mem_of_getElem? (i := 20) (by decide +kernel)) (by decide +kernel)
theorem tw_1396 : (.code yX11_liking cX11_liking 3 (some .int) : Cond) ∈ GG := gg_8 (List.mem_of_getElem? (i := 23) (by decide +kernel)) (by decide +kernel)
theorem tw_1397 : (.initialized yX11_liking.cls : Cond) ∈ GG := gg_1 (List.mem_of_getElem? (i := 13) (by decide +kernel)) (by decide +kernel)
theorem tw_1398 : (.instanceMethod yX11_liking : Cond) ∈ GG := gg_8 (List.mem_of_getElem? (i := 21) (by decide +kernel)) (by decide +kernel)
theorem tw_1399 : (.selects yX11_liking.cls yX11_liking yX11_liking : Cond) ∈ GG := gg_8 (List.mem_of_getElem? (i := 22) (by decide +kernel)) (by decide +kernel)
theorem tw_1400 : (.methodLink RL 187 yL_leastChops : Cond) ∈ GG := gg_5 (List.mem_of_getElem? (i := 28) (by decide +kernel)) (by decide +kernel)
theorem tw_1401 : (.codeWith yL_leastChops cL_leastChops 5 (some .int) [(0, 10, 13, 18)] : Cond) ∈ GG := gg_5 (List.mem_of_getElem? (i := 30) (by decide +kernel)) (by decide +kernel)
theorem tw_1402 : (.initialized yL_leastChops.cls : Cond) ∈ GG := gg_1 (List.mem_of_getElem? (i := 0) (by decide +kernel)) (by decide +kernel)
theorem tw_1403 : (.static yL_leastChops : Cond) ∈ GG := gg_5 (List.mem_of_getElem? (i := 29) (by decide +kernel)) (by decide +kernel)
theorem tw_1404 : (.methodLink RL 189 yX11_leastChops : Cond) ∈ GG := gg_8 (List.mem_of_getElem? (i := 28) (by decide +kernel)) (by decide +kernel)
theorem tw_1405 : (.code yX11_leastChops cX11_leastChops 6 (some .int) : Cond) ∈ GG := gg_8 (List.mem_of_getElem? (i := 31) (by decide +kernel)) (by decide +kernel)
theorem tw_1406 : (.initialized yX11_leastChops.cls : Cond) ∈ GG := gg_1 (List.mem_of_getElem? (i := 13) (by decide +kernel)) (by decide +kernel)
theorem tw_1407 : (.instanceMethod yX11_leastChops : Cond) ∈ GG := gg_8 (List.mem_of_getElem? (i := 29) (by decide +kernel)) (by decide +kernel)
theorem tw_1408 : (.selects yX11_leastChops.cls yX11_leastChops yX11_leastChops : Cond) ∈ GG := gg_8 (List.mem_of_getElem? (i := 30) (by decide +kernel)) (by decide +kernel)
theorem tw_1409 : (.methodLink RL 190 yL_toWin : Cond) ∈ GG := gg_5 (List.mem_of_getElem? (i := 39) (by decide +kernel)) (by decide +kernel)
theorem tw_1410 : (.codeWith yL_toWin cL_toWin 5 (some .int) [(0, 10, 13, 18)] : Cond) ∈ GG := gg_5 (List.mem_of_getElem? (i := 41) (by decide +kernel)) (by decide +kernel)
theorem tw_1411 : (.initialized yL_toWin.cls : Cond) ∈ GG := gg_1 (List.mem_of_getElem? (i := 0) (by decide +kernel)) (by decide +kernel)
theorem tw_1412 : (.static yL_toWin : Cond) ∈ GG := gg_5 (List.mem_of_getElem? (i := 40) (by decide +kernel)) (by decide +kernel)
theorem tw_1413 : (.methodLink RL 192 yX11_toWin : Cond) ∈ GG := gg_8 (List.mem_of_getElem? (i := 36) (by decide +kernel)) (by decide +kernel)
theorem tw_1414 : (.code yX11_toWin cX11_toWin 8 (some .int) : Cond) ∈ GG := gg_8 (List.mem_of_getElem? (i := 39) (by decide +kernel)) (by decide +kernel)
theorem tw_1415 : (.initialized yX11_toWin.cls : Cond) ∈ GG := gg_1 (List.mem_of_getElem? (i := 13) (by decide +kernel)) (by decide +kernel)
theorem tw_1416 : (.instanceMethod yX11_toWin : Cond) ∈ GG := gg_8 (List.mem_of_getElem? (i := 37) (by decide +kernel)) (by decide +kernel)
theorem tw_1417 : (.selects yX11_toWin.cls yX11_toWin yX11_toWin : Cond) ∈ GG := gg_8 (List.mem_of_getElem? (i := 38) (by decide +kernel)) (by decide +kernel)
theorem tw_1418 : (.methodLink RL 193 yL_ruin : Cond) ∈ GG := gg_5 (List.mem_of_getElem? (i := 46) (by decide +kernel)) (by decide +kernel)
theorem tw_1419 : (.codeWith yL_ruin cL_ruin 4 (some .int) [(0, 9, 12, 18)] : Cond) ∈ GG := gg_5 (List.mem_of_getElem? (i := 48) (by decide +kernel)) (by decide +kernel)
theorem tw_1420 : (.initialized yL_ruin.cls : Cond) ∈ GG := gg_1 (List.mem_of_getElem? (i := 0) (by decide +kernel)) (by decide +kernel)
theorem tw_1421 : (.static yL_ruin : Cond) ∈ GG := gg_5 (List.mem_of_getElem? (i := 47) (by decide +kernel)) (by decide +kernel)
theorem tw_1422 : (.methodLink RL 195 yX11_ruin : Cond) ∈ GG := gg_8 (List.mem_of_getElem? (i := 40) (by decide +kernel)) (by decide +kernel)
theorem tw_1423 : (.code yX11_ruin cX11_ruin 7 (some .int) : Cond) ∈ GG := gg_8 (List.mem_of_getElem? (i := 43) (by decide +kernel)) (by decide +kernel)
theorem tw_1424 : (.initialized yX11_ruin.cls : Cond) ∈ GG := gg_1 (List.mem_of_getElem? (i := 13) (by decide +kernel)) (by decide +kernel)
theorem tw_1425 : (.instanceMethod yX11_ruin : Cond) ∈ GG := gg_8 (List.mem_of_getElem? (i := 41) (by decide +kernel)) (by decide +kernel)
theorem tw_1426 : (.selects yX11_ruin.cls yX11_ruin yX11_ruin : Cond) ∈ GG := gg_8 (List.mem_of_getElem? (i := 42) (by decide +kernel)) (by decide +kernel)
theorem tw_1427 : (.methodLink RL 196 yL_share : Cond) ∈ GG := gg_5 (List.mem_of_getElem? (i := 53) (by decide +kernel)) (by decide +kernel)
theorem tw_1428 : (.codeWith yL_share cL_share 5 (some .int) [(0, 10, 13, 18), (0, 10, 17, 13)] : Cond) ∈ GG := gg_5 (List.mem_of_getElem? (i := 55) (by decide +kernel)) (by decide +kernel)
theorem tw_1429 : (.initialized yL_share.cls : Cond) ∈ GG := gg_1 (List.mem_of_getElem? (i := 0) (by decide +kernel)) (by decide +kernel)
theorem tw_1430 : (.static yL_share : Cond) ∈ GG := gg_5 (List.mem_of_getElem? (i := 54) (by decide +kernel)) (by decide +kernel)
theorem tw_1431 : (.methodLink RL 198 yX11_share : Cond) ∈ GG := gg_8 (List.mem_of_getElem? (i := 44) (by decide +kernel)) (by decide +kernel)
theorem tw_1432 : (.code yX11_share cX11_share 6 (some .int) : Cond) ∈ GG := gg_8 (List.mem_of_getElem? (i := 47) (by decide +kernel)) (by decide +kernel)
theorem tw_1433 : (.initialized yX11_share.cls : Cond) ∈ GG := gg_1 (List.mem_of_getElem? (i := 13) (by decide +kernel)) (by decide +kernel)
theorem tw_1434 : (.instanceMethod yX11_share : Cond) ∈ GG := gg_8 (List.mem_of_getElem? (i := 45) (by decide +kernel)) (by decide +kernel)
theorem tw_1435 : (.selects yX11_share.cls yX11_share yX11_share : Cond) ∈ GG := gg_8 (List.mem_of_getElem? (i := 46) (by decide +kernel)) (by decide +kernel)
theorem tw_1436 : (.methodLink RL 199 yL_beside : Cond) ∈ GG := gg_5 (List.mem_of_getElem? (i := 95) (by decide +kernel)) (by decide +kernel)
theorem tw_1437 : (.codeWith yL_beside cL_beside 4 (some .int) [(0, 9, 12, 18)] : Cond) ∈ GG := gg_5 (List.mem_of_getElem? (i := 97) (by decide +kernel)) (by decide +kernel)
theorem tw_1438 : (.initialized yL_beside.cls : Cond) ∈ GG := gg_1 (List.mem_of_getElem? (i := 0) (by decide +kernel)) (by decide +kernel)
theorem tw_1439 : (.static yL_beside : Cond) ∈ GG := gg_5 (List.mem_of_getElem? (i := 96) (by decide +kernel)) (by decide +kernel)
theorem tw_1440 : (.methodLink RL 201 yX11_beside : Cond) ∈ GG := gg_8 (List.mem_of_getElem? (i := 66) (by decide +kernel)) (by decide +kernel)
theorem tw_1441 : (.code yX11_beside cX11_beside 3 (some .int) : Cond) ∈ GG := gg_8 (List.mem_of_getElem? (i := 69) (by decide +kernel)) (by decide +kernel)
theorem tw_1442 : (.initialized yX11_beside.cls : Cond) ∈ GG := gg_1 (List.mem_of_getElem? (i := 13) (by decide +kernel)) (by decide +kernel)
theorem tw_1443 : (.instanceMethod yX11_beside : Cond) ∈ GG := gg_8 (List.mem_of_getElem? (i := 67) (by decide +kernel)) (by decide +kernel)
theorem tw_1444 : (.selects yX11_beside.cls yX11_beside yX11_beside : Cond) ∈ GG := gg_8 (List.mem_of_getElem? (i := 68) (by decide +kernel)) (by decide +kernel)
theorem tw_1445 : (.methodLink RL 202 yL_oldest : Cond) ∈ GG := gg_5 (List.mem_of_getElem? (i := 102) (by decide +kernel)) (by decide +kernel)
theorem tw_1446 : (.codeWith yL_oldest cL_oldest 4 (some .int) [(0, 9, 12, 18)] : Cond) ∈ GG := gg_5 (List.mem_of_getElem? (i := 104) (by decide +kernel)) (by decide +kernel)
theorem tw_1447 : (.initialized yL_oldest.cls : Cond) ∈ GG := gg_1 (List.mem_of_getElem? (i := 0) (by decide +kernel)) (by decide +kernel)
theorem tw_1448 : (.static yL_oldest : Cond) ∈ GG := gg_5 (List.mem_of_getElem? (i := 103) (by decide +kernel)) (by decide +kernel)
theorem tw_1449 : (.methodLink RL 204 yX11_oldest : Cond) ∈ GG := gg_8 (List.mem_of_getElem? (i := 70) (by decide +kernel)) (by decide +kernel)
theorem tw_1450 : (.code yX11_oldest cX11_oldest 6 (some .int) : Cond) ∈ GG := gg_8 (List.mem_of_getElem? (i := 73) (by decide +kernel)) (by decide +kernel)
theorem tw_1451 : (.initialized yX11_oldest.cls : Cond) ∈ GG := gg_1 (List.mem_of_getElem? (i := 13) (by decide +kernel)) (by decide +kernel)
theorem tw_1452 : (.instanceMethod yX11_oldest : Cond) ∈ GG := gg_8 (List.mem_of_getElem? (i := 71) (by decide +kernel)) (by decide +kernel)
theorem tw_1453 : (.selects yX11_oldest.cls yX11_oldest yX11_oldest : Cond) ∈ GG := gg_8 (List.mem_of_getElem? (i := 72) (by decide +kernel)) (by decide +kernel)
theorem tw_1454 : (.methodLink RL 205 yL_envy : Cond) ∈ GG := gg_5 (List.mem_of_getElem? (i := 109) (by decide +kernel)) (by decide +kernel)
theorem tw_1455 : (.codeWith yL_envy cL_envy 4 (some .int) [(0, 9, 12, 18)] : Cond) ∈ GG := gg_5 (List.mem_of_getElem? (i := 111) (by decide +kernel)) (by decide +kernel)
theorem tw_1456 : (.initialized yL_envy.cls : Cond) ∈ GG := gg_1 (List.mem_of_getElem? (i := 0) (by decide +kernel)) (by decide +kernel)
theorem tw_1457 : (.static yL_envy : Cond) ∈ GG := gg_5 (List.mem_of_getElem? (i := 110) (by decide +kernel)) (by decide +kernel)
theorem tw_1458 : (.methodLink RL 207 yX11_envy : Cond) ∈ GG := gg_8 (List.mem_of_getElem? (i := 74) (by decide +kernel)) (by decide +kernel)
theorem tw_1459 : (.code yX11_envy cX11_envy 4 (some .int) : Cond) ∈ GG := gg_8 (List.mem_of_getElem? (i := 77) (by decide +kernel)) (by decide +kernel)
theorem tw_1460 : (.initialized yX11_envy.cls : Cond) ∈ GG := gg_1 (List.mem_of_getElem? (i := 13) (by decide +kernel)) (by decide +kernel)
theorem tw_1461 : (.instanceMethod yX11_envy : Cond) ∈ GG := gg_8 (List.mem_of_getElem? (i := 75) (by decide +kernel)) (by decide +kernel)
theorem tw_1462 : (.selects yX11_envy.cls yX11_envy yX11_envy : Cond) ∈ GG := gg_8 (List.mem_of_getElem? (i := 76) (by decide +kernel)) (by decide +kernel)
theorem tw_1463 : (.methodLink RL 208 yL_see : Cond) ∈ GG := gg_5 (List.mem_of_getElem? (i := 116) (by decide +kernel)) (by decide +kernel)
theorem tw_1464 : (.codeWith yL_see cL_see 7 (some .int) [(0, 14, 17, 18)] : Cond) ∈ GG := gg_5 (List.mem_of_getElem? (i := 118) (by decide +kernel)) (by decide +kernel)
theorem tw_1465 : (.initialized yL_see.cls : Cond) ∈ GG := gg_1 (List.mem_of_getElem? (i := 0) (by decide +kernel)) (by decide +kernel)
theorem tw_1466 : (.static yL_see : Cond) ∈ GG := gg_5 (List.mem_of_getElem? (i := 117) (by decide +kernel)) (by decide +kernel)
theorem tw_1467 : (.methodLink RL 211 yX11_see : Cond) ∈ GG := gg_8 (List.mem_of_getElem? (i := 78) (by decide +kernel)) (by decide +kernel)
theorem tw_1468 : (.code yX11_see cX11_see 5 (some .int) : Cond) ∈ GG := gg_8 (List.mem_of_getElem? (i := 81) (by decide +kernel)) (by decide +kernel)
theorem tw_1469 : (.initialized yX11_see.cls : Cond) ∈ GG := gg_1 (List.mem_of_getElem? (i := 13) (by decide +kernel)) (by decide +kernel)
theorem tw_1470 : (.instanceMethod yX11_see : Cond) ∈ GG := gg_8 (List.mem_of_getElem? (i := 79) (by decide +kernel)) (by decide +kernel)
theorem tw_1471 : (.selects yX11_see.cls yX11_see yX11_see : Cond) ∈ GG := gg_8 (List.mem_of_getElem? (i := 80) (by decide +kernel)) (by decide +kernel)
theorem tw_1472 : (.methodLink RL 212 yL_pockets : Cond) ∈ GG := gg_5 (List.mem_of_getElem? (i := 127) (by decide +kernel)) (by decide +kernel)
theorem tw_1473 : (.codeWith yL_pockets cL_pockets 4 (some .int) [(0, 9, 12, 18)] : Cond) ∈ GG := gg_5 (List.mem_of_getElem? (i := 129) (by decide +kernel)) (by decide +kernel)
theorem tw_1474 : (.initialized yL_pockets.cls : Cond) ∈ GG := gg_1 (List.mem_of_getElem? (i := 0) (by decide +kernel)) (by decide +kernel)
theorem tw_1475 : (.static yL_pockets : Cond) ∈ GG := gg_5 (List.mem_of_getElem? (i := 128) (by decide +kernel)) (by decide +kernel)
theorem tw_1476 : (.methodLink RL 214 yX11_pockets : Cond) ∈ GG := gg_8 (List.mem_of_getElem? (i := 83) (by decide +kernel)) (by decide +kernel)
theorem tw_1477 : (.code yX11_pockets cX11_pockets 2 (some .int) : Cond) ∈ GG := gg_8 (List.mem_of_getElem? (i := 86) (by decide +kernel)) (by decide +kernel)
theorem tw_1478 : (.initialized yX11_pockets.cls : Cond) ∈ GG := gg_1 (List.mem_of_getElem? (i := 13) (by decide +kernel)) (by decide +kernel)
theorem tw_1479 : (.instanceMethod yX11_pockets : Cond) ∈ GG := gg_8 (List.mem_of_getElem? (i := 84) (by decide +kernel)) (by decide +kernel)
theorem tw_1480 : (.selects yX11_pockets.cls yX11_pockets yX11_pockets : Cond) ∈ GG := gg_8 (List.mem_of_getElem? (i := 85) (by decide +kernel)) (by decide +kernel)
theorem tw_1481 : (.methodLink RL 215 yL_look : Cond) ∈ GG := gg_5 (List.mem_of_getElem? (i := 147) (by decide +kernel)) (by decide +kernel)
theorem tw_1482 : (.codeWith yL_look cL_look 4 (some .int) [(0, 9, 12, 18)] : Cond) ∈ GG := gg_5 (List.mem_of_getElem? (i := 149) (by decide +kernel)) (by decide +kernel)
theorem tw_1483 : (.initialized yL_look.cls : Cond) ∈ GG := gg_1 (List.mem_of_getElem? (i := 0) (by decide +kernel)) (by decide +kernel)
theorem tw_1484 : (.static yL_look : Cond) ∈ GG := gg_5 (List.mem_of_getElem? (i := 148) (by decide +kernel)) (by decide +kernel)
theorem tw_1485 : (.methodLink RL 217 yX11_look : Cond) ∈ GG := gg_8 (List.mem_of_getElem? (i := 96) (by decide +kernel)) (by decide +kernel)
theorem tw_1486 : (.code yX11_look cX11_look 6 (some .int) : Cond) ∈ GG := gg_8 (List.mem_of_getElem? (i := 99) (by decide +kernel)) (by decide +kernel)
theorem tw_1487 : (.initialized yX11_look.cls : Cond) ∈ GG := gg_1 (List.mem_of_getElem? (i := 13) (by decide +kernel)) (by decide +kernel)
theorem tw_1488 : (.instanceMethod yX11_look : Cond) ∈ GG := gg_8 (List.mem_of_getElem? (i := 97) (by decide +kernel)) (by decide +kernel)
theorem tw_1489 : (.selects yX11_look.cls yX11_look yX11_look : Cond) ∈ GG := gg_8 (List.mem_of_getElem? (i := 98) (by decide +kernel)) (by decide +kernel)
theorem tw_1490 : (.methodLink RL 218 yX10_forget : Cond) ∈ GG := gg_3 (List.mem_of_getElem? (i := 4) (by decide +kernel)) (by decide +kernel)
theorem tw_1491 : (.code yX10_forget cX10_forget 1 none : Cond) ∈ GG := gg_3 (List.mem_of_getElem? (i := 7) (by decide +kernel)) (by decide +kernel)
theorem tw_1492 : (.initialized yX10_forget.cls : Cond) ∈ GG := gg_1 (List.mem_of_getElem? (i := 1) (by decide +kernel)) (by decide +kernel)
theorem tw_1493 : (.instanceMethod yX10_forget : Cond) ∈ GG := gg_3 (List.mem_of_getElem? (i := 5) (by decide +kernel)) (by decide +kernel)
theorem tw_1494 : (.selects yX10_forget.cls yX10_forget yX10_forget : Cond) ∈ GG := gg_3 (List.mem_of_getElem? (i := 6) (by decide +kernel)) (by decide +kernel)
theorem tw_1495 : (.methodLink RL 221 yX11_forget : Cond) ∈ GG := gg_8 (List.mem_of_getElem? (i := 104) (by decide +kernel)) (by decide +kernel)
theorem tw_1496 : (.code yX11_forget cX11_forget 1 none : Cond) ∈ GG := gg_8 (List.mem_of_getElem? (i := 107) (by decide +kernel)) (by decide +kernel)
theorem tw_1497 : (.initialized yX11_forget.cls : Cond) ∈ GG := gg_1 (List.mem_of_getElem? (i := 13) (by decide +kernel)) (by decide +kernel)
theorem tw_1498 : (.instanceMethod yX11_forget : Cond) ∈ GG := gg_8 (List.mem_of_getElem? (i := 105) (by decide +kernel)) (by decide +kernel)
theorem tw_1499 : (.selects yX11_forget.cls yX11_forget yX11_forget : Cond) ∈ GG := gg_8 (List.mem_of_getElem? (i := 106) (by decide +kernel)) (by decide +kernel)
theorem tw_1500 : (.methodLink RL 222 yL_game : Cond) ∈ GG := gg_5 (List.mem_of_getElem? (i := 162) (by decide +kernel)) (by decide +kernel)
theorem tw_1501 : (.codeWith yL_game cL_game 6 (some .int) [(0, 12, 15, 18), (0, 12, 19, 13)] : Cond) ∈ GG := gg_5 (List.mem_of_getElem? (i := 164) (by decide +kernel)) (by decide +kernel)
theorem tw_1502 : (.initialized yL_game.cls : Cond) ∈ GG := gg_1 (List.mem_of_getElem? (i := 0) (by decide +kernel)) (by decide +kernel)
theorem tw_1503 : (.static yL_game : Cond) ∈ GG := gg_5 (List.mem_of_getElem? (i := 163) (by decide +kernel)) (by decide +kernel)
theorem tw_1504 : (.methodLink RL 224 yX11_game : Cond) ∈ GG := gg_8 (List.mem_of_getElem? (i := 108) (by decide +kernel)) (by decide +kernel)
theorem tw_1505 : (.code yX11_game cX11_game 7 (some .int) : Cond) ∈ GG := gg_8 (List.mem_of_getElem? (i := 111) (by decide +kernel)) (by decide +kernel)
theorem tw_1506 : (.initialized yX11_game.cls : Cond) ∈ GG := gg_1 (List.mem_of_getElem? (i := 13) (by decide +kernel)) (by decide +kernel)
theorem tw_1507 : (.instanceMethod yX11_game : Cond) ∈ GG := gg_8 (List.mem_of_getElem? (i := 109) (by decide +kernel)) (by decide +kernel)
theorem tw_1508 : (.selects yX11_game.cls yX11_game yX11_game : Cond) ∈ GG := gg_8 (List.mem_of_getElem? (i := 110) (by decide +kernel)) (by decide +kernel)
theorem tw_1509 : (.methodLink RL 225 yL_years : Cond) ∈ GG := gg_5 (List.mem_of_getElem? (i := 184) (by decide +kernel)) (by decide +kernel)
theorem tw_1510 : (.codeWith yL_years cL_years 6 (some .int) [(0, 12, 15, 18), (0, 12, 19, 13)] : Cond) ∈ GG := gg_5 (List.mem_of_getElem? (i := 186) (by decide +kernel)) (by decide +kernel)
theorem tw_1511 : (.initialized yL_years.cls : Cond) ∈ GG := gg_1 (List.mem_of_getElem? (i := 0) (by decide +kernel)) (by decide +kernel)
theorem tw_1512 : (.static yL_years : Cond) ∈ GG := gg_5 (List.mem_of_getElem? (i := 185) (by decide +kernel)) (by decide +kernel)
theorem tw_1513 : (.methodLink RL 227 yX11_years : Cond) ∈ GG := gg_8 (List.mem_of_getElem? (i := 124) (by decide +kernel)) (by decide +kernel)
theorem tw_1514 : (.code yX11_years cX11_years 7 (some .int) : Cond) ∈ GG := gg_8 (List.mem_of_getElem? (i := 127) (by decide +kernel)) (by decide +kernel)
theorem tw_1515 : (.initialized yX11_years.cls : Cond) ∈ GG := gg_1 (List.mem_of_getElem? (i := 13) (by decide +kernel)) (by decide +kernel)
theorem tw_1516 : (.instanceMethod yX11_years : Cond) ∈ GG := gg_8 (List.mem_of_getElem? (i := 125) (by decide +kernel)) (by decide +kernel)
theorem tw_1517 : (.selects yX11_years.cls yX11_years yX11_years : Cond) ∈ GG := gg_8 (List.mem_of_getElem? (i := 126) (by decide +kernel)) (by decide +kernel)
theorem tw_1518 : (.methodLink RL 228 yX10_image : Cond) ∈ GG := gg_3 (List.mem_of_getElem? (i := 8) (by decide +kernel)) (by decide +kernel)
theorem tw_1519 : (.code yX10_image cX10_image 1 none : Cond) ∈ GG := gg_3 (List.mem_of_getElem? (i := 11) (by decide +kernel)) (by decide +kernel)
theorem tw_1520 : (.initialized yX10_image.cls : Cond) ∈ GG := gg_1 (List.mem_of_getElem? (i := 1) (by decide +kernel)) (by decide +kernel)
theorem tw_1521 : (.instanceMethod yX10_image : Cond) ∈ GG := gg_3 (List.mem_of_getElem? (i := 9) (by decide +kernel)) (by decide +kernel)
theorem tw_1522 : (.selects yX10_image.cls yX10_image yX10_image : Cond) ∈ GG := gg_3 (List.mem_of_getElem? (i := 10) (by decide +kernel)) (by decide +kernel)
theorem tw_1523 : (.methodLink RL 231 yX11_image : Cond) ∈ GG := gg_8 (List.mem_of_getElem? (i := 137) (by decide +kernel)) (by decide +kernel)
theorem tw_1524 : (.code yX11_image cX11_image 2 none : Cond) ∈ GG := gg_8 (List.mem_of_getElem? (i := 140) (by decide +kernel)) (by decide +kernel)
theorem tw_1525 : (.initialized yX11_image.cls : Cond) ∈ GG := gg_1 (List.mem_of_getElem? (i := 13) (by decide +kernel)) (by decide +kernel)
theorem tw_1526 : (.instanceMethod yX11_image : Cond) ∈ GG := gg_8 (List.mem_of_getElem? (i := 138) (by decide +kernel)) (by decide +kernel)
theorem tw_1527 : (.selects yX11_image.cls yX11_image yX11_image : Cond) ∈ GG := gg_8 (List.mem_of_getElem? (i := 139) (by decide +kernel)) (by decide +kernel)
theorem tw_1528 : (.methodLink RL 232 yX10_restore : Cond) ∈ GG := gg_3 (List.mem_of_getElem? (i := 25) (by decide +kernel)) (by decide +kernel)
theorem tw_1529 : (.code yX10_restore cX10_restore 1 (some .boolean) : Cond) ∈ GG := gg_3 (List.mem_of_getElem? (i := 28) (by decide +kernel)) (by decide +kernel)
theorem tw_1530 : (.initialized yX10_restore.cls : Cond) ∈ GG := gg_1 (List.mem_of_getElem? (i := 1) (by decide +kernel)) (by decide +kernel)
theorem tw_1531 : (.instanceMethod yX10_restore : Cond) ∈ GG := gg_3 (List.mem_of_getElem? (i := 26) (by decide +kernel)) (by decide +kernel)
theorem tw_1532 : (.selects yX10_restore.cls yX10_restore yX10_restore : Cond) ∈ GG := gg_3 (List.mem_of_getElem? (i := 27) (by decide +kernel)) (by decide +kernel)
theorem tw_1533 : (.methodLink RL 236 yX11_restore : Cond) ∈ GG := gg_8 (List.mem_of_getElem? (i := 144) (by decide +kernel)) (by decide +kernel)
theorem tw_1534 : (.code yX11_restore cX11_restore 2 (some .boolean) : Cond) ∈ GG := gg_8 (List.mem_of_getElem? (i := 147) (by decide +kernel)) (by decide +kernel)
theorem tw_1535 : (.initialized yX11_restore.cls : Cond) ∈ GG := gg_1 (List.mem_of_getElem? (i := 13) (by decide +kernel)) (by decide +kernel)
theorem tw_1536 : (.instanceMethod yX11_restore : Cond) ∈ GG := gg_8 (List.mem_of_getElem? (i := 145) (by decide +kernel)) (by decide +kernel)
theorem tw_1537 : (.selects yX11_restore.cls yX11_restore yX11_restore : Cond) ∈ GG := gg_8 (List.mem_of_getElem? (i := 146) (by decide +kernel)) (by decide +kernel)
theorem yv_X10_feed : YV yX10_feed cX10_feed 6 (some .int) 5 := ⟨tw_1203, tw_1204, tw_1205, tw_1206, by decide +kernel, by decide +kernel, by decide +kernel⟩
theorem yv_X11_feed : YV yX11_feed cX11_feed 8 (some .int) 5 := ⟨tw_1208, tw_1209, tw_1210, tw_1211, by decide +kernel, by decide +kernel, by decide +kernel⟩
theorem yw_L_terrace : YW yL_terrace cL_terrace 4 (some .int) [(0, 9, 12, 13)] 3 := ⟨tw_1213, tw_1214, tw_1215, by decide +kernel, by decide +kernel⟩
theorem yv_X11_terrace : YV yX11_terrace cX11_terrace 3 (some .int) 1 := ⟨tw_1217, tw_1218, tw_1219, tw_1220, by decide +kernel, by decide +kernel, by decide +kernel⟩
theorem yv_X11_thrown : YV yX11_thrown cX11_thrown 1 (some .int) 0 := ⟨tw_1222, tw_1223, tw_1224, tw_1225, by decide +kernel, by decide +kernel, by decide +kernel⟩
theorem yv_X10_fault : YV yX10_fault cX10_fault 1 (some .int) 0 := ⟨tw_1227, tw_1228, tw_1229, tw_1230, by decide +kernel, by decide +kernel, by decide +kernel⟩
theorem yv_X11_fault : YV yX11_fault cX11_fault 1 (some .int) 0 := ⟨tw_1232, tw_1233, tw_1234, tw_1235, by decide +kernel, by decide +kernel, by decide +kernel⟩
theorem yw_L_count : YW yL_count cL_count 4 (some .int) [(0, 9, 12, 18)] 3 := ⟨tw_1237, tw_1238, tw_1239, by decide +kernel, by decide +kernel⟩
theorem yv_X11_count : YV yX11_count cX11_count 2 (some .int) 1 := ⟨tw_1241, tw_1242, tw_1243, tw_1244, by decide +kernel, by decide +kernel, by decide +kernel⟩
theorem yw_L_house : YW yL_house cL_house 5 (some .int) [(0, 10, 13, 18)] 4 := ⟨tw_1246, tw_1247, tw_1248, by decide +kernel, by decide +kernel⟩
theorem yv_X11_house : YV yX11_house cX11_house 3 (some .int) 2 := ⟨tw_1250, tw_1251, tw_1252, tw_1253, by decide +kernel, by decide +kernel, by decide +kernel⟩
theorem yw_L_tenant : YW yL_tenant cL_tenant 5 (some .int) [(0, 10, 13, 18)] 4 := ⟨tw_1255, tw_1256, tw_1257, by decide +kernel, by decide +kernel⟩
theorem yv_X11_tenant : YV yX11_tenant cX11_tenant 3 (some .int) 2 := ⟨tw_1259, tw_1260, tw_1261, tw_1262, by decide +kernel, by decide +kernel, by decide +kernel⟩
theorem yv_X10_quarters : YV yX10_quarters cX10_quarters 2 (some .int) 1 := ⟨tw_1264, tw_1265, tw_1266, tw_1267, by decide +kernel, by decide +kernel, by decide +kernel⟩
theorem yv_X11_quarters : YV yX11_quarters cX11_quarters 2 (some .int) 1 := ⟨tw_1269, tw_1270, tw_1271, tw_1272, by decide +kernel, by decide +kernel, by decide +kernel⟩
theorem yw_L_buy : YW yL_buy cL_buy 5 (some .int) [(0, 10, 13, 18)] 4 := ⟨tw_1274, tw_1275, tw_1276, by decide +kernel, by decide +kernel⟩
theorem yv_X11_buy : YV yX11_buy cX11_buy 3 (some .int) 2 := ⟨tw_1278, tw_1279, tw_1280, tw_1281, by decide +kernel, by decide +kernel, by decide +kernel⟩
theorem yw_L_cats : YW yL_cats cL_cats 5 (some .int) [(0, 10, 13, 18)] 4 := ⟨tw_1283, tw_1284, tw_1285, by decide +kernel, by decide +kernel⟩
theorem yv_X11_cats : YV yX11_cats cX11_cats 4 (some .int) 2 := ⟨tw_1287, tw_1288, tw_1289, tw_1290, by decide +kernel, by decide +kernel, by decide +kernel⟩
theorem yw_L_lead : YW yL_lead cL_lead 5 (some .int) [(0, 17, 20, 18)] 4 := ⟨tw_1292, tw_1293, tw_1294, by decide +kernel, by decide +kernel⟩
theorem yv_X11_lead : YV yX11_lead cX11_lead 3 (some .boolean) 2 := ⟨tw_1296, tw_1297, tw_1298, tw_1299, by decide +kernel, by decide +kernel, by decide +kernel⟩
theorem yw_L_temper : YW yL_temper cL_temper 5 (some .int) [(0, 10, 13, 18)] 4 := ⟨tw_1301, tw_1302, tw_1303, by decide +kernel, by decide +kernel⟩
theorem yv_X11_temper : YV yX11_temper cX11_temper 4 (some .int) 2 := ⟨tw_1305, tw_1306, tw_1307, tw_1308, by decide +kernel, by decide +kernel, by decide +kernel⟩
theorem yv_X10_undo : YV yX10_undo cX10_undo 1 (some .int) 0 := ⟨tw_1310, tw_1311, tw_1312, tw_1313, by decide +kernel, by decide +kernel, by decide +kernel⟩
theorem yv_X11_undo : YV yX11_undo cX11_undo 1 (some .int) 0 := ⟨tw_1315, tw_1316, tw_1317, tw_1318, by decide +kernel, by decide +kernel, by decide +kernel⟩
theorem yw_L_then : YW yL_then cL_then 5 (some .int) [(0, 10, 13, 18), (0, 10, 17, 13)] 4 := ⟨tw_1320, tw_1321, tw_1322, by decide +kernel, by decide +kernel⟩
theorem yv_X11_then : YV yX11_then cX11_then 4 (some .int) 2 := ⟨tw_1324, tw_1325, tw_1326, tw_1327, by decide +kernel, by decide +kernel, by decide +kernel⟩
theorem yw_L_purse : YW yL_purse cL_purse 6 (some .int) [(0, 12, 15, 18), (0, 12, 19, 13)] 5 := ⟨tw_1329, tw_1330, tw_1331, by decide +kernel, by decide +kernel⟩
theorem yv_X11_purse : YV yX11_purse cX11_purse 5 (some .int) 3 := ⟨tw_1333, tw_1334, tw_1335, tw_1336, by decide +kernel, by decide +kernel, by decide +kernel⟩
theorem yw_L_sealed : YW yL_sealed cL_sealed 4 (some .int) [(0, 9, 12, 18)] 3 := ⟨tw_1338, tw_1339, tw_1340, by decide +kernel, by decide +kernel⟩
theorem yv_X11_sealed : YV yX11_sealed cX11_sealed 4 (some .int) 1 := ⟨tw_1342, tw_1343, tw_1344, tw_1345, by decide +kernel, by decide +kernel, by decide +kernel⟩
theorem yw_L_gets : YW yL_gets cL_gets 5 (some .int) [(0, 10, 13, 18)] 4 := ⟨tw_1347, tw_1348, tw_1349, by decide +kernel, by decide +kernel⟩
theorem yv_X11_gets : YV yX11_gets cX11_gets 5 (some .int) 2 := ⟨tw_1351, tw_1352, tw_1353, tw_1354, by decide +kernel, by decide +kernel, by decide +kernel⟩
theorem yw_L_loses : YW yL_loses cL_loses 4 (some .int) [(0, 9, 12, 18)] 3 := ⟨tw_1356, tw_1357, tw_1358, by decide +kernel, by decide +kernel⟩
theorem yv_X11_loses : YV yX11_loses cX11_loses 5 (some .int) 1 := ⟨tw_1360, tw_1361, tw_1362, tw_1363, by decide +kernel, by decide +kernel, by decide +kernel⟩
theorem yw_L_most : YW yL_most cL_most 4 (some .int) [(0, 9, 12, 13)] 3 := ⟨tw_1365, tw_1366, tw_1367, by decide +kernel, by decide +kernel⟩
theorem yv_X11_most : YV yX11_most cX11_most 6 (some .int) 1 := ⟨tw_1369, tw_1370, tw_1371, tw_1372, by decide +kernel, by decide +kernel, by decide +kernel⟩
theorem yw_L_row : YW yL_row cL_row 5 (some .int) [(0, 10, 13, 18)] 4 := ⟨tw_1374, tw_1375, tw_1376, by decide +kernel, by decide +kernel⟩
theorem yv_X11_row : YV yX11_row cX11_row 7 (some .int) 2 := ⟨tw_1378, tw_1379, tw_1380, tw_1381, by decide +kernel, by decide +kernel, by decide +kernel⟩
theorem yw_L_empty : YW yL_empty cL_empty 4 (some .int) [(0, 9, 12, 13)] 3 := ⟨tw_1383, tw_1384, tw_1385, by decide +kernel, by decide +kernel⟩
theorem yv_X11_empty : YV yX11_empty cX11_empty 3 (some .int) 1 := ⟨tw_1387, tw_1388, tw_1389, tw_1390, by decide +kernel, by decide +kernel, by decide +kernel⟩
theorem yw_L_liking : YW yL_liking cL_liking 5 (some .int) [(0, 10, 13, 18)] 4 := ⟨tw_1392, tw_1393, tw_1394, by decide +kernel, by decide +kernel⟩
theorem yv_X11_liking : YV yX11_liking cX11_liking 3 (some .int) 2 := ⟨tw_1396, tw_1397, tw_1398, tw_1399, by decide +kernel, by decide +kernel, by decide +kernel⟩
theorem yw_L_leastChops : YW yL_leastChops cL_leastChops 5 (some .int) [(0, 10, 13, 18)] 4 := ⟨tw_1401, tw_1402, tw_1403, by decide +kernel, by decide +kernel⟩
theorem yv_X11_leastChops : YV yX11_leastChops cX11_leastChops 6 (some .int) 2 := ⟨tw_1405, tw_1406, tw_1407, tw_1408, by decide +kernel, by decide +kernel, by decide +kernel⟩
theorem yw_L_toWin : YW yL_toWin cL_toWin 5 (some .int) [(0, 10, 13, 18)] 4 := ⟨tw_1410, tw_1411, tw_1412, by decide +kernel, by decide +kernel⟩
theorem yv_X11_toWin : YV yX11_toWin cX11_toWin 8 (some .int) 2 := ⟨tw_1414, tw_1415, tw_1416, tw_1417, by decide +kernel, by decide +kernel, by decide +kernel⟩
theorem yw_L_ruin : YW yL_ruin cL_ruin 4 (some .int) [(0, 9, 12, 18)] 3 := ⟨tw_1419, tw_1420, tw_1421, by decide +kernel, by decide +kernel⟩
theorem yv_X11_ruin : YV yX11_ruin cX11_ruin 7 (some .int) 1 := ⟨tw_1423, tw_1424, tw_1425, tw_1426, by decide +kernel, by decide +kernel, by decide +kernel⟩
theorem yw_L_share : YW yL_share cL_share 5 (some .int) [(0, 10, 13, 18), (0, 10, 17, 13)] 4 := ⟨tw_1428, tw_1429, tw_1430, by decide +kernel, by decide +kernel⟩
theorem yv_X11_share : YV yX11_share cX11_share 6 (some .int) 2 := ⟨tw_1432, tw_1433, tw_1434, tw_1435, by decide +kernel, by decide +kernel, by decide +kernel⟩
theorem yw_L_beside : YW yL_beside cL_beside 4 (some .int) [(0, 9, 12, 18)] 3 := ⟨tw_1437, tw_1438, tw_1439, by decide +kernel, by decide +kernel⟩
theorem yv_X11_beside : YV yX11_beside cX11_beside 3 (some .int) 1 := ⟨tw_1441, tw_1442, tw_1443, tw_1444, by decide +kernel, by decide +kernel, by decide +kernel⟩
theorem yw_L_oldest : YW yL_oldest cL_oldest 4 (some .int) [(0, 9, 12, 18)] 3 := ⟨tw_1446, tw_1447, tw_1448, by decide +kernel, by decide +kernel⟩
theorem yv_X11_oldest : YV yX11_oldest cX11_oldest 6 (some .int) 1 := ⟨tw_1450, tw_1451, tw_1452, tw_1453, by decide +kernel, by decide +kernel, by decide +kernel⟩
theorem yw_L_envy : YW yL_envy cL_envy 4 (some .int) [(0, 9, 12, 18)] 3 := ⟨tw_1455, tw_1456, tw_1457, by decide +kernel, by decide +kernel⟩
theorem yv_X11_envy : YV yX11_envy cX11_envy 4 (some .int) 1 := ⟨tw_1459, tw_1460, tw_1461, tw_1462, by decide +kernel, by decide +kernel, by decide +kernel⟩
theorem yw_L_see : YW yL_see cL_see 7 (some .int) [(0, 14, 17, 18)] 6 := ⟨tw_1464, tw_1465, tw_1466, by decide +kernel, by decide +kernel⟩
theorem yv_X11_see : YV yX11_see cX11_see 5 (some .int) 4 := ⟨tw_1468, tw_1469, tw_1470, tw_1471, by decide +kernel, by decide +kernel, by decide +kernel⟩
theorem yw_L_pockets : YW yL_pockets cL_pockets 4 (some .int) [(0, 9, 12, 18)] 3 := ⟨tw_1473, tw_1474, tw_1475, by decide +kernel, by decide +kernel⟩
theorem yv_X11_pockets : YV yX11_pockets cX11_pockets 2 (some .int) 1 := ⟨tw_1477, tw_1478, tw_1479, tw_1480, by decide +kernel, by decide +kernel, by decide +kernel⟩
theorem yw_L_look : YW yL_look cL_look 4 (some .int) [(0, 9, 12, 18)] 3 := ⟨tw_1482, tw_1483, tw_1484, by decide +kernel, by decide +kernel⟩
theorem yv_X11_look : YV yX11_look cX11_look 6 (some .int) 1 := ⟨tw_1486, tw_1487, tw_1488, tw_1489, by decide +kernel, by decide +kernel, by decide +kernel⟩
theorem yv_X10_forget : YV yX10_forget cX10_forget 1 none 0 := ⟨tw_1491, tw_1492, tw_1493, tw_1494, by decide +kernel, by decide +kernel, by decide +kernel⟩
theorem yv_X11_forget : YV yX11_forget cX11_forget 1 none 0 := ⟨tw_1496, tw_1497, tw_1498, tw_1499, by decide +kernel, by decide +kernel, by decide +kernel⟩
theorem yw_L_game : YW yL_game cL_game 6 (some .int) [(0, 12, 15, 18), (0, 12, 19, 13)] 5 := ⟨tw_1501, tw_1502, tw_1503, by decide +kernel, by decide +kernel⟩
theorem yv_X11_game : YV yX11_game cX11_game 7 (some .int) 3 := ⟨tw_1505, tw_1506, tw_1507, tw_1508, by decide +kernel, by decide +kernel, by decide +kernel⟩
theorem yw_L_years : YW yL_years cL_years 6 (some .int) [(0, 12, 15, 18), (0, 12, 19, 13)] 5 := ⟨tw_1510, tw_1511, tw_1512, by decide +kernel, by decide +kernel⟩
theorem yv_X11_years : YV yX11_years cX11_years 7 (some .int) 3 := ⟨tw_1514, tw_1515, tw_1516, tw_1517, by decide +kernel, by decide +kernel, by decide +kernel⟩
theorem yv_X10_image : YV yX10_image cX10_image 1 none 0 := ⟨tw_1519, tw_1520, tw_1521, tw_1522, by decide +kernel, by decide +kernel, by decide +kernel⟩
theorem yv_X11_image : YV yX11_image cX11_image 2 none 0 := ⟨tw_1524, tw_1525, tw_1526, tw_1527, by decide +kernel, by decide +kernel, by decide +kernel⟩
theorem yv_X10_restore : YV yX10_restore cX10_restore 1 (some .boolean) 0 := ⟨tw_1529, tw_1530, tw_1531, tw_1532, by decide +kernel, by decide +kernel, by decide +kernel⟩
theorem yv_X11_restore : YV yX11_restore cX11_restore 2 (some .boolean) 0 := ⟨tw_1534, tw_1535, tw_1536, tw_1537, by decide +kernel, by decide +kernel, by decide +kernel⟩

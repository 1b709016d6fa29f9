/-! the law's entry, and the claim's walk -/
theorem sw_c0 : (.code yX10_init cX10_init 1 none : Cond) ∈ GG := gg_1 (List.mem_of_getElem? (i := 29) (by decide +kernel)) (by decide +kernel)
theorem sw_i0 : (.initialized RX10 : Cond) ∈ GG := gg_1 (List.mem_of_getElem? (i := 1) (by decide +kernel)) (by decide +kernel)
theorem sw_m0 : (.instanceMethod yX10_init : Cond) ∈ GG := gg_1 (List.mem_of_getElem? (i := 28) (by decide +kernel)) (by decide +kernel)
theorem sw_y0 : YN yX10_init cX10_init := ⟨sw_c0, sw_i0, sw_m0, rfl, by decide, by decide, by decide +kernel⟩
theorem sw_l0 : (.classLink RL 8 RX10 : Cond) ∈ GG := gg_1 (List.mem_of_getElem? (i := 25) (by decide +kernel)) (by decide +kernel)
theorem sw_n0 : (.methodLink RL 105 yX10_init : Cond) ∈ GG := gg_1 (List.mem_of_getElem? (i := 27) (by decide +kernel)) (by decide +kernel)
theorem sw_d0 : ∀ j, j < 12 → defaultValue (tyX10 j) = vp_V [.null, .null, .null, .null, .null, .null, .null, .int 0, .int 0, .null, .null, .null] j := by decide +kernel
theorem sw_c1 : (.code yX11_init cX11_init 1 none : Cond) ∈ GG := gg_5 (List.mem_of_getElem? (i := 208) (by decide +kernel)) (by decide +kernel)
theorem sw_i1 : (.initialized RX11 : Cond) ∈ GG := gg_1 (List.mem_of_getElem? (i := 13) (by decide +kernel)) (by decide +kernel)
theorem sw_m1 : (.instanceMethod yX11_init : Cond) ∈ GG := gg_5 (List.mem_of_getElem? (i := 207) (by decide +kernel)) (by decide +kernel)
theorem sw_y1 : YN yX11_init cX11_init := ⟨sw_c1, sw_i1, sw_m1, rfl, by decide, by decide, by decide +kernel⟩
theorem sw_l1 : (.classLink RL 106 RX11 : Cond) ∈ GG := gg_5 (List.mem_of_getElem? (i := 204) (by decide +kernel)) (by decide +kernel)
theorem sw_n1 : (.methodLink RL 108 yX11_init : Cond) ∈ GG := gg_5 (List.mem_of_getElem? (i := 206) (by decide +kernel)) (by decide +kernel)
theorem sw_d1 : ∀ j, j < 74 → defaultValue (tyX11 j) = vp_V [.null, .null, .null, .null, .null, .int 0, .null, .null, .null, .null, .null, .null, .null, .null, .null, .null, .null, .null, .null, .null, .null, .int 0, .int 0, .int 0, .int 0, .int 0, .int 0, .int 0, .int 0, .int 0, .int 0, .int 0, .null, .null, .null, .null, .null, .null, .null, .null, .null, .int 0, .int 0, .int 0, .int 0, .int 0, .null, .null, .null, .null, .null, .null, .null, .null, .null, .null, .null, .null, .null, .null, .null, .int 0, .null, .int 0, .int 0, .int 0, .int 0, .null, .null, .null, .null, .null, .null, .null] j := by decide +kernel
theorem sw_aint : (.arrayClass .int : Cond) ∈ GG := gg_1 (List.mem_of_getElem? (i := 96) (by decide +kernel)) (by decide +kernel)
theorem sw_abyte : (.arrayClass .byte : Cond) ∈ GG := gg_1 (List.mem_of_getElem? (i := 79) (by decide +kernel)) (by decide +kernel)
theorem sw_along : (.arrayClass .long : Cond) ∈ GG := gg_8 (List.mem_of_getElem? (i := 148) (by decide +kernel)) (by decide +kernel)
theorem sw_aboolean : (.arrayClass .boolean : Cond) ∈ GG := gg_6 (List.mem_of_getElem? (i := 209) (by decide +kernel)) (by decide +kernel)
theorem va_nd_of : ∀ l : List Nat, l.Nodup → va_nd l = true
  | [], _ => rfl
  | a :: l, h => by
    have h1 := List.nodup_cons.mp h
    unfold va_nd
    rw [va_nd_of l h1.2]
    simp [h1.1]
theorem ix_left (a z : va_W) : (List.range a.length).map (fun i => (a ++ z)[i]?) = a.map some := by
  apply List.ext_getElem?
  intro i
  rw [List.getElem?_map, List.getElem?_map]
  by_cases h : i < a.length
  · rw [List.getElem?_range h, Option.map_some, List.getElem?_append_left h, List.getElem?_eq_getElem h, Option.map_some]
  · rw [List.getElem?_eq_none (by simpa using h), List.getElem?_eq_none (by simpa using h)]
    rfl
theorem at_mid {a b z : va_W} {i : Nat} {p : Nat × va_E} (h : b[i]? = some p) : (a ++ (b ++ z))[a.length + i]? = some p := by
  have hl := (List.getElem?_eq_some_iff.mp h).1
  rw [List.getElem?_append_right (by omega), Nat.add_sub_cancel_left, List.getElem?_append_left hl]
  exact h
theorem at_out {a b : va_W} {z p : Nat × va_E} {i : Nat} (h : (a ++ [z])[i]? = some p) : (a ++ (b ++ [z]))[if i < a.length then i else i + b.length]? = some p := by
  have hl := (List.getElem?_eq_some_iff.mp h).1
  rw [List.length_append, List.length_singleton] at hl
  by_cases c : i < a.length
  · rw [if_pos c, List.getElem?_append_left c]
    rw [List.getElem?_append_left c] at h
    exact h
  · rw [if_neg c]
    have e : i = a.length := by omega
    subst e
    rw [List.getElem?_append_right (by omega), Nat.sub_self] at h
    rw [List.getElem?_append_right (by omega), Nat.add_sub_cancel_left, List.getElem?_append_right (by omega), Nat.sub_self]
    exact h
theorem vaD_mid {A : Nat → Prop} {a b z : va_W} (h : va_D A (a ++ (b ++ z))) : va_D A b :=
  ⟨fun i j p q h1 h2 e => by have := h.1 _ _ p q (at_mid h1) (at_mid h2) e; omega, fun k q hk => h.2 _ q (at_mid hk)⟩
theorem vaD_out {A : Nat → Prop} {a b : va_W} {z : Nat × va_E} (h : va_D A (a ++ (b ++ [z]))) : va_D A (a ++ [z]) :=
  ⟨fun i j p q h1 h2 e => by
    have := h.1 _ _ p q (at_out h1) (at_out h2) e
    have l1 := (List.getElem?_eq_some_iff.mp h1).1
    have l2 := (List.getElem?_eq_some_iff.mp h2).1
    rw [List.length_append, List.length_singleton] at l1 l2
    by_cases c1 : i < a.length <;> by_cases c2 : j < a.length <;> simp only [c1, c2, if_true, if_false] at this <;> omega, fun k q hk => h.2 _ q (at_out hk)⟩
theorem vaP_in {D : va_G} {ws ws' : va_W} {H : Heap} (h : va_P D vwCl ws H) (hm : ∀ q ∈ ws', q ∈ ws) : va_P D vwCl ws' H := by
  intro k q hk
  obtain ⟨i, hi⟩ := List.getElem?_of_mem (hm q (List.mem_of_getElem? hk))
  exact h i q hi
section MKY
variable {p : Program} {l : Launch} {e : Env} {R : Room} {s : State} {m : MethodId} {args : Array Value} {below : List Frame} {meth : Method} {c : Code} {H : Heap} {locs : List Loc} {cells slots : Nat} {Q : State → Prop} {cc : ByteArray} {pc : Nat} {ls : Array Slot} {rest : List Value} {nL : Nat} {own : String} {A : Nat → Prop} {ret : Option FieldType} {D : va_G} {tys tys2 : List (ClassId × FieldType)} {ws : va_W} {idx : Nat} {lvs : List (Nat × Value)}
theorem n_callY (X : CX p s m meth c args cc nL own ret) {wr : va_W} {q : Nat} {e0 : va_E} (I : LI D tys A s H locs (wr ++ [(q, e0)])) (hl : lv_has ls nL lvs) {y : MethodName} {bytes : ByteArray} {rm : Room} {w1 : (Nat → Nat) → va_W} {mc ms : Nat} {Pc : Array Value → State → Prop} (hM : Met l y (.code y bytes 1 none :: GG) rm Pc (NQ D tys2 q w1 (va_A [(q, e0)] H.size)) mc ms (va_A [(q, e0)] H.size)) (hy : YN y bytes) (hw : Cond.methodLink own idx y ∈ GG) (hrm : rm.cells = mc ∧ rm.slots = ms ∧ rm.frames + 1 ≤ R.frames ∧ 8 + (1 + 11) + rm.locals ≤ R.locals) (hc : cells + mc ≤ R.cells ∧ slots + ms ≤ R.slots) (hbl : FrameBlind Pc) (hpre : va_P D vwCl [(q, e0)] H → va_D (fun _ => True) [(q, e0)] → (∀ z, va_A [(q, e0)] H.size z → A z) → ∀ U : State, U.heap = H → s.WarmedH U.vm → Pc #[.ref q] U) (hrest : (rest.map fun v => v.category).sum ≤ 8) (d : decode cc pc = .ok (.invokespecial idx, 3))
    (kk : ∀ (f : Nat → Nat) (H1 : Heap) (locs1 : List Loc), f 0 = q → LI D tys A s H1 locs1 (wr ++ w1 f) → W p l e R s m args below meth c H1 locs1 (cells + mc) (slots + ms) Q (F0 m (pc + 3) ls rest)) : W p l e R s m args below meth c H locs cells slots Q (F0 m pc ls (.ref q :: rest)) := by
  have hts := X.2.2.2.2.1
  have hC : [wr.length].map (fun i => (wr ++ [(q, e0)])[i]?) = [(q, e0)].map some := by simp
  have hFc := va_free (wc := [(q, e0)]) I.2.2.1 I.2.2.2.1 I.2.2.2.2.1 [wr.length] hC
  have hPc : va_P D vwCl [(q, e0)] H := vaP_in I.2.1 (fun z hz => List.mem_append_right _ hz)
  have hDc : va_D A [(q, e0)] := I.2.2.1.sub [wr.length] rfl hC
  refine va_callv (va_runI (As := []) (rest := rest) ⟨X.1, X.2.1, X.2.2.1, X.2.2.2.1, hts⟩ hM ⟨callB_of 0 hts (gg_in hy.1) rfl hrm.1 hrm.2.1 (hts _ hy.2.1) (hts _ hw) hy.2.2.2.2 hrm.2.2, hy.2.2.2.1, hts _ hy.2.2.1⟩ ⟨hbl, fun U hU hW => hpre hPc (hDc.weaken (fun _ _ _ _ => trivial)) hFc U hU hW⟩ rfl rfl hl.1 rfl (lv_room hrest) d hc) I.2.2.2.1 (fun q _ h => hFc q h) hFc (fun f t H1 locs1 ht hvm hw hB hz1 hk1 hS => ?_)
  obtain ⟨hP1, hK1, hD1⟩ := hB
  rw [ht] at hP1
  obtain ⟨hP, hD⟩ := va_join (wr := wr) (w1 := w1 f) I.2.1 I.2.2.1 [wr.length] (List.range wr.length) hC (ix_left wr [(q, e0)]) (va_nd_of _ List.nodup_range) (fun i hi => by simp at hi ⊢; omega) hk1 hFc hP1 hD1
  exact kk f H1 locs1 hw ⟨I.1, hP, hD, hS, I.2.2.2.2⟩
end MKY
set_option maxHeartbeats 4000000 in
set_option maxRecDepth 100000 in
theorem gw_one {D : va_G} {f : Nat → Nat} {gI gB gL : ClassId} {x : XE} {σ : Mem} {q : Nat} : gw (vC (D, (fun k => if k = 59 then q else f k), gI, gB, gL, x, 1)) σ = gw (vC (D, f, gI, gB, gL, x, 0)) σ ++ [(q, .inl (gL, 1, .inr (.inl (fun j => Int32.toInt64 (σ 59 j)))))] := rfl
set_option maxHeartbeats 4000000 in
set_option maxRecDepth 100000 in
theorem whole_start {p : Program} {e : Env} {s : State} {m : MethodId} {below : List Frame} {meth : Method} {c : Code} (l : Launch) (hflags : l.flags = flags0) {b L : Nat} {xs : Nat → Int32} (hL : L ≤ 3072) (C0 : lw_At p s m meth c b L xs) : W p l e room_1 s m #[Value.ref b] below meth c s.heap [] 0 0 (lw_Z below #[Value.ref b] s) (entryFrame m ([Value.ref b] : List Value).toArray 7) := by
  obtain ⟨hx, hb, hr, hml, hown, hts, hX, hbl, hlocks, hgv⟩ := id C0
  have hG : ∀ w ∈ GG, w.before #[Value.ref b] s = true := fun w h => hts w (List.mem_filter.mp h).1
  have ht : ∀ w ∈ tables_1, w.before #[Value.ref b] s = true := fun w h => hts w (List.mem_append_right _ h)
  have hg : ∀ w ∈ gvL, w.before #[Value.ref b] s = true := flat_of_before _ hgv
  have hA : ∀ q : Nat, s.heap.size ≤ q → (fun q : Nat => s.heap.size ≤ q) q := fun _ h => h
  have hnA : ∀ a : Nat, a < s.heap.size → ¬ (fun q : Nat => s.heap.size ≤ q) a := fun _ h => Nat.not_le.mpr h
  have X : CX p s m meth c #[Value.ref b] cL_law 7 RL (some .boolean) := ⟨hx, hb, hml, hown, hG, hr, hlocks⟩
  obtain ⟨D, hD⟩ := st_D hG
  obtain ⟨x, hF⟩ := st_FF (A := fun q : Nat => s.heap.size ≤ q) hg ht hnA
  have hN := st_NW ht
  have hO := st_AO ht
  obtain ⟨gI, i1, i2⟩ := st_arr (hG _ sw_aint)
  obtain ⟨gB, b1, b2⟩ := st_arr (hG _ sw_abyte)
  obtain ⟨gL, l1, l2⟩ := st_arr (hG _ sw_along)
  obtain ⟨gZ, z1, z2⟩ := st_arr (hG _ sw_aboolean)
  obtain ⟨gS, s1, s2⟩ := st_arrS hO
  have K1 : va_K D vwCl (TYg (gI, gB, gL)) s := ⟨hD, fun k q hq => by
    match k, hq with
    | 0, hq => cases hq; exact ⟨i1, i2⟩
    | 1, hq => cases hq; exact ⟨b1, b2⟩
    | 2, hq => cases hq; exact ⟨l1, l2⟩
    | k + 3, hq => simp [TYg] at hq⟩
  have K2 : va_K D vwCl (TYr (gI, gZ, gS)) s := ⟨hD, fun k q hq => by
    match k, hq with
    | 0, hq => cases hq; exact ⟨i1, i2⟩
    | 1, hq => cases hq; exact ⟨z1, z2⟩
    | 2, hq => cases hq; exact ⟨s1, s2⟩
    | k + 3, hq => simp [TYr] at hq⟩
  have hlt : l.stackTraces = false := by unfold Launch.stackTraces; rw [hflags]; decide +kernel
  obtain ⟨σa, σI, h1, h2, h59, hRel⟩ := start_Rel
  have FK : ∀ {H : Heap} {locs : List Loc} {B : Nat → Prop}, va_S (fun q : Nat => s.heap.size ≤ q) s.heap H locs → (∀ z, B z → s.heap.size ≤ z) → ∀ U : State, U.heap = H → s.WarmedH U.vm → FF x B U U.heap := by
    intro H locs B hS hB U hU hW
    have f1 := (FF_ok x).2.2.1 (fun q : Nat => s.heap.size ≤ q) s s.heap H hS.2.1 hF
    have f2 := (FF_ok x).2.2.2 (fun q : Nat => s.heap.size ≤ q) B s H hB f1
    rw [hU]
    exact (FF_ok x).2.1 _ s U H hW f2
  have I : LI D (TYg (gI, gB, gL)) (fun q : Nat => s.heap.size ≤ q) s s.heap [] [] := ⟨K1, fun k q h => by simp at h, ⟨fun i j p q h => by simp at h, fun k q h => by simp at h⟩, va_S.rf, hA, hN⟩
  have hl := lv_entry ([.ref b]) (n := 7) (Nat.le_of_ble_eq_true rfl)
  rw [lg_entry_eq]
  generalize (lg_sl ([.ref b]) ++ List.replicate (7 - (lg_sl ([.ref b])).length) Slot.unset).toArray = ls at hl ⊢
  have hl : lv_has ls 7 [(0, .ref b)] := hl
  refine n_new X I inGX10 tyX10 tyX10_ok sw_l0 st_i10 sw_i0 (ci := 10) rfl (fs := [.null, .null, .null, .null, .null, .null, .null, .int 0, .int 0, .null, .null, .null]) sw_d0 (Nat.le_of_ble_eq_true rfl) (Nat.le_of_ble_eq_true rfl) dL_law_0 (fun q0 H0 J0 => ?_)
  refine lv_dup X.1 X.2.1 dL_law_3 rfl ?_
  refine n_callY (wr := []) X J0 hl (c_X10_init (g := (gI, gB, gL)) (x := x) h1 h2 q0 H0.size) sw_y0 sw_n0 ⟨rfl, rfl, Nat.le_of_ble_eq_true rfl, Nat.le_of_ble_eq_true rfl⟩ ⟨Nat.le_of_ble_eq_true rfl, Nat.le_of_ble_eq_true rfl⟩ NPX.blind (fun hP hDd hFc U hU hW => ⟨rfl, by rw [hU], ⟨by rw [hU]; exact hP, va_K.moved hW.alike K1, hDd⟩, hN.warm hW, FK J0.2.2.2.1 hFc U hU hW⟩) (Nat.le_of_ble_eq_true rfl) dL_law_4 (fun f H1 locs1 hq J1 => ?_)
  subst hq
  have I : LI D (TYg (gI, gB, gL)) (fun q : Nat => s.heap.size ≤ q) s H1 locs1 (gw (vC (D, f, gI, gB, gL, x, 0)) σI) := J1
  refine lv_astore_n (lv' := [(1, .ref (f 0)), (0, .ref b)]) X.1 X.2.1 dL_law_7 rfl hl (by decide) rfl (fun ls hl => ?_)
  refine n_new X I inGX11 tyX11 tyX11_ok sw_l1 st_i11 sw_i1 (ci := 11) rfl (fs := [.null, .null, .null, .null, .null, .int 0, .null, .null, .null, .null, .null, .null, .null, .null, .null, .null, .null, .null, .null, .null, .null, .int 0, .int 0, .int 0, .int 0, .int 0, .int 0, .int 0, .int 0, .int 0, .int 0, .int 0, .null, .null, .null, .null, .null, .null, .null, .null, .null, .int 0, .int 0, .int 0, .int 0, .int 0, .null, .null, .null, .null, .null, .null, .null, .null, .null, .null, .null, .null, .null, .null, .null, .int 0, .null, .int 0, .int 0, .int 0, .int 0, .null, .null, .null, .null, .null, .null, .null]) sw_d1 (Nat.le_of_ble_eq_true rfl) (Nat.le_of_ble_eq_true rfl) dL_law_8 (fun q2 H2 J2 => ?_)
  refine lv_dup X.1 X.2.1 dL_law_11 rfl ?_
  refine n_callY X J2 hl (c_X11_init (g := (gI, gZ, gS)) (x := x) q2 H2.size) sw_y1 sw_n1 ⟨rfl, rfl, Nat.le_of_ble_eq_true rfl, Nat.le_of_ble_eq_true rfl⟩ ⟨Nat.le_of_ble_eq_true rfl, Nat.le_of_ble_eq_true rfl⟩ NPR.blind (fun hP hDd hFc U hU hW => ⟨rfl, by rw [hU], ⟨by rw [hU]; exact hP, va_K.moved hW.alike K2, hDd⟩, hN.warm hW, va_AO.moved hW.alike hO, FK J2.2.2.2.1 hFc U hU hW⟩) (Nat.le_of_ble_eq_true rfl) dL_law_12 (fun f2 H3 locs3 hq J3 => ?_)
  subst hq
  refine lv_astore_n (lv' := [(2, .ref (f2 0)), (1, .ref (f 0)), (0, .ref b)]) X.1 X.2.1 dL_law_15 rfl hl (by decide) rfl (fun ls hl => ?_)
  refine lv_iconst (v := 1) X.1 X.2.1 dL_law_16 (by decide) ?_
  refine n_arr (at0 := .long) (ty := .long) (N := 1) (a0 := (1, .inr (.inl (fun j => Int32.toInt64 (σI 59 j))))) X J3 (t0 := 2) rfl rfl (fun _ h => h) sw_along (fun cA => (vp_cell_l cA 1 _).trans (arrV_alike (fun j hj => by rw [show j = 0 by omega, h59]; rfl))) (by decide) (by decide) (Nat.le_of_ble_eq_true rfl) (Nat.le_of_ble_eq_true rfl) (Nat.le_of_ble_eq_true rfl) dL_law_17 (fun q3 H4 J4 => ?_)
  refine lv_astore_n (lv' := [(3, .ref q3), (2, .ref (f2 0)), (1, .ref (f 0)), (0, .ref b)]) X.1 X.2.1 dL_law_19 rfl hl (by decide) rfl (fun ls hl => ?_)
  refine lv_iconst (v := 0) X.1 X.2.1 dL_law_20 (by decide) ?_
  refine lv_istore (lv' := [(4, .int 0), (3, .ref q3), (2, .ref (f2 0)), (1, .ref (f 0)), (0, .ref b)]) X.1 X.2.1 dL_law_21 hl (by decide) rfl (fun ls hl => ?_)
  obtain ⟨_, hP, hDD, hS, _, _⟩ := J4
  rw [List.append_assoc] at hP hDD
  have g1 : va_P D vwCl (gw (vC (D, (fun k => if k = 59 then q3 else f k), gI, gB, gL, x, 1)) σI) H4 := by
    rw [gw_one]
    refine vaP_in hP (fun z hz => ?_)
    rcases List.mem_append.mp hz with hz | hz
    · exact List.mem_append_left _ hz
    · exact List.mem_append_right _ (List.mem_append_right _ hz)
  have g2 : va_D (fun q : Nat => s.heap.size ≤ q) (gw (vC (D, (fun k => if k = 59 then q3 else f k), gI, gB, gL, x, 1)) σI) := by
    rw [gw_one]; exact vaD_out hDD
  have g3 : va_P D vwCl (gw (vR (D, f2, gI, gZ, gS, x)) tI0) H4 := vaP_in hP (fun z hz => List.mem_append_right _ (List.mem_append_left _ hz))
  have g4 : va_D (fun q : Nat => s.heap.size ≤ q) (gw (vR (D, f2, gI, gZ, gS, x)) tI0) := vaD_mid hDD
  have dj : DJ (vC (D, (fun k => if k = 59 then q3 else f k), gI, gB, gL, x, 1)) (vR (D, f2, gI, gZ, gS, x)) := by
    intro i hi j hj e
    have a1 := gw_get (V := vC (D, (fun k => if k = 59 then q3 else f k), gI, gB, gL, x, 1)) (σ := σI) hi
    rw [gw_one] at a1
    have a2 := at_out (b := gw (vR (D, f2, gI, gZ, gS, x)) tI0) a1
    have a3 := at_mid (a := gw (vC (D, f, gI, gB, gL, x, 0)) σI) (z := [(q3, .inl (gL, 1, .inr (.inl (fun j => Int32.toInt64 (σI 59 j)))))]) (gw_get (V := vR (D, f2, gI, gZ, gS, x)) (σ := tI0) hj)
    have a4 := hDD.1 _ _ _ _ a2 a3 e
    have l1 : (gw (vC (D, f, gI, gB, gL, x, 0)) σI).length = 59 := gw_len
    have l2 : (gw (vR (D, f2, gI, gZ, gS, x)) tI0).length = 52 := gw_len
    rw [l1, l2] at a4
    have hi' : i < 60 := hi
    have hj' : j < 52 := hj
    by_cases c1 : i < 59
    · rw [if_pos c1] at a4; omega
    · rw [if_neg c1] at a4; omega
  refine W.widen (k := 112 + 4 * 0) (n := 27185 + 24 * 0) (by omega) (by omega) ?_
  exact law_loop (E := (D, (fun k => if k = 59 then q3 else f k), gI, gB, gL, x, 1)) (E2 := (D, f2, gI, gZ, gS, x)) (Rel := Rel) hlt Nat.one_pos S_ALL X hr hlocks hX hbl hL dj (KC := 112) (KS := 27185) (by decide) (by decide) (L + 1) 0 (by omega) (by omega) σI tI0 hRel H4 _ ls ⟨K1, g1, g2, hS, hA, FF_ok x, hF⟩ ⟨K2, g3, g4, hS, hA, FF_ok x, hF⟩ (lv_sub hl [4, 3, 2, 1, 0] rfl)

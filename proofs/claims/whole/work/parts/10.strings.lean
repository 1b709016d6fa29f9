
theorem sh0 (x : Int32) : x >>> ((0 : Int32) &&& 31) = x := by
  have h : ((0 : Int32) &&& 31) = 0 := by decide
  rw [h]
  simp
def rm_J0_coder_7d493 : Room := { frames := 1, cells := 0, slots := 0, locals := 64 }
def rm_J0_length_8abf5 : Room := { frames := 2, cells := 0, slots := 0, locals := 84 }
def rm_J0_isLatin1_aae02 : Room := { frames := 1, cells := 0, slots := 0, locals := 64 }
def rm_J3_checkIndex_8e157 : Room := { frames := 1, cells := 0, slots := 0, locals := 64 }
def rm_J0_checkIndex_df160 : Room := { frames := 2, cells := 0, slots := 0, locals := 86 }
def rm_J1_charAt_3b067 : Room := { frames := 3, cells := 0, slots := 0, locals := 107 }
def rm_J0_charAt_5068e : Room := { frames := 5, cells := 0, slots := 0, locals := 149 }
section STRS
variable {l : Launch} {V : WV} {x : XE} {σ : Mem}
theorem c_coder (hV : V.2.2.2.2.2 = FF x) {i : Nat} (hi : i < 50) : CI l V yJ0_coder_7d493 (.code yJ0_coder_7d493 cJ0_coder_7d493 1 (some .byte) :: GG) rm_J0_coder_7d493 [.ref (x.1 i)] σ (0, σ) := by
  refine mk_CI (by decide +kernel) (Nat.le_of_ble_eq_true rfl) (fun p e s m args below meth c A ls X I hl => ?_)
  have hx := X.1
  have hb := X.2.1
  have hF := I.2.2.2.2.2.2
  rw [hV] at hF
  have hl : lv_has ls 1 [(0, .ref (x.1 i))] := hl
  refine va_gets hx hb hF.2.2.1 I.2.2.2.1 X.2.2.2.1 (X.2.2.2.2.1 _ tw_25) (fun _ h => h) dJ0_coder_7d493_0 ?_
  refine lv_if_eq (tgt := 13) hx hb dJ0_coder_7d493_3 (by decide) (fun c1 => absurd c1 (by decide)) (fun c1 => ?_)
  refine lv_aload_n hx hb dJ0_coder_7d493_6 rfl (lv_at hl 0 rfl) ?_
  refine vk_getf hx hb (hF.1 i hi).2.2.1 I.2.2.2.1 X.2.2.2.1 (X.2.2.2.2.1 _ tw_26) (fun _ h => h) dJ0_coder_7d493_7 ?_
  refine lv_goto (tgt := 14) hx hb dJ0_coder_7d493_10 (by decide) ?_
  exact r_tret X I rfl rfl dJ0_coder_7d493_14
theorem c_length (hV : V.2.2.2.2.2 = FF x) {i : Nat} (hi : i < 50) : CI l V yJ0_length_8abf5 (.code yJ0_length_8abf5 cJ0_length_8abf5 1 (some .int) :: GG) rm_J0_length_8abf5 [.ref (x.1 i)] σ (Int32.ofNat (sByt.getD i []).length, σ) := by
  refine mk_CI (by decide +kernel) (Nat.le_of_ble_eq_true rfl) (fun p e s m args below meth c A ls X I hl => ?_)
  have hx := X.1
  have hb := X.2.1
  have hF := I.2.2.2.2.2.2
  rw [hV] at hF
  have hl : lv_has ls 1 [(0, .ref (x.1 i))] := hl
  refine lv_aload_n hx hb dJ0_length_8abf5_0 rfl (lv_at hl 0 rfl) ?_
  refine vk_getf hx hb (hF.1 i hi).2.2.2.1 I.2.2.2.1 X.2.2.2.1 (X.2.2.2.2.1 _ tw_27) (fun _ h => h) dJ0_length_8abf5_1 ?_
  refine va_tlen hx hb (hF.1 i hi).2.2.2.2 I.2.2.2.1 rfl dJ0_length_8abf5_4 ?_
  refine lv_aload_n hx hb dJ0_length_8abf5_5 rfl (lv_at hl 0 rfl) ?_
  refine r_callGI (V := V) (b := x.1 i) (As := []) (rest := [.int (Int32.ofNat (sByt.getD i []).length)]) X I hl (c_coder hV hi) yv_J0_coder_7d493 tw_29 ⟨rfl, rfl, Nat.le_of_ble_eq_true rfl, Nat.le_of_ble_eq_true rfl⟩ ?_ rfl rfl (Nat.le_of_ble_eq_true rfl) dJ0_length_8abf5_6 (fun H locs I => ?_)
  · obtain ⟨cell, h1, h2, h3, -⟩ := (hF.1 i hi).2.1.kept I.2.2.2.1.2.1
    exact ⟨cell, h1, h2, h3⟩
  refine lv_ishr hx hb dJ0_length_8abf5_9 ?_
  exact r_iret X I (congrArg (fun z => (z, σ)) (sh0 _).symm) dJ0_length_8abf5_10
theorem c_isLatin1 (hV : V.2.2.2.2.2 = FF x) {i : Nat} (hi : i < 50) : CI l V yJ0_isLatin1_aae02 (.code yJ0_isLatin1_aae02 cJ0_isLatin1_aae02 1 (some .boolean) :: GG) rm_J0_isLatin1_aae02 [.ref (x.1 i)] σ (1, σ) := by
  refine mk_CI (by decide +kernel) (Nat.le_of_ble_eq_true rfl) (fun p e s m args below meth c A ls X I hl => ?_)
  have hx := X.1
  have hb := X.2.1
  have hF := I.2.2.2.2.2.2
  rw [hV] at hF
  have hl : lv_has ls 1 [(0, .ref (x.1 i))] := hl
  refine va_gets hx hb hF.2.2.1 I.2.2.2.1 X.2.2.2.1 (X.2.2.2.2.1 _ tw_25) (fun _ h => h) dJ0_isLatin1_aae02_0 ?_
  refine lv_if_eq (tgt := 17) hx hb dJ0_isLatin1_aae02_3 (by decide) (fun c1 => absurd c1 (by decide)) (fun c1 => ?_)
  refine lv_aload_n hx hb dJ0_isLatin1_aae02_6 rfl (lv_at hl 0 rfl) ?_
  refine vk_getf hx hb (hF.1 i hi).2.2.1 I.2.2.2.1 X.2.2.2.1 (X.2.2.2.2.1 _ tw_26) (fun _ h => h) dJ0_isLatin1_aae02_7 ?_
  refine lv_if_ne (tgt := 17) hx hb dJ0_isLatin1_aae02_10 (by decide) (fun c1 => absurd rfl c1) (fun c1 => ?_)
  refine lv_iconst (v := 1) hx hb dJ0_isLatin1_aae02_13 (by decide) ?_
  refine lv_goto (tgt := 18) hx hb dJ0_isLatin1_aae02_14 (by decide) ?_
  exact r_zret X I rfl rfl dJ0_isLatin1_aae02_18
theorem c_check3 {a n : Int32} (h0 : ¬ a < 0) (h1 : a < n) {fv : Value} (hf : fv = .null ∨ ∃ t, fv = .ref t) : CI l V yJ3_checkIndex_8e157 (.code yJ3_checkIndex_8e157 cJ3_checkIndex_8e157 3 (some .int) :: GG) rm_J3_checkIndex_8e157 [.int a, .int n, fv] σ (a, σ) := by
  have hlen : (lg_sl [.int a, .int n, fv]).length ≤ 3 := by rcases hf with rfl | ⟨t, rfl⟩ <;> exact Nat.le_of_ble_eq_true rfl
  refine mk_CI (by decide +kernel) hlen (fun p e s m args below meth c A ls X I hl => ?_)
  have hx := X.1
  have hb := X.2.1
  have hl : lv_has ls 3 [(0, .int a), (1, .int n)] := by rcases hf with rfl | ⟨t, rfl⟩ <;> exact lv_sub hl [0, 1] rfl
  refine lv_iload_n hx hb dJ3_checkIndex_8e157_0 rfl (lv_at hl 0 rfl) ?_
  refine lv_if_lt (tgt := 9) hx hb dJ3_checkIndex_8e157_1 (by decide) (fun c1 => absurd c1 h0) (fun c1 => ?_)
  refine lv_iload_n hx hb dJ3_checkIndex_8e157_4 rfl (lv_at hl 0 rfl) ?_
  refine lv_iload_n hx hb dJ3_checkIndex_8e157_5 rfl (lv_at hl 1 rfl) ?_
  refine lv_icmp_lt (tgt := 16) hx hb dJ3_checkIndex_8e157_6 (by decide) (fun c1 => ?_) (fun c1 => absurd h1 c1)
  refine lv_iload_n hx hb dJ3_checkIndex_8e157_16 rfl (lv_at hl 0 rfl) ?_
  exact r_iret X I rfl dJ3_checkIndex_8e157_17
theorem c_check0 (hV : V.2.2.2.2.2 = FF x) {a n : Int32} (h0 : ¬ a < 0) (h1 : a < n) : CV l V yJ0_checkIndex_df160 (.code yJ0_checkIndex_df160 cJ0_checkIndex_df160 2 none :: GG) rm_J0_checkIndex_df160 [.int a, .int n] σ σ := by
  refine mk_CV (by decide +kernel) (Nat.le_of_ble_eq_true rfl) (fun p e s m args below meth c A ls X I hl => ?_)
  have hx := X.1
  have hb := X.2.1
  have hF := I.2.2.2.2.2.2
  rw [hV] at hF
  have hl : lv_has ls 2 [(0, .int a), (1, .int n)] := hl
  obtain ⟨fv, hfv, hZ⟩ : ∃ fv : Value, (fv = .null ∨ ∃ t, fv = .ref t) ∧ va_Z "jdk/internal/util/Preconditions" "SIOOBE_FORMATTER" "Ljava/util/function/BiFunction;" fv A s s.heap := by
    rcases hF.2.2.2.1 with h | ⟨t, h⟩
    · exact ⟨_, Or.inl rfl, h⟩
    · exact ⟨_, Or.inr ⟨t, rfl⟩, h⟩
  refine lv_iload_n hx hb dJ0_checkIndex_df160_0 rfl (lv_at hl 0 rfl) ?_
  refine lv_iload_n hx hb dJ0_checkIndex_df160_1 rfl (lv_at hl 1 rfl) ?_
  refine va_gets hx hb hZ I.2.2.2.1 X.2.2.2.1 (X.2.2.2.2.1 _ tw_28) (fun _ h => h) dJ0_checkIndex_df160_2 ?_
  refine r_callSI (V := V) (As := [.int a, .int n, fv]) (rest := []) X I hl (c_check3 h0 h1 hfv) ys_J3_checkIndex_8e157 tw_30 ⟨rfl, rfl, Nat.le_of_ble_eq_true rfl, Nat.le_of_ble_eq_true rfl⟩ rfl rfl (Nat.le_of_ble_eq_true rfl) dJ0_checkIndex_df160_5 (fun H locs I => ?_)
  refine lv_pop hx hb dJ0_checkIndex_df160_8 rfl ?_
  exact r_vret X I rfl dJ0_checkIndex_df160_9
theorem c_charAt1 (hV : V.2.2.2.2.2 = FF x) {i : Nat} (hi : i < 50) {k : Int32} (h0 : ¬ k < 0) (h1 : k < Int32.ofNat (sByt.getD i []).length) (hin : vp_in k (sByt.getD i []).length) {v : Int32} (hv : ((((sByt.getD i []).getD k.toNatClampNeg 0) &&& 255).toUInt32 % 65536).toInt32 = v) (hn : narrow .char (.int v) = .int v) : CI l V yJ1_charAt_3b067 (.code yJ1_charAt_3b067 cJ1_charAt_3b067 2 (some .char) :: GG) rm_J1_charAt_3b067 [.ref (x.2.1 i), .int k] σ (v, σ) := by
  refine mk_CI (by decide +kernel) (Nat.le_of_ble_eq_true rfl) (fun p e s m args below meth c A ls X I hl => ?_)
  have hx := X.1
  have hb := X.2.1
  have hF := I.2.2.2.2.2.2
  rw [hV] at hF
  have hl : lv_has ls 2 [(0, .ref (x.2.1 i)), (1, .int k)] := hl
  refine lv_iload_n hx hb dJ1_charAt_3b067_0 rfl (lv_at hl 1 rfl) ?_
  refine lv_aload_n hx hb dJ1_charAt_3b067_1 rfl (lv_at hl 0 rfl) ?_
  refine va_tlen hx hb (hF.1 i hi).2.2.2.2 I.2.2.2.1 rfl dJ1_charAt_3b067_2 ?_
  refine r_callSV (V := V) (As := [.int k, .int (Int32.ofNat (sByt.getD i []).length)]) (rest := []) X I hl (c_check0 hV h0 h1) ys_J0_checkIndex_df160 tw_31 ⟨rfl, rfl, Nat.le_of_ble_eq_true rfl, Nat.le_of_ble_eq_true rfl⟩ rfl rfl (Nat.le_of_ble_eq_true rfl) dJ1_charAt_3b067_3 (fun H locs I => ?_)
  refine lv_aload_n hx hb dJ1_charAt_3b067_6 rfl (lv_at hl 0 rfl) ?_
  refine lv_iload_n hx hb dJ1_charAt_3b067_7 rfl (lv_at hl 1 rfl) ?_
  refine va_tb hx hb (hF.1 i hi).2.2.2.2 I.2.2.2.1 hin rfl dJ1_charAt_3b067_8 ?_
  refine lv_sipush (v := 255) hx hb dJ1_charAt_3b067_9 (by decide) ?_
  refine lv_iand hx hb dJ1_charAt_3b067_12 ?_
  refine lv_i2c hx hb dJ1_charAt_3b067_13 hv ?_
  exact r_tret X I rfl hn dJ1_charAt_3b067_14
theorem c_charAt (hV : V.2.2.2.2.2 = FF x) {i : Nat} (hi : i < 50) {k : Int32} (h0 : ¬ k < 0) (h1 : k < Int32.ofNat (sByt.getD i []).length) (hin : vp_in k (sByt.getD i []).length) {v : Int32} (hv : ((((sByt.getD i []).getD k.toNatClampNeg 0) &&& 255).toUInt32 % 65536).toInt32 = v) (hn : narrow .char (.int v) = .int v) : CI l V yJ0_charAt_5068e (.code yJ0_charAt_5068e cJ0_charAt_5068e 2 (some .char) :: GG) rm_J0_charAt_5068e [.ref (x.1 i), .int k] σ (v, σ) := by
  refine mk_CI (by decide +kernel) (Nat.le_of_ble_eq_true rfl) (fun p e s m args below meth c A ls X I hl => ?_)
  have hx := X.1
  have hb := X.2.1
  have hF := I.2.2.2.2.2.2
  rw [hV] at hF
  have hl : lv_has ls 2 [(0, .ref (x.1 i)), (1, .int k)] := hl
  refine lv_aload_n hx hb dJ0_charAt_5068e_0 rfl (lv_at hl 0 rfl) ?_
  refine r_callGI (V := V) (b := x.1 i) (As := []) (rest := []) X I hl (c_isLatin1 hV hi) yv_J0_isLatin1_aae02 tw_32 ⟨rfl, rfl, Nat.le_of_ble_eq_true rfl, Nat.le_of_ble_eq_true rfl⟩ ?_ rfl rfl (Nat.le_of_ble_eq_true rfl) dJ0_charAt_5068e_1 (fun H locs I => ?_)
  · obtain ⟨cell, h1, h2, h3, -⟩ := (hF.1 i hi).2.1.kept I.2.2.2.1.2.1
    exact ⟨cell, h1, h2, h3⟩
  refine lv_if_eq (tgt := 16) hx hb dJ0_charAt_5068e_4 (by decide) (fun c1 => absurd c1 (show ¬ (1 : Int32) = 0 by decide)) (fun c1 => ?_)
  refine lv_aload_n hx hb dJ0_charAt_5068e_7 rfl (lv_at hl 0 rfl) ?_
  refine vk_getf hx hb (hF.1 i hi).2.2.2.1 I.2.2.2.1 X.2.2.2.1 (X.2.2.2.2.1 _ tw_27) (fun _ h => h) dJ0_charAt_5068e_8 ?_
  refine lv_iload_n hx hb dJ0_charAt_5068e_11 rfl (lv_at hl 1 rfl) ?_
  refine r_callSI (V := V) (As := [.ref (x.2.1 i), .int k]) (rest := []) X I hl (c_charAt1 hV hi h0 h1 hin hv hn) ys_J1_charAt_3b067 tw_33 ⟨rfl, rfl, Nat.le_of_ble_eq_true rfl, Nat.le_of_ble_eq_true rfl⟩ rfl rfl (Nat.le_of_ble_eq_true rfl) dJ0_charAt_5068e_12 (fun H locs I => ?_)
  exact r_tret X I rfl hn dJ0_charAt_5068e_15
theorem getD_mem {l : List Int32} {j : Nat} (h : j < l.length) : l.getD j 0 ∈ l := by
  rw [List.getD_eq_getElem?_getD, List.getElem?_eq_getElem h]
  exact List.getElem_mem h
theorem sb_all : ∀ i, i < 50 → (sByt.getD i []).length < 2 ^ 31 ∧ ∀ b ∈ sByt.getD i [], ((b &&& 255).toUInt32 % 65536).toInt32 = b ∧ narrow .char (.int b) = .int b := by decide +kernel
/-- the length of a String constant, its char at k -/
def sLen (w : Nat) : Int32 := Int32.ofNat (sByt.getD w []).length
def sNum (w : Nat) : Nat := (sByt.getD w []).length
def sch (w k : Nat) : Int32 := (sByt.getD w []).getD k 0
theorem c_charAt' (hV : V.2.2.2.2.2 = FF x) {i : Nat} (hi : i < 50) {k : Int32} (hin : vp_in k (sNum i)) : CI l V yJ0_charAt_5068e (.code yJ0_charAt_5068e cJ0_charAt_5068e 2 (some .char) :: GG) rm_J0_charAt_5068e [.ref (x.1 i), .int k] σ (sch i k.toNatClampNeg, σ) := by
  obtain ⟨hL, hB⟩ := sb_all i hi
  obtain ⟨j, hj, rfl⟩ := vp_in_of hin hL
  have hm : (sByt.getD i []).getD (nI j).toNatClampNeg 0 ∈ sByt.getD i [] := by
    rw [nI_clamp (Nat.lt_trans hj hL)]
    exact getD_mem hj
  exact c_charAt hV hi (nI_pos (Nat.lt_trans hj hL)) (nI_lt hj hL) hin (hB _ hm).1 (hB _ hm).2
end STRS
section STRR
variable {p : Program} {l : Launch} {e : Env} {R : Room} {s : State} {m : MethodId} {args : Array Value} {below : List Frame} {meth : Method} {c : Code} {H : Heap} {locs : List Loc} {Q : State → Prop} {cc : ByteArray} {pc : Nat} {ls : Array Slot} {rest : List Value} {nL : Nat} {own : String} {A : Nat → Prop} {σ : Mem} {V : WV} {ret : Option FieldType} {lvs : List (Nat × Value)} {idx : Nat} {x : XE} {cells slots : Nat}
theorem r_ldcS (hV : V.2.2.2.2.2 = FF x) (X : CX p s m meth c args cc nL own ret) (I : WI V A s H locs σ) {w : Nat} (hw : w < 50) (ho : sOwn.getD w "" = own) (hi : sIdx.getD w 0 = idx) (d : decode cc pc = .ok (.ldc idx, 2)) (kk : W p l e R s m args below meth c H locs cells slots Q (F0 m (pc + 2) ls (.ref (x.1 w) :: rest))) : W p l e R s m args below meth c H locs cells slots Q (F0 m pc ls rest) := by
  have hF := I.2.2.2.2.2.2
  rw [hV] at hF
  subst ho; subst hi
  exact va_ldcS X.1 X.2.1 X.2.2.2.1 (hF.1 w hw).1 d kk
theorem r_ldcSW (hV : V.2.2.2.2.2 = FF x) (X : CX p s m meth c args cc nL own ret) (I : WI V A s H locs σ) {w : Nat} (hw : w < 50) (ho : sOwn.getD w "" = own) (hi : sIdx.getD w 0 = idx) (d : decode cc pc = .ok (.ldc_w idx, 3)) (kk : W p l e R s m args below meth c H locs cells slots Q (F0 m (pc + 3) ls (.ref (x.1 w) :: rest))) : W p l e R s m args below meth c H locs cells slots Q (F0 m pc ls rest) := by
  have hF := I.2.2.2.2.2.2
  rw [hV] at hF
  subst ho; subst hi
  have hZ := (hF.1 w hw).1
  have hb := X.2.1
  have hx := X.1
  have hown := X.2.2.2.1
  intro T hT X9
  obtain ⟨t, a1, b1⟩ := kk T hT X9
  exact ⟨t, X9.ldcStringW hx hown hZ.1 hZ.2 (g := F0 m pc ls rest) rfl (by rw [hb]; exact d) t a1, b1⟩
theorem r_slen (hV : V.2.2.2.2.2 = FF x) (X : CX p s m meth c args cc nL own ret) (I : WI V A s H locs σ) (hl : lv_has ls nL lvs) {w : Nat} (hw : w < 50) (hk : Cond.methodLink own idx yJ0_length_8abf5 ∈ GG) (hR : rm_J0_length_8abf5.frames + 1 ≤ R.frames ∧ 8 + (1 + 11) + rm_J0_length_8abf5.locals ≤ R.locals) (hrest : (rest.map fun v => v.category).sum ≤ 8) (d : decode cc pc = .ok (.invokevirtual idx, 3)) (kk : ∀ (H1 : Heap) (locs1 : List Loc), WI V A s H1 locs1 σ → W p l e R s m args below meth c H1 locs1 0 0 Q (F0 m (pc + 3) ls (.int (sLen w) :: rest))) : W p l e R s m args below meth c H locs 0 0 Q (F0 m pc ls (.ref (x.1 w) :: rest)) := by
  have hF := I.2.2.2.2.2.2
  rw [hV] at hF
  refine r_callGI (V := V) (b := x.1 w) (As := []) (rest := rest) X I hl (c_length hV hw) yv_J0_length_8abf5 hk ⟨rfl, rfl, hR.1, hR.2⟩ ?_ rfl rfl hrest d kk
  obtain ⟨cell, h1, h2, h3, -⟩ := (hF.1 w hw).2.1.kept I.2.2.2.1.2.1
  exact ⟨cell, h1, h2, h3⟩
theorem r_schr (hV : V.2.2.2.2.2 = FF x) (X : CX p s m meth c args cc nL own ret) (I : WI V A s H locs σ) (hl : lv_has ls nL lvs) {w : Nat} (hw : w < 50) {k : Int32} (hin : vp_in k (sNum w)) (hk : Cond.methodLink own idx yJ0_charAt_5068e ∈ GG) (hR : rm_J0_charAt_5068e.frames + 1 ≤ R.frames ∧ 8 + (2 + 11) + rm_J0_charAt_5068e.locals ≤ R.locals) (hrest : (rest.map fun v => v.category).sum ≤ 8) (d : decode cc pc = .ok (.invokevirtual idx, 3)) (kk : ∀ (H1 : Heap) (locs1 : List Loc), WI V A s H1 locs1 σ → W p l e R s m args below meth c H1 locs1 0 0 Q (F0 m (pc + 3) ls (.int (sch w k.toNatClampNeg) :: rest))) : W p l e R s m args below meth c H locs 0 0 Q (F0 m pc ls (.int k :: .ref (x.1 w) :: rest)) := by
  have hF := I.2.2.2.2.2.2
  rw [hV] at hF
  refine r_callGI (V := V) (b := x.1 w) (As := [.int k]) (rest := rest) X I hl (c_charAt' hV hw hin) yv_J0_charAt_5068e hk ⟨rfl, rfl, hR.1, hR.2⟩ ?_ rfl rfl hrest d kk
  obtain ⟨cell, h1, h2, h3, -⟩ := (hF.1 w hw).2.1.kept I.2.2.2.1.2.1
  exact ⟨cell, h1, h2, h3⟩
/-- the static rows of limits -/
def tNum (t : Nat) : Nat := (lVal.getD t []).length
def tLen (t : Nat) : Int32 := Int32.ofNat (lVal.getD t []).length
def tv (t k : Nat) : Int32 := (lVal.getD t []).getD k 0
theorem r_gets (hV : V.2.2.2.2.2 = FF x) (X : CX p s m meth c args cc nL own ret) (I : WI V A s H locs σ) {t : Nat} (ht : t < 3) (hw : Cond.fieldLink own idx "DogLeases$PlanReader" (lNm.getD t "") "[I" ∈ GG) (d : decode cc pc = .ok (.getstatic idx, 3)) (kk : W p l e R s m args below meth c H locs cells slots Q (F0 m (pc + 3) ls (.ref (x.2.2 t) :: rest))) : W p l e R s m args below meth c H locs cells slots Q (F0 m pc ls rest) := by
  have hF := I.2.2.2.2.2.2
  rw [hV] at hF
  exact va_gets X.1 X.2.1 (hF.2.1 t ht).1 I.2.2.2.1 X.2.2.2.1 (X.2.2.2.2.1 _ hw) (fun _ h => h) d kk
theorem r_tald (hV : V.2.2.2.2.2 = FF x) (X : CX p s m meth c args cc nL own ret) (I : WI V A s H locs σ) {t : Nat} (ht : t < 3) {i : Int32} (hin : vp_in i (tNum t)) (d : decode cc pc = .ok (.iaload, 1)) (kk : W p l e R s m args below meth c H locs cells slots Q (F0 m (pc + 1) ls (.int (tv t i.toNatClampNeg) :: rest))) : W p l e R s m args below meth c H locs cells slots Q (F0 m pc ls (.int i :: .ref (x.2.2 t) :: rest)) := by
  have hF := I.2.2.2.2.2.2
  rw [hV] at hF
  exact va_ti X.1 X.2.1 (hF.2.1 t ht).2 I.2.2.2.1 hin rfl d kk
theorem r_tlen (hV : V.2.2.2.2.2 = FF x) (X : CX p s m meth c args cc nL own ret) (I : WI V A s H locs σ) {t : Nat} (ht : t < 3) (d : decode cc pc = .ok (.arraylength, 1)) (kk : W p l e R s m args below meth c H locs cells slots Q (F0 m (pc + 1) ls (.int (tLen t) :: rest))) : W p l e R s m args below meth c H locs cells slots Q (F0 m pc ls (.ref (x.2.2 t) :: rest)) := by
  have hF := I.2.2.2.2.2.2
  rw [hV] at hF
  exact va_tlen X.1 X.2.1 (hF.2.1 t ht).2 I.2.2.2.1 rfl d kk
end STRR

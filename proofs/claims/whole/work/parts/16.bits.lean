def rm_J6_bitCount_0f7a4 : Room := { frames := 1, cells := 0, slots := 0, locals := 64 }
def m_J6_bitCount_0f7a4 (σ : Mem) (x0 : Int32) : Option (Int32) := (lt (x0 - (((Int32.toUInt32 x0 >>> (Int32.toUInt32 (1 : Int32) &&& Int32.toUInt32 31)).toInt32) &&& (1431655765 : Int32))) fun y1 => (lt ((y1 &&& (858993459 : Int32)) + (((Int32.toUInt32 y1 >>> (Int32.toUInt32 (2 : Int32) &&& Int32.toUInt32 31)).toInt32) &&& (858993459 : Int32))) fun y2 => (lt ((y2 + ((Int32.toUInt32 y2 >>> (Int32.toUInt32 (4 : Int32) &&& Int32.toUInt32 31)).toInt32)) &&& (252645135 : Int32)) fun y3 => (lt (y3 + ((Int32.toUInt32 y3 >>> (Int32.toUInt32 (8 : Int32) &&& Int32.toUInt32 31)).toInt32)) fun y4 => (lt (y4 + ((Int32.toUInt32 y4 >>> (Int32.toUInt32 (16 : Int32) &&& Int32.toUInt32 31)).toInt32)) fun y5 => (some (y5 &&& (63 : Int32))))))))
set_option maxHeartbeats 4000000 in
set_option maxRecDepth 100000 in
theorem w_J6_bitCount_0f7a4_0 {p : Program} {l : Launch} {e : Env} {s : State} {m : MethodId} {args : Array Value} {below : List Frame} {meth : Method} {c : Code} {A : Nat → Prop} {E : CE} {q : Int32} (X : CX p s m meth c args cJ6_bitCount_0f7a4 1 RJ6 (some .int)) : ∀ (σ : Mem) (x0 : Int32) , m_J6_bitCount_0f7a4 σ x0 = some q → ∀ (H : Heap) (locs : List Loc) (ls : Array Slot), WI (vC E) A s H locs σ → lv_has ls 1 [(0, .int x0)] → W p l e rm_J6_bitCount_0f7a4 s m args below meth c H locs 0 0 (MQ below (QI (vC E) A (q, σ)) args s 0 0 A) (F0 m 0 ls []) := by
  have hx := X.1
  have hb := X.2.1
  intro σ x0 h H locs ls I hl
  unfold m_J6_bitCount_0f7a4 at h
  refine lv_iload_n hx hb dJ6_bitCount_0f7a4_0 rfl (lv_at hl 0 rfl) ?_
  refine lv_iload_n hx hb dJ6_bitCount_0f7a4_1 rfl (lv_at hl 0 rfl) ?_
  refine lv_iconst (v := 1) hx hb dJ6_bitCount_0f7a4_2 (by decide) ?_
  refine lv_iushr hx hb dJ6_bitCount_0f7a4_3 rfl ?_
  refine lv_ldcw hx hb X.2.2.2.1 (X.2.2.2.2.1 _ tw_152) dJ6_bitCount_0f7a4_4 ?_
  refine lv_iand hx hb dJ6_bitCount_0f7a4_7 ?_
  refine lv_isub hx hb dJ6_bitCount_0f7a4_8 ?_
  obtain ⟨y1, ey1, h⟩ := lt_e h
  refine nm_i ey1 ?_
  refine lv_istore_n (lv' := [(0, .int y1)]) hx hb dJ6_bitCount_0f7a4_9 rfl hl (by decide) rfl (fun ls hl => ?_)
  refine lv_iload_n hx hb dJ6_bitCount_0f7a4_10 rfl (lv_at hl 0 rfl) ?_
  refine lv_ldcw hx hb X.2.2.2.1 (X.2.2.2.2.1 _ tw_153) dJ6_bitCount_0f7a4_11 ?_
  refine lv_iand hx hb dJ6_bitCount_0f7a4_14 ?_
  refine lv_iload_n hx hb dJ6_bitCount_0f7a4_15 rfl (lv_at hl 0 rfl) ?_
  refine lv_iconst (v := 2) hx hb dJ6_bitCount_0f7a4_16 (by decide) ?_
  refine lv_iushr hx hb dJ6_bitCount_0f7a4_17 rfl ?_
  refine lv_ldcw hx hb X.2.2.2.1 (X.2.2.2.2.1 _ tw_153) dJ6_bitCount_0f7a4_18 ?_
  refine lv_iand hx hb dJ6_bitCount_0f7a4_21 ?_
  refine lv_iadd hx hb dJ6_bitCount_0f7a4_22 ?_
  obtain ⟨y2, ey2, h⟩ := lt_e h
  refine nm_i ey2 ?_
  refine lv_istore_n (lv' := [(0, .int y2)]) hx hb dJ6_bitCount_0f7a4_23 rfl hl (by decide) rfl (fun ls hl => ?_)
  refine lv_iload_n hx hb dJ6_bitCount_0f7a4_24 rfl (lv_at hl 0 rfl) ?_
  refine lv_iload_n hx hb dJ6_bitCount_0f7a4_25 rfl (lv_at hl 0 rfl) ?_
  refine lv_iconst (v := 4) hx hb dJ6_bitCount_0f7a4_26 (by decide) ?_
  refine lv_iushr hx hb dJ6_bitCount_0f7a4_27 rfl ?_
  refine lv_iadd hx hb dJ6_bitCount_0f7a4_28 ?_
  refine lv_ldcw hx hb X.2.2.2.1 (X.2.2.2.2.1 _ tw_154) dJ6_bitCount_0f7a4_29 ?_
  refine lv_iand hx hb dJ6_bitCount_0f7a4_32 ?_
  obtain ⟨y3, ey3, h⟩ := lt_e h
  refine nm_i ey3 ?_
  refine lv_istore_n (lv' := [(0, .int y3)]) hx hb dJ6_bitCount_0f7a4_33 rfl hl (by decide) rfl (fun ls hl => ?_)
  refine lv_iload_n hx hb dJ6_bitCount_0f7a4_34 rfl (lv_at hl 0 rfl) ?_
  refine lv_iload_n hx hb dJ6_bitCount_0f7a4_35 rfl (lv_at hl 0 rfl) ?_
  refine lv_bipush (v := 8) hx hb dJ6_bitCount_0f7a4_36 (by decide) ?_
  refine lv_iushr hx hb dJ6_bitCount_0f7a4_38 rfl ?_
  refine lv_iadd hx hb dJ6_bitCount_0f7a4_39 ?_
  obtain ⟨y4, ey4, h⟩ := lt_e h
  refine nm_i ey4 ?_
  refine lv_istore_n (lv' := [(0, .int y4)]) hx hb dJ6_bitCount_0f7a4_40 rfl hl (by decide) rfl (fun ls hl => ?_)
  refine lv_iload_n hx hb dJ6_bitCount_0f7a4_41 rfl (lv_at hl 0 rfl) ?_
  refine lv_iload_n hx hb dJ6_bitCount_0f7a4_42 rfl (lv_at hl 0 rfl) ?_
  refine lv_bipush (v := 16) hx hb dJ6_bitCount_0f7a4_43 (by decide) ?_
  refine lv_iushr hx hb dJ6_bitCount_0f7a4_45 rfl ?_
  refine lv_iadd hx hb dJ6_bitCount_0f7a4_46 ?_
  obtain ⟨y5, ey5, h⟩ := lt_e h
  refine nm_i ey5 ?_
  refine lv_istore_n (lv' := [(0, .int y5)]) hx hb dJ6_bitCount_0f7a4_47 rfl hl (by decide) rfl (fun ls hl => ?_)
  refine lv_iload_n hx hb dJ6_bitCount_0f7a4_48 rfl (lv_at hl 0 rfl) ?_
  refine lv_bipush (v := 63) hx hb dJ6_bitCount_0f7a4_49 (by decide) ?_
  refine lv_iand hx hb dJ6_bitCount_0f7a4_51 ?_
  exact r_iret X I (congrArg (fun z => (z, σ)) (Option.some.inj h).symm) dJ6_bitCount_0f7a4_52
theorem c_J6_bitCount_0f7a4 {l : Launch} {E : CE} {σ : Mem} {x0 : Int32} {q : Int32} (h : m_J6_bitCount_0f7a4 σ x0 = some q) : CI l (vC E) yJ6_bitCount_0f7a4 (.code yJ6_bitCount_0f7a4 cJ6_bitCount_0f7a4 1 (some .int) :: GG) rm_J6_bitCount_0f7a4 [.int x0] σ (q, σ) :=
  mk_CI (by decide +kernel) (Nat.le_of_ble_eq_true rfl) (fun p e s m args below meth c A ls X I hl => w_J6_bitCount_0f7a4_0 X  σ x0 h s.heap [] ls I (lv_sub hl [0] rfl))

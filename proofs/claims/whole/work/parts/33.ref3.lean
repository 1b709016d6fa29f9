def rm_X11_pack : Room := { frames := 1, cells := 0, slots := 0, locals := 64 }
def f_X11_pack_128 (r1 n1 : Nat) (x3 : Int32) : Nat → Mem → Int32 → Option (Mem)
  | 0, _, _ => none
  | n + 1, σ, x4 => (if (7 : Int32) ≤ x4 then (some σ) else (gd x4 7 (gd (x3 + x4) n1 (lt (ms σ r1 (Int32.toNatClampNeg (x3 + x4)) ((σ 25 (Int32.toNatClampNeg x4)))) fun σ2 => (gd x4 7 (gd ((x3 + (7 : Int32)) + x4) n1 (lt (ms σ2 r1 (Int32.toNatClampNeg ((x3 + (7 : Int32)) + x4)) ((σ2 26 (Int32.toNatClampNeg x4)))) fun σ3 => (gd x4 7 (gd ((x3 + (14 : Int32)) + x4) n1 (lt (ms σ3 r1 (Int32.toNatClampNeg ((x3 + (14 : Int32)) + x4)) ((σ3 27 (Int32.toNatClampNeg x4)))) fun σ4 => f_X11_pack_128 r1 n1 x3 n σ4 (x4 + 1)))))))))))
def f_X11_pack_32 (r1 n1 : Nat) (x3 : Int32) : Nat → Mem → Int32 → Option (Mem)
  | 0, _, _ => none
  | n + 1, σ, x4 => (if (8 : Int32) ≤ x4 then (f_X11_pack_128 r1 n1 (x3 + 40) KF σ (0 : Int32)) else (gd x4 8 (gd (x3 + x4) n1 (lt (ms σ r1 (Int32.toNatClampNeg (x3 + x4)) ((σ 20 (Int32.toNatClampNeg x4)))) fun σ2 => (gd x4 8 (gd ((x3 + (8 : Int32)) + x4) n1 (lt (ms σ2 r1 (Int32.toNatClampNeg ((x3 + (8 : Int32)) + x4)) ((σ2 21 (Int32.toNatClampNeg x4)))) fun σ3 => (gd x4 8 (gd ((x3 + (16 : Int32)) + x4) n1 (lt (ms σ3 r1 (Int32.toNatClampNeg ((x3 + (16 : Int32)) + x4)) ((σ3 22 (Int32.toNatClampNeg x4)))) fun σ4 => (gd x4 8 (gd ((x3 + (24 : Int32)) + x4) n1 (lt (ms σ4 r1 (Int32.toNatClampNeg ((x3 + (24 : Int32)) + x4)) ((σ4 23 (Int32.toNatClampNeg x4)))) fun σ5 => (gd x4 8 (gd ((x3 + (32 : Int32)) + x4) n1 (lt (ms σ5 r1 (Int32.toNatClampNeg ((x3 + (32 : Int32)) + x4)) ((σ5 24 (Int32.toNatClampNeg x4)))) fun σ6 => f_X11_pack_32 r1 n1 x3 n σ6 (x4 + 1)))))))))))))))))
def m_X11_pack (r1 n1 : Nat) (σ : Mem) (x2 : Int32) : Option (Mem) := (gd x2 n1 (lt (ms σ r1 (Int32.toNatClampNeg x2) ((σ 0 41))) fun σ1 => (gd (x2 + (1 : Int32)) n1 (lt (ms σ1 r1 (Int32.toNatClampNeg (x2 + (1 : Int32))) ((σ1 0 42))) fun σ2 => (gd (x2 + (2 : Int32)) n1 (lt (ms σ2 r1 (Int32.toNatClampNeg (x2 + (2 : Int32))) ((σ2 0 43))) fun σ3 => (lt (x2 + (3 : Int32)) fun y4 => (f_X11_pack_32 r1 n1 y4 KF σ3 (0 : Int32)))))))))
set_option maxHeartbeats 4000000 in
set_option maxRecDepth 100000 in
theorem w_X11_pack_128 {p : Program} {l : Launch} {e : Env} {s : State} {m : MethodId} {args : Array Value} {below : List Frame} {meth : Method} {c : Code} {A : Nat → Prop} {E : RE} {q : Mem} (X : CX p s m meth c args cX11_pack 5 RX11 none) {r1 n1 : Nat} {x3 : Int32} (hr1 : KRaI E r1 n1) : ∀ (n : Nat), ∀ (σ : Mem) (x4 : Int32) , f_X11_pack_128 r1 n1 x3 n σ x4 = some q → ∀ (H : Heap) (locs : List Loc) (ls : Array Slot), WI (vR E) A s H locs σ → lv_has ls 5 [(0, .ref (ra E 0)), (1, .ref (ra E r1)), (3, .int x3), (4, .int x4)] → W p l e rm_X11_pack s m args below meth c H locs 0 0 (MQ below (QV (vR E) A q) args s 0 0 A) (F0 m 128 ls []) := by
  have hx := X.1
  have hb := X.2.1
  intro n
  induction n with
  | zero =>
    intro σ x4 h
    cases h
  | succ n ih =>
    intro σ x4 h H locs ls I hl
    rw [f_X11_pack_128] at h
    refine lv_iload hx hb dX11_pack_128 (lv_at hl 3 rfl) ?_
    refine lv_bipush (v := 7) hx hb dX11_pack_130 (by decide) ?_
    refine lv_icmp_ge (tgt := 186) hx hb dX11_pack_132 (by decide) (fun c1 => ?_) (fun c1 => ?_)
    · have h := ite_t h c1
      exact r_vret X I (Option.some.inj h).symm dX11_pack_186
    · have h := ite_f h c1
      refine lv_aload_n hx hb dX11_pack_135 rfl (lv_at hl 1 rfl) ?_
      refine lv_iload_n hx hb dX11_pack_136 rfl (lv_at hl 2 rfl) ?_
      refine lv_iload hx hb dX11_pack_137 (lv_at hl 3 rfl) ?_
      refine lv_iadd hx hb dX11_pack_139 ?_
      refine lv_aload_n hx hb dX11_pack_140 rfl (lv_at hl 0 rfl) ?_
      refine gfR_X11_115 X I dX11_pack_141 ?_
      refine lv_iload hx hb dX11_pack_144 (lv_at hl 3 rfl) ?_
      obtain ⟨hin, h⟩ := gd_some h
      refine ialdR X I (kR_25 E) hin dX11_pack_146 ?_
      obtain ⟨hin, h⟩ := gd_some h
      refine iastR X I hr1 hin dX11_pack_147 (fun H locs I => ?_)
      obtain ⟨σ2, eσ2, h⟩ := lt_e h
      replace I := wi_nm eσ2 I
      refine lv_aload_n hx hb dX11_pack_148 rfl (lv_at hl 1 rfl) ?_
      refine lv_iload_n hx hb dX11_pack_149 rfl (lv_at hl 2 rfl) ?_
      refine lv_bipush (v := 7) hx hb dX11_pack_150 (by decide) ?_
      refine lv_iadd hx hb dX11_pack_152 ?_
      refine lv_iload hx hb dX11_pack_153 (lv_at hl 3 rfl) ?_
      refine lv_iadd hx hb dX11_pack_155 ?_
      refine lv_aload_n hx hb dX11_pack_156 rfl (lv_at hl 0 rfl) ?_
      refine gfR_X11_117 X I dX11_pack_157 ?_
      refine lv_iload hx hb dX11_pack_160 (lv_at hl 3 rfl) ?_
      obtain ⟨hin, h⟩ := gd_some h
      refine ialdR X I (kR_26 E) hin dX11_pack_162 ?_
      obtain ⟨hin, h⟩ := gd_some h
      refine iastR X I hr1 hin dX11_pack_163 (fun H locs I => ?_)
      obtain ⟨σ3, eσ3, h⟩ := lt_e h
      replace I := wi_nm eσ3 I
      refine lv_aload_n hx hb dX11_pack_164 rfl (lv_at hl 1 rfl) ?_
      refine lv_iload_n hx hb dX11_pack_165 rfl (lv_at hl 2 rfl) ?_
      refine lv_bipush (v := 14) hx hb dX11_pack_166 (by decide) ?_
      refine lv_iadd hx hb dX11_pack_168 ?_
      refine lv_iload hx hb dX11_pack_169 (lv_at hl 3 rfl) ?_
      refine lv_iadd hx hb dX11_pack_171 ?_
      refine lv_aload_n hx hb dX11_pack_172 rfl (lv_at hl 0 rfl) ?_
      refine gfR_X11_120 X I dX11_pack_173 ?_
      refine lv_iload hx hb dX11_pack_176 (lv_at hl 3 rfl) ?_
      obtain ⟨hin, h⟩ := gd_some h
      refine ialdR X I (kR_27 E) hin dX11_pack_178 ?_
      obtain ⟨hin, h⟩ := gd_some h
      refine iastR X I hr1 hin dX11_pack_179 (fun H locs I => ?_)
      obtain ⟨σ4, eσ4, h⟩ := lt_e h
      replace I := wi_nm eσ4 I
      refine lv_iinc (v := (x4 + 1)) (lv' := [(4, .int (x4 + 1)), (0, .ref (ra E 0)), (1, .ref (ra E r1)), (3, .int x3)]) hx hb dX11_pack_180 hl (k := 3) rfl rfl (by decide) rfl (fun ls hl => ?_)
      refine lv_goto (tgt := 128) hx hb dX11_pack_183 (by decide) ?_
      exact ih σ4 (x4 + 1) h H locs ls I (lv_sub hl [1, 2, 3, 0] rfl)
set_option maxHeartbeats 4000000 in
set_option maxRecDepth 100000 in
theorem w_X11_pack_32 {p : Program} {l : Launch} {e : Env} {s : State} {m : MethodId} {args : Array Value} {below : List Frame} {meth : Method} {c : Code} {A : Nat → Prop} {E : RE} {q : Mem} (X : CX p s m meth c args cX11_pack 5 RX11 none) {r1 n1 : Nat} {x3 : Int32} (hr1 : KRaI E r1 n1) : ∀ (n : Nat), ∀ (σ : Mem) (x4 : Int32) , f_X11_pack_32 r1 n1 x3 n σ x4 = some q → ∀ (H : Heap) (locs : List Loc) (ls : Array Slot), WI (vR E) A s H locs σ → lv_has ls 5 [(0, .ref (ra E 0)), (1, .ref (ra E r1)), (3, .int x3), (4, .int x4)] → W p l e rm_X11_pack s m args below meth c H locs 0 0 (MQ below (QV (vR E) A q) args s 0 0 A) (F0 m 32 ls []) := by
  have hx := X.1
  have hb := X.2.1
  intro n
  induction n with
  | zero =>
    intro σ x4 h
    cases h
  | succ n ih =>
    intro σ x4 h H locs ls I hl
    rw [f_X11_pack_32] at h
    refine lv_iload hx hb dX11_pack_32 (lv_at hl 3 rfl) ?_
    refine lv_bipush (v := 8) hx hb dX11_pack_34 (by decide) ?_
    refine lv_icmp_ge (tgt := 122) hx hb dX11_pack_36 (by decide) (fun c1 => ?_) (fun c1 => ?_)
    · have h := ite_t h c1
      refine lv_iinc (v := (x3 + 40)) (lv' := [(3, .int (x3 + 40)), (0, .ref (ra E 0)), (1, .ref (ra E r1)), (4, .int x4)]) hx hb dX11_pack_122 hl (k := 2) rfl rfl (by decide) rfl (fun ls hl => ?_)
      refine lv_iconst (v := 0) hx hb dX11_pack_125 (by decide) ?_
      refine lv_istore (lv' := [(4, .int (0 : Int32)), (3, .int (x3 + 40)), (0, .ref (ra E 0)), (1, .ref (ra E r1))]) hx hb dX11_pack_126 hl (by decide) rfl (fun ls hl => ?_)
      exact w_X11_pack_128 X hr1  KF σ (0 : Int32) h H locs ls I (lv_sub hl [2, 3, 1, 0] rfl)
    · have h := ite_f h c1
      refine lv_aload_n hx hb dX11_pack_39 rfl (lv_at hl 1 rfl) ?_
      refine lv_iload_n hx hb dX11_pack_40 rfl (lv_at hl 2 rfl) ?_
      refine lv_iload hx hb dX11_pack_41 (lv_at hl 3 rfl) ?_
      refine lv_iadd hx hb dX11_pack_43 ?_
      refine lv_aload_n hx hb dX11_pack_44 rfl (lv_at hl 0 rfl) ?_
      refine gfR_X11_102 X I dX11_pack_45 ?_
      refine lv_iload hx hb dX11_pack_48 (lv_at hl 3 rfl) ?_
      obtain ⟨hin, h⟩ := gd_some h
      refine ialdR X I (kR_20 E) hin dX11_pack_50 ?_
      obtain ⟨hin, h⟩ := gd_some h
      refine iastR X I hr1 hin dX11_pack_51 (fun H locs I => ?_)
      obtain ⟨σ2, eσ2, h⟩ := lt_e h
      replace I := wi_nm eσ2 I
      refine lv_aload_n hx hb dX11_pack_52 rfl (lv_at hl 1 rfl) ?_
      refine lv_iload_n hx hb dX11_pack_53 rfl (lv_at hl 2 rfl) ?_
      refine lv_bipush (v := 8) hx hb dX11_pack_54 (by decide) ?_
      refine lv_iadd hx hb dX11_pack_56 ?_
      refine lv_iload hx hb dX11_pack_57 (lv_at hl 3 rfl) ?_
      refine lv_iadd hx hb dX11_pack_59 ?_
      refine lv_aload_n hx hb dX11_pack_60 rfl (lv_at hl 0 rfl) ?_
      refine gfR_X11_104 X I dX11_pack_61 ?_
      refine lv_iload hx hb dX11_pack_64 (lv_at hl 3 rfl) ?_
      obtain ⟨hin, h⟩ := gd_some h
      refine ialdR X I (kR_21 E) hin dX11_pack_66 ?_
      obtain ⟨hin, h⟩ := gd_some h
      refine iastR X I hr1 hin dX11_pack_67 (fun H locs I => ?_)
      obtain ⟨σ3, eσ3, h⟩ := lt_e h
      replace I := wi_nm eσ3 I
      refine lv_aload_n hx hb dX11_pack_68 rfl (lv_at hl 1 rfl) ?_
      refine lv_iload_n hx hb dX11_pack_69 rfl (lv_at hl 2 rfl) ?_
      refine lv_bipush (v := 16) hx hb dX11_pack_70 (by decide) ?_
      refine lv_iadd hx hb dX11_pack_72 ?_
      refine lv_iload hx hb dX11_pack_73 (lv_at hl 3 rfl) ?_
      refine lv_iadd hx hb dX11_pack_75 ?_
      refine lv_aload_n hx hb dX11_pack_76 rfl (lv_at hl 0 rfl) ?_
      refine gfR_X11_107 X I dX11_pack_77 ?_
      refine lv_iload hx hb dX11_pack_80 (lv_at hl 3 rfl) ?_
      obtain ⟨hin, h⟩ := gd_some h
      refine ialdR X I (kR_22 E) hin dX11_pack_82 ?_
      obtain ⟨hin, h⟩ := gd_some h
      refine iastR X I hr1 hin dX11_pack_83 (fun H locs I => ?_)
      obtain ⟨σ4, eσ4, h⟩ := lt_e h
      replace I := wi_nm eσ4 I
      refine lv_aload_n hx hb dX11_pack_84 rfl (lv_at hl 1 rfl) ?_
      refine lv_iload_n hx hb dX11_pack_85 rfl (lv_at hl 2 rfl) ?_
      refine lv_bipush (v := 24) hx hb dX11_pack_86 (by decide) ?_
      refine lv_iadd hx hb dX11_pack_88 ?_
      refine lv_iload hx hb dX11_pack_89 (lv_at hl 3 rfl) ?_
      refine lv_iadd hx hb dX11_pack_91 ?_
      refine lv_aload_n hx hb dX11_pack_92 rfl (lv_at hl 0 rfl) ?_
      refine gfR_X11_110 X I dX11_pack_93 ?_
      refine lv_iload hx hb dX11_pack_96 (lv_at hl 3 rfl) ?_
      obtain ⟨hin, h⟩ := gd_some h
      refine ialdR X I (kR_23 E) hin dX11_pack_98 ?_
      obtain ⟨hin, h⟩ := gd_some h
      refine iastR X I hr1 hin dX11_pack_99 (fun H locs I => ?_)
      obtain ⟨σ5, eσ5, h⟩ := lt_e h
      replace I := wi_nm eσ5 I
      refine lv_aload_n hx hb dX11_pack_100 rfl (lv_at hl 1 rfl) ?_
      refine lv_iload_n hx hb dX11_pack_101 rfl (lv_at hl 2 rfl) ?_
      refine lv_bipush (v := 32) hx hb dX11_pack_102 (by decide) ?_
      refine lv_iadd hx hb dX11_pack_104 ?_
      refine lv_iload hx hb dX11_pack_105 (lv_at hl 3 rfl) ?_
      refine lv_iadd hx hb dX11_pack_107 ?_
      refine lv_aload_n hx hb dX11_pack_108 rfl (lv_at hl 0 rfl) ?_
      refine gfR_X11_113 X I dX11_pack_109 ?_
      refine lv_iload hx hb dX11_pack_112 (lv_at hl 3 rfl) ?_
      obtain ⟨hin, h⟩ := gd_some h
      refine ialdR X I (kR_24 E) hin dX11_pack_114 ?_
      obtain ⟨hin, h⟩ := gd_some h
      refine iastR X I hr1 hin dX11_pack_115 (fun H locs I => ?_)
      obtain ⟨σ6, eσ6, h⟩ := lt_e h
      replace I := wi_nm eσ6 I
      refine lv_iinc (v := (x4 + 1)) (lv' := [(4, .int (x4 + 1)), (0, .ref (ra E 0)), (1, .ref (ra E r1)), (3, .int x3)]) hx hb dX11_pack_116 hl (k := 3) rfl rfl (by decide) rfl (fun ls hl => ?_)
      refine lv_goto (tgt := 32) hx hb dX11_pack_119 (by decide) ?_
      exact ih σ6 (x4 + 1) h H locs ls I (lv_sub hl [1, 2, 3, 0] rfl)
set_option maxHeartbeats 4000000 in
set_option maxRecDepth 100000 in
theorem w_X11_pack_0 {p : Program} {l : Launch} {e : Env} {s : State} {m : MethodId} {args : Array Value} {below : List Frame} {meth : Method} {c : Code} {A : Nat → Prop} {E : RE} {q : Mem} (X : CX p s m meth c args cX11_pack 5 RX11 none) {r1 n1 : Nat} (hr1 : KRaI E r1 n1) : ∀ (σ : Mem) (x2 : Int32) , m_X11_pack r1 n1 σ x2 = some q → ∀ (H : Heap) (locs : List Loc) (ls : Array Slot), WI (vR E) A s H locs σ → lv_has ls 5 [(0, .ref (ra E 0)), (1, .ref (ra E r1)), (2, .int x2)] → W p l e rm_X11_pack s m args below meth c H locs 0 0 (MQ below (QV (vR E) A q) args s 0 0 A) (F0 m 0 ls []) := by
  have hx := X.1
  have hb := X.2.1
  intro σ x2 h H locs ls I hl
  unfold m_X11_pack at h
  refine lv_aload_n hx hb dX11_pack_0 rfl (lv_at hl 1 rfl) ?_
  refine lv_iload_n hx hb dX11_pack_1 rfl (lv_at hl 2 rfl) ?_
  refine lv_aload_n hx hb dX11_pack_2 rfl (lv_at hl 0 rfl) ?_
  refine gfR_X11_342 X I dX11_pack_3 ?_
  obtain ⟨hin, h⟩ := gd_some h
  refine iastR X I hr1 hin dX11_pack_6 (fun H locs I => ?_)
  obtain ⟨σ1, eσ1, h⟩ := lt_e h
  replace I := wi_nm eσ1 I
  refine lv_aload_n hx hb dX11_pack_7 rfl (lv_at hl 1 rfl) ?_
  refine lv_iload_n hx hb dX11_pack_8 rfl (lv_at hl 2 rfl) ?_
  refine lv_iconst (v := 1) hx hb dX11_pack_9 (by decide) ?_
  refine lv_iadd hx hb dX11_pack_10 ?_
  refine lv_aload_n hx hb dX11_pack_11 rfl (lv_at hl 0 rfl) ?_
  refine gfR_X11_344 X I dX11_pack_12 ?_
  obtain ⟨hin, h⟩ := gd_some h
  refine iastR X I hr1 hin dX11_pack_15 (fun H locs I => ?_)
  obtain ⟨σ2, eσ2, h⟩ := lt_e h
  replace I := wi_nm eσ2 I
  refine lv_aload_n hx hb dX11_pack_16 rfl (lv_at hl 1 rfl) ?_
  refine lv_iload_n hx hb dX11_pack_17 rfl (lv_at hl 2 rfl) ?_
  refine lv_iconst (v := 2) hx hb dX11_pack_18 (by decide) ?_
  refine lv_iadd hx hb dX11_pack_19 ?_
  refine lv_aload_n hx hb dX11_pack_20 rfl (lv_at hl 0 rfl) ?_
  refine gfR_X11_347 X I dX11_pack_21 ?_
  obtain ⟨hin, h⟩ := gd_some h
  refine iastR X I hr1 hin dX11_pack_24 (fun H locs I => ?_)
  obtain ⟨σ3, eσ3, h⟩ := lt_e h
  replace I := wi_nm eσ3 I
  refine lv_iload_n hx hb dX11_pack_25 rfl (lv_at hl 2 rfl) ?_
  refine lv_iconst (v := 3) hx hb dX11_pack_26 (by decide) ?_
  refine lv_iadd hx hb dX11_pack_27 ?_
  obtain ⟨y4, ey4, h⟩ := lt_e h
  refine nm_i ey4 ?_
  refine lv_istore_n (lv' := [(3, .int y4), (0, .ref (ra E 0)), (1, .ref (ra E r1)), (2, .int x2)]) hx hb dX11_pack_28 rfl hl (by decide) rfl (fun ls hl => ?_)
  refine lv_iconst (v := 0) hx hb dX11_pack_29 (by decide) ?_
  refine lv_istore (lv' := [(4, .int (0 : Int32)), (3, .int y4), (0, .ref (ra E 0)), (1, .ref (ra E r1)), (2, .int x2)]) hx hb dX11_pack_30 hl (by decide) rfl (fun ls hl => ?_)
  exact w_X11_pack_32 X hr1  KF σ3 (0 : Int32) h H locs ls I (lv_sub hl [2, 3, 1, 0] rfl)
theorem c_X11_pack {l : Launch} {E : RE} {r1 n1 : Nat} {σ : Mem} {x2 : Int32} (hr1 : KRaI E r1 n1) {q : Mem} (h : m_X11_pack r1 n1 σ x2 = some q) : CV l (vR E) yX11_pack (.code yX11_pack cX11_pack 5 none :: GG) rm_X11_pack [.ref (ra E 0), .ref (ra E r1), .int x2] σ q :=
  mk_CV (by decide +kernel) (Nat.le_of_ble_eq_true rfl) (fun p e s m args below meth c A ls X I hl => w_X11_pack_0 X hr1 σ x2 h s.heap [] ls I (lv_sub hl [0, 1, 2] rfl))

def rm_X11_unpack : Room := { frames := 1, cells := 0, slots := 0, locals := 64 }
def f_X11_unpack_128 (r1 n1 : Nat) (x3 : Int32) : Nat → Mem → Int32 → Option (Mem)
  | 0, _, _ => none
  | n + 1, σ, x4 => (if (7 : Int32) ≤ x4 then (some σ) else (gd (x3 + x4) n1 (gd x4 7 (lt (ms σ 25 (Int32.toNatClampNeg x4) ((σ r1 (Int32.toNatClampNeg (x3 + x4))))) fun σ2 => (gd ((x3 + (7 : Int32)) + x4) n1 (gd x4 7 (lt (ms σ2 26 (Int32.toNatClampNeg x4) ((σ2 r1 (Int32.toNatClampNeg ((x3 + (7 : Int32)) + x4))))) fun σ3 => (gd ((x3 + (14 : Int32)) + x4) n1 (gd x4 7 (lt (ms σ3 27 (Int32.toNatClampNeg x4) ((σ3 r1 (Int32.toNatClampNeg ((x3 + (14 : Int32)) + x4))))) fun σ4 => f_X11_unpack_128 r1 n1 x3 n σ4 (x4 + 1)))))))))))
def f_X11_unpack_32 (r1 n1 : Nat) (x3 : Int32) : Nat → Mem → Int32 → Option (Mem)
  | 0, _, _ => none
  | n + 1, σ, x4 => (if (8 : Int32) ≤ x4 then (f_X11_unpack_128 r1 n1 (x3 + 40) KF σ (0 : Int32)) else (gd (x3 + x4) n1 (gd x4 8 (lt (ms σ 20 (Int32.toNatClampNeg x4) ((σ r1 (Int32.toNatClampNeg (x3 + x4))))) fun σ2 => (gd ((x3 + (8 : Int32)) + x4) n1 (gd x4 8 (lt (ms σ2 21 (Int32.toNatClampNeg x4) ((σ2 r1 (Int32.toNatClampNeg ((x3 + (8 : Int32)) + x4))))) fun σ3 => (gd ((x3 + (16 : Int32)) + x4) n1 (gd x4 8 (lt (ms σ3 22 (Int32.toNatClampNeg x4) ((σ3 r1 (Int32.toNatClampNeg ((x3 + (16 : Int32)) + x4))))) fun σ4 => (gd ((x3 + (24 : Int32)) + x4) n1 (gd x4 8 (lt (ms σ4 23 (Int32.toNatClampNeg x4) ((σ4 r1 (Int32.toNatClampNeg ((x3 + (24 : Int32)) + x4))))) fun σ5 => (gd ((x3 + (32 : Int32)) + x4) n1 (gd x4 8 (lt (ms σ5 24 (Int32.toNatClampNeg x4) ((σ5 r1 (Int32.toNatClampNeg ((x3 + (32 : Int32)) + x4))))) fun σ6 => f_X11_unpack_32 r1 n1 x3 n σ6 (x4 + 1)))))))))))))))))
def m_X11_unpack (r1 n1 : Nat) (σ : Mem) (x2 : Int32) : Option (Mem) := (gd x2 n1 (lt (ms σ 0 41 (σ r1 (Int32.toNatClampNeg x2))) fun σ1 => (gd (x2 + (1 : Int32)) n1 (lt (ms σ1 0 42 (σ1 r1 (Int32.toNatClampNeg (x2 + (1 : Int32))))) fun σ2 => (gd (x2 + (2 : Int32)) n1 (lt (ms σ2 0 43 (σ2 r1 (Int32.toNatClampNeg (x2 + (2 : Int32))))) fun σ3 => (lt (x2 + (3 : Int32)) fun y4 => (f_X11_unpack_32 r1 n1 y4 KF σ3 (0 : Int32)))))))))
set_option maxHeartbeats 4000000 in
set_option maxRecDepth 100000 in
theorem w_X11_unpack_128 {p : Program} {l : Launch} {e : Env} {s : State} {m : MethodId} {args : Array Value} {below : List Frame} {meth : Method} {c : Code} {A : Nat → Prop} {E : RE} {q : Mem} (X : CX p s m meth c args cX11_unpack 5 RX11 none) {r1 n1 : Nat} {x3 : Int32} (hr1 : KRaI E r1 n1) : ∀ (n : Nat), ∀ (σ : Mem) (x4 : Int32) , f_X11_unpack_128 r1 n1 x3 n σ x4 = some q → ∀ (H : Heap) (locs : List Loc) (ls : Array Slot), WI (vR E) A s H locs σ → lv_has ls 5 [(0, .ref (ra E 0)), (1, .ref (ra E r1)), (3, .int x3), (4, .int x4)] → W p l e rm_X11_unpack s m args below meth c H locs 0 0 (MQ below (QV (vR E) A q) args s 0 0 A) (F0 m 128 ls []) := by
  have hx := X.1
  have hb := X.2.1
  intro n
  induction n with
  | zero =>
    intro σ x4 h
    cases h
  | succ n ih =>
    intro σ x4 h H locs ls I hl
    rw [f_X11_unpack_128] at h
    refine lv_iload hx hb dX11_unpack_128 (lv_at hl 3 rfl) ?_
    refine lv_bipush (v := 7) hx hb dX11_unpack_130 (by decide) ?_
    refine lv_icmp_ge (tgt := 186) hx hb dX11_unpack_132 (by decide) (fun c1 => ?_) (fun c1 => ?_)
    · have h := ite_t h c1
      exact r_vret X I (Option.some.inj h).symm dX11_unpack_186
    · have h := ite_f h c1
      refine lv_aload_n hx hb dX11_unpack_135 rfl (lv_at hl 0 rfl) ?_
      refine gfR_X11_115 X I dX11_unpack_136 ?_
      refine lv_iload hx hb dX11_unpack_139 (lv_at hl 3 rfl) ?_
      refine lv_aload_n hx hb dX11_unpack_141 rfl (lv_at hl 1 rfl) ?_
      refine lv_iload_n hx hb dX11_unpack_142 rfl (lv_at hl 2 rfl) ?_
      refine lv_iload hx hb dX11_unpack_143 (lv_at hl 3 rfl) ?_
      refine lv_iadd hx hb dX11_unpack_145 ?_
      obtain ⟨hin, h⟩ := gd_some h
      refine ialdR X I hr1 hin dX11_unpack_146 ?_
      obtain ⟨hin, h⟩ := gd_some h
      refine iastR X I (kR_25 E) hin dX11_unpack_147 (fun H locs I => ?_)
      obtain ⟨σ2, eσ2, h⟩ := lt_e h
      replace I := wi_nm eσ2 I
      refine lv_aload_n hx hb dX11_unpack_148 rfl (lv_at hl 0 rfl) ?_
      refine gfR_X11_117 X I dX11_unpack_149 ?_
      refine lv_iload hx hb dX11_unpack_152 (lv_at hl 3 rfl) ?_
      refine lv_aload_n hx hb dX11_unpack_154 rfl (lv_at hl 1 rfl) ?_
      refine lv_iload_n hx hb dX11_unpack_155 rfl (lv_at hl 2 rfl) ?_
      refine lv_bipush (v := 7) hx hb dX11_unpack_156 (by decide) ?_
      refine lv_iadd hx hb dX11_unpack_158 ?_
      refine lv_iload hx hb dX11_unpack_159 (lv_at hl 3 rfl) ?_
      refine lv_iadd hx hb dX11_unpack_161 ?_
      obtain ⟨hin, h⟩ := gd_some h
      refine ialdR X I hr1 hin dX11_unpack_162 ?_
      obtain ⟨hin, h⟩ := gd_some h
      refine iastR X I (kR_26 E) hin dX11_unpack_163 (fun H locs I => ?_)
      obtain ⟨σ3, eσ3, h⟩ := lt_e h
      replace I := wi_nm eσ3 I
      refine lv_aload_n hx hb dX11_unpack_164 rfl (lv_at hl 0 rfl) ?_
      refine gfR_X11_120 X I dX11_unpack_165 ?_
      refine lv_iload hx hb dX11_unpack_168 (lv_at hl 3 rfl) ?_
      refine lv_aload_n hx hb dX11_unpack_170 rfl (lv_at hl 1 rfl) ?_
      refine lv_iload_n hx hb dX11_unpack_171 rfl (lv_at hl 2 rfl) ?_
      refine lv_bipush (v := 14) hx hb dX11_unpack_172 (by decide) ?_
      refine lv_iadd hx hb dX11_unpack_174 ?_
      refine lv_iload hx hb dX11_unpack_175 (lv_at hl 3 rfl) ?_
      refine lv_iadd hx hb dX11_unpack_177 ?_
      obtain ⟨hin, h⟩ := gd_some h
      refine ialdR X I hr1 hin dX11_unpack_178 ?_
      obtain ⟨hin, h⟩ := gd_some h
      refine iastR X I (kR_27 E) hin dX11_unpack_179 (fun H locs I => ?_)
      obtain ⟨σ4, eσ4, h⟩ := lt_e h
      replace I := wi_nm eσ4 I
      refine lv_iinc (v := (x4 + 1)) (lv' := [(4, .int (x4 + 1)), (0, .ref (ra E 0)), (1, .ref (ra E r1)), (3, .int x3)]) hx hb dX11_unpack_180 hl (k := 3) rfl rfl (by decide) rfl (fun ls hl => ?_)
      refine lv_goto (tgt := 128) hx hb dX11_unpack_183 (by decide) ?_
      exact ih σ4 (x4 + 1) h H locs ls I (lv_sub hl [1, 2, 3, 0] rfl)
set_option maxHeartbeats 4000000 in
set_option maxRecDepth 100000 in
theorem w_X11_unpack_32 {p : Program} {l : Launch} {e : Env} {s : State} {m : MethodId} {args : Array Value} {below : List Frame} {meth : Method} {c : Code} {A : Nat → Prop} {E : RE} {q : Mem} (X : CX p s m meth c args cX11_unpack 5 RX11 none) {r1 n1 : Nat} {x3 : Int32} (hr1 : KRaI E r1 n1) : ∀ (n : Nat), ∀ (σ : Mem) (x4 : Int32) , f_X11_unpack_32 r1 n1 x3 n σ x4 = some q → ∀ (H : Heap) (locs : List Loc) (ls : Array Slot), WI (vR E) A s H locs σ → lv_has ls 5 [(0, .ref (ra E 0)), (1, .ref (ra E r1)), (3, .int x3), (4, .int x4)] → W p l e rm_X11_unpack s m args below meth c H locs 0 0 (MQ below (QV (vR E) A q) args s 0 0 A) (F0 m 32 ls []) := by
  have hx := X.1
  have hb := X.2.1
  intro n
  induction n with
  | zero =>
    intro σ x4 h
    cases h
  | succ n ih =>
    intro σ x4 h H locs ls I hl
    rw [f_X11_unpack_32] at h
    refine lv_iload hx hb dX11_unpack_32 (lv_at hl 3 rfl) ?_
    refine lv_bipush (v := 8) hx hb dX11_unpack_34 (by decide) ?_
    refine lv_icmp_ge (tgt := 122) hx hb dX11_unpack_36 (by decide) (fun c1 => ?_) (fun c1 => ?_)
    · have h := ite_t h c1
      refine lv_iinc (v := (x3 + 40)) (lv' := [(3, .int (x3 + 40)), (0, .ref (ra E 0)), (1, .ref (ra E r1)), (4, .int x4)]) hx hb dX11_unpack_122 hl (k := 2) rfl rfl (by decide) rfl (fun ls hl => ?_)
      refine lv_iconst (v := 0) hx hb dX11_unpack_125 (by decide) ?_
      refine lv_istore (lv' := [(4, .int (0 : Int32)), (3, .int (x3 + 40)), (0, .ref (ra E 0)), (1, .ref (ra E r1))]) hx hb dX11_unpack_126 hl (by decide) rfl (fun ls hl => ?_)
      exact w_X11_unpack_128 X hr1  KF σ (0 : Int32) h H locs ls I (lv_sub hl [2, 3, 1, 0] rfl)
    · have h := ite_f h c1
      refine lv_aload_n hx hb dX11_unpack_39 rfl (lv_at hl 0 rfl) ?_
      refine gfR_X11_102 X I dX11_unpack_40 ?_
      refine lv_iload hx hb dX11_unpack_43 (lv_at hl 3 rfl) ?_
      refine lv_aload_n hx hb dX11_unpack_45 rfl (lv_at hl 1 rfl) ?_
      refine lv_iload_n hx hb dX11_unpack_46 rfl (lv_at hl 2 rfl) ?_
      refine lv_iload hx hb dX11_unpack_47 (lv_at hl 3 rfl) ?_
      refine lv_iadd hx hb dX11_unpack_49 ?_
      obtain ⟨hin, h⟩ := gd_some h
      refine ialdR X I hr1 hin dX11_unpack_50 ?_
      obtain ⟨hin, h⟩ := gd_some h
      refine iastR X I (kR_20 E) hin dX11_unpack_51 (fun H locs I => ?_)
      obtain ⟨σ2, eσ2, h⟩ := lt_e h
      replace I := wi_nm eσ2 I
      refine lv_aload_n hx hb dX11_unpack_52 rfl (lv_at hl 0 rfl) ?_
      refine gfR_X11_104 X I dX11_unpack_53 ?_
      refine lv_iload hx hb dX11_unpack_56 (lv_at hl 3 rfl) ?_
      refine lv_aload_n hx hb dX11_unpack_58 rfl (lv_at hl 1 rfl) ?_
      refine lv_iload_n hx hb dX11_unpack_59 rfl (lv_at hl 2 rfl) ?_
      refine lv_bipush (v := 8) hx hb dX11_unpack_60 (by decide) ?_
      refine lv_iadd hx hb dX11_unpack_62 ?_
      refine lv_iload hx hb dX11_unpack_63 (lv_at hl 3 rfl) ?_
      refine lv_iadd hx hb dX11_unpack_65 ?_
      obtain ⟨hin, h⟩ := gd_some h
      refine ialdR X I hr1 hin dX11_unpack_66 ?_
      obtain ⟨hin, h⟩ := gd_some h
      refine iastR X I (kR_21 E) hin dX11_unpack_67 (fun H locs I => ?_)
      obtain ⟨σ3, eσ3, h⟩ := lt_e h
      replace I := wi_nm eσ3 I
      refine lv_aload_n hx hb dX11_unpack_68 rfl (lv_at hl 0 rfl) ?_
      refine gfR_X11_107 X I dX11_unpack_69 ?_
      refine lv_iload hx hb dX11_unpack_72 (lv_at hl 3 rfl) ?_
      refine lv_aload_n hx hb dX11_unpack_74 rfl (lv_at hl 1 rfl) ?_
      refine lv_iload_n hx hb dX11_unpack_75 rfl (lv_at hl 2 rfl) ?_
      refine lv_bipush (v := 16) hx hb dX11_unpack_76 (by decide) ?_
      refine lv_iadd hx hb dX11_unpack_78 ?_
      refine lv_iload hx hb dX11_unpack_79 (lv_at hl 3 rfl) ?_
      refine lv_iadd hx hb dX11_unpack_81 ?_
      obtain ⟨hin, h⟩ := gd_some h
      refine ialdR X I hr1 hin dX11_unpack_82 ?_
      obtain ⟨hin, h⟩ := gd_some h
      refine iastR X I (kR_22 E) hin dX11_unpack_83 (fun H locs I => ?_)
      obtain ⟨σ4, eσ4, h⟩ := lt_e h
      replace I := wi_nm eσ4 I
      refine lv_aload_n hx hb dX11_unpack_84 rfl (lv_at hl 0 rfl) ?_
      refine gfR_X11_110 X I dX11_unpack_85 ?_
      refine lv_iload hx hb dX11_unpack_88 (lv_at hl 3 rfl) ?_
      refine lv_aload_n hx hb dX11_unpack_90 rfl (lv_at hl 1 rfl) ?_
      refine lv_iload_n hx hb dX11_unpack_91 rfl (lv_at hl 2 rfl) ?_
      refine lv_bipush (v := 24) hx hb dX11_unpack_92 (by decide) ?_
      refine lv_iadd hx hb dX11_unpack_94 ?_
      refine lv_iload hx hb dX11_unpack_95 (lv_at hl 3 rfl) ?_
      refine lv_iadd hx hb dX11_unpack_97 ?_
      obtain ⟨hin, h⟩ := gd_some h
      refine ialdR X I hr1 hin dX11_unpack_98 ?_
      obtain ⟨hin, h⟩ := gd_some h
      refine iastR X I (kR_23 E) hin dX11_unpack_99 (fun H locs I => ?_)
      obtain ⟨σ5, eσ5, h⟩ := lt_e h
      replace I := wi_nm eσ5 I
      refine lv_aload_n hx hb dX11_unpack_100 rfl (lv_at hl 0 rfl) ?_
      refine gfR_X11_113 X I dX11_unpack_101 ?_
      refine lv_iload hx hb dX11_unpack_104 (lv_at hl 3 rfl) ?_
      refine lv_aload_n hx hb dX11_unpack_106 rfl (lv_at hl 1 rfl) ?_
      refine lv_iload_n hx hb dX11_unpack_107 rfl (lv_at hl 2 rfl) ?_
      refine lv_bipush (v := 32) hx hb dX11_unpack_108 (by decide) ?_
      refine lv_iadd hx hb dX11_unpack_110 ?_
      refine lv_iload hx hb dX11_unpack_111 (lv_at hl 3 rfl) ?_
      refine lv_iadd hx hb dX11_unpack_113 ?_
      obtain ⟨hin, h⟩ := gd_some h
      refine ialdR X I hr1 hin dX11_unpack_114 ?_
      obtain ⟨hin, h⟩ := gd_some h
      refine iastR X I (kR_24 E) hin dX11_unpack_115 (fun H locs I => ?_)
      obtain ⟨σ6, eσ6, h⟩ := lt_e h
      replace I := wi_nm eσ6 I
      refine lv_iinc (v := (x4 + 1)) (lv' := [(4, .int (x4 + 1)), (0, .ref (ra E 0)), (1, .ref (ra E r1)), (3, .int x3)]) hx hb dX11_unpack_116 hl (k := 3) rfl rfl (by decide) rfl (fun ls hl => ?_)
      refine lv_goto (tgt := 32) hx hb dX11_unpack_119 (by decide) ?_
      exact ih σ6 (x4 + 1) h H locs ls I (lv_sub hl [1, 2, 3, 0] rfl)
set_option maxHeartbeats 4000000 in
set_option maxRecDepth 100000 in
theorem w_X11_unpack_0 {p : Program} {l : Launch} {e : Env} {s : State} {m : MethodId} {args : Array Value} {below : List Frame} {meth : Method} {c : Code} {A : Nat → Prop} {E : RE} {q : Mem} (X : CX p s m meth c args cX11_unpack 5 RX11 none) {r1 n1 : Nat} (hr1 : KRaI E r1 n1) : ∀ (σ : Mem) (x2 : Int32) , m_X11_unpack r1 n1 σ x2 = some q → ∀ (H : Heap) (locs : List Loc) (ls : Array Slot), WI (vR E) A s H locs σ → lv_has ls 5 [(0, .ref (ra E 0)), (1, .ref (ra E r1)), (2, .int x2)] → W p l e rm_X11_unpack s m args below meth c H locs 0 0 (MQ below (QV (vR E) A q) args s 0 0 A) (F0 m 0 ls []) := by
  have hx := X.1
  have hb := X.2.1
  intro σ x2 h H locs ls I hl
  unfold m_X11_unpack at h
  refine lv_aload_n hx hb dX11_unpack_0 rfl (lv_at hl 0 rfl) ?_
  refine lv_aload_n hx hb dX11_unpack_1 rfl (lv_at hl 1 rfl) ?_
  refine lv_iload_n hx hb dX11_unpack_2 rfl (lv_at hl 2 rfl) ?_
  obtain ⟨hin, h⟩ := gd_some h
  refine ialdR X I hr1 hin dX11_unpack_3 ?_
  refine pfR_X11_342 X I  dX11_unpack_4 (fun H locs I => ?_)
  obtain ⟨σ1, eσ1, h⟩ := lt_e h
  replace I := wi_nm eσ1 I
  refine lv_aload_n hx hb dX11_unpack_7 rfl (lv_at hl 0 rfl) ?_
  refine lv_aload_n hx hb dX11_unpack_8 rfl (lv_at hl 1 rfl) ?_
  refine lv_iload_n hx hb dX11_unpack_9 rfl (lv_at hl 2 rfl) ?_
  refine lv_iconst (v := 1) hx hb dX11_unpack_10 (by decide) ?_
  refine lv_iadd hx hb dX11_unpack_11 ?_
  obtain ⟨hin, h⟩ := gd_some h
  refine ialdR X I hr1 hin dX11_unpack_12 ?_
  refine pfR_X11_344 X I  dX11_unpack_13 (fun H locs I => ?_)
  obtain ⟨σ2, eσ2, h⟩ := lt_e h
  replace I := wi_nm eσ2 I
  refine lv_aload_n hx hb dX11_unpack_16 rfl (lv_at hl 0 rfl) ?_
  refine lv_aload_n hx hb dX11_unpack_17 rfl (lv_at hl 1 rfl) ?_
  refine lv_iload_n hx hb dX11_unpack_18 rfl (lv_at hl 2 rfl) ?_
  refine lv_iconst (v := 2) hx hb dX11_unpack_19 (by decide) ?_
  refine lv_iadd hx hb dX11_unpack_20 ?_
  obtain ⟨hin, h⟩ := gd_some h
  refine ialdR X I hr1 hin dX11_unpack_21 ?_
  refine pfR_X11_347 X I  dX11_unpack_22 (fun H locs I => ?_)
  obtain ⟨σ3, eσ3, h⟩ := lt_e h
  replace I := wi_nm eσ3 I
  refine lv_iload_n hx hb dX11_unpack_25 rfl (lv_at hl 2 rfl) ?_
  refine lv_iconst (v := 3) hx hb dX11_unpack_26 (by decide) ?_
  refine lv_iadd hx hb dX11_unpack_27 ?_
  obtain ⟨y4, ey4, h⟩ := lt_e h
  refine nm_i ey4 ?_
  refine lv_istore_n (lv' := [(3, .int y4), (0, .ref (ra E 0)), (1, .ref (ra E r1)), (2, .int x2)]) hx hb dX11_unpack_28 rfl hl (by decide) rfl (fun ls hl => ?_)
  refine lv_iconst (v := 0) hx hb dX11_unpack_29 (by decide) ?_
  refine lv_istore (lv' := [(4, .int (0 : Int32)), (3, .int y4), (0, .ref (ra E 0)), (1, .ref (ra E r1)), (2, .int x2)]) hx hb dX11_unpack_30 hl (by decide) rfl (fun ls hl => ?_)
  exact w_X11_unpack_32 X hr1  KF σ3 (0 : Int32) h H locs ls I (lv_sub hl [2, 3, 1, 0] rfl)
theorem c_X11_unpack {l : Launch} {E : RE} {r1 n1 : Nat} {σ : Mem} {x2 : Int32} (hr1 : KRaI E r1 n1) {q : Mem} (h : m_X11_unpack r1 n1 σ x2 = some q) : CV l (vR E) yX11_unpack (.code yX11_unpack cX11_unpack 5 none :: GG) rm_X11_unpack [.ref (ra E 0), .ref (ra E r1), .int x2] σ q :=
  mk_CV (by decide +kernel) (Nat.le_of_ble_eq_true rfl) (fun p e s m args below meth c A ls X I hl => w_X11_unpack_0 X hr1 σ x2 h s.heap [] ls I (lv_sub hl [0, 1, 2] rfl))

def rm_X11_reckon : Room := { frames := 1, cells := 0, slots := 0, locals := 64 }
def m_X11_reckon (σ : Mem) (x0 : Int32) (x1 : Int32) (x2 : Int32) : Option (Int32) := (if x0 = (-26 : Int32) then (if x1 = (0 : Int32) then (some (0 : Int32)) else (if x2 = (0 : Int32) then (some (0 : Int32)) else (some (1 : Int32)))) else (if x0 = (-25 : Int32) then (if x1 = x2 then (some (1 : Int32)) else (some (0 : Int32))) else (if x0 = (-24 : Int32) then (if x2 ≤ x1 then (some (0 : Int32)) else (some (1 : Int32))) else (if x0 = (-23 : Int32) then (if x2 = (0 : Int32) then (some (0 : Int32)) else (gnz x2 (some (x1 / x2)))) else (if x0 = (-22 : Int32) then (some (x1 * x2)) else (if x0 = (-21 : Int32) then (some (x1 - x2)) else (if x0 = (-20 : Int32) then (some (x1 + x2)) else (if x1 = (0 : Int32) then (if x2 = (0 : Int32) then (some (0 : Int32)) else (some (1 : Int32))) else (some (1 : Int32))))))))))
set_option maxHeartbeats 4000000 in
set_option maxRecDepth 100000 in
theorem w_X11_reckon_0 {p : Program} {l : Launch} {e : Env} {s : State} {m : MethodId} {args : Array Value} {below : List Frame} {meth : Method} {c : Code} {A : Nat → Prop} {E : RE} {q : Int32} (X : CX p s m meth c args cX11_reckon 3 RX11 (some .int)) : ∀ (σ : Mem) (x0 : Int32) (x1 : Int32) (x2 : Int32) , m_X11_reckon σ x0 x1 x2 = some q → ∀ (H : Heap) (locs : List Loc) (ls : Array Slot), WI (vR E) A s H locs σ → lv_has ls 3 [(0, .int x0), (1, .int x1), (2, .int x2)] → W p l e rm_X11_reckon s m args below meth c H locs 0 0 (MQ below (QI (vR E) A (q, σ)) args s 0 0 A) (F0 m 0 ls []) := by
  have hx := X.1
  have hb := X.2.1
  intro σ x0 x1 x2 h H locs ls I hl
  unfold m_X11_reckon at h
  refine lv_iload_n hx hb dX11_reckon_0 rfl (lv_at hl 0 rfl) ?_
  by_cases c1 : x0 = (-26 : Int32)
  · have h := ite_t h c1
    have ht : Int32.toInt x0 = -26 := by rw [c1]; rfl
    refine lv_tableIn (off := 89) (tgt := 90) hx hb dX11_reckon_1 (by rw [ht]; decide) (by rw [ht]; decide) (by rw [ht]; rfl) (by decide) ?_
    refine lv_iload_n hx hb dX11_reckon_90 rfl (lv_at hl 1 rfl) ?_
    refine lv_if_eq (tgt := 102) hx hb dX11_reckon_91 (by decide) (fun c2 => ?_) (fun c2 => ?_)
    · have h := ite_t h c2
      refine lv_iconst (v := 0) hx hb dX11_reckon_102 (by decide) ?_
      exact r_iret X I (congrArg (fun z => (z, σ)) (Option.some.inj h).symm) dX11_reckon_103
    · have h := ite_f h c2
      refine lv_iload_n hx hb dX11_reckon_94 rfl (lv_at hl 2 rfl) ?_
      refine lv_if_eq (tgt := 102) hx hb dX11_reckon_95 (by decide) (fun c3 => ?_) (fun c3 => ?_)
      · have h := ite_t h c3
        refine lv_iconst (v := 0) hx hb dX11_reckon_102 (by decide) ?_
        exact r_iret X I (congrArg (fun z => (z, σ)) (Option.some.inj h).symm) dX11_reckon_103
      · have h := ite_f h c3
        refine lv_iconst (v := 1) hx hb dX11_reckon_98 (by decide) ?_
        refine lv_goto (tgt := 103) hx hb dX11_reckon_99 (by decide) ?_
        exact r_iret X I (congrArg (fun z => (z, σ)) (Option.some.inj h).symm) dX11_reckon_103
  replace h := ite_f h c1
  by_cases c4 : x0 = (-25 : Int32)
  · have h := ite_t h c4
    have ht : Int32.toInt x0 = -25 := by rw [c4]; rfl
    refine lv_tableIn (off := 78) (tgt := 79) hx hb dX11_reckon_1 (by rw [ht]; decide) (by rw [ht]; decide) (by rw [ht]; rfl) (by decide) ?_
    refine lv_iload_n hx hb dX11_reckon_79 rfl (lv_at hl 1 rfl) ?_
    refine lv_iload_n hx hb dX11_reckon_80 rfl (lv_at hl 2 rfl) ?_
    refine lv_icmp_ne (tgt := 88) hx hb dX11_reckon_81 (by decide) (fun c5 => ?_) (fun c5 => ?_)
    · have h := ite_f h c5
      refine lv_iconst (v := 0) hx hb dX11_reckon_88 (by decide) ?_
      exact r_iret X I (congrArg (fun z => (z, σ)) (Option.some.inj h).symm) dX11_reckon_89
    · have h := ite_t h c5
      refine lv_iconst (v := 1) hx hb dX11_reckon_84 (by decide) ?_
      refine lv_goto (tgt := 89) hx hb dX11_reckon_85 (by decide) ?_
      exact r_iret X I (congrArg (fun z => (z, σ)) (Option.some.inj h).symm) dX11_reckon_89
  replace h := ite_f h c4
  by_cases c6 : x0 = (-24 : Int32)
  · have h := ite_t h c6
    have ht : Int32.toInt x0 = -24 := by rw [c6]; rfl
    refine lv_tableIn (off := 67) (tgt := 68) hx hb dX11_reckon_1 (by rw [ht]; decide) (by rw [ht]; decide) (by rw [ht]; rfl) (by decide) ?_
    refine lv_iload_n hx hb dX11_reckon_68 rfl (lv_at hl 1 rfl) ?_
    refine lv_iload_n hx hb dX11_reckon_69 rfl (lv_at hl 2 rfl) ?_
    refine lv_icmp_ge (tgt := 77) hx hb dX11_reckon_70 (by decide) (fun c7 => ?_) (fun c7 => ?_)
    · have h := ite_t h c7
      refine lv_iconst (v := 0) hx hb dX11_reckon_77 (by decide) ?_
      exact r_iret X I (congrArg (fun z => (z, σ)) (Option.some.inj h).symm) dX11_reckon_78
    · have h := ite_f h c7
      refine lv_iconst (v := 1) hx hb dX11_reckon_73 (by decide) ?_
      refine lv_goto (tgt := 78) hx hb dX11_reckon_74 (by decide) ?_
      exact r_iret X I (congrArg (fun z => (z, σ)) (Option.some.inj h).symm) dX11_reckon_78
  replace h := ite_f h c6
  by_cases c8 : x0 = (-23 : Int32)
  · have h := ite_t h c8
    have ht : Int32.toInt x0 = -23 := by rw [c8]; rfl
    refine lv_tableIn (off := 55) (tgt := 56) hx hb dX11_reckon_1 (by rw [ht]; decide) (by rw [ht]; decide) (by rw [ht]; rfl) (by decide) ?_
    refine lv_iload_n hx hb dX11_reckon_56 rfl (lv_at hl 2 rfl) ?_
    refine lv_if_ne (tgt := 64) hx hb dX11_reckon_57 (by decide) (fun c9 => ?_) (fun c9 => ?_)
    · have h := ite_f h c9
      refine lv_iload_n hx hb dX11_reckon_64 rfl (lv_at hl 1 rfl) ?_
      refine lv_iload_n hx hb dX11_reckon_65 rfl (lv_at hl 2 rfl) ?_
      obtain ⟨hnz, h⟩ := gnz_some h
      refine lv_idiv hx hb dX11_reckon_66 hnz ?_
      exact r_iret X I (congrArg (fun z => (z, σ)) (Option.some.inj h).symm) dX11_reckon_67
    · have h := ite_t h c9
      refine lv_iconst (v := 0) hx hb dX11_reckon_60 (by decide) ?_
      refine lv_goto (tgt := 67) hx hb dX11_reckon_61 (by decide) ?_
      exact r_iret X I (congrArg (fun z => (z, σ)) (Option.some.inj h).symm) dX11_reckon_67
  replace h := ite_f h c8
  by_cases c10 : x0 = (-22 : Int32)
  · have h := ite_t h c10
    have ht : Int32.toInt x0 = -22 := by rw [c10]; rfl
    refine lv_tableIn (off := 51) (tgt := 52) hx hb dX11_reckon_1 (by rw [ht]; decide) (by rw [ht]; decide) (by rw [ht]; rfl) (by decide) ?_
    refine lv_iload_n hx hb dX11_reckon_52 rfl (lv_at hl 1 rfl) ?_
    refine lv_iload_n hx hb dX11_reckon_53 rfl (lv_at hl 2 rfl) ?_
    refine lv_imul hx hb dX11_reckon_54 ?_
    exact r_iret X I (congrArg (fun z => (z, σ)) (Option.some.inj h).symm) dX11_reckon_55
  replace h := ite_f h c10
  by_cases c11 : x0 = (-21 : Int32)
  · have h := ite_t h c11
    have ht : Int32.toInt x0 = -21 := by rw [c11]; rfl
    refine lv_tableIn (off := 47) (tgt := 48) hx hb dX11_reckon_1 (by rw [ht]; decide) (by rw [ht]; decide) (by rw [ht]; rfl) (by decide) ?_
    refine lv_iload_n hx hb dX11_reckon_48 rfl (lv_at hl 1 rfl) ?_
    refine lv_iload_n hx hb dX11_reckon_49 rfl (lv_at hl 2 rfl) ?_
    refine lv_isub hx hb dX11_reckon_50 ?_
    exact r_iret X I (congrArg (fun z => (z, σ)) (Option.some.inj h).symm) dX11_reckon_51
  replace h := ite_f h c11
  by_cases c12 : x0 = (-20 : Int32)
  · have h := ite_t h c12
    have ht : Int32.toInt x0 = -20 := by rw [c12]; rfl
    refine lv_tableIn (off := 43) (tgt := 44) hx hb dX11_reckon_1 (by rw [ht]; decide) (by rw [ht]; decide) (by rw [ht]; rfl) (by decide) ?_
    refine lv_iload_n hx hb dX11_reckon_44 rfl (lv_at hl 1 rfl) ?_
    refine lv_iload_n hx hb dX11_reckon_45 rfl (lv_at hl 2 rfl) ?_
    refine lv_iadd hx hb dX11_reckon_46 ?_
    exact r_iret X I (congrArg (fun z => (z, σ)) (Option.some.inj h).symm) dX11_reckon_47
  replace h := ite_f h c12
  have kd : W p l e rm_X11_reckon s m args below meth c H locs 0 0 (MQ below (QI (vR E) A (q, σ)) args s 0 0 A) (F0 m 104 ls []) := by
    refine lv_iload_n hx hb dX11_reckon_104 rfl (lv_at hl 1 rfl) ?_
    refine lv_if_ne (tgt := 112) hx hb dX11_reckon_105 (by decide) (fun c13 => ?_) (fun c13 => ?_)
    · have h := ite_f h c13
      refine lv_iconst (v := 1) hx hb dX11_reckon_112 (by decide) ?_
      refine lv_goto (tgt := 117) hx hb dX11_reckon_113 (by decide) ?_
      exact r_iret X I (congrArg (fun z => (z, σ)) (Option.some.inj h).symm) dX11_reckon_117
    · have h := ite_t h c13
      refine lv_iload_n hx hb dX11_reckon_108 rfl (lv_at hl 2 rfl) ?_
      refine lv_if_eq (tgt := 116) hx hb dX11_reckon_109 (by decide) (fun c14 => ?_) (fun c14 => ?_)
      · have h := ite_t h c14
        refine lv_iconst (v := 0) hx hb dX11_reckon_116 (by decide) ?_
        exact r_iret X I (congrArg (fun z => (z, σ)) (Option.some.inj h).symm) dX11_reckon_117
      · have h := ite_f h c14
        refine lv_iconst (v := 1) hx hb dX11_reckon_112 (by decide) ?_
        refine lv_goto (tgt := 117) hx hb dX11_reckon_113 (by decide) ?_
        exact r_iret X I (congrArg (fun z => (z, σ)) (Option.some.inj h).symm) dX11_reckon_117
  have tc1 := lv_neT (a := -26) c1 (by decide)
  have tc4 := lv_neT (a := -25) c4 (by decide)
  have tc6 := lv_neT (a := -24) c6 (by decide)
  have tc8 := lv_neT (a := -23) c8 (by decide)
  have tc10 := lv_neT (a := -22) c10 (by decide)
  have tc11 := lv_neT (a := -21) c11 (by decide)
  have tc12 := lv_neT (a := -20) c12 (by decide)
  exact lv_tableOut (tgt := 104) hx hb dX11_reckon_1 (by omega) (by decide) kd
theorem c_X11_reckon {l : Launch} {E : RE} {σ : Mem} {x0 : Int32} {x1 : Int32} {x2 : Int32} {q : Int32} (h : m_X11_reckon σ x0 x1 x2 = some q) : CI l (vR E) yX11_reckon (.code yX11_reckon cX11_reckon 3 (some .int) :: GG) rm_X11_reckon [.int x0, .int x1, .int x2] σ (q, σ) :=
  mk_CI (by decide +kernel) (Nat.le_of_ble_eq_true rfl) (fun p e s m args below meth c A ls X I hl => w_X11_reckon_0 X  σ x0 x1 x2 h s.heap [] ls I (lv_sub hl [0, 1, 2] rfl))

def rm_X11_valueNow : Room := { frames := 2, cells := 0, slots := 0, locals := 86 }
def f_X11_valueNow_5 (r1 n1 : Nat) (x2 : Int32) : Nat → Mem → Int32 → Int32 → Option (Int32 × Mem)
  | 0, _, _, _ => none
  | n + 1, σ, x3, x4 => (if x2 ≤ x4 then (gd (0 : Int32) 64 (some ((σ 30 (Int32.toNatClampNeg (0 : Int32))), σ))) else (gd x4 n1 (lt (σ r1 (Int32.toNatClampNeg x4)) fun y2 => (if y2 ≤ (-20 : Int32) then (if y2 = (-28 : Int32) then (gd (x3 - (1 : Int32)) 64 (if (σ 30 (Int32.toNatClampNeg (x3 - (1 : Int32)))) = (0 : Int32) then (gd (x3 - (1 : Int32)) 64 (lt (ms σ 30 (Int32.toNatClampNeg (x3 - (1 : Int32))) ((1 : Int32))) fun σ8 => f_X11_valueNow_5 r1 n1 x2 n σ8 x3 (x4 + 1))) else (gd (x3 - (1 : Int32)) 64 (lt (ms σ 30 (Int32.toNatClampNeg (x3 - (1 : Int32))) ((0 : Int32))) fun σ9 => f_X11_valueNow_5 r1 n1 x2 n σ9 x3 (x4 + 1))))) else (gd ((x3 + (-1)) - (1 : Int32)) 64 (gd (x3 + (-1)) 64 ((m_X11_reckon σ y2 (σ 30 (Int32.toNatClampNeg ((x3 + (-1)) - (1 : Int32)))) (σ 30 (Int32.toNatClampNeg (x3 + (-1))))).bind fun q5 => (gd ((x3 + (-1)) - (1 : Int32)) 64 (lt (ms σ 30 (Int32.toNatClampNeg ((x3 + (-1)) - (1 : Int32))) (q5)) fun σ6 => f_X11_valueNow_5 r1 n1 x2 n σ6 (x3 + (-1)) (x4 + 1))))))) else (if y2 < (0 : Int32) then (gd ((-1 : Int32) - y2) 10 (gd x3 64 (lt (ms σ 30 (Int32.toNatClampNeg x3) ((σ 29 (Int32.toNatClampNeg ((-1 : Int32) - y2))))) fun σ11 => f_X11_valueNow_5 r1 n1 x2 n σ11 (x3 + 1) (x4 + 1)))) else (gd x3 64 (lt (ms σ 30 (Int32.toNatClampNeg x3) (y2)) fun σ12 => f_X11_valueNow_5 r1 n1 x2 n σ12 (x3 + 1) (x4 + 1))))))))
def m_X11_valueNow (r1 n1 : Nat) (σ : Mem) (x2 : Int32) : Option (Int32 × Mem) := (f_X11_valueNow_5 r1 n1 x2 KF σ (0 : Int32) (0 : Int32))
set_option maxHeartbeats 4000000 in
set_option maxRecDepth 100000 in
theorem w_X11_valueNow_5 {p : Program} {l : Launch} {e : Env} {s : State} {m : MethodId} {args : Array Value} {below : List Frame} {meth : Method} {c : Code} {A : Nat → Prop} {E : RE} {q : Int32 × Mem} (X : CX p s m meth c args cX11_valueNow 6 RX11 (some .int)) {r1 n1 : Nat} {x2 : Int32} (hr1 : KRaI E r1 n1) : ∀ (n : Nat), ∀ (σ : Mem) (x3 : Int32) (x4 : Int32) , f_X11_valueNow_5 r1 n1 x2 n σ x3 x4 = some q → ∀ (H : Heap) (locs : List Loc) (ls : Array Slot), WI (vR E) A s H locs σ → lv_has ls 6 [(0, .ref (ra E 0)), (1, .ref (ra E r1)), (2, .int x2), (3, .int x3), (4, .int x4)] → W p l e rm_X11_valueNow s m args below meth c H locs 0 0 (MQ below (QI (vR E) A q) args s 0 0 A) (F0 m 5 ls []) := by
  have hx := X.1
  have hb := X.2.1
  intro n
  induction n with
  | zero =>
    intro σ x3 x4 h
    cases h
  | succ n ih =>
    intro σ x3 x4 h H locs ls I hl
    rw [f_X11_valueNow_5] at h
    refine lv_iload hx hb dX11_valueNow_5 (lv_at hl 4 rfl) ?_
    refine lv_iload_n hx hb dX11_valueNow_7 rfl (lv_at hl 2 rfl) ?_
    refine lv_icmp_ge (tgt := 125) hx hb dX11_valueNow_8 (by decide) (fun c1 => ?_) (fun c1 => ?_)
    · have h := ite_t h c1
      refine lv_aload_n hx hb dX11_valueNow_125 rfl (lv_at hl 0 rfl) ?_
      refine gfR_X11_128 X I dX11_valueNow_126 ?_
      refine lv_iconst (v := 0) hx hb dX11_valueNow_129 (by decide) ?_
      obtain ⟨hin, h⟩ := gd_some h
      refine ialdR X I (kR_30 E) hin dX11_valueNow_130 ?_
      exact r_iret X I (Option.some.inj h).symm dX11_valueNow_131
    · have h := ite_f h c1
      refine lv_aload_n hx hb dX11_valueNow_11 rfl (lv_at hl 1 rfl) ?_
      refine lv_iload hx hb dX11_valueNow_12 (lv_at hl 4 rfl) ?_
      obtain ⟨hin, h⟩ := gd_some h
      refine ialdR X I hr1 hin dX11_valueNow_14 ?_
      obtain ⟨y2, ey2, h⟩ := lt_e h
      refine nm_i ey2 ?_
      refine lv_istore (lv' := [(5, .int y2), (0, .ref (ra E 0)), (1, .ref (ra E r1)), (2, .int x2), (3, .int x3), (4, .int x4)]) hx hb dX11_valueNow_15 hl (by decide) rfl (fun ls hl => ?_)
      refine lv_iload hx hb dX11_valueNow_17 (lv_at hl 0 rfl) ?_
      refine lv_bipush (v := -20) hx hb dX11_valueNow_19 (by decide) ?_
      refine lv_icmp_le (tgt := 55) hx hb dX11_valueNow_21 (by decide) (fun c3 => ?_) (fun c3 => ?_)
      · have h := ite_t h c3
        refine lv_iload hx hb dX11_valueNow_55 (lv_at hl 0 rfl) ?_
        refine lv_bipush (v := -28) hx hb dX11_valueNow_57 (by decide) ?_
        refine lv_icmp_ne (tgt := 89) hx hb dX11_valueNow_59 (by decide) (fun c4 => ?_) (fun c4 => ?_)
        · have h := ite_f h c4
          refine lv_iinc (v := (x3 + (-1))) (lv' := [(3, .int (x3 + (-1))), (5, .int y2), (0, .ref (ra E 0)), (1, .ref (ra E r1)), (2, .int x2), (4, .int x4)]) hx hb dX11_valueNow_89 hl (k := 4) rfl rfl (by decide) rfl (fun ls hl => ?_)
          refine lv_aload_n hx hb dX11_valueNow_92 rfl (lv_at hl 2 rfl) ?_
          refine gfR_X11_128 X I dX11_valueNow_93 ?_
          refine lv_iload_n hx hb dX11_valueNow_96 rfl (lv_at hl 0 rfl) ?_
          refine lv_iconst (v := 1) hx hb dX11_valueNow_97 (by decide) ?_
          refine lv_isub hx hb dX11_valueNow_98 ?_
          refine lv_iload hx hb dX11_valueNow_99 (lv_at hl 1 rfl) ?_
          refine lv_aload_n hx hb dX11_valueNow_101 rfl (lv_at hl 2 rfl) ?_
          refine gfR_X11_128 X I dX11_valueNow_102 ?_
          refine lv_iload_n hx hb dX11_valueNow_105 rfl (lv_at hl 0 rfl) ?_
          refine lv_iconst (v := 1) hx hb dX11_valueNow_106 (by decide) ?_
          refine lv_isub hx hb dX11_valueNow_107 ?_
          obtain ⟨hin, h⟩ := gd_some h
          refine ialdR X I (kR_30 E) hin dX11_valueNow_108 ?_
          refine lv_aload_n hx hb dX11_valueNow_109 rfl (lv_at hl 2 rfl) ?_
          refine gfR_X11_128 X I dX11_valueNow_110 ?_
          refine lv_iload_n hx hb dX11_valueNow_113 rfl (lv_at hl 0 rfl) ?_
          obtain ⟨hin, h⟩ := gd_some h
          refine ialdR X I (kR_30 E) hin dX11_valueNow_114 ?_
          obtain ⟨q5, hq5, h⟩ := bd h
          refine r_callSI (V := (vR E)) (As := [.int y2, .int (σ 30 (Int32.toNatClampNeg ((x3 + (-1)) - (1 : Int32)))), .int (σ 30 (Int32.toNatClampNeg (x3 + (-1))))]) (rest := [.int ((x3 + (-1)) - (1 : Int32)), .ref (ra E 30)]) X I hl (c_X11_reckon  hq5) ys_X11_reckon tw_975 ⟨rfl, rfl, Nat.le_of_ble_eq_true rfl, Nat.le_of_ble_eq_true rfl⟩ rfl rfl (Nat.le_of_ble_eq_true rfl) dX11_valueNow_115 (fun H locs I => ?_)
          obtain ⟨hin, h⟩ := gd_some h
          refine iastR X I (kR_30 E) hin dX11_valueNow_118 (fun H locs I => ?_)
          obtain ⟨σ6, eσ6, h⟩ := lt_e h
          replace I := wi_nm eσ6 I
          refine lv_iinc (v := (x4 + 1)) (lv' := [(4, .int (x4 + 1)), (3, .int (x3 + (-1))), (5, .int y2), (0, .ref (ra E 0)), (1, .ref (ra E r1)), (2, .int x2)]) hx hb dX11_valueNow_119 hl (k := 5) rfl rfl (by decide) rfl (fun ls hl => ?_)
          refine lv_goto (tgt := 5) hx hb dX11_valueNow_122 (by decide) ?_
          exact ih σ6 (x3 + (-1)) (x4 + 1) h H locs ls I (lv_sub hl [3, 4, 5, 1, 0] rfl)
        · have h := ite_t h c4
          refine lv_aload_n hx hb dX11_valueNow_62 rfl (lv_at hl 1 rfl) ?_
          refine gfR_X11_128 X I dX11_valueNow_63 ?_
          refine lv_iload_n hx hb dX11_valueNow_66 rfl (lv_at hl 4 rfl) ?_
          refine lv_iconst (v := 1) hx hb dX11_valueNow_67 (by decide) ?_
          refine lv_isub hx hb dX11_valueNow_68 ?_
          refine lv_aload_n hx hb dX11_valueNow_69 rfl (lv_at hl 1 rfl) ?_
          refine gfR_X11_128 X I dX11_valueNow_70 ?_
          refine lv_iload_n hx hb dX11_valueNow_73 rfl (lv_at hl 4 rfl) ?_
          refine lv_iconst (v := 1) hx hb dX11_valueNow_74 (by decide) ?_
          refine lv_isub hx hb dX11_valueNow_75 ?_
          obtain ⟨hin, h⟩ := gd_some h
          refine ialdR X I (kR_30 E) hin dX11_valueNow_76 ?_
          refine lv_if_eq (tgt := 84) hx hb dX11_valueNow_77 (by decide) (fun c7 => ?_) (fun c7 => ?_)
          · have h := ite_t h c7
            refine lv_iconst (v := 1) hx hb dX11_valueNow_84 (by decide) ?_
            obtain ⟨hin, h⟩ := gd_some h
            refine iastR X I (kR_30 E) hin dX11_valueNow_85 (fun H locs I => ?_)
            obtain ⟨σ8, eσ8, h⟩ := lt_e h
            replace I := wi_nm eσ8 I
            refine lv_goto (tgt := 119) hx hb dX11_valueNow_86 (by decide) ?_
            refine lv_iinc (v := (x4 + 1)) (lv' := [(4, .int (x4 + 1)), (5, .int y2), (0, .ref (ra E 0)), (1, .ref (ra E r1)), (2, .int x2), (3, .int x3)]) hx hb dX11_valueNow_119 hl (k := 5) rfl rfl (by decide) rfl (fun ls hl => ?_)
            refine lv_goto (tgt := 5) hx hb dX11_valueNow_122 (by decide) ?_
            exact ih σ8 x3 (x4 + 1) h H locs ls I (lv_sub hl [2, 3, 4, 5, 0] rfl)
          · have h := ite_f h c7
            refine lv_iconst (v := 0) hx hb dX11_valueNow_80 (by decide) ?_
            refine lv_goto (tgt := 85) hx hb dX11_valueNow_81 (by decide) ?_
            obtain ⟨hin, h⟩ := gd_some h
            refine iastR X I (kR_30 E) hin dX11_valueNow_85 (fun H locs I => ?_)
            obtain ⟨σ9, eσ9, h⟩ := lt_e h
            replace I := wi_nm eσ9 I
            refine lv_goto (tgt := 119) hx hb dX11_valueNow_86 (by decide) ?_
            refine lv_iinc (v := (x4 + 1)) (lv' := [(4, .int (x4 + 1)), (5, .int y2), (0, .ref (ra E 0)), (1, .ref (ra E r1)), (2, .int x2), (3, .int x3)]) hx hb dX11_valueNow_119 hl (k := 5) rfl rfl (by decide) rfl (fun ls hl => ?_)
            refine lv_goto (tgt := 5) hx hb dX11_valueNow_122 (by decide) ?_
            exact ih σ9 x3 (x4 + 1) h H locs ls I (lv_sub hl [2, 3, 4, 5, 0] rfl)
      · have h := ite_f h c3
        refine lv_aload_n hx hb dX11_valueNow_24 rfl (lv_at hl 1 rfl) ?_
        refine gfR_X11_128 X I dX11_valueNow_25 ?_
        refine lv_iload_n hx hb dX11_valueNow_28 rfl (lv_at hl 4 rfl) ?_
        refine lv_iload hx hb dX11_valueNow_29 (lv_at hl 0 rfl) ?_
        refine lv_if_lt (tgt := 39) hx hb dX11_valueNow_31 (by decide) (fun c10 => ?_) (fun c10 => ?_)
        · have h := ite_t h c10
          refine lv_aload_n hx hb dX11_valueNow_39 rfl (lv_at hl 1 rfl) ?_
          refine gfR_X11_125 X I dX11_valueNow_40 ?_
          refine lv_iconst (v := -1) hx hb dX11_valueNow_43 (by decide) ?_
          refine lv_iload hx hb dX11_valueNow_44 (lv_at hl 0 rfl) ?_
          refine lv_isub hx hb dX11_valueNow_46 ?_
          obtain ⟨hin, h⟩ := gd_some h
          refine ialdR X I (kR_29 E) hin dX11_valueNow_47 ?_
          obtain ⟨hin, h⟩ := gd_some h
          refine iastR X I (kR_30 E) hin dX11_valueNow_48 (fun H locs I => ?_)
          obtain ⟨σ11, eσ11, h⟩ := lt_e h
          replace I := wi_nm eσ11 I
          refine lv_iinc (v := (x3 + 1)) (lv' := [(3, .int (x3 + 1)), (5, .int y2), (0, .ref (ra E 0)), (1, .ref (ra E r1)), (2, .int x2), (4, .int x4)]) hx hb dX11_valueNow_49 hl (k := 4) rfl rfl (by decide) rfl (fun ls hl => ?_)
          refine lv_goto (tgt := 119) hx hb dX11_valueNow_52 (by decide) ?_
          refine lv_iinc (v := (x4 + 1)) (lv' := [(4, .int (x4 + 1)), (3, .int (x3 + 1)), (5, .int y2), (0, .ref (ra E 0)), (1, .ref (ra E r1)), (2, .int x2)]) hx hb dX11_valueNow_119 hl (k := 5) rfl rfl (by decide) rfl (fun ls hl => ?_)
          refine lv_goto (tgt := 5) hx hb dX11_valueNow_122 (by decide) ?_
          exact ih σ11 (x3 + 1) (x4 + 1) h H locs ls I (lv_sub hl [3, 4, 5, 1, 0] rfl)
        · have h := ite_f h c10
          refine lv_iload hx hb dX11_valueNow_34 (lv_at hl 0 rfl) ?_
          refine lv_goto (tgt := 48) hx hb dX11_valueNow_36 (by decide) ?_
          obtain ⟨hin, h⟩ := gd_some h
          refine iastR X I (kR_30 E) hin dX11_valueNow_48 (fun H locs I => ?_)
          obtain ⟨σ12, eσ12, h⟩ := lt_e h
          replace I := wi_nm eσ12 I
          refine lv_iinc (v := (x3 + 1)) (lv' := [(3, .int (x3 + 1)), (5, .int y2), (0, .ref (ra E 0)), (1, .ref (ra E r1)), (2, .int x2), (4, .int x4)]) hx hb dX11_valueNow_49 hl (k := 4) rfl rfl (by decide) rfl (fun ls hl => ?_)
          refine lv_goto (tgt := 119) hx hb dX11_valueNow_52 (by decide) ?_
          refine lv_iinc (v := (x4 + 1)) (lv' := [(4, .int (x4 + 1)), (3, .int (x3 + 1)), (5, .int y2), (0, .ref (ra E 0)), (1, .ref (ra E r1)), (2, .int x2)]) hx hb dX11_valueNow_119 hl (k := 5) rfl rfl (by decide) rfl (fun ls hl => ?_)
          refine lv_goto (tgt := 5) hx hb dX11_valueNow_122 (by decide) ?_
          exact ih σ12 (x3 + 1) (x4 + 1) h H locs ls I (lv_sub hl [3, 4, 5, 1, 0] rfl)
set_option maxHeartbeats 4000000 in
set_option maxRecDepth 100000 in
theorem w_X11_valueNow_0 {p : Program} {l : Launch} {e : Env} {s : State} {m : MethodId} {args : Array Value} {below : List Frame} {meth : Method} {c : Code} {A : Nat → Prop} {E : RE} {q : Int32 × Mem} (X : CX p s m meth c args cX11_valueNow 6 RX11 (some .int)) {r1 n1 : Nat} (hr1 : KRaI E r1 n1) : ∀ (σ : Mem) (x2 : Int32) , m_X11_valueNow r1 n1 σ x2 = some q → ∀ (H : Heap) (locs : List Loc) (ls : Array Slot), WI (vR E) A s H locs σ → lv_has ls 6 [(0, .ref (ra E 0)), (1, .ref (ra E r1)), (2, .int x2)] → W p l e rm_X11_valueNow s m args below meth c H locs 0 0 (MQ below (QI (vR E) A q) args s 0 0 A) (F0 m 0 ls []) := by
  have hx := X.1
  have hb := X.2.1
  intro σ x2 h H locs ls I hl
  unfold m_X11_valueNow at h
  refine lv_iconst (v := 0) hx hb dX11_valueNow_0 (by decide) ?_
  refine lv_istore_n (lv' := [(3, .int (0 : Int32)), (0, .ref (ra E 0)), (1, .ref (ra E r1)), (2, .int x2)]) hx hb dX11_valueNow_1 rfl hl (by decide) rfl (fun ls hl => ?_)
  refine lv_iconst (v := 0) hx hb dX11_valueNow_2 (by decide) ?_
  refine lv_istore (lv' := [(4, .int (0 : Int32)), (3, .int (0 : Int32)), (0, .ref (ra E 0)), (1, .ref (ra E r1)), (2, .int x2)]) hx hb dX11_valueNow_3 hl (by decide) rfl (fun ls hl => ?_)
  exact w_X11_valueNow_5 X hr1  KF σ (0 : Int32) (0 : Int32) h H locs ls I (lv_sub hl [2, 3, 4, 1, 0] rfl)
theorem c_X11_valueNow {l : Launch} {E : RE} {r1 n1 : Nat} {σ : Mem} {x2 : Int32} (hr1 : KRaI E r1 n1) {q : Int32 × Mem} (h : m_X11_valueNow r1 n1 σ x2 = some q) : CI l (vR E) yX11_valueNow (.code yX11_valueNow cX11_valueNow 6 (some .int) :: GG) rm_X11_valueNow [.ref (ra E 0), .ref (ra E r1), .int x2] σ q :=
  mk_CI (by decide +kernel) (Nat.le_of_ble_eq_true rfl) (fun p e s m args below meth c A ls X I hl => w_X11_valueNow_0 X hr1 σ x2 h s.heap [] ls I (lv_sub hl [0, 1, 2] rfl))

def rm_X11_housesOf : Room := { frames := 1, cells := 0, slots := 0, locals := 64 }
def f_X11_housesOf_4 (x1 : Int32) : Nat → Mem → Int32 → Int32 → Option (Int32)
  | 0, _, _, _ => none
  | n + 1, σ, x2, x3 => (gd (0 : Int32) 10 (if (σ 5 (Int32.toNatClampNeg (0 : Int32))) ≤ x3 then (some x2) else (gd x3 8 (if (σ 23 (Int32.toNatClampNeg x3)) = x1 then (lt (x2 ||| ((1 : Int32) <<< (x3 &&& 31))) fun y4 => f_X11_housesOf_4 x1 n σ y4 (x3 + 1)) else (lt (x2 ||| (0 : Int32)) fun y3 => f_X11_housesOf_4 x1 n σ y3 (x3 + 1))))))
def m_X11_housesOf (σ : Mem) (x1 : Int32) : Option (Int32) := (f_X11_housesOf_4 x1 KF σ (0 : Int32) (0 : Int32))
set_option maxHeartbeats 4000000 in
set_option maxRecDepth 100000 in
theorem w_X11_housesOf_4 {p : Program} {l : Launch} {e : Env} {s : State} {m : MethodId} {args : Array Value} {below : List Frame} {meth : Method} {c : Code} {A : Nat → Prop} {E : RE} {q : Int32} (X : CX p s m meth c args cX11_housesOf 4 RX11 (some .int)) {x1 : Int32} : ∀ (n : Nat), ∀ (σ : Mem) (x2 : Int32) (x3 : Int32) , f_X11_housesOf_4 x1 n σ x2 x3 = some q → ∀ (H : Heap) (locs : List Loc) (ls : Array Slot), WI (vR E) A s H locs σ → lv_has ls 4 [(0, .ref (ra E 0)), (1, .int x1), (2, .int x2), (3, .int x3)] → W p l e rm_X11_housesOf s m args below meth c H locs 0 0 (MQ below (QI (vR E) A (q, σ)) args s 0 0 A) (F0 m 4 ls []) := by
  have hx := X.1
  have hb := X.2.1
  intro n
  induction n with
  | zero =>
    intro σ x2 x3 h
    cases h
  | succ n ih =>
    intro σ x2 x3 h H locs ls I hl
    rw [f_X11_housesOf_4] at h
    refine lv_iload_n hx hb dX11_housesOf_4 rfl (lv_at hl 3 rfl) ?_
    refine lv_aload_n hx hb dX11_housesOf_5 rfl (lv_at hl 0 rfl) ?_
    refine gfR_X11_55 X I dX11_housesOf_6 ?_
    refine lv_iconst (v := 0) hx hb dX11_housesOf_9 (by decide) ?_
    obtain ⟨hin, h⟩ := gd_some h
    refine ialdR X I (kR_5 E) hin dX11_housesOf_10 ?_
    refine lv_icmp_ge (tgt := 40) hx hb dX11_housesOf_11 (by decide) (fun c1 => ?_) (fun c1 => ?_)
    · have h := ite_t h c1
      refine lv_iload_n hx hb dX11_housesOf_40 rfl (lv_at hl 2 rfl) ?_
      exact r_iret X I (congrArg (fun z => (z, σ)) (Option.some.inj h).symm) dX11_housesOf_41
    · have h := ite_f h c1
      refine lv_iload_n hx hb dX11_housesOf_14 rfl (lv_at hl 2 rfl) ?_
      refine lv_aload_n hx hb dX11_housesOf_15 rfl (lv_at hl 0 rfl) ?_
      refine gfR_X11_110 X I dX11_housesOf_16 ?_
      refine lv_iload_n hx hb dX11_housesOf_19 rfl (lv_at hl 3 rfl) ?_
      obtain ⟨hin, h⟩ := gd_some h
      refine ialdR X I (kR_23 E) hin dX11_housesOf_20 ?_
      refine lv_iload_n hx hb dX11_housesOf_21 rfl (lv_at hl 1 rfl) ?_
      refine lv_icmp_ne (tgt := 31) hx hb dX11_housesOf_22 (by decide) (fun c2 => ?_) (fun c2 => ?_)
      · have h := ite_f h c2
        refine lv_iconst (v := 0) hx hb dX11_housesOf_31 (by decide) ?_
        refine lv_ior hx hb dX11_housesOf_32 ?_
        obtain ⟨y3, ey3, h⟩ := lt_e h
        refine nm_i ey3 ?_
        refine lv_istore_n (lv' := [(2, .int y3), (0, .ref (ra E 0)), (1, .int x1), (3, .int x3)]) hx hb dX11_housesOf_33 rfl hl (by decide) rfl (fun ls hl => ?_)
        refine lv_iinc (v := (x3 + 1)) (lv' := [(3, .int (x3 + 1)), (2, .int y3), (0, .ref (ra E 0)), (1, .int x1)]) hx hb dX11_housesOf_34 hl (k := 3) rfl rfl (by decide) rfl (fun ls hl => ?_)
        refine lv_goto (tgt := 4) hx hb dX11_housesOf_37 (by decide) ?_
        exact ih σ y3 (x3 + 1) h H locs ls I (lv_sub hl [2, 3, 1, 0] rfl)
      · have h := ite_t h c2
        refine lv_iconst (v := 1) hx hb dX11_housesOf_25 (by decide) ?_
        refine lv_iload_n hx hb dX11_housesOf_26 rfl (lv_at hl 3 rfl) ?_
        refine lv_ishl hx hb dX11_housesOf_27 ?_
        refine lv_goto (tgt := 32) hx hb dX11_housesOf_28 (by decide) ?_
        refine lv_ior hx hb dX11_housesOf_32 ?_
        obtain ⟨y4, ey4, h⟩ := lt_e h
        refine nm_i ey4 ?_
        refine lv_istore_n (lv' := [(2, .int y4), (0, .ref (ra E 0)), (1, .int x1), (3, .int x3)]) hx hb dX11_housesOf_33 rfl hl (by decide) rfl (fun ls hl => ?_)
        refine lv_iinc (v := (x3 + 1)) (lv' := [(3, .int (x3 + 1)), (2, .int y4), (0, .ref (ra E 0)), (1, .int x1)]) hx hb dX11_housesOf_34 hl (k := 3) rfl rfl (by decide) rfl (fun ls hl => ?_)
        refine lv_goto (tgt := 4) hx hb dX11_housesOf_37 (by decide) ?_
        exact ih σ y4 (x3 + 1) h H locs ls I (lv_sub hl [2, 3, 1, 0] rfl)
set_option maxHeartbeats 4000000 in
set_option maxRecDepth 100000 in
theorem w_X11_housesOf_0 {p : Program} {l : Launch} {e : Env} {s : State} {m : MethodId} {args : Array Value} {below : List Frame} {meth : Method} {c : Code} {A : Nat → Prop} {E : RE} {q : Int32} (X : CX p s m meth c args cX11_housesOf 4 RX11 (some .int)) : ∀ (σ : Mem) (x1 : Int32) , m_X11_housesOf σ x1 = some q → ∀ (H : Heap) (locs : List Loc) (ls : Array Slot), WI (vR E) A s H locs σ → lv_has ls 4 [(0, .ref (ra E 0)), (1, .int x1)] → W p l e rm_X11_housesOf s m args below meth c H locs 0 0 (MQ below (QI (vR E) A (q, σ)) args s 0 0 A) (F0 m 0 ls []) := by
  have hx := X.1
  have hb := X.2.1
  intro σ x1 h H locs ls I hl
  unfold m_X11_housesOf at h
  refine lv_iconst (v := 0) hx hb dX11_housesOf_0 (by decide) ?_
  refine lv_istore_n (lv' := [(2, .int (0 : Int32)), (0, .ref (ra E 0)), (1, .int x1)]) hx hb dX11_housesOf_1 rfl hl (by decide) rfl (fun ls hl => ?_)
  refine lv_iconst (v := 0) hx hb dX11_housesOf_2 (by decide) ?_
  refine lv_istore_n (lv' := [(3, .int (0 : Int32)), (2, .int (0 : Int32)), (0, .ref (ra E 0)), (1, .int x1)]) hx hb dX11_housesOf_3 rfl hl (by decide) rfl (fun ls hl => ?_)
  exact w_X11_housesOf_4 X   KF σ (0 : Int32) (0 : Int32) h H locs ls I (lv_sub hl [2, 3, 1, 0] rfl)
theorem c_X11_housesOf {l : Launch} {E : RE} {σ : Mem} {x1 : Int32} {q : Int32} (h : m_X11_housesOf σ x1 = some q) : CI l (vR E) yX11_housesOf (.code yX11_housesOf cX11_housesOf 4 (some .int) :: GG) rm_X11_housesOf [.ref (ra E 0), .int x1] σ (q, σ) :=
  mk_CI (by decide +kernel) (Nat.le_of_ble_eq_true rfl) (fun p e s m args below meth c A ls X I hl => w_X11_housesOf_0 X  σ x1 h s.heap [] ls I (lv_sub hl [0, 1] rfl))

def rm_X11_tellBegun : Room := { frames := 2, cells := 0, slots := 0, locals := 87 }
def f_X11_tellBegun_40 : Nat → Mem → Int32 → Option (Mem)
  | 0, _, _ => none
  | n + 1, σ, x1 => (if (7 : Int32) ≤ x1 then (some σ) else ((m_X11_housesOf σ x1).bind fun q2 => (gd x1 7 (lt (ms σ 33 (Int32.toNatClampNeg x1) (q2)) fun σ3 => f_X11_tellBegun_40 n σ3 (x1 + 1)))))
def f_X11_tellBegun_2 : Nat → Mem → Int32 → Option (Mem)
  | 0, _, _ => none
  | n + 1, σ, x1 => (if (8 : Int32) ≤ x1 then (f_X11_tellBegun_40 KF σ (0 : Int32)) else (gd x1 8 (gd x1 8 (lt (ms σ 31 (Int32.toNatClampNeg x1) ((σ 23 (Int32.toNatClampNeg x1)))) fun σ2 => (gd x1 8 (gd x1 8 (lt (ms σ2 32 (Int32.toNatClampNeg x1) ((σ2 24 (Int32.toNatClampNeg x1)))) fun σ3 => f_X11_tellBegun_2 n σ3 (x1 + 1))))))))
def m_X11_tellBegun (σ : Mem) : Option (Mem) := (f_X11_tellBegun_2 KF σ (0 : Int32))
set_option maxHeartbeats 4000000 in
set_option maxRecDepth 100000 in
theorem w_X11_tellBegun_40 {p : Program} {l : Launch} {e : Env} {s : State} {m : MethodId} {args : Array Value} {below : List Frame} {meth : Method} {c : Code} {A : Nat → Prop} {E : RE} {q : Mem} (X : CX p s m meth c args cX11_tellBegun 2 RX11 none) : ∀ (n : Nat), ∀ (σ : Mem) (x1 : Int32) , f_X11_tellBegun_40 n σ x1 = some q → ∀ (H : Heap) (locs : List Loc) (ls : Array Slot), WI (vR E) A s H locs σ → lv_has ls 2 [(0, .ref (ra E 0)), (1, .int x1)] → W p l e rm_X11_tellBegun s m args below meth c H locs 0 0 (MQ below (QV (vR E) A q) args s 0 0 A) (F0 m 40 ls []) := by
  have hx := X.1
  have hb := X.2.1
  intro n
  induction n with
  | zero =>
    intro σ x1 h
    cases h
  | succ n ih =>
    intro σ x1 h H locs ls I hl
    rw [f_X11_tellBegun_40] at h
    refine lv_iload_n hx hb dX11_tellBegun_40 rfl (lv_at hl 1 rfl) ?_
    refine lv_bipush (v := 7) hx hb dX11_tellBegun_41 (by decide) ?_
    refine lv_icmp_ge (tgt := 63) hx hb dX11_tellBegun_43 (by decide) (fun c1 => ?_) (fun c1 => ?_)
    · have h := ite_t h c1
      exact r_vret X I (Option.some.inj h).symm dX11_tellBegun_63
    · have h := ite_f h c1
      refine lv_aload_n hx hb dX11_tellBegun_46 rfl (lv_at hl 0 rfl) ?_
      refine gfR_X11_137 X I dX11_tellBegun_47 ?_
      refine lv_iload_n hx hb dX11_tellBegun_50 rfl (lv_at hl 1 rfl) ?_
      refine lv_aload_n hx hb dX11_tellBegun_51 rfl (lv_at hl 0 rfl) ?_
      refine lv_iload_n hx hb dX11_tellBegun_52 rfl (lv_at hl 1 rfl) ?_
      obtain ⟨q2, hq2, h⟩ := bd h
      refine r_callVI (V := (vR E)) (k := 0) (As := [.int x1]) (rest := [.int x1, .ref (ra E 33)]) X I hl (c_X11_housesOf  hq2) yv_X11_housesOf tw_981 ⟨rfl, rfl, Nat.le_of_ble_eq_true rfl, Nat.le_of_ble_eq_true rfl⟩ (Nat.le_of_ble_eq_true rfl) rfl rfl rfl rfl (Nat.le_of_ble_eq_true rfl) dX11_tellBegun_53 (fun H locs I => ?_)
      obtain ⟨hin, h⟩ := gd_some h
      refine iastR X I (kR_33 E) hin dX11_tellBegun_56 (fun H locs I => ?_)
      obtain ⟨σ3, eσ3, h⟩ := lt_e h
      replace I := wi_nm eσ3 I
      refine lv_iinc (v := (x1 + 1)) (lv' := [(1, .int (x1 + 1)), (0, .ref (ra E 0))]) hx hb dX11_tellBegun_57 hl (k := 1) rfl rfl (by decide) rfl (fun ls hl => ?_)
      refine lv_goto (tgt := 40) hx hb dX11_tellBegun_60 (by decide) ?_
      exact ih σ3 (x1 + 1) h H locs ls I (lv_sub hl [1, 0] rfl)
set_option maxHeartbeats 4000000 in
set_option maxRecDepth 100000 in
theorem w_X11_tellBegun_2 {p : Program} {l : Launch} {e : Env} {s : State} {m : MethodId} {args : Array Value} {below : List Frame} {meth : Method} {c : Code} {A : Nat → Prop} {E : RE} {q : Mem} (X : CX p s m meth c args cX11_tellBegun 2 RX11 none) : ∀ (n : Nat), ∀ (σ : Mem) (x1 : Int32) , f_X11_tellBegun_2 n σ x1 = some q → ∀ (H : Heap) (locs : List Loc) (ls : Array Slot), WI (vR E) A s H locs σ → lv_has ls 2 [(0, .ref (ra E 0)), (1, .int x1)] → W p l e rm_X11_tellBegun s m args below meth c H locs 0 0 (MQ below (QV (vR E) A q) args s 0 0 A) (F0 m 2 ls []) := by
  have hx := X.1
  have hb := X.2.1
  intro n
  induction n with
  | zero =>
    intro σ x1 h
    cases h
  | succ n ih =>
    intro σ x1 h H locs ls I hl
    rw [f_X11_tellBegun_2] at h
    refine lv_iload_n hx hb dX11_tellBegun_2 rfl (lv_at hl 1 rfl) ?_
    refine lv_bipush (v := 8) hx hb dX11_tellBegun_3 (by decide) ?_
    refine lv_icmp_ge (tgt := 38) hx hb dX11_tellBegun_5 (by decide) (fun c1 => ?_) (fun c1 => ?_)
    · have h := ite_t h c1
      refine lv_iconst (v := 0) hx hb dX11_tellBegun_38 (by decide) ?_
      refine lv_istore_n (lv' := [(1, .int (0 : Int32)), (0, .ref (ra E 0))]) hx hb dX11_tellBegun_39 rfl hl (by decide) rfl (fun ls hl => ?_)
      exact w_X11_tellBegun_40 X   KF σ (0 : Int32) h H locs ls I (lv_sub hl [1, 0] rfl)
    · have h := ite_f h c1
      refine lv_aload_n hx hb dX11_tellBegun_8 rfl (lv_at hl 0 rfl) ?_
      refine gfR_X11_131 X I dX11_tellBegun_9 ?_
      refine lv_iload_n hx hb dX11_tellBegun_12 rfl (lv_at hl 1 rfl) ?_
      refine lv_aload_n hx hb dX11_tellBegun_13 rfl (lv_at hl 0 rfl) ?_
      refine gfR_X11_110 X I dX11_tellBegun_14 ?_
      refine lv_iload_n hx hb dX11_tellBegun_17 rfl (lv_at hl 1 rfl) ?_
      obtain ⟨hin, h⟩ := gd_some h
      refine ialdR X I (kR_23 E) hin dX11_tellBegun_18 ?_
      obtain ⟨hin, h⟩ := gd_some h
      refine iastR X I (kR_31 E) hin dX11_tellBegun_19 (fun H locs I => ?_)
      obtain ⟨σ2, eσ2, h⟩ := lt_e h
      replace I := wi_nm eσ2 I
      refine lv_aload_n hx hb dX11_tellBegun_20 rfl (lv_at hl 0 rfl) ?_
      refine gfR_X11_134 X I dX11_tellBegun_21 ?_
      refine lv_iload_n hx hb dX11_tellBegun_24 rfl (lv_at hl 1 rfl) ?_
      refine lv_aload_n hx hb dX11_tellBegun_25 rfl (lv_at hl 0 rfl) ?_
      refine gfR_X11_113 X I dX11_tellBegun_26 ?_
      refine lv_iload_n hx hb dX11_tellBegun_29 rfl (lv_at hl 1 rfl) ?_
      obtain ⟨hin, h⟩ := gd_some h
      refine ialdR X I (kR_24 E) hin dX11_tellBegun_30 ?_
      obtain ⟨hin, h⟩ := gd_some h
      refine iastR X I (kR_32 E) hin dX11_tellBegun_31 (fun H locs I => ?_)
      obtain ⟨σ3, eσ3, h⟩ := lt_e h
      replace I := wi_nm eσ3 I
      refine lv_iinc (v := (x1 + 1)) (lv' := [(1, .int (x1 + 1)), (0, .ref (ra E 0))]) hx hb dX11_tellBegun_32 hl (k := 1) rfl rfl (by decide) rfl (fun ls hl => ?_)
      refine lv_goto (tgt := 2) hx hb dX11_tellBegun_35 (by decide) ?_
      exact ih σ3 (x1 + 1) h H locs ls I (lv_sub hl [1, 0] rfl)
set_option maxHeartbeats 4000000 in
set_option maxRecDepth 100000 in
theorem w_X11_tellBegun_0 {p : Program} {l : Launch} {e : Env} {s : State} {m : MethodId} {args : Array Value} {below : List Frame} {meth : Method} {c : Code} {A : Nat → Prop} {E : RE} {q : Mem} (X : CX p s m meth c args cX11_tellBegun 2 RX11 none) : ∀ (σ : Mem)  , m_X11_tellBegun σ = some q → ∀ (H : Heap) (locs : List Loc) (ls : Array Slot), WI (vR E) A s H locs σ → lv_has ls 2 [(0, .ref (ra E 0))] → W p l e rm_X11_tellBegun s m args below meth c H locs 0 0 (MQ below (QV (vR E) A q) args s 0 0 A) (F0 m 0 ls []) := by
  have hx := X.1
  have hb := X.2.1
  intro σ  h H locs ls I hl
  unfold m_X11_tellBegun at h
  refine lv_iconst (v := 0) hx hb dX11_tellBegun_0 (by decide) ?_
  refine lv_istore_n (lv' := [(1, .int (0 : Int32)), (0, .ref (ra E 0))]) hx hb dX11_tellBegun_1 rfl hl (by decide) rfl (fun ls hl => ?_)
  exact w_X11_tellBegun_2 X   KF σ (0 : Int32) h H locs ls I (lv_sub hl [1, 0] rfl)
theorem c_X11_tellBegun {l : Launch} {E : RE} {σ : Mem} {q : Mem} (h : m_X11_tellBegun σ = some q) : CV l (vR E) yX11_tellBegun (.code yX11_tellBegun cX11_tellBegun 2 none :: GG) rm_X11_tellBegun [.ref (ra E 0)] σ q :=
  mk_CV (by decide +kernel) (Nat.le_of_ble_eq_true rfl) (fun p e s m args below meth c A ls X I hl => w_X11_tellBegun_0 X  σ  h s.heap [] ls I (lv_sub hl [0] rfl))

def rm_X11_ask : Room := { frames := 1, cells := 0, slots := 0, locals := 64 }
def m_X11_ask (σ : Mem) (x1 : Int32) : Option (Mem) := (gd x1 8 (gd (0 : Int32) 10 (lt (ms σ 29 (Int32.toNatClampNeg (0 : Int32)) ((σ 20 (Int32.toNatClampNeg x1)))) fun σ1 => (gd x1 8 (gd (1 : Int32) 10 (lt (ms σ1 29 (Int32.toNatClampNeg (1 : Int32)) ((σ1 21 (Int32.toNatClampNeg x1)))) fun σ2 => (gd (2 : Int32) 10 (lt (ms σ2 29 (Int32.toNatClampNeg (2 : Int32)) ((σ2 0 41))) fun σ3 => (gd x1 16 (gd (3 : Int32) 10 (lt (ms σ3 29 (Int32.toNatClampNeg (3 : Int32)) ((σ3 6 (Int32.toNatClampNeg x1)))) fun σ4 => (some σ4))))))))))))
set_option maxHeartbeats 4000000 in
set_option maxRecDepth 100000 in
theorem w_X11_ask_0 {p : Program} {l : Launch} {e : Env} {s : State} {m : MethodId} {args : Array Value} {below : List Frame} {meth : Method} {c : Code} {A : Nat → Prop} {E : RE} {q : Mem} (X : CX p s m meth c args cX11_ask 2 RX11 none) : ∀ (σ : Mem) (x1 : Int32) , m_X11_ask σ x1 = some q → ∀ (H : Heap) (locs : List Loc) (ls : Array Slot), WI (vR E) A s H locs σ → lv_has ls 2 [(0, .ref (ra E 0)), (1, .int x1)] → W p l e rm_X11_ask s m args below meth c H locs 0 0 (MQ below (QV (vR E) A q) args s 0 0 A) (F0 m 0 ls []) := by
  have hx := X.1
  have hb := X.2.1
  intro σ x1 h H locs ls I hl
  unfold m_X11_ask at h
  refine lv_aload_n hx hb dX11_ask_0 rfl (lv_at hl 0 rfl) ?_
  refine gfR_X11_125 X I dX11_ask_1 ?_
  refine lv_iconst (v := 0) hx hb dX11_ask_4 (by decide) ?_
  refine lv_aload_n hx hb dX11_ask_5 rfl (lv_at hl 0 rfl) ?_
  refine gfR_X11_102 X I dX11_ask_6 ?_
  refine lv_iload_n hx hb dX11_ask_9 rfl (lv_at hl 1 rfl) ?_
  obtain ⟨hin, h⟩ := gd_some h
  refine ialdR X I (kR_20 E) hin dX11_ask_10 ?_
  obtain ⟨hin, h⟩ := gd_some h
  refine iastR X I (kR_29 E) hin dX11_ask_11 (fun H locs I => ?_)
  obtain ⟨σ1, eσ1, h⟩ := lt_e h
  replace I := wi_nm eσ1 I
  refine lv_aload_n hx hb dX11_ask_12 rfl (lv_at hl 0 rfl) ?_
  refine gfR_X11_125 X I dX11_ask_13 ?_
  refine lv_iconst (v := 1) hx hb dX11_ask_16 (by decide) ?_
  refine lv_aload_n hx hb dX11_ask_17 rfl (lv_at hl 0 rfl) ?_
  refine gfR_X11_104 X I dX11_ask_18 ?_
  refine lv_iload_n hx hb dX11_ask_21 rfl (lv_at hl 1 rfl) ?_
  obtain ⟨hin, h⟩ := gd_some h
  refine ialdR X I (kR_21 E) hin dX11_ask_22 ?_
  obtain ⟨hin, h⟩ := gd_some h
  refine iastR X I (kR_29 E) hin dX11_ask_23 (fun H locs I => ?_)
  obtain ⟨σ2, eσ2, h⟩ := lt_e h
  replace I := wi_nm eσ2 I
  refine lv_aload_n hx hb dX11_ask_24 rfl (lv_at hl 0 rfl) ?_
  refine gfR_X11_125 X I dX11_ask_25 ?_
  refine lv_iconst (v := 2) hx hb dX11_ask_28 (by decide) ?_
  refine lv_aload_n hx hb dX11_ask_29 rfl (lv_at hl 0 rfl) ?_
  refine gfR_X11_342 X I dX11_ask_30 ?_
  obtain ⟨hin, h⟩ := gd_some h
  refine iastR X I (kR_29 E) hin dX11_ask_33 (fun H locs I => ?_)
  obtain ⟨σ3, eσ3, h⟩ := lt_e h
  replace I := wi_nm eσ3 I
  refine lv_aload_n hx hb dX11_ask_34 rfl (lv_at hl 0 rfl) ?_
  refine gfR_X11_125 X I dX11_ask_35 ?_
  refine lv_iconst (v := 3) hx hb dX11_ask_38 (by decide) ?_
  refine lv_aload_n hx hb dX11_ask_39 rfl (lv_at hl 0 rfl) ?_
  refine gfR_X11_59 X I dX11_ask_40 ?_
  refine lv_iload_n hx hb dX11_ask_43 rfl (lv_at hl 1 rfl) ?_
  obtain ⟨hin, h⟩ := gd_some h
  refine ialdR X I (kR_6 E) hin dX11_ask_44 ?_
  obtain ⟨hin, h⟩ := gd_some h
  refine iastR X I (kR_29 E) hin dX11_ask_45 (fun H locs I => ?_)
  obtain ⟨σ4, eσ4, h⟩ := lt_e h
  replace I := wi_nm eσ4 I
  exact r_vret X I (Option.some.inj h).symm dX11_ask_46
theorem c_X11_ask {l : Launch} {E : RE} {σ : Mem} {x1 : Int32} {q : Mem} (h : m_X11_ask σ x1 = some q) : CV l (vR E) yX11_ask (.code yX11_ask cX11_ask 2 none :: GG) rm_X11_ask [.ref (ra E 0), .int x1] σ q :=
  mk_CV (by decide +kernel) (Nat.le_of_ble_eq_true rfl) (fun p e s m args below meth c A ls X I hl => w_X11_ask_0 X  σ x1 h s.heap [] ls I (lv_sub hl [0, 1] rfl))

def rm_X11_isAsleep : Room := { frames := 3, cells := 0, slots := 0, locals := 111 }
def m_X11_isAsleep (σ : Mem) (x1 : Int32) : Option (Int32 × Mem) := (gd (4 : Int32) 10 (if (σ 5 (Int32.toNatClampNeg (4 : Int32))) = (0 : Int32) then (gd x1 8 (if (σ 20 (Int32.toNatClampNeg x1)) < (30 : Int32) then (some ((0 : Int32), σ)) else (some ((1 : Int32), σ)))) else ((m_X11_ask σ x1).bind fun q2 => (gd (4 : Int32) 10 ((m_X11_valueNow 17 1400 q2 (q2 5 (Int32.toNatClampNeg (4 : Int32)))).bind fun q3 => (if q3.1 ≤ (0 : Int32) then (some ((0 : Int32), q3.2)) else (some ((1 : Int32), q3.2))))))))
set_option maxHeartbeats 4000000 in
set_option maxRecDepth 100000 in
theorem w_X11_isAsleep_0 {p : Program} {l : Launch} {e : Env} {s : State} {m : MethodId} {args : Array Value} {below : List Frame} {meth : Method} {c : Code} {A : Nat → Prop} {E : RE} {q : Int32 × Mem} (X : CX p s m meth c args cX11_isAsleep 2 RX11 (some .boolean)) : ∀ (σ : Mem) (x1 : Int32) , m_X11_isAsleep σ x1 = some q → ∀ (H : Heap) (locs : List Loc) (ls : Array Slot), WI (vR E) A s H locs σ → lv_has ls 2 [(0, .ref (ra E 0)), (1, .int x1)] → W p l e rm_X11_isAsleep s m args below meth c H locs 0 0 (MQ below (QI (vR E) A q) args s 0 0 A) (F0 m 0 ls []) := by
  have hx := X.1
  have hb := X.2.1
  intro σ x1 h H locs ls I hl
  unfold m_X11_isAsleep at h
  refine lv_aload_n hx hb dX11_isAsleep_0 rfl (lv_at hl 0 rfl) ?_
  refine gfR_X11_55 X I dX11_isAsleep_1 ?_
  refine lv_iconst (v := 4) hx hb dX11_isAsleep_4 (by decide) ?_
  obtain ⟨hin, h⟩ := gd_some h
  refine ialdR X I (kR_5 E) hin dX11_isAsleep_5 ?_
  refine lv_if_ne (tgt := 26) hx hb dX11_isAsleep_6 (by decide) (fun c1 => ?_) (fun c1 => ?_)
  · have h := ite_f h c1
    refine lv_aload_n hx hb dX11_isAsleep_26 rfl (lv_at hl 0 rfl) ?_
    refine lv_iload_n hx hb dX11_isAsleep_27 rfl (lv_at hl 1 rfl) ?_
    obtain ⟨q2, hq2, h⟩ := bd h
    refine r_callVV (V := (vR E)) (k := 0) (As := [.int x1]) (rest := []) X I hl (c_X11_ask  hq2) yv_X11_ask tw_988 ⟨rfl, rfl, Nat.le_of_ble_eq_true rfl, Nat.le_of_ble_eq_true rfl⟩ (Nat.le_of_ble_eq_true rfl) rfl rfl rfl rfl (Nat.le_of_ble_eq_true rfl) dX11_isAsleep_28 (fun H locs I => ?_)
    refine lv_aload_n hx hb dX11_isAsleep_31 rfl (lv_at hl 0 rfl) ?_
    refine lv_aload_n hx hb dX11_isAsleep_32 rfl (lv_at hl 0 rfl) ?_
    refine gfR_X11_89 X I dX11_isAsleep_33 ?_
    refine lv_aload_n hx hb dX11_isAsleep_36 rfl (lv_at hl 0 rfl) ?_
    refine gfR_X11_55 X I dX11_isAsleep_37 ?_
    refine lv_iconst (v := 4) hx hb dX11_isAsleep_40 (by decide) ?_
    obtain ⟨hin, h⟩ := gd_some h
    refine ialdR X I (kR_5 E) hin dX11_isAsleep_41 ?_
    obtain ⟨q3, hq3, h⟩ := bd h
    refine r_callVI (V := (vR E)) (k := 0) (As := [.ref (ra E 17), .int (q2 5 (Int32.toNatClampNeg (4 : Int32)))]) (rest := []) X I hl (c_X11_valueNow (kR_17 E) hq3) yv_X11_valueNow tw_993 ⟨rfl, rfl, Nat.le_of_ble_eq_true rfl, Nat.le_of_ble_eq_true rfl⟩ (Nat.le_of_ble_eq_true rfl) rfl rfl rfl rfl (Nat.le_of_ble_eq_true rfl) dX11_isAsleep_42 (fun H locs I => ?_)
    refine lv_if_le (tgt := 52) hx hb dX11_isAsleep_45 (by decide) (fun c4 => ?_) (fun c4 => ?_)
    · have h := ite_t h c4
      refine lv_iconst (v := 0) hx hb dX11_isAsleep_52 (by decide) ?_
      exact r_zret X I (Option.some.inj h).symm rfl dX11_isAsleep_53
    · have h := ite_f h c4
      refine lv_iconst (v := 1) hx hb dX11_isAsleep_48 (by decide) ?_
      refine lv_goto (tgt := 53) hx hb dX11_isAsleep_49 (by decide) ?_
      exact r_zret X I (Option.some.inj h).symm rfl dX11_isAsleep_53
  · have h := ite_t h c1
    refine lv_aload_n hx hb dX11_isAsleep_9 rfl (lv_at hl 0 rfl) ?_
    refine gfR_X11_102 X I dX11_isAsleep_10 ?_
    refine lv_iload_n hx hb dX11_isAsleep_13 rfl (lv_at hl 1 rfl) ?_
    obtain ⟨hin, h⟩ := gd_some h
    refine ialdR X I (kR_20 E) hin dX11_isAsleep_14 ?_
    refine lv_bipush (v := 30) hx hb dX11_isAsleep_15 (by decide) ?_
    refine lv_icmp_lt (tgt := 24) hx hb dX11_isAsleep_17 (by decide) (fun c5 => ?_) (fun c5 => ?_)
    · have h := ite_t h c5
      refine lv_iconst (v := 0) hx hb dX11_isAsleep_24 (by decide) ?_
      exact r_zret X I (Option.some.inj h).symm rfl dX11_isAsleep_25
    · have h := ite_f h c5
      refine lv_iconst (v := 1) hx hb dX11_isAsleep_20 (by decide) ?_
      refine lv_goto (tgt := 25) hx hb dX11_isAsleep_21 (by decide) ?_
      exact r_zret X I (Option.some.inj h).symm rfl dX11_isAsleep_25
theorem c_X11_isAsleep {l : Launch} {E : RE} {σ : Mem} {x1 : Int32} {q : Int32 × Mem} (h : m_X11_isAsleep σ x1 = some q) : CI l (vR E) yX11_isAsleep (.code yX11_isAsleep cX11_isAsleep 2 (some .boolean) :: GG) rm_X11_isAsleep [.ref (ra E 0), .int x1] σ q :=
  mk_CI (by decide +kernel) (Nat.le_of_ble_eq_true rfl) (fun p e s m args below meth c A ls X I hl => w_X11_isAsleep_0 X  σ x1 h s.heap [] ls I (lv_sub hl [0, 1] rfl))

def rm_X11_next : Room := { frames := 1, cells := 0, slots := 0, locals := 64 }
def m_X11_next (σ : Mem) (x0 : Int32) : Option (Int32) := (some ((x0 <<< ((1 : Int32) &&& 31)) ||| (x0 >>> ((1 : Int32) &&& 31))))
set_option maxHeartbeats 4000000 in
set_option maxRecDepth 100000 in
theorem w_X11_next_0 {p : Program} {l : Launch} {e : Env} {s : State} {m : MethodId} {args : Array Value} {below : List Frame} {meth : Method} {c : Code} {A : Nat → Prop} {E : RE} {q : Int32} (X : CX p s m meth c args cX11_next 1 RX11 (some .int)) : ∀ (σ : Mem) (x0 : Int32) , m_X11_next σ x0 = some q → ∀ (H : Heap) (locs : List Loc) (ls : Array Slot), WI (vR E) A s H locs σ → lv_has ls 1 [(0, .int x0)] → W p l e rm_X11_next s m args below meth c H locs 0 0 (MQ below (QI (vR E) A (q, σ)) args s 0 0 A) (F0 m 0 ls []) := by
  have hx := X.1
  have hb := X.2.1
  intro σ x0 h H locs ls I hl
  unfold m_X11_next at h
  refine lv_iload_n hx hb dX11_next_0 rfl (lv_at hl 0 rfl) ?_
  refine lv_iconst (v := 1) hx hb dX11_next_1 (by decide) ?_
  refine lv_ishl hx hb dX11_next_2 ?_
  refine lv_iload_n hx hb dX11_next_3 rfl (lv_at hl 0 rfl) ?_
  refine lv_iconst (v := 1) hx hb dX11_next_4 (by decide) ?_
  refine lv_ishr hx hb dX11_next_5 ?_
  refine lv_ior hx hb dX11_next_6 ?_
  exact r_iret X I (congrArg (fun z => (z, σ)) (Option.some.inj h).symm) dX11_next_7
theorem c_X11_next {l : Launch} {E : RE} {σ : Mem} {x0 : Int32} {q : Int32} (h : m_X11_next σ x0 = some q) : CI l (vR E) yX11_next (.code yX11_next cX11_next 1 (some .int) :: GG) rm_X11_next [.int x0] σ (q, σ) :=
  mk_CI (by decide +kernel) (Nat.le_of_ble_eq_true rfl) (fun p e s m args below meth c A ls X I hl => w_X11_next_0 X  σ x0 h s.heap [] ls I (lv_sub hl [0] rfl))

def rm_X11_likes : Room := { frames := 3, cells := 0, slots := 0, locals := 111 }
def f_X11_likes_20 (σ : Mem) (x1 : Int32) (x2 : Int32) (z0 : Int32) : Option (Int32 × Mem) := (gd x2 7 (gd x2 7 (gd x1 8 (lt ((((3 : Int32) * (σ 25 (Int32.toNatClampNeg x2))) + z0) - ((σ 26 (Int32.toNatClampNeg x2)) * (σ 21 (Int32.toNatClampNeg x1)))) fun y1 => (gd (3 : Int32) 10 (if (σ 5 (Int32.toNatClampNeg (3 : Int32))) ≤ (0 : Int32) then (gd x2 14 (some (((imax (-999 : Int32) (imin (999 : Int32) y1)) + ((2 : Int32) * (σ 11 (Int32.toNatClampNeg x2)))), σ))) else ((m_X11_ask σ x1).bind fun q3 => (gd x2 7 (gd (4 : Int32) 10 (lt (ms q3 29 (Int32.toNatClampNeg (4 : Int32)) ((q3 25 (Int32.toNatClampNeg x2)))) fun σ4 => (gd x2 7 (gd (5 : Int32) 10 (lt (ms σ4 29 (Int32.toNatClampNeg (5 : Int32)) ((σ4 26 (Int32.toNatClampNeg x2)))) fun σ5 => (gd x2 7 (gd (6 : Int32) 10 (lt (ms σ5 29 (Int32.toNatClampNeg (6 : Int32)) ((σ5 27 (Int32.toNatClampNeg x2)))) fun σ6 => (gd (7 : Int32) 10 (lt (ms σ6 29 (Int32.toNatClampNeg (7 : Int32)) (z0)) fun σ7 => (gd x2 7 ((m_X11_bitsOf σ7 (σ7 33 (Int32.toNatClampNeg x2))).bind fun q8 => (gd (8 : Int32) 10 (lt (ms σ7 29 (Int32.toNatClampNeg (8 : Int32)) (q8)) fun σ9 => (gd x2 7 ((m_X11_next σ9 ((1 : Int32) <<< (x1 &&& 31))).bind fun q10 => ((m_X11_bitsOf σ9 ((σ9 33 (Int32.toNatClampNeg x2)) &&& q10)).bind fun q11 => (gd (9 : Int32) 10 (lt (ms σ9 29 (Int32.toNatClampNeg (9 : Int32)) (q11)) fun σ12 => (gd (3 : Int32) 10 ((m_X11_valueNow 16 1400 σ12 (σ12 5 (Int32.toNatClampNeg (3 : Int32)))).bind fun q13 => (gd x2 14 (some (((imax (-999 : Int32) (imin (999 : Int32) q13.1)) + ((2 : Int32) * (q13.2 11 (Int32.toNatClampNeg x2)))), q13.2))))))))))))))))))))))))))))))))
def m_X11_likes (σ : Mem) (x1 : Int32) (x2 : Int32) : Option (Int32 × Mem) := (gd x1 8 (if (σ 31 (Int32.toNatClampNeg x1)) = x2 then (gd x1 8 (f_X11_likes_20 σ x1 x2 (σ 32 (Int32.toNatClampNeg x1)))) else (f_X11_likes_20 σ x1 x2 (0 : Int32))))
set_option maxHeartbeats 4000000 in
set_option maxRecDepth 100000 in
theorem w_X11_likes_20 {p : Program} {l : Launch} {e : Env} {s : State} {m : MethodId} {args : Array Value} {below : List Frame} {meth : Method} {c : Code} {A : Nat → Prop} {E : RE} {q : Int32 × Mem} (X : CX p s m meth c args cX11_likes 5 RX11 (some .int)) : ∀ (σ : Mem) (x1 : Int32) (x2 : Int32) (z0 : Int32), f_X11_likes_20 σ x1 x2 z0 = some q → ∀ (H : Heap) (locs : List Loc) (ls : Array Slot), WI (vR E) A s H locs σ → lv_has ls 5 [(0, .ref (ra E 0)), (1, .int x1), (2, .int x2)] → W p l e rm_X11_likes s m args below meth c H locs 0 0 (MQ below (QI (vR E) A q) args s 0 0 A) (F0 m 20 ls [.int z0]) := by
  have hx := X.1
  have hb := X.2.1
  intro σ x1 x2 z0 h H locs ls I hl
  unfold f_X11_likes_20 at h
  refine lv_istore_n (lv' := [(3, .int z0), (0, .ref (ra E 0)), (1, .int x1), (2, .int x2)]) hx hb dX11_likes_20 rfl hl (by decide) rfl (fun ls hl => ?_)
  refine lv_iconst (v := 3) hx hb dX11_likes_21 (by decide) ?_
  refine lv_aload_n hx hb dX11_likes_22 rfl (lv_at hl 1 rfl) ?_
  refine gfR_X11_115 X I dX11_likes_23 ?_
  refine lv_iload_n hx hb dX11_likes_26 rfl (lv_at hl 3 rfl) ?_
  obtain ⟨hin, h⟩ := gd_some h
  refine ialdR X I (kR_25 E) hin dX11_likes_27 ?_
  refine lv_imul hx hb dX11_likes_28 ?_
  refine lv_iload_n hx hb dX11_likes_29 rfl (lv_at hl 0 rfl) ?_
  refine lv_iadd hx hb dX11_likes_30 ?_
  refine lv_aload_n hx hb dX11_likes_31 rfl (lv_at hl 1 rfl) ?_
  refine gfR_X11_117 X I dX11_likes_32 ?_
  refine lv_iload_n hx hb dX11_likes_35 rfl (lv_at hl 3 rfl) ?_
  obtain ⟨hin, h⟩ := gd_some h
  refine ialdR X I (kR_26 E) hin dX11_likes_36 ?_
  refine lv_aload_n hx hb dX11_likes_37 rfl (lv_at hl 1 rfl) ?_
  refine gfR_X11_104 X I dX11_likes_38 ?_
  refine lv_iload_n hx hb dX11_likes_41 rfl (lv_at hl 2 rfl) ?_
  obtain ⟨hin, h⟩ := gd_some h
  refine ialdR X I (kR_21 E) hin dX11_likes_42 ?_
  refine lv_imul hx hb dX11_likes_43 ?_
  refine lv_isub hx hb dX11_likes_44 ?_
  obtain ⟨y1, ey1, h⟩ := lt_e h
  refine nm_i ey1 ?_
  refine lv_istore (lv' := [(4, .int y1), (3, .int z0), (0, .ref (ra E 0)), (1, .int x1), (2, .int x2)]) hx hb dX11_likes_45 hl (by decide) rfl (fun ls hl => ?_)
  refine lv_aload_n hx hb dX11_likes_47 rfl (lv_at hl 2 rfl) ?_
  refine gfR_X11_55 X I dX11_likes_48 ?_
  refine lv_iconst (v := 3) hx hb dX11_likes_51 (by decide) ?_
  obtain ⟨hin, h⟩ := gd_some h
  refine ialdR X I (kR_5 E) hin dX11_likes_52 ?_
  refine lv_if_le (tgt := 161) hx hb dX11_likes_53 (by decide) (fun c2 => ?_) (fun c2 => ?_)
  · have h := ite_t h c2
    refine lv_sipush (v := -999) hx hb dX11_likes_161 (by decide) ?_
    refine lv_sipush (v := 999) hx hb dX11_likes_164 (by decide) ?_
    refine lv_iload hx hb dX11_likes_167 (lv_at hl 0 rfl) ?_
    refine r_min X hl tw_831 ⟨Nat.le_of_ble_eq_true rfl, Nat.le_of_ble_eq_true rfl⟩ dX11_likes_169 ?_
    refine r_max X hl tw_998 ⟨Nat.le_of_ble_eq_true rfl, Nat.le_of_ble_eq_true rfl⟩ dX11_likes_172 ?_
    refine lv_iconst (v := 2) hx hb dX11_likes_175 (by decide) ?_
    refine lv_aload_n hx hb dX11_likes_176 rfl (lv_at hl 2 rfl) ?_
    refine gfR_X11_72 X I dX11_likes_177 ?_
    refine lv_iload_n hx hb dX11_likes_180 rfl (lv_at hl 4 rfl) ?_
    obtain ⟨hin, h⟩ := gd_some h
    refine ialdR X I (kR_11 E) hin dX11_likes_181 ?_
    refine lv_imul hx hb dX11_likes_182 ?_
    refine lv_iadd hx hb dX11_likes_183 ?_
    exact r_iret X I (Option.some.inj h).symm dX11_likes_184
  · have h := ite_f h c2
    refine lv_aload_n hx hb dX11_likes_56 rfl (lv_at hl 2 rfl) ?_
    refine lv_iload_n hx hb dX11_likes_57 rfl (lv_at hl 3 rfl) ?_
    obtain ⟨q3, hq3, h⟩ := bd h
    refine r_callVV (V := (vR E)) (k := 0) (As := [.int x1]) (rest := []) X I hl (c_X11_ask  hq3) yv_X11_ask tw_988 ⟨rfl, rfl, Nat.le_of_ble_eq_true rfl, Nat.le_of_ble_eq_true rfl⟩ (Nat.le_of_ble_eq_true rfl) rfl rfl rfl rfl (Nat.le_of_ble_eq_true rfl) dX11_likes_58 (fun H locs I => ?_)
    refine lv_aload_n hx hb dX11_likes_61 rfl (lv_at hl 2 rfl) ?_
    refine gfR_X11_125 X I dX11_likes_62 ?_
    refine lv_iconst (v := 4) hx hb dX11_likes_65 (by decide) ?_
    refine lv_aload_n hx hb dX11_likes_66 rfl (lv_at hl 2 rfl) ?_
    refine gfR_X11_115 X I dX11_likes_67 ?_
    refine lv_iload_n hx hb dX11_likes_70 rfl (lv_at hl 4 rfl) ?_
    obtain ⟨hin, h⟩ := gd_some h
    refine ialdR X I (kR_25 E) hin dX11_likes_71 ?_
    obtain ⟨hin, h⟩ := gd_some h
    refine iastR X I (kR_29 E) hin dX11_likes_72 (fun H locs I => ?_)
    obtain ⟨σ4, eσ4, h⟩ := lt_e h
    replace I := wi_nm eσ4 I
    refine lv_aload_n hx hb dX11_likes_73 rfl (lv_at hl 2 rfl) ?_
    refine gfR_X11_125 X I dX11_likes_74 ?_
    refine lv_iconst (v := 5) hx hb dX11_likes_77 (by decide) ?_
    refine lv_aload_n hx hb dX11_likes_78 rfl (lv_at hl 2 rfl) ?_
    refine gfR_X11_117 X I dX11_likes_79 ?_
    refine lv_iload_n hx hb dX11_likes_82 rfl (lv_at hl 4 rfl) ?_
    obtain ⟨hin, h⟩ := gd_some h
    refine ialdR X I (kR_26 E) hin dX11_likes_83 ?_
    obtain ⟨hin, h⟩ := gd_some h
    refine iastR X I (kR_29 E) hin dX11_likes_84 (fun H locs I => ?_)
    obtain ⟨σ5, eσ5, h⟩ := lt_e h
    replace I := wi_nm eσ5 I
    refine lv_aload_n hx hb dX11_likes_85 rfl (lv_at hl 2 rfl) ?_
    refine gfR_X11_125 X I dX11_likes_86 ?_
    refine lv_bipush (v := 6) hx hb dX11_likes_89 (by decide) ?_
    refine lv_aload_n hx hb dX11_likes_91 rfl (lv_at hl 2 rfl) ?_
    refine gfR_X11_120 X I dX11_likes_92 ?_
    refine lv_iload_n hx hb dX11_likes_95 rfl (lv_at hl 4 rfl) ?_
    obtain ⟨hin, h⟩ := gd_some h
    refine ialdR X I (kR_27 E) hin dX11_likes_96 ?_
    obtain ⟨hin, h⟩ := gd_some h
    refine iastR X I (kR_29 E) hin dX11_likes_97 (fun H locs I => ?_)
    obtain ⟨σ6, eσ6, h⟩ := lt_e h
    replace I := wi_nm eσ6 I
    refine lv_aload_n hx hb dX11_likes_98 rfl (lv_at hl 2 rfl) ?_
    refine gfR_X11_125 X I dX11_likes_99 ?_
    refine lv_bipush (v := 7) hx hb dX11_likes_102 (by decide) ?_
    refine lv_iload_n hx hb dX11_likes_104 rfl (lv_at hl 1 rfl) ?_
    obtain ⟨hin, h⟩ := gd_some h
    refine iastR X I (kR_29 E) hin dX11_likes_105 (fun H locs I => ?_)
    obtain ⟨σ7, eσ7, h⟩ := lt_e h
    replace I := wi_nm eσ7 I
    refine lv_aload_n hx hb dX11_likes_106 rfl (lv_at hl 2 rfl) ?_
    refine gfR_X11_125 X I dX11_likes_107 ?_
    refine lv_bipush (v := 8) hx hb dX11_likes_110 (by decide) ?_
    refine lv_aload_n hx hb dX11_likes_112 rfl (lv_at hl 2 rfl) ?_
    refine gfR_X11_137 X I dX11_likes_113 ?_
    refine lv_iload_n hx hb dX11_likes_116 rfl (lv_at hl 4 rfl) ?_
    obtain ⟨hin, h⟩ := gd_some h
    refine ialdR X I (kR_33 E) hin dX11_likes_117 ?_
    obtain ⟨q8, hq8, h⟩ := bd h
    refine r_callSI (V := (vR E)) (As := [.int (σ7 33 (Int32.toNatClampNeg x2))]) (rest := [.int (8 : Int32), .ref (ra E 29)]) X I hl (c_X11_bitsOf  hq8) ys_X11_bitsOf tw_999 ⟨rfl, rfl, Nat.le_of_ble_eq_true rfl, Nat.le_of_ble_eq_true rfl⟩ rfl rfl (Nat.le_of_ble_eq_true rfl) dX11_likes_118 (fun H locs I => ?_)
    obtain ⟨hin, h⟩ := gd_some h
    refine iastR X I (kR_29 E) hin dX11_likes_121 (fun H locs I => ?_)
    obtain ⟨σ9, eσ9, h⟩ := lt_e h
    replace I := wi_nm eσ9 I
    refine lv_aload_n hx hb dX11_likes_122 rfl (lv_at hl 2 rfl) ?_
    refine gfR_X11_125 X I dX11_likes_123 ?_
    refine lv_bipush (v := 9) hx hb dX11_likes_126 (by decide) ?_
    refine lv_aload_n hx hb dX11_likes_128 rfl (lv_at hl 2 rfl) ?_
    refine gfR_X11_137 X I dX11_likes_129 ?_
    refine lv_iload_n hx hb dX11_likes_132 rfl (lv_at hl 4 rfl) ?_
    obtain ⟨hin, h⟩ := gd_some h
    refine ialdR X I (kR_33 E) hin dX11_likes_133 ?_
    refine lv_iconst (v := 1) hx hb dX11_likes_134 (by decide) ?_
    refine lv_iload_n hx hb dX11_likes_135 rfl (lv_at hl 3 rfl) ?_
    refine lv_ishl hx hb dX11_likes_136 ?_
    obtain ⟨q10, hq10, h⟩ := bd h
    refine r_callSI (V := (vR E)) (As := [.int ((1 : Int32) <<< (x1 &&& 31))]) (rest := [.int (σ9 33 (Int32.toNatClampNeg x2)), .int (9 : Int32), .ref (ra E 29)]) X I hl (c_X11_next  hq10) ys_X11_next tw_1003 ⟨rfl, rfl, Nat.le_of_ble_eq_true rfl, Nat.le_of_ble_eq_true rfl⟩ rfl rfl (Nat.le_of_ble_eq_true rfl) dX11_likes_137 (fun H locs I => ?_)
    refine lv_iand hx hb dX11_likes_140 ?_
    obtain ⟨q11, hq11, h⟩ := bd h
    refine r_callSI (V := (vR E)) (As := [.int ((σ9 33 (Int32.toNatClampNeg x2)) &&& q10)]) (rest := [.int (9 : Int32), .ref (ra E 29)]) X I hl (c_X11_bitsOf  hq11) ys_X11_bitsOf tw_999 ⟨rfl, rfl, Nat.le_of_ble_eq_true rfl, Nat.le_of_ble_eq_true rfl⟩ rfl rfl (Nat.le_of_ble_eq_true rfl) dX11_likes_141 (fun H locs I => ?_)
    obtain ⟨hin, h⟩ := gd_some h
    refine iastR X I (kR_29 E) hin dX11_likes_144 (fun H locs I => ?_)
    obtain ⟨σ12, eσ12, h⟩ := lt_e h
    replace I := wi_nm eσ12 I
    refine lv_aload_n hx hb dX11_likes_145 rfl (lv_at hl 2 rfl) ?_
    refine lv_aload_n hx hb dX11_likes_146 rfl (lv_at hl 2 rfl) ?_
    refine gfR_X11_86 X I dX11_likes_147 ?_
    refine lv_aload_n hx hb dX11_likes_150 rfl (lv_at hl 2 rfl) ?_
    refine gfR_X11_55 X I dX11_likes_151 ?_
    refine lv_iconst (v := 3) hx hb dX11_likes_154 (by decide) ?_
    obtain ⟨hin, h⟩ := gd_some h
    refine ialdR X I (kR_5 E) hin dX11_likes_155 ?_
    obtain ⟨q13, hq13, h⟩ := bd h
    refine r_callVI (V := (vR E)) (k := 0) (As := [.ref (ra E 16), .int (σ12 5 (Int32.toNatClampNeg (3 : Int32)))]) (rest := []) X I hl (c_X11_valueNow (kR_16 E) hq13) yv_X11_valueNow tw_993 ⟨rfl, rfl, Nat.le_of_ble_eq_true rfl, Nat.le_of_ble_eq_true rfl⟩ (Nat.le_of_ble_eq_true rfl) rfl rfl rfl rfl (Nat.le_of_ble_eq_true rfl) dX11_likes_156 (fun H locs I => ?_)
    refine lv_istore (lv' := [(4, .int q13.1), (3, .int z0), (0, .ref (ra E 0)), (1, .int x1), (2, .int x2)]) hx hb dX11_likes_159 hl (by decide) rfl (fun ls hl => ?_)
    refine lv_sipush (v := -999) hx hb dX11_likes_161 (by decide) ?_
    refine lv_sipush (v := 999) hx hb dX11_likes_164 (by decide) ?_
    refine lv_iload hx hb dX11_likes_167 (lv_at hl 0 rfl) ?_
    refine r_min X hl tw_831 ⟨Nat.le_of_ble_eq_true rfl, Nat.le_of_ble_eq_true rfl⟩ dX11_likes_169 ?_
    refine r_max X hl tw_998 ⟨Nat.le_of_ble_eq_true rfl, Nat.le_of_ble_eq_true rfl⟩ dX11_likes_172 ?_
    refine lv_iconst (v := 2) hx hb dX11_likes_175 (by decide) ?_
    refine lv_aload_n hx hb dX11_likes_176 rfl (lv_at hl 2 rfl) ?_
    refine gfR_X11_72 X I dX11_likes_177 ?_
    refine lv_iload_n hx hb dX11_likes_180 rfl (lv_at hl 4 rfl) ?_
    obtain ⟨hin, h⟩ := gd_some h
    refine ialdR X I (kR_11 E) hin dX11_likes_181 ?_
    refine lv_imul hx hb dX11_likes_182 ?_
    refine lv_iadd hx hb dX11_likes_183 ?_
    exact r_iret X I (Option.some.inj h).symm dX11_likes_184
set_option maxHeartbeats 4000000 in
set_option maxRecDepth 100000 in
theorem w_X11_likes_0 {p : Program} {l : Launch} {e : Env} {s : State} {m : MethodId} {args : Array Value} {below : List Frame} {meth : Method} {c : Code} {A : Nat → Prop} {E : RE} {q : Int32 × Mem} (X : CX p s m meth c args cX11_likes 5 RX11 (some .int)) : ∀ (σ : Mem) (x1 : Int32) (x2 : Int32) , m_X11_likes σ x1 x2 = some q → ∀ (H : Heap) (locs : List Loc) (ls : Array Slot), WI (vR E) A s H locs σ → lv_has ls 5 [(0, .ref (ra E 0)), (1, .int x1), (2, .int x2)] → W p l e rm_X11_likes s m args below meth c H locs 0 0 (MQ below (QI (vR E) A q) args s 0 0 A) (F0 m 0 ls []) := by
  have hx := X.1
  have hb := X.2.1
  intro σ x1 x2 h H locs ls I hl
  unfold m_X11_likes at h
  refine lv_aload_n hx hb dX11_likes_0 rfl (lv_at hl 0 rfl) ?_
  refine gfR_X11_131 X I dX11_likes_1 ?_
  refine lv_iload_n hx hb dX11_likes_4 rfl (lv_at hl 1 rfl) ?_
  obtain ⟨hin, h⟩ := gd_some h
  refine ialdR X I (kR_31 E) hin dX11_likes_5 ?_
  refine lv_iload_n hx hb dX11_likes_6 rfl (lv_at hl 2 rfl) ?_
  refine lv_icmp_ne (tgt := 19) hx hb dX11_likes_7 (by decide) (fun c1 => ?_) (fun c1 => ?_)
  · have h := ite_f h c1
    refine lv_iconst (v := 0) hx hb dX11_likes_19 (by decide) ?_
    exact w_X11_likes_20 X   σ x1 x2 (0 : Int32) h H locs ls I (lv_sub hl [0, 1, 2] rfl)
  · have h := ite_t h c1
    refine lv_aload_n hx hb dX11_likes_10 rfl (lv_at hl 0 rfl) ?_
    refine gfR_X11_134 X I dX11_likes_11 ?_
    refine lv_iload_n hx hb dX11_likes_14 rfl (lv_at hl 1 rfl) ?_
    obtain ⟨hin, h⟩ := gd_some h
    refine ialdR X I (kR_32 E) hin dX11_likes_15 ?_
    refine lv_goto (tgt := 20) hx hb dX11_likes_16 (by decide) ?_
    exact w_X11_likes_20 X   σ x1 x2 (σ 32 (Int32.toNatClampNeg x1)) h H locs ls I (lv_sub hl [0, 1, 2] rfl)
theorem c_X11_likes {l : Launch} {E : RE} {σ : Mem} {x1 : Int32} {x2 : Int32} {q : Int32 × Mem} (h : m_X11_likes σ x1 x2 = some q) : CI l (vR E) yX11_likes (.code yX11_likes cX11_likes 5 (some .int) :: GG) rm_X11_likes [.ref (ra E 0), .int x1, .int x2] σ q :=
  mk_CI (by decide +kernel) (Nat.le_of_ble_eq_true rfl) (fun p e s m args below meth c A ls X I hl => w_X11_likes_0 X  σ x1 x2 h s.heap [] ls I (lv_sub hl [0, 1, 2] rfl))

def rm_X11_lifeOf : Room := { frames := 1, cells := 0, slots := 0, locals := 64 }
def m_X11_lifeOf (σ : Mem) (x1 : Int32) : Option (Int32) := (gd x1 16 (if (σ 7 (Int32.toNatClampNeg x1)) = (1 : Int32) then (gd (2 : Int32) 10 (some ((2 : Int32) * (σ 5 (Int32.toNatClampNeg (2 : Int32)))))) else (gd (2 : Int32) 10 (some (σ 5 (Int32.toNatClampNeg (2 : Int32)))))))
set_option maxHeartbeats 4000000 in
set_option maxRecDepth 100000 in
theorem w_X11_lifeOf_0 {p : Program} {l : Launch} {e : Env} {s : State} {m : MethodId} {args : Array Value} {below : List Frame} {meth : Method} {c : Code} {A : Nat → Prop} {E : RE} {q : Int32} (X : CX p s m meth c args cX11_lifeOf 2 RX11 (some .int)) : ∀ (σ : Mem) (x1 : Int32) , m_X11_lifeOf σ x1 = some q → ∀ (H : Heap) (locs : List Loc) (ls : Array Slot), WI (vR E) A s H locs σ → lv_has ls 2 [(0, .ref (ra E 0)), (1, .int x1)] → W p l e rm_X11_lifeOf s m args below meth c H locs 0 0 (MQ below (QI (vR E) A (q, σ)) args s 0 0 A) (F0 m 0 ls []) := by
  have hx := X.1
  have hb := X.2.1
  intro σ x1 h H locs ls I hl
  unfold m_X11_lifeOf at h
  refine lv_aload_n hx hb dX11_lifeOf_0 rfl (lv_at hl 0 rfl) ?_
  refine gfR_X11_61 X I dX11_lifeOf_1 ?_
  refine lv_iload_n hx hb dX11_lifeOf_4 rfl (lv_at hl 1 rfl) ?_
  obtain ⟨hin, h⟩ := gd_some h
  refine ialdR X I (kR_7 E) hin dX11_lifeOf_5 ?_
  refine lv_iconst (v := 1) hx hb dX11_lifeOf_6 (by decide) ?_
  refine lv_icmp_ne (tgt := 21) hx hb dX11_lifeOf_7 (by decide) (fun c1 => ?_) (fun c1 => ?_)
  · have h := ite_f h c1
    refine lv_aload_n hx hb dX11_lifeOf_21 rfl (lv_at hl 0 rfl) ?_
    refine gfR_X11_55 X I dX11_lifeOf_22 ?_
    refine lv_iconst (v := 2) hx hb dX11_lifeOf_25 (by decide) ?_
    obtain ⟨hin, h⟩ := gd_some h
    refine ialdR X I (kR_5 E) hin dX11_lifeOf_26 ?_
    exact r_iret X I (congrArg (fun z => (z, σ)) (Option.some.inj h).symm) dX11_lifeOf_27
  · have h := ite_t h c1
    refine lv_iconst (v := 2) hx hb dX11_lifeOf_10 (by decide) ?_
    refine lv_aload_n hx hb dX11_lifeOf_11 rfl (lv_at hl 0 rfl) ?_
    refine gfR_X11_55 X I dX11_lifeOf_12 ?_
    refine lv_iconst (v := 2) hx hb dX11_lifeOf_15 (by decide) ?_
    obtain ⟨hin, h⟩ := gd_some h
    refine ialdR X I (kR_5 E) hin dX11_lifeOf_16 ?_
    refine lv_imul hx hb dX11_lifeOf_17 ?_
    refine lv_goto (tgt := 27) hx hb dX11_lifeOf_18 (by decide) ?_
    exact r_iret X I (congrArg (fun z => (z, σ)) (Option.some.inj h).symm) dX11_lifeOf_27
theorem c_X11_lifeOf {l : Launch} {E : RE} {σ : Mem} {x1 : Int32} {q : Int32} (h : m_X11_lifeOf σ x1 = some q) : CI l (vR E) yX11_lifeOf (.code yX11_lifeOf cX11_lifeOf 2 (some .int) :: GG) rm_X11_lifeOf [.ref (ra E 0), .int x1] σ (q, σ) :=
  mk_CI (by decide +kernel) (Nat.le_of_ble_eq_true rfl) (fun p e s m args below meth c A ls X I hl => w_X11_lifeOf_0 X  σ x1 h s.heap [] ls I (lv_sub hl [0, 1] rfl))

def rm_X11_older : Room := { frames := 2, cells := 0, slots := 0, locals := 85 }
def m_X11_older (σ : Mem) (x1 : Int32) : Option (Mem) := (gd x1 8 (gd x1 8 (lt (ms σ 20 (Int32.toNatClampNeg x1) (((σ 20 (Int32.toNatClampNeg x1)) + (1 : Int32)))) fun σ1 => (gd x1 8 ((m_X11_lifeOf σ1 x1).bind fun q2 => (if q2 ≤ (σ1 20 (Int32.toNatClampNeg x1)) then (gd x1 8 (if (σ1 22 (Int32.toNatClampNeg x1)) ≤ (0 : Int32) then (lt (ms σ1 0 42 ((σ1 0 42) ||| ((1 : Int32) <<< (x1 &&& 31)))) fun σ5 => (lt (ms σ5 0 43 ((σ5 0 43) &&& (((1 : Int32) <<< (x1 &&& 31)) ^^^ (-1 : Int32)))) fun σ6 => (gd x1 8 (lt (ms σ6 23 (Int32.toNatClampNeg x1) ((-1 : Int32))) fun σ7 => (gd x1 8 (lt (ms σ7 24 (Int32.toNatClampNeg x1) ((0 : Int32))) fun σ8 => (some σ8))))))) else (gd x1 8 (gd x1 8 (lt (ms σ1 22 (Int32.toNatClampNeg x1) (((σ1 22 (Int32.toNatClampNeg x1)) - (1 : Int32)))) fun σ9 => (gd x1 8 (lt (ms σ9 20 (Int32.toNatClampNeg x1) ((0 : Int32))) fun σ10 => (some σ10)))))))) else (some σ1)))))))
set_option maxHeartbeats 4000000 in
set_option maxRecDepth 100000 in
theorem w_X11_older_0 {p : Program} {l : Launch} {e : Env} {s : State} {m : MethodId} {args : Array Value} {below : List Frame} {meth : Method} {c : Code} {A : Nat → Prop} {E : RE} {q : Mem} (X : CX p s m meth c args cX11_older 2 RX11 none) : ∀ (σ : Mem) (x1 : Int32) , m_X11_older σ x1 = some q → ∀ (H : Heap) (locs : List Loc) (ls : Array Slot), WI (vR E) A s H locs σ → lv_has ls 2 [(0, .ref (ra E 0)), (1, .int x1)] → W p l e rm_X11_older s m args below meth c H locs 0 0 (MQ below (QV (vR E) A q) args s 0 0 A) (F0 m 0 ls []) := by
  have hx := X.1
  have hb := X.2.1
  intro σ x1 h H locs ls I hl
  unfold m_X11_older at h
  refine lv_aload_n hx hb dX11_older_0 rfl (lv_at hl 0 rfl) ?_
  refine gfR_X11_102 X I dX11_older_1 ?_
  refine lv_iload_n hx hb dX11_older_4 rfl (lv_at hl 1 rfl) ?_
  refine lv_dup2_11 hx hb dX11_older_5 rfl rfl ?_
  obtain ⟨hin, h⟩ := gd_some h
  refine ialdR X I (kR_20 E) hin dX11_older_6 ?_
  refine lv_iconst (v := 1) hx hb dX11_older_7 (by decide) ?_
  refine lv_iadd hx hb dX11_older_8 ?_
  obtain ⟨hin, h⟩ := gd_some h
  refine iastR X I (kR_20 E) hin dX11_older_9 (fun H locs I => ?_)
  obtain ⟨σ1, eσ1, h⟩ := lt_e h
  replace I := wi_nm eσ1 I
  refine lv_aload_n hx hb dX11_older_10 rfl (lv_at hl 0 rfl) ?_
  refine gfR_X11_102 X I dX11_older_11 ?_
  refine lv_iload_n hx hb dX11_older_14 rfl (lv_at hl 1 rfl) ?_
  obtain ⟨hin, h⟩ := gd_some h
  refine ialdR X I (kR_20 E) hin dX11_older_15 ?_
  refine lv_aload_n hx hb dX11_older_16 rfl (lv_at hl 0 rfl) ?_
  refine lv_iload_n hx hb dX11_older_17 rfl (lv_at hl 1 rfl) ?_
  obtain ⟨q2, hq2, h⟩ := bd h
  refine r_callVI (V := (vR E)) (k := 0) (As := [.int x1]) (rest := [.int (σ1 20 (Int32.toNatClampNeg x1))]) X I hl (c_X11_lifeOf  hq2) yv_X11_lifeOf tw_1007 ⟨rfl, rfl, Nat.le_of_ble_eq_true rfl, Nat.le_of_ble_eq_true rfl⟩ (Nat.le_of_ble_eq_true rfl) rfl rfl rfl rfl (Nat.le_of_ble_eq_true rfl) dX11_older_18 (fun H locs I => ?_)
  refine lv_icmp_ge (tgt := 25) hx hb dX11_older_21 (by decide) (fun c3 => ?_) (fun c3 => ?_)
  · have h := ite_t h c3
    refine lv_aload_n hx hb dX11_older_25 rfl (lv_at hl 0 rfl) ?_
    refine gfR_X11_107 X I dX11_older_26 ?_
    refine lv_iload_n hx hb dX11_older_29 rfl (lv_at hl 1 rfl) ?_
    obtain ⟨hin, h⟩ := gd_some h
    refine ialdR X I (kR_22 E) hin dX11_older_30 ?_
    refine lv_if_le (tgt := 52) hx hb dX11_older_31 (by decide) (fun c4 => ?_) (fun c4 => ?_)
    · have h := ite_t h c4
      refine lv_aload_n hx hb dX11_older_52 rfl (lv_at hl 0 rfl) ?_
      refine lv_dup hx hb dX11_older_53 rfl ?_
      refine gfR_X11_344 X I dX11_older_54 ?_
      refine lv_iconst (v := 1) hx hb dX11_older_57 (by decide) ?_
      refine lv_iload_n hx hb dX11_older_58 rfl (lv_at hl 1 rfl) ?_
      refine lv_ishl hx hb dX11_older_59 ?_
      refine lv_ior hx hb dX11_older_60 ?_
      refine pfR_X11_344 X I  dX11_older_61 (fun H locs I => ?_)
      obtain ⟨σ5, eσ5, h⟩ := lt_e h
      replace I := wi_nm eσ5 I
      refine lv_aload_n hx hb dX11_older_64 rfl (lv_at hl 0 rfl) ?_
      refine lv_dup hx hb dX11_older_65 rfl ?_
      refine gfR_X11_347 X I dX11_older_66 ?_
      refine lv_iconst (v := 1) hx hb dX11_older_69 (by decide) ?_
      refine lv_iload_n hx hb dX11_older_70 rfl (lv_at hl 1 rfl) ?_
      refine lv_ishl hx hb dX11_older_71 ?_
      refine lv_iconst (v := -1) hx hb dX11_older_72 (by decide) ?_
      refine lv_ixor hx hb dX11_older_73 ?_
      refine lv_iand hx hb dX11_older_74 ?_
      refine pfR_X11_347 X I  dX11_older_75 (fun H locs I => ?_)
      obtain ⟨σ6, eσ6, h⟩ := lt_e h
      replace I := wi_nm eσ6 I
      refine lv_aload_n hx hb dX11_older_78 rfl (lv_at hl 0 rfl) ?_
      refine gfR_X11_110 X I dX11_older_79 ?_
      refine lv_iload_n hx hb dX11_older_82 rfl (lv_at hl 1 rfl) ?_
      refine lv_iconst (v := -1) hx hb dX11_older_83 (by decide) ?_
      obtain ⟨hin, h⟩ := gd_some h
      refine iastR X I (kR_23 E) hin dX11_older_84 (fun H locs I => ?_)
      obtain ⟨σ7, eσ7, h⟩ := lt_e h
      replace I := wi_nm eσ7 I
      refine lv_aload_n hx hb dX11_older_85 rfl (lv_at hl 0 rfl) ?_
      refine gfR_X11_113 X I dX11_older_86 ?_
      refine lv_iload_n hx hb dX11_older_89 rfl (lv_at hl 1 rfl) ?_
      refine lv_iconst (v := 0) hx hb dX11_older_90 (by decide) ?_
      obtain ⟨hin, h⟩ := gd_some h
      refine iastR X I (kR_24 E) hin dX11_older_91 (fun H locs I => ?_)
      obtain ⟨σ8, eσ8, h⟩ := lt_e h
      replace I := wi_nm eσ8 I
      exact r_vret X I (Option.some.inj h).symm dX11_older_92
    · have h := ite_f h c4
      refine lv_aload_n hx hb dX11_older_34 rfl (lv_at hl 0 rfl) ?_
      refine gfR_X11_107 X I dX11_older_35 ?_
      refine lv_iload_n hx hb dX11_older_38 rfl (lv_at hl 1 rfl) ?_
      refine lv_dup2_11 hx hb dX11_older_39 rfl rfl ?_
      obtain ⟨hin, h⟩ := gd_some h
      refine ialdR X I (kR_22 E) hin dX11_older_40 ?_
      refine lv_iconst (v := 1) hx hb dX11_older_41 (by decide) ?_
      refine lv_isub hx hb dX11_older_42 ?_
      obtain ⟨hin, h⟩ := gd_some h
      refine iastR X I (kR_22 E) hin dX11_older_43 (fun H locs I => ?_)
      obtain ⟨σ9, eσ9, h⟩ := lt_e h
      replace I := wi_nm eσ9 I
      refine lv_aload_n hx hb dX11_older_44 rfl (lv_at hl 0 rfl) ?_
      refine gfR_X11_102 X I dX11_older_45 ?_
      refine lv_iload_n hx hb dX11_older_48 rfl (lv_at hl 1 rfl) ?_
      refine lv_iconst (v := 0) hx hb dX11_older_49 (by decide) ?_
      obtain ⟨hin, h⟩ := gd_some h
      refine iastR X I (kR_20 E) hin dX11_older_50 (fun H locs I => ?_)
      obtain ⟨σ10, eσ10, h⟩ := lt_e h
      replace I := wi_nm eσ10 I
      exact r_vret X I (Option.some.inj h).symm dX11_older_51
  · have h := ite_f h c3
    exact r_vret X I (Option.some.inj h).symm dX11_older_24
theorem c_X11_older {l : Launch} {E : RE} {σ : Mem} {x1 : Int32} {q : Mem} (h : m_X11_older σ x1 = some q) : CV l (vR E) yX11_older (.code yX11_older cX11_older 2 none :: GG) rm_X11_older [.ref (ra E 0), .int x1] σ q :=
  mk_CV (by decide +kernel) (Nat.le_of_ble_eq_true rfl) (fun p e s m args below meth c A ls X I hl => w_X11_older_0 X  σ x1 h s.heap [] ls I (lv_sub hl [0, 1] rfl))

def rm_X11_sits : Room := { frames := 4, cells := 0, slots := 0, locals := 135 }
def f_X11_sits_115 (σ : Mem) (x1 : Int32) (x2 : Int32) (z1 : Int32) (z2 : Int32) : Option (Mem) := (gd z1 8 (lt (ms σ 24 (Int32.toNatClampNeg z1) (z2)) fun σ1 => (gd x1 8 (lt (ms σ1 23 (Int32.toNatClampNeg x1) (x2)) fun σ2 => (if x2 = (-1 : Int32) then (some σ2) else (gd x2 7 (gd x2 7 (lt (ms σ2 25 (Int32.toNatClampNeg x2) ((imax (0 : Int32) ((σ2 25 (Int32.toNatClampNeg x2)) - (1 : Int32))))) fun σ4 => (some σ4)))))))))
def f_X11_sits_79 (σ : Mem) (x1 : Int32) (x2 : Int32) : Option (Mem) := (if x2 = (-1 : Int32) then (f_X11_sits_115 σ x1 x2 x1 (0 : Int32)) else (gd x1 8 (if x2 = (σ 31 (Int32.toNatClampNeg x1)) then (gd x1 8 (f_X11_sits_115 σ x1 x2 x1 ((σ 32 (Int32.toNatClampNeg x1)) + (1 : Int32)))) else (f_X11_sits_115 σ x1 x2 x1 (1 : Int32)))))
def f_X11_sits_33 (x1 : Int32) (x4 : Int32) : Nat → Mem → Int32 → Int32 → Int32 → Option (Mem)
  | 0, _, _, _, _ => none
  | n + 1, σ, x2, x3, x5 => (gd (1 : Int32) 10 (if (σ 5 (Int32.toNatClampNeg (1 : Int32))) ≤ x5 then (f_X11_sits_79 σ x1 x2) else (if x4 = (0 : Int32) then (f_X11_sits_79 σ x1 x2) else ((m_X11_likes σ x1 x5).bind fun q3 => (if x3 < q3.1 then f_X11_sits_33 x1 x4 n q3.2 x5 q3.1 (x5 + 1) else f_X11_sits_33 x1 x4 n q3.2 x2 x3 (x5 + 1))))))
def m_X11_sits (σ : Mem) (x1 : Int32) : Option (Mem) := ((m_X11_isOf σ (σ 0 43) x1).bind fun q1 => (if q1 = (0 : Int32) then ((m_X11_isAsleep σ x1).bind fun q3 => (if q3.1 = (0 : Int32) then (f_X11_sits_33 x1 (1 : Int32) KF q3.2 (-1 : Int32) (0 : Int32) (0 : Int32)) else (f_X11_sits_33 x1 (0 : Int32) KF q3.2 (-1 : Int32) (0 : Int32) (0 : Int32)))) else (f_X11_sits_33 x1 (0 : Int32) KF σ (-1 : Int32) (0 : Int32) (0 : Int32))))
set_option maxHeartbeats 4000000 in
set_option maxRecDepth 100000 in
theorem w_X11_sits_115 {p : Program} {l : Launch} {e : Env} {s : State} {m : MethodId} {args : Array Value} {below : List Frame} {meth : Method} {c : Code} {A : Nat → Prop} {E : RE} {q : Mem} (X : CX p s m meth c args cX11_sits 7 RX11 none) : ∀ (σ : Mem) (x1 : Int32) (x2 : Int32) (z1 : Int32) (z2 : Int32), f_X11_sits_115 σ x1 x2 z1 z2 = some q → ∀ (H : Heap) (locs : List Loc) (ls : Array Slot), WI (vR E) A s H locs σ → lv_has ls 7 [(0, .ref (ra E 0)), (1, .int x1), (2, .int x2)] → W p l e rm_X11_sits s m args below meth c H locs 0 0 (MQ below (QV (vR E) A q) args s 0 0 A) (F0 m 115 ls [.int z2, .int z1, .ref (ra E 24)]) := by
  have hx := X.1
  have hb := X.2.1
  intro σ x1 x2 z1 z2 h H locs ls I hl
  unfold f_X11_sits_115 at h
  obtain ⟨hin, h⟩ := gd_some h
  refine iastR X I (kR_24 E) hin dX11_sits_115 (fun H locs I => ?_)
  obtain ⟨σ1, eσ1, h⟩ := lt_e h
  replace I := wi_nm eσ1 I
  refine lv_aload_n hx hb dX11_sits_116 rfl (lv_at hl 0 rfl) ?_
  refine gfR_X11_110 X I dX11_sits_117 ?_
  refine lv_iload_n hx hb dX11_sits_120 rfl (lv_at hl 1 rfl) ?_
  refine lv_iload_n hx hb dX11_sits_121 rfl (lv_at hl 2 rfl) ?_
  obtain ⟨hin, h⟩ := gd_some h
  refine iastR X I (kR_23 E) hin dX11_sits_122 (fun H locs I => ?_)
  obtain ⟨σ2, eσ2, h⟩ := lt_e h
  replace I := wi_nm eσ2 I
  refine lv_iload_n hx hb dX11_sits_123 rfl (lv_at hl 2 rfl) ?_
  refine lv_iconst (v := -1) hx hb dX11_sits_124 (by decide) ?_
  refine lv_icmp_eq (tgt := 146) hx hb dX11_sits_125 (by decide) (fun c3 => ?_) (fun c3 => ?_)
  · have h := ite_t h c3
    exact r_vret X I (Option.some.inj h).symm dX11_sits_146
  · have h := ite_f h c3
    refine lv_aload_n hx hb dX11_sits_128 rfl (lv_at hl 0 rfl) ?_
    refine gfR_X11_115 X I dX11_sits_129 ?_
    refine lv_iload_n hx hb dX11_sits_132 rfl (lv_at hl 2 rfl) ?_
    refine lv_iconst (v := 0) hx hb dX11_sits_133 (by decide) ?_
    refine lv_aload_n hx hb dX11_sits_134 rfl (lv_at hl 0 rfl) ?_
    refine gfR_X11_115 X I dX11_sits_135 ?_
    refine lv_iload_n hx hb dX11_sits_138 rfl (lv_at hl 2 rfl) ?_
    obtain ⟨hin, h⟩ := gd_some h
    refine ialdR X I (kR_25 E) hin dX11_sits_139 ?_
    refine lv_iconst (v := 1) hx hb dX11_sits_140 (by decide) ?_
    refine lv_isub hx hb dX11_sits_141 ?_
    refine r_max X hl tw_998 ⟨Nat.le_of_ble_eq_true rfl, Nat.le_of_ble_eq_true rfl⟩ dX11_sits_142 ?_
    obtain ⟨hin, h⟩ := gd_some h
    refine iastR X I (kR_25 E) hin dX11_sits_145 (fun H locs I => ?_)
    obtain ⟨σ4, eσ4, h⟩ := lt_e h
    replace I := wi_nm eσ4 I
    exact r_vret X I (Option.some.inj h).symm dX11_sits_146
set_option maxHeartbeats 4000000 in
set_option maxRecDepth 100000 in
theorem w_X11_sits_79 {p : Program} {l : Launch} {e : Env} {s : State} {m : MethodId} {args : Array Value} {below : List Frame} {meth : Method} {c : Code} {A : Nat → Prop} {E : RE} {q : Mem} (X : CX p s m meth c args cX11_sits 7 RX11 none) : ∀ (σ : Mem) (x1 : Int32) (x2 : Int32) , f_X11_sits_79 σ x1 x2 = some q → ∀ (H : Heap) (locs : List Loc) (ls : Array Slot), WI (vR E) A s H locs σ → lv_has ls 7 [(0, .ref (ra E 0)), (1, .int x1), (2, .int x2)] → W p l e rm_X11_sits s m args below meth c H locs 0 0 (MQ below (QV (vR E) A q) args s 0 0 A) (F0 m 79 ls []) := by
  have hx := X.1
  have hb := X.2.1
  intro σ x1 x2 h H locs ls I hl
  unfold f_X11_sits_79 at h
  refine lv_aload_n hx hb dX11_sits_79 rfl (lv_at hl 0 rfl) ?_
  refine gfR_X11_113 X I dX11_sits_80 ?_
  refine lv_iload_n hx hb dX11_sits_83 rfl (lv_at hl 1 rfl) ?_
  refine lv_iload_n hx hb dX11_sits_84 rfl (lv_at hl 2 rfl) ?_
  refine lv_iconst (v := -1) hx hb dX11_sits_85 (by decide) ?_
  refine lv_icmp_ne (tgt := 93) hx hb dX11_sits_86 (by decide) (fun c1 => ?_) (fun c1 => ?_)
  · have h := ite_f h c1
    refine lv_iload_n hx hb dX11_sits_93 rfl (lv_at hl 2 rfl) ?_
    refine lv_aload_n hx hb dX11_sits_94 rfl (lv_at hl 0 rfl) ?_
    refine gfR_X11_131 X I dX11_sits_95 ?_
    refine lv_iload_n hx hb dX11_sits_98 rfl (lv_at hl 1 rfl) ?_
    obtain ⟨hin, h⟩ := gd_some h
    refine ialdR X I (kR_31 E) hin dX11_sits_99 ?_
    refine lv_icmp_ne (tgt := 114) hx hb dX11_sits_100 (by decide) (fun c2 => ?_) (fun c2 => ?_)
    · have h := ite_f h c2
      refine lv_iconst (v := 1) hx hb dX11_sits_114 (by decide) ?_
      exact w_X11_sits_115 X   σ x1 x2 x1 (1 : Int32) h H locs ls I (lv_sub hl [0, 1, 2] rfl)
    · have h := ite_t h c2
      refine lv_aload_n hx hb dX11_sits_103 rfl (lv_at hl 0 rfl) ?_
      refine gfR_X11_134 X I dX11_sits_104 ?_
      refine lv_iload_n hx hb dX11_sits_107 rfl (lv_at hl 1 rfl) ?_
      obtain ⟨hin, h⟩ := gd_some h
      refine ialdR X I (kR_32 E) hin dX11_sits_108 ?_
      refine lv_iconst (v := 1) hx hb dX11_sits_109 (by decide) ?_
      refine lv_iadd hx hb dX11_sits_110 ?_
      refine lv_goto (tgt := 115) hx hb dX11_sits_111 (by decide) ?_
      exact w_X11_sits_115 X   σ x1 x2 x1 ((σ 32 (Int32.toNatClampNeg x1)) + (1 : Int32)) h H locs ls I (lv_sub hl [0, 1, 2] rfl)
  · have h := ite_t h c1
    refine lv_iconst (v := 0) hx hb dX11_sits_89 (by decide) ?_
    refine lv_goto (tgt := 115) hx hb dX11_sits_90 (by decide) ?_
    exact w_X11_sits_115 X   σ x1 x2 x1 (0 : Int32) h H locs ls I (lv_sub hl [0, 1, 2] rfl)
set_option maxHeartbeats 4000000 in
set_option maxRecDepth 100000 in
theorem w_X11_sits_33 {p : Program} {l : Launch} {e : Env} {s : State} {m : MethodId} {args : Array Value} {below : List Frame} {meth : Method} {c : Code} {A : Nat → Prop} {E : RE} {q : Mem} (X : CX p s m meth c args cX11_sits 7 RX11 none) {x1 : Int32} {x4 : Int32} : ∀ (n : Nat), ∀ (σ : Mem) (x2 : Int32) (x3 : Int32) (x5 : Int32) , f_X11_sits_33 x1 x4 n σ x2 x3 x5 = some q → ∀ (H : Heap) (locs : List Loc) (ls : Array Slot), WI (vR E) A s H locs σ → lv_has ls 7 [(0, .ref (ra E 0)), (1, .int x1), (2, .int x2), (3, .int x3), (4, .int x4), (5, .int x5)] → W p l e rm_X11_sits s m args below meth c H locs 0 0 (MQ below (QV (vR E) A q) args s 0 0 A) (F0 m 33 ls []) := by
  have hx := X.1
  have hb := X.2.1
  intro n
  induction n with
  | zero =>
    intro σ x2 x3 x5 h
    cases h
  | succ n ih =>
    intro σ x2 x3 x5 h H locs ls I hl
    rw [f_X11_sits_33] at h
    refine lv_iload hx hb dX11_sits_33 (lv_at hl 5 rfl) ?_
    refine lv_aload_n hx hb dX11_sits_35 rfl (lv_at hl 0 rfl) ?_
    refine gfR_X11_55 X I dX11_sits_36 ?_
    refine lv_iconst (v := 1) hx hb dX11_sits_39 (by decide) ?_
    obtain ⟨hin, h⟩ := gd_some h
    refine ialdR X I (kR_5 E) hin dX11_sits_40 ?_
    refine lv_icmp_ge (tgt := 79) hx hb dX11_sits_41 (by decide) (fun c1 => ?_) (fun c1 => ?_)
    · have h := ite_t h c1
      exact w_X11_sits_79 X   σ x1 x2 h H locs ls I (lv_sub hl [0, 1, 2] rfl)
    · have h := ite_f h c1
      refine lv_iload hx hb dX11_sits_44 (lv_at hl 4 rfl) ?_
      refine lv_if_eq (tgt := 79) hx hb dX11_sits_46 (by decide) (fun c2 => ?_) (fun c2 => ?_)
      · have h := ite_t h c2
        exact w_X11_sits_79 X   σ x1 x2 h H locs ls I (lv_sub hl [0, 1, 2] rfl)
      · have h := ite_f h c2
        refine lv_aload_n hx hb dX11_sits_49 rfl (lv_at hl 0 rfl) ?_
        refine lv_iload_n hx hb dX11_sits_50 rfl (lv_at hl 1 rfl) ?_
        refine lv_iload hx hb dX11_sits_51 (lv_at hl 5 rfl) ?_
        obtain ⟨q3, hq3, h⟩ := bd h
        refine r_callVI (V := (vR E)) (k := 0) (As := [.int x1, .int x5]) (rest := []) X I hl (c_X11_likes  hq3) yv_X11_likes tw_1016 ⟨rfl, rfl, Nat.le_of_ble_eq_true rfl, Nat.le_of_ble_eq_true rfl⟩ (Nat.le_of_ble_eq_true rfl) rfl rfl rfl rfl (Nat.le_of_ble_eq_true rfl) dX11_sits_53 (fun H locs I => ?_)
        refine lv_istore (lv' := [(6, .int q3.1), (0, .ref (ra E 0)), (1, .int x1), (2, .int x2), (3, .int x3), (4, .int x4), (5, .int x5)]) hx hb dX11_sits_56 hl (by decide) rfl (fun ls hl => ?_)
        refine lv_iload hx hb dX11_sits_58 (lv_at hl 0 rfl) ?_
        refine lv_iload_n hx hb dX11_sits_60 rfl (lv_at hl 4 rfl) ?_
        refine lv_icmp_gt (tgt := 67) hx hb dX11_sits_61 (by decide) (fun c4 => ?_) (fun c4 => ?_)
        · have h := ite_t h c4
          refine lv_iload hx hb dX11_sits_67 (lv_at hl 6 rfl) ?_
          refine lv_istore_n (lv' := [(2, .int x5), (6, .int q3.1), (0, .ref (ra E 0)), (1, .int x1), (3, .int x3), (4, .int x4), (5, .int x5)]) hx hb dX11_sits_69 rfl hl (by decide) rfl (fun ls hl => ?_)
          refine lv_iload hx hb dX11_sits_70 (lv_at hl 1 rfl) ?_
          refine lv_istore_n (lv' := [(3, .int q3.1), (2, .int x5), (6, .int q3.1), (0, .ref (ra E 0)), (1, .int x1), (4, .int x4), (5, .int x5)]) hx hb dX11_sits_72 rfl hl (by decide) rfl (fun ls hl => ?_)
          refine lv_iinc (v := (x5 + 1)) (lv' := [(5, .int (x5 + 1)), (3, .int q3.1), (2, .int x5), (6, .int q3.1), (0, .ref (ra E 0)), (1, .int x1), (4, .int x4)]) hx hb dX11_sits_73 hl (k := 6) rfl rfl (by decide) rfl (fun ls hl => ?_)
          refine lv_goto (tgt := 33) hx hb dX11_sits_76 (by decide) ?_
          exact ih q3.2 x5 q3.1 (x5 + 1) h H locs ls I (lv_sub hl [4, 5, 2, 1, 6, 0] rfl)
        · have h := ite_f h c4
          refine lv_goto (tgt := 73) hx hb dX11_sits_64 (by decide) ?_
          refine lv_iinc (v := (x5 + 1)) (lv' := [(5, .int (x5 + 1)), (6, .int q3.1), (0, .ref (ra E 0)), (1, .int x1), (2, .int x2), (3, .int x3), (4, .int x4)]) hx hb dX11_sits_73 hl (k := 6) rfl rfl (by decide) rfl (fun ls hl => ?_)
          refine lv_goto (tgt := 33) hx hb dX11_sits_76 (by decide) ?_
          exact ih q3.2 x2 x3 (x5 + 1) h H locs ls I (lv_sub hl [2, 3, 4, 5, 6, 0] rfl)
set_option maxHeartbeats 4000000 in
set_option maxRecDepth 100000 in
theorem w_X11_sits_0 {p : Program} {l : Launch} {e : Env} {s : State} {m : MethodId} {args : Array Value} {below : List Frame} {meth : Method} {c : Code} {A : Nat → Prop} {E : RE} {q : Mem} (X : CX p s m meth c args cX11_sits 7 RX11 none) : ∀ (σ : Mem) (x1 : Int32) , m_X11_sits σ x1 = some q → ∀ (H : Heap) (locs : List Loc) (ls : Array Slot), WI (vR E) A s H locs σ → lv_has ls 7 [(0, .ref (ra E 0)), (1, .int x1)] → W p l e rm_X11_sits s m args below meth c H locs 0 0 (MQ below (QV (vR E) A q) args s 0 0 A) (F0 m 0 ls []) := by
  have hx := X.1
  have hb := X.2.1
  intro σ x1 h H locs ls I hl
  unfold m_X11_sits at h
  refine lv_iconst (v := -1) hx hb dX11_sits_0 (by decide) ?_
  refine lv_istore_n (lv' := [(2, .int (-1 : Int32)), (0, .ref (ra E 0)), (1, .int x1)]) hx hb dX11_sits_1 rfl hl (by decide) rfl (fun ls hl => ?_)
  refine lv_iconst (v := 0) hx hb dX11_sits_2 (by decide) ?_
  refine lv_istore_n (lv' := [(3, .int (0 : Int32)), (2, .int (-1 : Int32)), (0, .ref (ra E 0)), (1, .int x1)]) hx hb dX11_sits_3 rfl hl (by decide) rfl (fun ls hl => ?_)
  refine lv_aload_n hx hb dX11_sits_4 rfl (lv_at hl 2 rfl) ?_
  refine gfR_X11_347 X I dX11_sits_5 ?_
  refine lv_iload_n hx hb dX11_sits_8 rfl (lv_at hl 3 rfl) ?_
  obtain ⟨q1, hq1, h⟩ := bd h
  refine r_callSI (V := (vR E)) (As := [.int (σ 0 43), .int x1]) (rest := []) X I hl (c_X11_isOf  hq1) ys_X11_isOf tw_1012 ⟨rfl, rfl, Nat.le_of_ble_eq_true rfl, Nat.le_of_ble_eq_true rfl⟩ rfl rfl (Nat.le_of_ble_eq_true rfl) dX11_sits_9 (fun H locs I => ?_)
  refine lv_if_ne (tgt := 27) hx hb dX11_sits_12 (by decide) (fun c2 => ?_) (fun c2 => ?_)
  · have h := ite_f h c2
    refine lv_iconst (v := 0) hx hb dX11_sits_27 (by decide) ?_
    refine lv_istore (lv' := [(4, .int (0 : Int32)), (3, .int (0 : Int32)), (2, .int (-1 : Int32)), (0, .ref (ra E 0)), (1, .int x1)]) hx hb dX11_sits_28 hl (by decide) rfl (fun ls hl => ?_)
    refine lv_iconst (v := 0) hx hb dX11_sits_30 (by decide) ?_
    refine lv_istore (lv' := [(5, .int (0 : Int32)), (4, .int (0 : Int32)), (3, .int (0 : Int32)), (2, .int (-1 : Int32)), (0, .ref (ra E 0)), (1, .int x1)]) hx hb dX11_sits_31 hl (by decide) rfl (fun ls hl => ?_)
    exact w_X11_sits_33 X   KF σ (-1 : Int32) (0 : Int32) (0 : Int32) h H locs ls I (lv_sub hl [4, 5, 3, 2, 1, 0] rfl)
  · have h := ite_t h c2
    refine lv_aload_n hx hb dX11_sits_15 rfl (lv_at hl 2 rfl) ?_
    refine lv_iload_n hx hb dX11_sits_16 rfl (lv_at hl 3 rfl) ?_
    obtain ⟨q3, hq3, h⟩ := bd h
    refine r_callVI (V := (vR E)) (k := 0) (As := [.int x1]) (rest := []) X I hl (c_X11_isAsleep  hq3) yv_X11_isAsleep tw_1021 ⟨rfl, rfl, Nat.le_of_ble_eq_true rfl, Nat.le_of_ble_eq_true rfl⟩ (Nat.le_of_ble_eq_true rfl) rfl rfl rfl rfl (Nat.le_of_ble_eq_true rfl) dX11_sits_17 (fun H locs I => ?_)
    refine lv_if_ne (tgt := 27) hx hb dX11_sits_20 (by decide) (fun c4 => ?_) (fun c4 => ?_)
    · have h := ite_f h c4
      refine lv_iconst (v := 0) hx hb dX11_sits_27 (by decide) ?_
      refine lv_istore (lv' := [(4, .int (0 : Int32)), (3, .int (0 : Int32)), (2, .int (-1 : Int32)), (0, .ref (ra E 0)), (1, .int x1)]) hx hb dX11_sits_28 hl (by decide) rfl (fun ls hl => ?_)
      refine lv_iconst (v := 0) hx hb dX11_sits_30 (by decide) ?_
      refine lv_istore (lv' := [(5, .int (0 : Int32)), (4, .int (0 : Int32)), (3, .int (0 : Int32)), (2, .int (-1 : Int32)), (0, .ref (ra E 0)), (1, .int x1)]) hx hb dX11_sits_31 hl (by decide) rfl (fun ls hl => ?_)
      exact w_X11_sits_33 X   KF q3.2 (-1 : Int32) (0 : Int32) (0 : Int32) h H locs ls I (lv_sub hl [4, 5, 3, 2, 1, 0] rfl)
    · have h := ite_t h c4
      refine lv_iconst (v := 1) hx hb dX11_sits_23 (by decide) ?_
      refine lv_goto (tgt := 28) hx hb dX11_sits_24 (by decide) ?_
      refine lv_istore (lv' := [(4, .int (1 : Int32)), (3, .int (0 : Int32)), (2, .int (-1 : Int32)), (0, .ref (ra E 0)), (1, .int x1)]) hx hb dX11_sits_28 hl (by decide) rfl (fun ls hl => ?_)
      refine lv_iconst (v := 0) hx hb dX11_sits_30 (by decide) ?_
      refine lv_istore (lv' := [(5, .int (0 : Int32)), (4, .int (1 : Int32)), (3, .int (0 : Int32)), (2, .int (-1 : Int32)), (0, .ref (ra E 0)), (1, .int x1)]) hx hb dX11_sits_31 hl (by decide) rfl (fun ls hl => ?_)
      exact w_X11_sits_33 X   KF q3.2 (-1 : Int32) (0 : Int32) (0 : Int32) h H locs ls I (lv_sub hl [4, 5, 3, 2, 1, 0] rfl)
theorem c_X11_sits {l : Launch} {E : RE} {σ : Mem} {x1 : Int32} {q : Mem} (h : m_X11_sits σ x1 = some q) : CV l (vR E) yX11_sits (.code yX11_sits cX11_sits 7 none :: GG) rm_X11_sits [.ref (ra E 0), .int x1] σ q :=
  mk_CV (by decide +kernel) (Nat.le_of_ble_eq_true rfl) (fun p e s m args below meth c A ls X I hl => w_X11_sits_0 X  σ x1 h s.heap [] ls I (lv_sub hl [0, 1] rfl))

def rm_X11_aQuarter : Room := { frames := 5, cells := 0, slots := 0, locals := 161 }
def f_X11_aQuarter_88 (k74 : Mem → Int32 → Option (Mem)) (x1 : Int32) : Nat → Mem → Int32 → Int32 → Option (Mem)
  | 0, _, _, _ => none
  | n + 1, σ, x2, x3 => (gd (0 : Int32) 10 (if (σ 5 (Int32.toNatClampNeg (0 : Int32))) ≤ x3 then (gd x1 7 (gd x1 7 (lt (ms σ 27 (Int32.toNatClampNeg x1) ((imin (9999 : Int32) ((σ 27 (Int32.toNatClampNeg x1)) + x2)))) fun σ2 => (gd x1 7 (gd x1 14 (gd x1 7 (lt (ms σ2 25 (Int32.toNatClampNeg x1) ((imin (20 : Int32) ((σ2 25 (Int32.toNatClampNeg x1)) + (σ2 12 (Int32.toNatClampNeg x1)))))) fun σ3 => (k74 σ3 (x1 + 1))))))))) else (gd x3 8 (if (σ 23 (Int32.toNatClampNeg x3)) = x1 then (gd x3 16 (lt (x2 + (σ 6 (Int32.toNatClampNeg x3))) fun y6 => f_X11_aQuarter_88 k74 x1 n σ y6 (x3 + 1))) else (lt (x2 + (0 : Int32)) fun y5 => f_X11_aQuarter_88 k74 x1 n σ y5 (x3 + 1))))))
def f_X11_aQuarter_74 : Nat → Mem → Int32 → Option (Mem)
  | 0, _, _ => none
  | n + 1, σ, x1 => (gd (1 : Int32) 10 (if (σ 5 (Int32.toNatClampNeg (1 : Int32))) ≤ x1 then (lt (ms σ 0 43 (0 : Int32)) fun σ2 => (lt (ms σ2 0 41 ((σ2 0 41) + (1 : Int32))) fun σ3 => (some σ3))) else (f_X11_aQuarter_88 (f_X11_aQuarter_74 n) x1 KF σ (0 : Int32) (0 : Int32))))
def f_X11_aQuarter_40 : Nat → Mem → Int32 → Option (Mem)
  | 0, _, _ => none
  | n + 1, σ, x1 => (gd (0 : Int32) 10 (if (σ 5 (Int32.toNatClampNeg (0 : Int32))) ≤ x1 then (f_X11_aQuarter_74 KF σ (0 : Int32)) else ((m_X11_isOf σ (σ 0 42) x1).bind fun q2 => (if q2 = (0 : Int32) then ((m_X11_sits σ x1).bind fun q4 => f_X11_aQuarter_40 n q4 (x1 + 1)) else f_X11_aQuarter_40 n σ (x1 + 1)))))
def f_X11_aQuarter_6 : Nat → Mem → Int32 → Option (Mem)
  | 0, _, _ => none
  | n + 1, σ, x1 => (gd (0 : Int32) 10 (if (σ 5 (Int32.toNatClampNeg (0 : Int32))) ≤ x1 then (f_X11_aQuarter_40 KF σ (0 : Int32)) else ((m_X11_isOf σ (σ 0 42) x1).bind fun q2 => (if q2 = (0 : Int32) then ((m_X11_older σ x1).bind fun q4 => f_X11_aQuarter_6 n q4 (x1 + 1)) else f_X11_aQuarter_6 n σ (x1 + 1)))))
def m_X11_aQuarter (σ : Mem) : Option (Mem) := ((m_X11_tellBegun σ).bind fun q1 => (f_X11_aQuarter_6 KF q1 (0 : Int32)))
set_option maxHeartbeats 4000000 in
set_option maxRecDepth 100000 in
theorem w_X11_aQuarter_88 {p : Program} {l : Launch} {e : Env} {s : State} {m : MethodId} {args : Array Value} {below : List Frame} {meth : Method} {c : Code} {A : Nat → Prop} {E : RE} {q : Mem} (X : CX p s m meth c args cX11_aQuarter 4 RX11 none) {x1 : Int32} {k74 : Mem → Int32 → Option (Mem)} (hk74 : ∀ (σ : Mem) (x1 : Int32) , k74 σ x1 = some q → ∀ (H : Heap) (locs : List Loc) (ls : Array Slot), WI (vR E) A s H locs σ → lv_has ls 4 [(0, .ref (ra E 0)), (1, .int x1)] → W p l e rm_X11_aQuarter s m args below meth c H locs 0 0 (MQ below (QV (vR E) A q) args s 0 0 A) (F0 m 74 ls [])) : ∀ (n : Nat), ∀ (σ : Mem) (x2 : Int32) (x3 : Int32) , f_X11_aQuarter_88 k74 x1 n σ x2 x3 = some q → ∀ (H : Heap) (locs : List Loc) (ls : Array Slot), WI (vR E) A s H locs σ → lv_has ls 4 [(0, .ref (ra E 0)), (1, .int x1), (2, .int x2), (3, .int x3)] → W p l e rm_X11_aQuarter s m args below meth c H locs 0 0 (MQ below (QV (vR E) A q) args s 0 0 A) (F0 m 88 ls []) := by
  have hx := X.1
  have hb := X.2.1
  intro n
  induction n with
  | zero =>
    intro σ x2 x3 h
    cases h
  | succ n ih =>
    intro σ x2 x3 h H locs ls I hl
    rw [f_X11_aQuarter_88] at h
    refine lv_iload_n hx hb dX11_aQuarter_88 rfl (lv_at hl 3 rfl) ?_
    refine lv_aload_n hx hb dX11_aQuarter_89 rfl (lv_at hl 0 rfl) ?_
    refine gfR_X11_55 X I dX11_aQuarter_90 ?_
    refine lv_iconst (v := 0) hx hb dX11_aQuarter_93 (by decide) ?_
    obtain ⟨hin, h⟩ := gd_some h
    refine ialdR X I (kR_5 E) hin dX11_aQuarter_94 ?_
    refine lv_icmp_ge (tgt := 127) hx hb dX11_aQuarter_95 (by decide) (fun c1 => ?_) (fun c1 => ?_)
    · have h := ite_t h c1
      refine lv_aload_n hx hb dX11_aQuarter_127 rfl (lv_at hl 0 rfl) ?_
      refine gfR_X11_120 X I dX11_aQuarter_128 ?_
      refine lv_iload_n hx hb dX11_aQuarter_131 rfl (lv_at hl 1 rfl) ?_
      refine lv_sipush (v := 9999) hx hb dX11_aQuarter_132 (by decide) ?_
      refine lv_aload_n hx hb dX11_aQuarter_135 rfl (lv_at hl 0 rfl) ?_
      refine gfR_X11_120 X I dX11_aQuarter_136 ?_
      refine lv_iload_n hx hb dX11_aQuarter_139 rfl (lv_at hl 1 rfl) ?_
      obtain ⟨hin, h⟩ := gd_some h
      refine ialdR X I (kR_27 E) hin dX11_aQuarter_140 ?_
      refine lv_iload_n hx hb dX11_aQuarter_141 rfl (lv_at hl 2 rfl) ?_
      refine lv_iadd hx hb dX11_aQuarter_142 ?_
      refine r_min X hl tw_831 ⟨Nat.le_of_ble_eq_true rfl, Nat.le_of_ble_eq_true rfl⟩ dX11_aQuarter_143 ?_
      obtain ⟨hin, h⟩ := gd_some h
      refine iastR X I (kR_27 E) hin dX11_aQuarter_146 (fun H locs I => ?_)
      obtain ⟨σ2, eσ2, h⟩ := lt_e h
      replace I := wi_nm eσ2 I
      refine lv_aload_n hx hb dX11_aQuarter_147 rfl (lv_at hl 0 rfl) ?_
      refine gfR_X11_115 X I dX11_aQuarter_148 ?_
      refine lv_iload_n hx hb dX11_aQuarter_151 rfl (lv_at hl 1 rfl) ?_
      refine lv_bipush (v := 20) hx hb dX11_aQuarter_152 (by decide) ?_
      refine lv_aload_n hx hb dX11_aQuarter_154 rfl (lv_at hl 0 rfl) ?_
      refine gfR_X11_115 X I dX11_aQuarter_155 ?_
      refine lv_iload_n hx hb dX11_aQuarter_158 rfl (lv_at hl 1 rfl) ?_
      obtain ⟨hin, h⟩ := gd_some h
      refine ialdR X I (kR_25 E) hin dX11_aQuarter_159 ?_
      refine lv_aload_n hx hb dX11_aQuarter_160 rfl (lv_at hl 0 rfl) ?_
      refine gfR_X11_74 X I dX11_aQuarter_161 ?_
      refine lv_iload_n hx hb dX11_aQuarter_164 rfl (lv_at hl 1 rfl) ?_
      obtain ⟨hin, h⟩ := gd_some h
      refine ialdR X I (kR_12 E) hin dX11_aQuarter_165 ?_
      refine lv_iadd hx hb dX11_aQuarter_166 ?_
      refine r_min X hl tw_831 ⟨Nat.le_of_ble_eq_true rfl, Nat.le_of_ble_eq_true rfl⟩ dX11_aQuarter_167 ?_
      obtain ⟨hin, h⟩ := gd_some h
      refine iastR X I (kR_25 E) hin dX11_aQuarter_170 (fun H locs I => ?_)
      obtain ⟨σ3, eσ3, h⟩ := lt_e h
      replace I := wi_nm eσ3 I
      refine lv_iinc (v := (x1 + 1)) (lv' := [(1, .int (x1 + 1)), (0, .ref (ra E 0)), (2, .int x2), (3, .int x3)]) hx hb dX11_aQuarter_171 hl (k := 1) rfl rfl (by decide) rfl (fun ls hl => ?_)
      refine lv_goto (tgt := 74) hx hb dX11_aQuarter_174 (by decide) ?_
      exact hk74 σ3 (x1 + 1) h H locs ls I (lv_sub hl [1, 0] rfl)
    · have h := ite_f h c1
      refine lv_iload_n hx hb dX11_aQuarter_98 rfl (lv_at hl 2 rfl) ?_
      refine lv_aload_n hx hb dX11_aQuarter_99 rfl (lv_at hl 0 rfl) ?_
      refine gfR_X11_110 X I dX11_aQuarter_100 ?_
      refine lv_iload_n hx hb dX11_aQuarter_103 rfl (lv_at hl 3 rfl) ?_
      obtain ⟨hin, h⟩ := gd_some h
      refine ialdR X I (kR_23 E) hin dX11_aQuarter_104 ?_
      refine lv_iload_n hx hb dX11_aQuarter_105 rfl (lv_at hl 1 rfl) ?_
      refine lv_icmp_ne (tgt := 118) hx hb dX11_aQuarter_106 (by decide) (fun c4 => ?_) (fun c4 => ?_)
      · have h := ite_f h c4
        refine lv_iconst (v := 0) hx hb dX11_aQuarter_118 (by decide) ?_
        refine lv_iadd hx hb dX11_aQuarter_119 ?_
        obtain ⟨y5, ey5, h⟩ := lt_e h
        refine nm_i ey5 ?_
        refine lv_istore_n (lv' := [(2, .int y5), (0, .ref (ra E 0)), (1, .int x1), (3, .int x3)]) hx hb dX11_aQuarter_120 rfl hl (by decide) rfl (fun ls hl => ?_)
        refine lv_iinc (v := (x3 + 1)) (lv' := [(3, .int (x3 + 1)), (2, .int y5), (0, .ref (ra E 0)), (1, .int x1)]) hx hb dX11_aQuarter_121 hl (k := 3) rfl rfl (by decide) rfl (fun ls hl => ?_)
        refine lv_goto (tgt := 88) hx hb dX11_aQuarter_124 (by decide) ?_
        exact ih σ y5 (x3 + 1) h H locs ls I (lv_sub hl [2, 3, 1, 0] rfl)
      · have h := ite_t h c4
        refine lv_aload_n hx hb dX11_aQuarter_109 rfl (lv_at hl 0 rfl) ?_
        refine gfR_X11_59 X I dX11_aQuarter_110 ?_
        refine lv_iload_n hx hb dX11_aQuarter_113 rfl (lv_at hl 3 rfl) ?_
        obtain ⟨hin, h⟩ := gd_some h
        refine ialdR X I (kR_6 E) hin dX11_aQuarter_114 ?_
        refine lv_goto (tgt := 119) hx hb dX11_aQuarter_115 (by decide) ?_
        refine lv_iadd hx hb dX11_aQuarter_119 ?_
        obtain ⟨y6, ey6, h⟩ := lt_e h
        refine nm_i ey6 ?_
        refine lv_istore_n (lv' := [(2, .int y6), (0, .ref (ra E 0)), (1, .int x1), (3, .int x3)]) hx hb dX11_aQuarter_120 rfl hl (by decide) rfl (fun ls hl => ?_)
        refine lv_iinc (v := (x3 + 1)) (lv' := [(3, .int (x3 + 1)), (2, .int y6), (0, .ref (ra E 0)), (1, .int x1)]) hx hb dX11_aQuarter_121 hl (k := 3) rfl rfl (by decide) rfl (fun ls hl => ?_)
        refine lv_goto (tgt := 88) hx hb dX11_aQuarter_124 (by decide) ?_
        exact ih σ y6 (x3 + 1) h H locs ls I (lv_sub hl [2, 3, 1, 0] rfl)
set_option maxHeartbeats 4000000 in
set_option maxRecDepth 100000 in
theorem w_X11_aQuarter_74 {p : Program} {l : Launch} {e : Env} {s : State} {m : MethodId} {args : Array Value} {below : List Frame} {meth : Method} {c : Code} {A : Nat → Prop} {E : RE} {q : Mem} (X : CX p s m meth c args cX11_aQuarter 4 RX11 none) : ∀ (n : Nat), ∀ (σ : Mem) (x1 : Int32) , f_X11_aQuarter_74 n σ x1 = some q → ∀ (H : Heap) (locs : List Loc) (ls : Array Slot), WI (vR E) A s H locs σ → lv_has ls 4 [(0, .ref (ra E 0)), (1, .int x1)] → W p l e rm_X11_aQuarter s m args below meth c H locs 0 0 (MQ below (QV (vR E) A q) args s 0 0 A) (F0 m 74 ls []) := by
  have hx := X.1
  have hb := X.2.1
  intro n
  induction n with
  | zero =>
    intro σ x1 h
    cases h
  | succ n ih =>
    intro σ x1 h H locs ls I hl
    rw [f_X11_aQuarter_74] at h
    refine lv_iload_n hx hb dX11_aQuarter_74 rfl (lv_at hl 1 rfl) ?_
    refine lv_aload_n hx hb dX11_aQuarter_75 rfl (lv_at hl 0 rfl) ?_
    refine gfR_X11_55 X I dX11_aQuarter_76 ?_
    refine lv_iconst (v := 1) hx hb dX11_aQuarter_79 (by decide) ?_
    obtain ⟨hin, h⟩ := gd_some h
    refine ialdR X I (kR_5 E) hin dX11_aQuarter_80 ?_
    refine lv_icmp_ge (tgt := 177) hx hb dX11_aQuarter_81 (by decide) (fun c1 => ?_) (fun c1 => ?_)
    · have h := ite_t h c1
      refine lv_aload_n hx hb dX11_aQuarter_177 rfl (lv_at hl 0 rfl) ?_
      refine lv_iconst (v := 0) hx hb dX11_aQuarter_178 (by decide) ?_
      refine pfR_X11_347 X I  dX11_aQuarter_179 (fun H locs I => ?_)
      obtain ⟨σ2, eσ2, h⟩ := lt_e h
      replace I := wi_nm eσ2 I
      refine lv_aload_n hx hb dX11_aQuarter_182 rfl (lv_at hl 0 rfl) ?_
      refine lv_dup hx hb dX11_aQuarter_183 rfl ?_
      refine gfR_X11_342 X I dX11_aQuarter_184 ?_
      refine lv_iconst (v := 1) hx hb dX11_aQuarter_187 (by decide) ?_
      refine lv_iadd hx hb dX11_aQuarter_188 ?_
      refine pfR_X11_342 X I  dX11_aQuarter_189 (fun H locs I => ?_)
      obtain ⟨σ3, eσ3, h⟩ := lt_e h
      replace I := wi_nm eσ3 I
      exact r_vret X I (Option.some.inj h).symm dX11_aQuarter_192
    · have h := ite_f h c1
      refine lv_iconst (v := 0) hx hb dX11_aQuarter_84 (by decide) ?_
      refine lv_istore_n (lv' := [(2, .int (0 : Int32)), (0, .ref (ra E 0)), (1, .int x1)]) hx hb dX11_aQuarter_85 rfl hl (by decide) rfl (fun ls hl => ?_)
      refine lv_iconst (v := 0) hx hb dX11_aQuarter_86 (by decide) ?_
      refine lv_istore_n (lv' := [(3, .int (0 : Int32)), (2, .int (0 : Int32)), (0, .ref (ra E 0)), (1, .int x1)]) hx hb dX11_aQuarter_87 rfl hl (by decide) rfl (fun ls hl => ?_)
      exact w_X11_aQuarter_88 X  (fun σ a1 h H locs ls I hl => ih σ a1 h H locs ls I hl) KF σ (0 : Int32) (0 : Int32) h H locs ls I (lv_sub hl [2, 3, 1, 0] rfl)
set_option maxHeartbeats 4000000 in
set_option maxRecDepth 100000 in
theorem w_X11_aQuarter_40 {p : Program} {l : Launch} {e : Env} {s : State} {m : MethodId} {args : Array Value} {below : List Frame} {meth : Method} {c : Code} {A : Nat → Prop} {E : RE} {q : Mem} (X : CX p s m meth c args cX11_aQuarter 4 RX11 none) : ∀ (n : Nat), ∀ (σ : Mem) (x1 : Int32) , f_X11_aQuarter_40 n σ x1 = some q → ∀ (H : Heap) (locs : List Loc) (ls : Array Slot), WI (vR E) A s H locs σ → lv_has ls 4 [(0, .ref (ra E 0)), (1, .int x1)] → W p l e rm_X11_aQuarter s m args below meth c H locs 0 0 (MQ below (QV (vR E) A q) args s 0 0 A) (F0 m 40 ls []) := by
  have hx := X.1
  have hb := X.2.1
  intro n
  induction n with
  | zero =>
    intro σ x1 h
    cases h
  | succ n ih =>
    intro σ x1 h H locs ls I hl
    rw [f_X11_aQuarter_40] at h
    refine lv_iload_n hx hb dX11_aQuarter_40 rfl (lv_at hl 1 rfl) ?_
    refine lv_aload_n hx hb dX11_aQuarter_41 rfl (lv_at hl 0 rfl) ?_
    refine gfR_X11_55 X I dX11_aQuarter_42 ?_
    refine lv_iconst (v := 0) hx hb dX11_aQuarter_45 (by decide) ?_
    obtain ⟨hin, h⟩ := gd_some h
    refine ialdR X I (kR_5 E) hin dX11_aQuarter_46 ?_
    refine lv_icmp_ge (tgt := 72) hx hb dX11_aQuarter_47 (by decide) (fun c1 => ?_) (fun c1 => ?_)
    · have h := ite_t h c1
      refine lv_iconst (v := 0) hx hb dX11_aQuarter_72 (by decide) ?_
      refine lv_istore_n (lv' := [(1, .int (0 : Int32)), (0, .ref (ra E 0))]) hx hb dX11_aQuarter_73 rfl hl (by decide) rfl (fun ls hl => ?_)
      exact w_X11_aQuarter_74 X   KF σ (0 : Int32) h H locs ls I (lv_sub hl [1, 0] rfl)
    · have h := ite_f h c1
      refine lv_aload_n hx hb dX11_aQuarter_50 rfl (lv_at hl 0 rfl) ?_
      refine gfR_X11_344 X I dX11_aQuarter_51 ?_
      refine lv_iload_n hx hb dX11_aQuarter_54 rfl (lv_at hl 1 rfl) ?_
      obtain ⟨q2, hq2, h⟩ := bd h
      refine r_callSI (V := (vR E)) (As := [.int (σ 0 42), .int x1]) (rest := []) X I hl (c_X11_isOf  hq2) ys_X11_isOf tw_1012 ⟨rfl, rfl, Nat.le_of_ble_eq_true rfl, Nat.le_of_ble_eq_true rfl⟩ rfl rfl (Nat.le_of_ble_eq_true rfl) dX11_aQuarter_55 (fun H locs I => ?_)
      refine lv_if_ne (tgt := 66) hx hb dX11_aQuarter_58 (by decide) (fun c3 => ?_) (fun c3 => ?_)
      · have h := ite_f h c3
        refine lv_iinc (v := (x1 + 1)) (lv' := [(1, .int (x1 + 1)), (0, .ref (ra E 0))]) hx hb dX11_aQuarter_66 hl (k := 1) rfl rfl (by decide) rfl (fun ls hl => ?_)
        refine lv_goto (tgt := 40) hx hb dX11_aQuarter_69 (by decide) ?_
        exact ih σ (x1 + 1) h H locs ls I (lv_sub hl [1, 0] rfl)
      · have h := ite_t h c3
        refine lv_aload_n hx hb dX11_aQuarter_61 rfl (lv_at hl 0 rfl) ?_
        refine lv_iload_n hx hb dX11_aQuarter_62 rfl (lv_at hl 1 rfl) ?_
        obtain ⟨q4, hq4, h⟩ := bd h
        refine r_callVV (V := (vR E)) (k := 0) (As := [.int x1]) (rest := []) X I hl (c_X11_sits  hq4) yv_X11_sits tw_1031 ⟨rfl, rfl, Nat.le_of_ble_eq_true rfl, Nat.le_of_ble_eq_true rfl⟩ (Nat.le_of_ble_eq_true rfl) rfl rfl rfl rfl (Nat.le_of_ble_eq_true rfl) dX11_aQuarter_63 (fun H locs I => ?_)
        refine lv_iinc (v := (x1 + 1)) (lv' := [(1, .int (x1 + 1)), (0, .ref (ra E 0))]) hx hb dX11_aQuarter_66 hl (k := 1) rfl rfl (by decide) rfl (fun ls hl => ?_)
        refine lv_goto (tgt := 40) hx hb dX11_aQuarter_69 (by decide) ?_
        exact ih q4 (x1 + 1) h H locs ls I (lv_sub hl [1, 0] rfl)
set_option maxHeartbeats 4000000 in
set_option maxRecDepth 100000 in
theorem w_X11_aQuarter_6 {p : Program} {l : Launch} {e : Env} {s : State} {m : MethodId} {args : Array Value} {below : List Frame} {meth : Method} {c : Code} {A : Nat → Prop} {E : RE} {q : Mem} (X : CX p s m meth c args cX11_aQuarter 4 RX11 none) : ∀ (n : Nat), ∀ (σ : Mem) (x1 : Int32) , f_X11_aQuarter_6 n σ x1 = some q → ∀ (H : Heap) (locs : List Loc) (ls : Array Slot), WI (vR E) A s H locs σ → lv_has ls 4 [(0, .ref (ra E 0)), (1, .int x1)] → W p l e rm_X11_aQuarter s m args below meth c H locs 0 0 (MQ below (QV (vR E) A q) args s 0 0 A) (F0 m 6 ls []) := by
  have hx := X.1
  have hb := X.2.1
  intro n
  induction n with
  | zero =>
    intro σ x1 h
    cases h
  | succ n ih =>
    intro σ x1 h H locs ls I hl
    rw [f_X11_aQuarter_6] at h
    refine lv_iload_n hx hb dX11_aQuarter_6 rfl (lv_at hl 1 rfl) ?_
    refine lv_aload_n hx hb dX11_aQuarter_7 rfl (lv_at hl 0 rfl) ?_
    refine gfR_X11_55 X I dX11_aQuarter_8 ?_
    refine lv_iconst (v := 0) hx hb dX11_aQuarter_11 (by decide) ?_
    obtain ⟨hin, h⟩ := gd_some h
    refine ialdR X I (kR_5 E) hin dX11_aQuarter_12 ?_
    refine lv_icmp_ge (tgt := 38) hx hb dX11_aQuarter_13 (by decide) (fun c1 => ?_) (fun c1 => ?_)
    · have h := ite_t h c1
      refine lv_iconst (v := 0) hx hb dX11_aQuarter_38 (by decide) ?_
      refine lv_istore_n (lv' := [(1, .int (0 : Int32)), (0, .ref (ra E 0))]) hx hb dX11_aQuarter_39 rfl hl (by decide) rfl (fun ls hl => ?_)
      exact w_X11_aQuarter_40 X   KF σ (0 : Int32) h H locs ls I (lv_sub hl [1, 0] rfl)
    · have h := ite_f h c1
      refine lv_aload_n hx hb dX11_aQuarter_16 rfl (lv_at hl 0 rfl) ?_
      refine gfR_X11_344 X I dX11_aQuarter_17 ?_
      refine lv_iload_n hx hb dX11_aQuarter_20 rfl (lv_at hl 1 rfl) ?_
      obtain ⟨q2, hq2, h⟩ := bd h
      refine r_callSI (V := (vR E)) (As := [.int (σ 0 42), .int x1]) (rest := []) X I hl (c_X11_isOf  hq2) ys_X11_isOf tw_1012 ⟨rfl, rfl, Nat.le_of_ble_eq_true rfl, Nat.le_of_ble_eq_true rfl⟩ rfl rfl (Nat.le_of_ble_eq_true rfl) dX11_aQuarter_21 (fun H locs I => ?_)
      refine lv_if_ne (tgt := 32) hx hb dX11_aQuarter_24 (by decide) (fun c3 => ?_) (fun c3 => ?_)
      · have h := ite_f h c3
        refine lv_iinc (v := (x1 + 1)) (lv' := [(1, .int (x1 + 1)), (0, .ref (ra E 0))]) hx hb dX11_aQuarter_32 hl (k := 1) rfl rfl (by decide) rfl (fun ls hl => ?_)
        refine lv_goto (tgt := 6) hx hb dX11_aQuarter_35 (by decide) ?_
        exact ih σ (x1 + 1) h H locs ls I (lv_sub hl [1, 0] rfl)
      · have h := ite_t h c3
        refine lv_aload_n hx hb dX11_aQuarter_27 rfl (lv_at hl 0 rfl) ?_
        refine lv_iload_n hx hb dX11_aQuarter_28 rfl (lv_at hl 1 rfl) ?_
        obtain ⟨q4, hq4, h⟩ := bd h
        refine r_callVV (V := (vR E)) (k := 0) (As := [.int x1]) (rest := []) X I hl (c_X11_older  hq4) yv_X11_older tw_1036 ⟨rfl, rfl, Nat.le_of_ble_eq_true rfl, Nat.le_of_ble_eq_true rfl⟩ (Nat.le_of_ble_eq_true rfl) rfl rfl rfl rfl (Nat.le_of_ble_eq_true rfl) dX11_aQuarter_29 (fun H locs I => ?_)
        refine lv_iinc (v := (x1 + 1)) (lv' := [(1, .int (x1 + 1)), (0, .ref (ra E 0))]) hx hb dX11_aQuarter_32 hl (k := 1) rfl rfl (by decide) rfl (fun ls hl => ?_)
        refine lv_goto (tgt := 6) hx hb dX11_aQuarter_35 (by decide) ?_
        exact ih q4 (x1 + 1) h H locs ls I (lv_sub hl [1, 0] rfl)
set_option maxHeartbeats 4000000 in
set_option maxRecDepth 100000 in
theorem w_X11_aQuarter_0 {p : Program} {l : Launch} {e : Env} {s : State} {m : MethodId} {args : Array Value} {below : List Frame} {meth : Method} {c : Code} {A : Nat → Prop} {E : RE} {q : Mem} (X : CX p s m meth c args cX11_aQuarter 4 RX11 none) : ∀ (σ : Mem)  , m_X11_aQuarter σ = some q → ∀ (H : Heap) (locs : List Loc) (ls : Array Slot), WI (vR E) A s H locs σ → lv_has ls 4 [(0, .ref (ra E 0))] → W p l e rm_X11_aQuarter s m args below meth c H locs 0 0 (MQ below (QV (vR E) A q) args s 0 0 A) (F0 m 0 ls []) := by
  have hx := X.1
  have hb := X.2.1
  intro σ  h H locs ls I hl
  unfold m_X11_aQuarter at h
  refine lv_aload_n hx hb dX11_aQuarter_0 rfl (lv_at hl 0 rfl) ?_
  obtain ⟨q1, hq1, h⟩ := bd h
  refine r_callVV (V := (vR E)) (k := 0) (As := []) (rest := []) X I hl (c_X11_tellBegun  hq1) yv_X11_tellBegun tw_1026 ⟨rfl, rfl, Nat.le_of_ble_eq_true rfl, Nat.le_of_ble_eq_true rfl⟩ (Nat.le_of_ble_eq_true rfl) rfl rfl rfl rfl (Nat.le_of_ble_eq_true rfl) dX11_aQuarter_1 (fun H locs I => ?_)
  refine lv_iconst (v := 0) hx hb dX11_aQuarter_4 (by decide) ?_
  refine lv_istore_n (lv' := [(1, .int (0 : Int32)), (0, .ref (ra E 0))]) hx hb dX11_aQuarter_5 rfl hl (by decide) rfl (fun ls hl => ?_)
  exact w_X11_aQuarter_6 X   KF q1 (0 : Int32) h H locs ls I (lv_sub hl [1, 0] rfl)
theorem c_X11_aQuarter {l : Launch} {E : RE} {σ : Mem} {q : Mem} (h : m_X11_aQuarter σ = some q) : CV l (vR E) yX11_aQuarter (.code yX11_aQuarter cX11_aQuarter 4 none :: GG) rm_X11_aQuarter [.ref (ra E 0)] σ q :=
  mk_CV (by decide +kernel) (Nat.le_of_ble_eq_true rfl) (fun p e s m args below meth c A ls X I hl => w_X11_aQuarter_0 X  σ  h s.heap [] ls I (lv_sub hl [0] rfl))

def rm_X11_goOn : Room := { frames := 6, cells := 0, slots := 0, locals := 184 }
def f_X11_goOn_2 (x1 : Int32) : Nat → Mem → Int32 → Option (Mem)
  | 0, _, _ => none
  | n + 1, σ, x2 => (if x1 ≤ x2 then (some σ) else ((m_X11_aQuarter σ).bind fun q2 => f_X11_goOn_2 x1 n q2 (x2 + 1)))
def m_X11_goOn (σ : Mem) (x1 : Int32) : Option (Mem) := (f_X11_goOn_2 x1 KF σ (0 : Int32))
set_option maxHeartbeats 4000000 in
set_option maxRecDepth 100000 in
theorem w_X11_goOn_2 {p : Program} {l : Launch} {e : Env} {s : State} {m : MethodId} {args : Array Value} {below : List Frame} {meth : Method} {c : Code} {A : Nat → Prop} {E : RE} {q : Mem} (X : CX p s m meth c args cX11_goOn 3 RX11 none) {x1 : Int32} : ∀ (n : Nat), ∀ (σ : Mem) (x2 : Int32) , f_X11_goOn_2 x1 n σ x2 = some q → ∀ (H : Heap) (locs : List Loc) (ls : Array Slot), WI (vR E) A s H locs σ → lv_has ls 3 [(0, .ref (ra E 0)), (1, .int x1), (2, .int x2)] → W p l e rm_X11_goOn s m args below meth c H locs 0 0 (MQ below (QV (vR E) A q) args s 0 0 A) (F0 m 2 ls []) := by
  have hx := X.1
  have hb := X.2.1
  intro n
  induction n with
  | zero =>
    intro σ x2 h
    cases h
  | succ n ih =>
    intro σ x2 h H locs ls I hl
    rw [f_X11_goOn_2] at h
    refine lv_iload_n hx hb dX11_goOn_2 rfl (lv_at hl 2 rfl) ?_
    refine lv_iload_n hx hb dX11_goOn_3 rfl (lv_at hl 1 rfl) ?_
    refine lv_icmp_ge (tgt := 17) hx hb dX11_goOn_4 (by decide) (fun c1 => ?_) (fun c1 => ?_)
    · have h := ite_t h c1
      exact r_vret X I (Option.some.inj h).symm dX11_goOn_17
    · have h := ite_f h c1
      refine lv_aload_n hx hb dX11_goOn_7 rfl (lv_at hl 0 rfl) ?_
      obtain ⟨q2, hq2, h⟩ := bd h
      refine r_callVV (V := (vR E)) (k := 0) (As := []) (rest := []) X I hl (c_X11_aQuarter  hq2) yv_X11_aQuarter tw_1041 ⟨rfl, rfl, Nat.le_of_ble_eq_true rfl, Nat.le_of_ble_eq_true rfl⟩ (Nat.le_of_ble_eq_true rfl) rfl rfl rfl rfl (Nat.le_of_ble_eq_true rfl) dX11_goOn_8 (fun H locs I => ?_)
      refine lv_iinc (v := (x2 + 1)) (lv' := [(2, .int (x2 + 1)), (0, .ref (ra E 0)), (1, .int x1)]) hx hb dX11_goOn_11 hl (k := 2) rfl rfl (by decide) rfl (fun ls hl => ?_)
      refine lv_goto (tgt := 2) hx hb dX11_goOn_14 (by decide) ?_
      exact ih q2 (x2 + 1) h H locs ls I (lv_sub hl [1, 2, 0] rfl)
set_option maxHeartbeats 4000000 in
set_option maxRecDepth 100000 in
theorem w_X11_goOn_0 {p : Program} {l : Launch} {e : Env} {s : State} {m : MethodId} {args : Array Value} {below : List Frame} {meth : Method} {c : Code} {A : Nat → Prop} {E : RE} {q : Mem} (X : CX p s m meth c args cX11_goOn 3 RX11 none) : ∀ (σ : Mem) (x1 : Int32) , m_X11_goOn σ x1 = some q → ∀ (H : Heap) (locs : List Loc) (ls : Array Slot), WI (vR E) A s H locs σ → lv_has ls 3 [(0, .ref (ra E 0)), (1, .int x1)] → W p l e rm_X11_goOn s m args below meth c H locs 0 0 (MQ below (QV (vR E) A q) args s 0 0 A) (F0 m 0 ls []) := by
  have hx := X.1
  have hb := X.2.1
  intro σ x1 h H locs ls I hl
  unfold m_X11_goOn at h
  refine lv_iconst (v := 0) hx hb dX11_goOn_0 (by decide) ?_
  refine lv_istore_n (lv' := [(2, .int (0 : Int32)), (0, .ref (ra E 0)), (1, .int x1)]) hx hb dX11_goOn_1 rfl hl (by decide) rfl (fun ls hl => ?_)
  exact w_X11_goOn_2 X   KF σ (0 : Int32) h H locs ls I (lv_sub hl [1, 2, 0] rfl)
theorem c_X11_goOn {l : Launch} {E : RE} {σ : Mem} {x1 : Int32} {q : Mem} (h : m_X11_goOn σ x1 = some q) : CV l (vR E) yX11_goOn (.code yX11_goOn cX11_goOn 3 none :: GG) rm_X11_goOn [.ref (ra E 0), .int x1] σ q :=
  mk_CV (by decide +kernel) (Nat.le_of_ble_eq_true rfl) (fun p e s m args below meth c A ls X I hl => w_X11_goOn_0 X  σ x1 h s.heap [] ls I (lv_sub hl [0, 1] rfl))

def rm_X11_nobodys : Room := { frames := 1, cells := 0, slots := 0, locals := 64 }
def f_X11_nobodys_4 : Nat → Mem → Int32 → Int32 → Option (Int32)
  | 0, _, _, _ => none
  | n + 1, σ, x1, x2 => (gd (0 : Int32) 10 (if (σ 5 (Int32.toNatClampNeg (0 : Int32))) ≤ x2 then (some x1) else (gd x2 8 (if (σ 23 (Int32.toNatClampNeg x2)) = (-1 : Int32) then (lt (x1 ||| ((1 : Int32) <<< (x2 &&& 31))) fun y4 => f_X11_nobodys_4 n σ y4 (x2 + 1)) else (lt (x1 ||| (0 : Int32)) fun y3 => f_X11_nobodys_4 n σ y3 (x2 + 1))))))
def m_X11_nobodys (σ : Mem) : Option (Int32) := (f_X11_nobodys_4 KF σ (0 : Int32) (0 : Int32))
set_option maxHeartbeats 4000000 in
set_option maxRecDepth 100000 in
theorem w_X11_nobodys_4 {p : Program} {l : Launch} {e : Env} {s : State} {m : MethodId} {args : Array Value} {below : List Frame} {meth : Method} {c : Code} {A : Nat → Prop} {E : RE} {q : Int32} (X : CX p s m meth c args cX11_nobodys 3 RX11 (some .int)) : ∀ (n : Nat), ∀ (σ : Mem) (x1 : Int32) (x2 : Int32) , f_X11_nobodys_4 n σ x1 x2 = some q → ∀ (H : Heap) (locs : List Loc) (ls : Array Slot), WI (vR E) A s H locs σ → lv_has ls 3 [(0, .ref (ra E 0)), (1, .int x1), (2, .int x2)] → W p l e rm_X11_nobodys s m args below meth c H locs 0 0 (MQ below (QI (vR E) A (q, σ)) args s 0 0 A) (F0 m 4 ls []) := by
  have hx := X.1
  have hb := X.2.1
  intro n
  induction n with
  | zero =>
    intro σ x1 x2 h
    cases h
  | succ n ih =>
    intro σ x1 x2 h H locs ls I hl
    rw [f_X11_nobodys_4] at h
    refine lv_iload_n hx hb dX11_nobodys_4 rfl (lv_at hl 2 rfl) ?_
    refine lv_aload_n hx hb dX11_nobodys_5 rfl (lv_at hl 0 rfl) ?_
    refine gfR_X11_55 X I dX11_nobodys_6 ?_
    refine lv_iconst (v := 0) hx hb dX11_nobodys_9 (by decide) ?_
    obtain ⟨hin, h⟩ := gd_some h
    refine ialdR X I (kR_5 E) hin dX11_nobodys_10 ?_
    refine lv_icmp_ge (tgt := 40) hx hb dX11_nobodys_11 (by decide) (fun c1 => ?_) (fun c1 => ?_)
    · have h := ite_t h c1
      refine lv_iload_n hx hb dX11_nobodys_40 rfl (lv_at hl 1 rfl) ?_
      exact r_iret X I (congrArg (fun z => (z, σ)) (Option.some.inj h).symm) dX11_nobodys_41
    · have h := ite_f h c1
      refine lv_iload_n hx hb dX11_nobodys_14 rfl (lv_at hl 1 rfl) ?_
      refine lv_aload_n hx hb dX11_nobodys_15 rfl (lv_at hl 0 rfl) ?_
      refine gfR_X11_110 X I dX11_nobodys_16 ?_
      refine lv_iload_n hx hb dX11_nobodys_19 rfl (lv_at hl 2 rfl) ?_
      obtain ⟨hin, h⟩ := gd_some h
      refine ialdR X I (kR_23 E) hin dX11_nobodys_20 ?_
      refine lv_iconst (v := -1) hx hb dX11_nobodys_21 (by decide) ?_
      refine lv_icmp_ne (tgt := 31) hx hb dX11_nobodys_22 (by decide) (fun c2 => ?_) (fun c2 => ?_)
      · have h := ite_f h c2
        refine lv_iconst (v := 0) hx hb dX11_nobodys_31 (by decide) ?_
        refine lv_ior hx hb dX11_nobodys_32 ?_
        obtain ⟨y3, ey3, h⟩ := lt_e h
        refine nm_i ey3 ?_
        refine lv_istore_n (lv' := [(1, .int y3), (0, .ref (ra E 0)), (2, .int x2)]) hx hb dX11_nobodys_33 rfl hl (by decide) rfl (fun ls hl => ?_)
        refine lv_iinc (v := (x2 + 1)) (lv' := [(2, .int (x2 + 1)), (1, .int y3), (0, .ref (ra E 0))]) hx hb dX11_nobodys_34 hl (k := 2) rfl rfl (by decide) rfl (fun ls hl => ?_)
        refine lv_goto (tgt := 4) hx hb dX11_nobodys_37 (by decide) ?_
        exact ih σ y3 (x2 + 1) h H locs ls I (lv_sub hl [2, 1, 0] rfl)
      · have h := ite_t h c2
        refine lv_iconst (v := 1) hx hb dX11_nobodys_25 (by decide) ?_
        refine lv_iload_n hx hb dX11_nobodys_26 rfl (lv_at hl 2 rfl) ?_
        refine lv_ishl hx hb dX11_nobodys_27 ?_
        refine lv_goto (tgt := 32) hx hb dX11_nobodys_28 (by decide) ?_
        refine lv_ior hx hb dX11_nobodys_32 ?_
        obtain ⟨y4, ey4, h⟩ := lt_e h
        refine nm_i ey4 ?_
        refine lv_istore_n (lv' := [(1, .int y4), (0, .ref (ra E 0)), (2, .int x2)]) hx hb dX11_nobodys_33 rfl hl (by decide) rfl (fun ls hl => ?_)
        refine lv_iinc (v := (x2 + 1)) (lv' := [(2, .int (x2 + 1)), (1, .int y4), (0, .ref (ra E 0))]) hx hb dX11_nobodys_34 hl (k := 2) rfl rfl (by decide) rfl (fun ls hl => ?_)
        refine lv_goto (tgt := 4) hx hb dX11_nobodys_37 (by decide) ?_
        exact ih σ y4 (x2 + 1) h H locs ls I (lv_sub hl [2, 1, 0] rfl)
set_option maxHeartbeats 4000000 in
set_option maxRecDepth 100000 in
theorem w_X11_nobodys_0 {p : Program} {l : Launch} {e : Env} {s : State} {m : MethodId} {args : Array Value} {below : List Frame} {meth : Method} {c : Code} {A : Nat → Prop} {E : RE} {q : Int32} (X : CX p s m meth c args cX11_nobodys 3 RX11 (some .int)) : ∀ (σ : Mem)  , m_X11_nobodys σ = some q → ∀ (H : Heap) (locs : List Loc) (ls : Array Slot), WI (vR E) A s H locs σ → lv_has ls 3 [(0, .ref (ra E 0))] → W p l e rm_X11_nobodys s m args below meth c H locs 0 0 (MQ below (QI (vR E) A (q, σ)) args s 0 0 A) (F0 m 0 ls []) := by
  have hx := X.1
  have hb := X.2.1
  intro σ  h H locs ls I hl
  unfold m_X11_nobodys at h
  refine lv_iconst (v := 0) hx hb dX11_nobodys_0 (by decide) ?_
  refine lv_istore_n (lv' := [(1, .int (0 : Int32)), (0, .ref (ra E 0))]) hx hb dX11_nobodys_1 rfl hl (by decide) rfl (fun ls hl => ?_)
  refine lv_iconst (v := 0) hx hb dX11_nobodys_2 (by decide) ?_
  refine lv_istore_n (lv' := [(2, .int (0 : Int32)), (1, .int (0 : Int32)), (0, .ref (ra E 0))]) hx hb dX11_nobodys_3 rfl hl (by decide) rfl (fun ls hl => ?_)
  exact w_X11_nobodys_4 X   KF σ (0 : Int32) (0 : Int32) h H locs ls I (lv_sub hl [2, 1, 0] rfl)
theorem c_X11_nobodys {l : Launch} {E : RE} {σ : Mem} {q : Int32} (h : m_X11_nobodys σ = some q) : CI l (vR E) yX11_nobodys (.code yX11_nobodys cX11_nobodys 3 (some .int) :: GG) rm_X11_nobodys [.ref (ra E 0)] σ (q, σ) :=
  mk_CI (by decide +kernel) (Nat.le_of_ble_eq_true rfl) (fun p e s m args below meth c A ls X I hl => w_X11_nobodys_0 X  σ  h s.heap [] ls I (lv_sub hl [0] rfl))

def rm_X11_allCoins : Room := { frames := 1, cells := 0, slots := 0, locals := 64 }
def f_X11_allCoins_4 : Nat → Mem → Int32 → Int32 → Option (Int32)
  | 0, _, _, _ => none
  | n + 1, σ, x1, x2 => (gd (1 : Int32) 10 (if (σ 5 (Int32.toNatClampNeg (1 : Int32))) ≤ x2 then (some x1) else (gd x2 7 (lt (x1 + (σ 27 (Int32.toNatClampNeg x2))) fun y2 => f_X11_allCoins_4 n σ y2 (x2 + 1)))))
def m_X11_allCoins (σ : Mem) : Option (Int32) := (f_X11_allCoins_4 KF σ (0 : Int32) (0 : Int32))
set_option maxHeartbeats 4000000 in
set_option maxRecDepth 100000 in
theorem w_X11_allCoins_4 {p : Program} {l : Launch} {e : Env} {s : State} {m : MethodId} {args : Array Value} {below : List Frame} {meth : Method} {c : Code} {A : Nat → Prop} {E : RE} {q : Int32} (X : CX p s m meth c args cX11_allCoins 3 RX11 (some .int)) : ∀ (n : Nat), ∀ (σ : Mem) (x1 : Int32) (x2 : Int32) , f_X11_allCoins_4 n σ x1 x2 = some q → ∀ (H : Heap) (locs : List Loc) (ls : Array Slot), WI (vR E) A s H locs σ → lv_has ls 3 [(0, .ref (ra E 0)), (1, .int x1), (2, .int x2)] → W p l e rm_X11_allCoins s m args below meth c H locs 0 0 (MQ below (QI (vR E) A (q, σ)) args s 0 0 A) (F0 m 4 ls []) := by
  have hx := X.1
  have hb := X.2.1
  intro n
  induction n with
  | zero =>
    intro σ x1 x2 h
    cases h
  | succ n ih =>
    intro σ x1 x2 h H locs ls I hl
    rw [f_X11_allCoins_4] at h
    refine lv_iload_n hx hb dX11_allCoins_4 rfl (lv_at hl 2 rfl) ?_
    refine lv_aload_n hx hb dX11_allCoins_5 rfl (lv_at hl 0 rfl) ?_
    refine gfR_X11_55 X I dX11_allCoins_6 ?_
    refine lv_iconst (v := 1) hx hb dX11_allCoins_9 (by decide) ?_
    obtain ⟨hin, h⟩ := gd_some h
    refine ialdR X I (kR_5 E) hin dX11_allCoins_10 ?_
    refine lv_icmp_ge (tgt := 29) hx hb dX11_allCoins_11 (by decide) (fun c1 => ?_) (fun c1 => ?_)
    · have h := ite_t h c1
      refine lv_iload_n hx hb dX11_allCoins_29 rfl (lv_at hl 1 rfl) ?_
      exact r_iret X I (congrArg (fun z => (z, σ)) (Option.some.inj h).symm) dX11_allCoins_30
    · have h := ite_f h c1
      refine lv_iload_n hx hb dX11_allCoins_14 rfl (lv_at hl 1 rfl) ?_
      refine lv_aload_n hx hb dX11_allCoins_15 rfl (lv_at hl 0 rfl) ?_
      refine gfR_X11_120 X I dX11_allCoins_16 ?_
      refine lv_iload_n hx hb dX11_allCoins_19 rfl (lv_at hl 2 rfl) ?_
      obtain ⟨hin, h⟩ := gd_some h
      refine ialdR X I (kR_27 E) hin dX11_allCoins_20 ?_
      refine lv_iadd hx hb dX11_allCoins_21 ?_
      obtain ⟨y2, ey2, h⟩ := lt_e h
      refine nm_i ey2 ?_
      refine lv_istore_n (lv' := [(1, .int y2), (0, .ref (ra E 0)), (2, .int x2)]) hx hb dX11_allCoins_22 rfl hl (by decide) rfl (fun ls hl => ?_)
      refine lv_iinc (v := (x2 + 1)) (lv' := [(2, .int (x2 + 1)), (1, .int y2), (0, .ref (ra E 0))]) hx hb dX11_allCoins_23 hl (k := 2) rfl rfl (by decide) rfl (fun ls hl => ?_)
      refine lv_goto (tgt := 4) hx hb dX11_allCoins_26 (by decide) ?_
      exact ih σ y2 (x2 + 1) h H locs ls I (lv_sub hl [2, 1, 0] rfl)
set_option maxHeartbeats 4000000 in
set_option maxRecDepth 100000 in
theorem w_X11_allCoins_0 {p : Program} {l : Launch} {e : Env} {s : State} {m : MethodId} {args : Array Value} {below : List Frame} {meth : Method} {c : Code} {A : Nat → Prop} {E : RE} {q : Int32} (X : CX p s m meth c args cX11_allCoins 3 RX11 (some .int)) : ∀ (σ : Mem)  , m_X11_allCoins σ = some q → ∀ (H : Heap) (locs : List Loc) (ls : Array Slot), WI (vR E) A s H locs σ → lv_has ls 3 [(0, .ref (ra E 0))] → W p l e rm_X11_allCoins s m args below meth c H locs 0 0 (MQ below (QI (vR E) A (q, σ)) args s 0 0 A) (F0 m 0 ls []) := by
  have hx := X.1
  have hb := X.2.1
  intro σ  h H locs ls I hl
  unfold m_X11_allCoins at h
  refine lv_iconst (v := 0) hx hb dX11_allCoins_0 (by decide) ?_
  refine lv_istore_n (lv' := [(1, .int (0 : Int32)), (0, .ref (ra E 0))]) hx hb dX11_allCoins_1 rfl hl (by decide) rfl (fun ls hl => ?_)
  refine lv_iconst (v := 0) hx hb dX11_allCoins_2 (by decide) ?_
  refine lv_istore_n (lv' := [(2, .int (0 : Int32)), (1, .int (0 : Int32)), (0, .ref (ra E 0))]) hx hb dX11_allCoins_3 rfl hl (by decide) rfl (fun ls hl => ?_)
  exact w_X11_allCoins_4 X   KF σ (0 : Int32) (0 : Int32) h H locs ls I (lv_sub hl [2, 1, 0] rfl)
theorem c_X11_allCoins {l : Launch} {E : RE} {σ : Mem} {q : Int32} (h : m_X11_allCoins σ = some q) : CI l (vR E) yX11_allCoins (.code yX11_allCoins cX11_allCoins 3 (some .int) :: GG) rm_X11_allCoins [.ref (ra E 0)] σ (q, σ) :=
  mk_CI (by decide +kernel) (Nat.le_of_ble_eq_true rfl) (fun p e s m args below meth c A ls X I hl => w_X11_allCoins_0 X  σ  h s.heap [] ls I (lv_sub hl [0] rfl))

def rm_X11_count : Room := { frames := 2, cells := 0, slots := 0, locals := 86 }
def m_X11_count (σ : Mem) (x1 : Int32) : Option (Int32 × Mem) := (lt (ms σ 0 5 (0 : Int32)) fun σ1 => (if x1 = (0 : Int32) then (gd x1 10 (some ((σ1 5 (Int32.toNatClampNeg x1)), σ1))) else (if x1 = (1 : Int32) then (gd x1 10 (some ((σ1 5 (Int32.toNatClampNeg x1)), σ1))) else (if x1 = (2 : Int32) then (gd x1 10 (some ((σ1 5 (Int32.toNatClampNeg x1)), σ1))) else (if x1 = (3 : Int32) then (some ((σ1 0 41), σ1)) else (if x1 = (4 : Int32) then (some ((σ1 0 42), σ1)) else (if x1 = (5 : Int32) then ((m_X11_nobodys σ1).bind fun q8 => (some (q8, σ1))) else (if x1 = (6 : Int32) then (some ((σ1 0 43), σ1)) else (if x1 = (7 : Int32) then ((m_X11_allCoins σ1).bind fun q11 => (some (q11, σ1))) else (if x1 = (8 : Int32) then (some ((σ1 0 44), σ1)) else (if x1 = (9 : Int32) then (some ((σ1 0 45), σ1)) else (if x1 = (10 : Int32) then (some ((σ1 0 21), σ1)) else (if x1 = (11 : Int32) then (gd (x1 - (11 : Int32)) 3 (some ((σ1 18 (Int32.toNatClampNeg (x1 - (11 : Int32)))), σ1))) else (if x1 = (12 : Int32) then (gd (x1 - (11 : Int32)) 3 (some ((σ1 18 (Int32.toNatClampNeg (x1 - (11 : Int32)))), σ1))) else (if x1 = (13 : Int32) then (gd (x1 - (11 : Int32)) 3 (some ((σ1 18 (Int32.toNatClampNeg (x1 - (11 : Int32)))), σ1))) else ((m_X11_fail σ1 (1 : Int32)).bind fun q18 => (some (q18.1, q18.2))))))))))))))))))
set_option maxHeartbeats 4000000 in
set_option maxRecDepth 100000 in
theorem w_X11_count_0 {p : Program} {l : Launch} {e : Env} {s : State} {m : MethodId} {args : Array Value} {below : List Frame} {meth : Method} {c : Code} {A : Nat → Prop} {E : RE} {q : Int32 × Mem} (X : CX p s m meth c args cX11_count 2 RX11 (some .int)) : ∀ (σ : Mem) (x1 : Int32) , m_X11_count σ x1 = some q → ∀ (H : Heap) (locs : List Loc) (ls : Array Slot), WI (vR E) A s H locs σ → lv_has ls 2 [(0, .ref (ra E 0)), (1, .int x1)] → W p l e rm_X11_count s m args below meth c H locs 0 0 (MQ below (QI (vR E) A q) args s 0 0 A) (F0 m 0 ls []) := by
  have hx := X.1
  have hb := X.2.1
  intro σ x1 h H locs ls I hl
  unfold m_X11_count at h
  refine lv_aload_n hx hb dX11_count_0 rfl (lv_at hl 0 rfl) ?_
  refine lv_iconst (v := 0) hx hb dX11_count_1 (by decide) ?_
  refine pfR_X11_195 X I  dX11_count_2 (fun H locs I => ?_)
  obtain ⟨σ1, eσ1, h⟩ := lt_e h
  replace I := wi_nm eσ1 I
  refine lv_iload_n hx hb dX11_count_5 rfl (lv_at hl 1 rfl) ?_
  by_cases c2 : x1 = (0 : Int32)
  · have h := ite_t h c2
    have ht : Int32.toInt x1 = 0 := by rw [c2]; rfl
    refine lv_tableIn (off := 70) (tgt := 76) hx hb dX11_count_6 (by rw [ht]; decide) (by rw [ht]; decide) (by rw [ht]; rfl) (by decide) ?_
    refine lv_aload_n hx hb dX11_count_76 rfl (lv_at hl 0 rfl) ?_
    refine gfR_X11_55 X I dX11_count_77 ?_
    refine lv_iload_n hx hb dX11_count_80 rfl (lv_at hl 1 rfl) ?_
    obtain ⟨hin, h⟩ := gd_some h
    refine ialdR X I (kR_5 E) hin dX11_count_81 ?_
    exact r_iret X I (Option.some.inj h).symm dX11_count_82
  replace h := ite_f h c2
  by_cases c3 : x1 = (1 : Int32)
  · have h := ite_t h c3
    have ht : Int32.toInt x1 = 1 := by rw [c3]; rfl
    refine lv_tableIn (off := 70) (tgt := 76) hx hb dX11_count_6 (by rw [ht]; decide) (by rw [ht]; decide) (by rw [ht]; rfl) (by decide) ?_
    refine lv_aload_n hx hb dX11_count_76 rfl (lv_at hl 0 rfl) ?_
    refine gfR_X11_55 X I dX11_count_77 ?_
    refine lv_iload_n hx hb dX11_count_80 rfl (lv_at hl 1 rfl) ?_
    obtain ⟨hin, h⟩ := gd_some h
    refine ialdR X I (kR_5 E) hin dX11_count_81 ?_
    exact r_iret X I (Option.some.inj h).symm dX11_count_82
  replace h := ite_f h c3
  by_cases c4 : x1 = (2 : Int32)
  · have h := ite_t h c4
    have ht : Int32.toInt x1 = 2 := by rw [c4]; rfl
    refine lv_tableIn (off := 70) (tgt := 76) hx hb dX11_count_6 (by rw [ht]; decide) (by rw [ht]; decide) (by rw [ht]; rfl) (by decide) ?_
    refine lv_aload_n hx hb dX11_count_76 rfl (lv_at hl 0 rfl) ?_
    refine gfR_X11_55 X I dX11_count_77 ?_
    refine lv_iload_n hx hb dX11_count_80 rfl (lv_at hl 1 rfl) ?_
    obtain ⟨hin, h⟩ := gd_some h
    refine ialdR X I (kR_5 E) hin dX11_count_81 ?_
    exact r_iret X I (Option.some.inj h).symm dX11_count_82
  replace h := ite_f h c4
  by_cases c5 : x1 = (3 : Int32)
  · have h := ite_t h c5
    have ht : Int32.toInt x1 = 3 := by rw [c5]; rfl
    refine lv_tableIn (off := 77) (tgt := 83) hx hb dX11_count_6 (by rw [ht]; decide) (by rw [ht]; decide) (by rw [ht]; rfl) (by decide) ?_
    refine lv_aload_n hx hb dX11_count_83 rfl (lv_at hl 0 rfl) ?_
    refine gfR_X11_342 X I dX11_count_84 ?_
    exact r_iret X I (Option.some.inj h).symm dX11_count_87
  replace h := ite_f h c5
  by_cases c6 : x1 = (4 : Int32)
  · have h := ite_t h c6
    have ht : Int32.toInt x1 = 4 := by rw [c6]; rfl
    refine lv_tableIn (off := 82) (tgt := 88) hx hb dX11_count_6 (by rw [ht]; decide) (by rw [ht]; decide) (by rw [ht]; rfl) (by decide) ?_
    refine lv_aload_n hx hb dX11_count_88 rfl (lv_at hl 0 rfl) ?_
    refine gfR_X11_344 X I dX11_count_89 ?_
    exact r_iret X I (Option.some.inj h).symm dX11_count_92
  replace h := ite_f h c6
  by_cases c7 : x1 = (5 : Int32)
  · have h := ite_t h c7
    have ht : Int32.toInt x1 = 5 := by rw [c7]; rfl
    refine lv_tableIn (off := 87) (tgt := 93) hx hb dX11_count_6 (by rw [ht]; decide) (by rw [ht]; decide) (by rw [ht]; rfl) (by decide) ?_
    refine lv_aload_n hx hb dX11_count_93 rfl (lv_at hl 0 rfl) ?_
    obtain ⟨q8, hq8, h⟩ := bd h
    refine r_callVI (V := (vR E)) (k := 0) (As := []) (rest := []) X I hl (c_X11_nobodys  hq8) yv_X11_nobodys tw_1046 ⟨rfl, rfl, Nat.le_of_ble_eq_true rfl, Nat.le_of_ble_eq_true rfl⟩ (Nat.le_of_ble_eq_true rfl) rfl rfl rfl rfl (Nat.le_of_ble_eq_true rfl) dX11_count_94 (fun H locs I => ?_)
    exact r_iret X I (Option.some.inj h).symm dX11_count_97
  replace h := ite_f h c7
  by_cases c9 : x1 = (6 : Int32)
  · have h := ite_t h c9
    have ht : Int32.toInt x1 = 6 := by rw [c9]; rfl
    refine lv_tableIn (off := 92) (tgt := 98) hx hb dX11_count_6 (by rw [ht]; decide) (by rw [ht]; decide) (by rw [ht]; rfl) (by decide) ?_
    refine lv_aload_n hx hb dX11_count_98 rfl (lv_at hl 0 rfl) ?_
    refine gfR_X11_347 X I dX11_count_99 ?_
    exact r_iret X I (Option.some.inj h).symm dX11_count_102
  replace h := ite_f h c9
  by_cases c10 : x1 = (7 : Int32)
  · have h := ite_t h c10
    have ht : Int32.toInt x1 = 7 := by rw [c10]; rfl
    refine lv_tableIn (off := 97) (tgt := 103) hx hb dX11_count_6 (by rw [ht]; decide) (by rw [ht]; decide) (by rw [ht]; rfl) (by decide) ?_
    refine lv_aload_n hx hb dX11_count_103 rfl (lv_at hl 0 rfl) ?_
    obtain ⟨q11, hq11, h⟩ := bd h
    refine r_callVI (V := (vR E)) (k := 0) (As := []) (rest := []) X I hl (c_X11_allCoins  hq11) yv_X11_allCoins tw_1051 ⟨rfl, rfl, Nat.le_of_ble_eq_true rfl, Nat.le_of_ble_eq_true rfl⟩ (Nat.le_of_ble_eq_true rfl) rfl rfl rfl rfl (Nat.le_of_ble_eq_true rfl) dX11_count_104 (fun H locs I => ?_)
    exact r_iret X I (Option.some.inj h).symm dX11_count_107
  replace h := ite_f h c10
  by_cases c12 : x1 = (8 : Int32)
  · have h := ite_t h c12
    have ht : Int32.toInt x1 = 8 := by rw [c12]; rfl
    refine lv_tableIn (off := 102) (tgt := 108) hx hb dX11_count_6 (by rw [ht]; decide) (by rw [ht]; decide) (by rw [ht]; rfl) (by decide) ?_
    refine lv_aload_n hx hb dX11_count_108 rfl (lv_at hl 0 rfl) ?_
    refine gfR_X11_350 X I dX11_count_109 ?_
    exact r_iret X I (Option.some.inj h).symm dX11_count_112
  replace h := ite_f h c12
  by_cases c13 : x1 = (9 : Int32)
  · have h := ite_t h c13
    have ht : Int32.toInt x1 = 9 := by rw [c13]; rfl
    refine lv_tableIn (off := 107) (tgt := 113) hx hb dX11_count_6 (by rw [ht]; decide) (by rw [ht]; decide) (by rw [ht]; rfl) (by decide) ?_
    refine lv_aload_n hx hb dX11_count_113 rfl (lv_at hl 0 rfl) ?_
    refine gfR_X11_353 X I dX11_count_114 ?_
    exact r_iret X I (Option.some.inj h).symm dX11_count_117
  replace h := ite_f h c13
  by_cases c14 : x1 = (10 : Int32)
  · have h := ite_t h c14
    have ht : Int32.toInt x1 = 10 := by rw [c14]; rfl
    refine lv_tableIn (off := 112) (tgt := 118) hx hb dX11_count_6 (by rw [ht]; decide) (by rw [ht]; decide) (by rw [ht]; rfl) (by decide) ?_
    refine lv_aload_n hx hb dX11_count_118 rfl (lv_at hl 0 rfl) ?_
    refine gfR_X11_202 X I dX11_count_119 ?_
    exact r_iret X I (Option.some.inj h).symm dX11_count_122
  replace h := ite_f h c14
  by_cases c15 : x1 = (11 : Int32)
  · have h := ite_t h c15
    have ht : Int32.toInt x1 = 11 := by rw [c15]; rfl
    refine lv_tableIn (off := 117) (tgt := 123) hx hb dX11_count_6 (by rw [ht]; decide) (by rw [ht]; decide) (by rw [ht]; rfl) (by decide) ?_
    refine lv_aload_n hx hb dX11_count_123 rfl (lv_at hl 0 rfl) ?_
    refine gfR_X11_92 X I dX11_count_124 ?_
    refine lv_iload_n hx hb dX11_count_127 rfl (lv_at hl 1 rfl) ?_
    refine lv_bipush (v := 11) hx hb dX11_count_128 (by decide) ?_
    refine lv_isub hx hb dX11_count_130 ?_
    obtain ⟨hin, h⟩ := gd_some h
    refine ialdR X I (kR_18 E) hin dX11_count_131 ?_
    exact r_iret X I (Option.some.inj h).symm dX11_count_132
  replace h := ite_f h c15
  by_cases c16 : x1 = (12 : Int32)
  · have h := ite_t h c16
    have ht : Int32.toInt x1 = 12 := by rw [c16]; rfl
    refine lv_tableIn (off := 117) (tgt := 123) hx hb dX11_count_6 (by rw [ht]; decide) (by rw [ht]; decide) (by rw [ht]; rfl) (by decide) ?_
    refine lv_aload_n hx hb dX11_count_123 rfl (lv_at hl 0 rfl) ?_
    refine gfR_X11_92 X I dX11_count_124 ?_
    refine lv_iload_n hx hb dX11_count_127 rfl (lv_at hl 1 rfl) ?_
    refine lv_bipush (v := 11) hx hb dX11_count_128 (by decide) ?_
    refine lv_isub hx hb dX11_count_130 ?_
    obtain ⟨hin, h⟩ := gd_some h
    refine ialdR X I (kR_18 E) hin dX11_count_131 ?_
    exact r_iret X I (Option.some.inj h).symm dX11_count_132
  replace h := ite_f h c16
  by_cases c17 : x1 = (13 : Int32)
  · have h := ite_t h c17
    have ht : Int32.toInt x1 = 13 := by rw [c17]; rfl
    refine lv_tableIn (off := 117) (tgt := 123) hx hb dX11_count_6 (by rw [ht]; decide) (by rw [ht]; decide) (by rw [ht]; rfl) (by decide) ?_
    refine lv_aload_n hx hb dX11_count_123 rfl (lv_at hl 0 rfl) ?_
    refine gfR_X11_92 X I dX11_count_124 ?_
    refine lv_iload_n hx hb dX11_count_127 rfl (lv_at hl 1 rfl) ?_
    refine lv_bipush (v := 11) hx hb dX11_count_128 (by decide) ?_
    refine lv_isub hx hb dX11_count_130 ?_
    obtain ⟨hin, h⟩ := gd_some h
    refine ialdR X I (kR_18 E) hin dX11_count_131 ?_
    exact r_iret X I (Option.some.inj h).symm dX11_count_132
  replace h := ite_f h c17
  have kd : W p l e rm_X11_count s m args below meth c H locs 0 0 (MQ below (QI (vR E) A q) args s 0 0 A) (F0 m 133 ls []) := by
    refine lv_aload_n hx hb dX11_count_133 rfl (lv_at hl 0 rfl) ?_
    refine lv_iconst (v := 1) hx hb dX11_count_134 (by decide) ?_
    obtain ⟨q18, hq18, h⟩ := bd h
    refine r_callVI (V := (vR E)) (k := 0) (As := [.int (1 : Int32)]) (rest := []) X I hl (c_X11_fail  hq18) yv_X11_fail tw_957 ⟨rfl, rfl, Nat.le_of_ble_eq_true rfl, Nat.le_of_ble_eq_true rfl⟩ (Nat.le_of_ble_eq_true rfl) rfl rfl rfl rfl (Nat.le_of_ble_eq_true rfl) dX11_count_135 (fun H locs I => ?_)
    exact r_iret X I (Option.some.inj h).symm dX11_count_138
  have tc2 := lv_neT (a := 0) c2 (by decide)
  have tc3 := lv_neT (a := 1) c3 (by decide)
  have tc4 := lv_neT (a := 2) c4 (by decide)
  have tc5 := lv_neT (a := 3) c5 (by decide)
  have tc6 := lv_neT (a := 4) c6 (by decide)
  have tc7 := lv_neT (a := 5) c7 (by decide)
  have tc9 := lv_neT (a := 6) c9 (by decide)
  have tc10 := lv_neT (a := 7) c10 (by decide)
  have tc12 := lv_neT (a := 8) c12 (by decide)
  have tc13 := lv_neT (a := 9) c13 (by decide)
  have tc14 := lv_neT (a := 10) c14 (by decide)
  have tc15 := lv_neT (a := 11) c15 (by decide)
  have tc16 := lv_neT (a := 12) c16 (by decide)
  have tc17 := lv_neT (a := 13) c17 (by decide)
  exact lv_tableOut (tgt := 133) hx hb dX11_count_6 (by omega) (by decide) kd
theorem c_X11_count {l : Launch} {E : RE} {σ : Mem} {x1 : Int32} {q : Int32 × Mem} (h : m_X11_count σ x1 = some q) : CI l (vR E) yX11_count (.code yX11_count cX11_count 2 (some .int) :: GG) rm_X11_count [.ref (ra E 0), .int x1] σ q :=
  mk_CI (by decide +kernel) (Nat.le_of_ble_eq_true rfl) (fun p e s m args below meth c A ls X I hl => w_X11_count_0 X  σ x1 h s.heap [] ls I (lv_sub hl [0, 1] rfl))

def rm_X11_house : Room := { frames := 4, cells := 0, slots := 0, locals := 132 }
def m_X11_house (σ : Mem) (x1 : Int32) (x2 : Int32) : Option (Int32 × Mem) := (lt (ms σ 0 5 (0 : Int32)) fun σ1 => ((m_X11_isHouse σ1 x1).bind fun q2 => (if q2 = (0 : Int32) then ((m_X11_fail σ1 (1 : Int32)).bind fun q17 => (some (q17.1, q17.2))) else (if x2 = (0 : Int32) then (gd x1 16 (some ((σ1 6 (Int32.toNatClampNeg x1)), σ1))) else (if x2 = (1 : Int32) then (gd x1 8 (some ((σ1 20 (Int32.toNatClampNeg x1)), σ1))) else (if x2 = (2 : Int32) then (gd x1 8 (some ((σ1 21 (Int32.toNatClampNeg x1)), σ1))) else (if x2 = (3 : Int32) then (gd x1 8 (some ((σ1 22 (Int32.toNatClampNeg x1)), σ1))) else (if x2 = (4 : Int32) then (gd x1 8 (some ((σ1 23 (Int32.toNatClampNeg x1)), σ1))) else (if x2 = (5 : Int32) then (gd x1 8 (some ((σ1 24 (Int32.toNatClampNeg x1)), σ1))) else (if x2 = (6 : Int32) then (gd x1 16 (some ((σ1 7 (Int32.toNatClampNeg x1)), σ1))) else (if x2 = (7 : Int32) then ((m_X11_isOf σ1 (σ1 0 42) x1).bind fun q12 => (if q12 = (0 : Int32) then ((m_X11_isAsleep σ1 x1).bind fun q14 => (if q14.1 = (0 : Int32) then (some ((0 : Int32), q14.2)) else (some ((1 : Int32), q14.2)))) else (some ((0 : Int32), σ1)))) else ((m_X11_fail σ1 (1 : Int32)).bind fun q16 => (some (q16.1, q16.2))))))))))))))
set_option maxHeartbeats 4000000 in
set_option maxRecDepth 100000 in
theorem w_X11_house_0 {p : Program} {l : Launch} {e : Env} {s : State} {m : MethodId} {args : Array Value} {below : List Frame} {meth : Method} {c : Code} {A : Nat → Prop} {E : RE} {q : Int32 × Mem} (X : CX p s m meth c args cX11_house 3 RX11 (some .int)) : ∀ (σ : Mem) (x1 : Int32) (x2 : Int32) , m_X11_house σ x1 x2 = some q → ∀ (H : Heap) (locs : List Loc) (ls : Array Slot), WI (vR E) A s H locs σ → lv_has ls 3 [(0, .ref (ra E 0)), (1, .int x1), (2, .int x2)] → W p l e rm_X11_house s m args below meth c H locs 0 0 (MQ below (QI (vR E) A q) args s 0 0 A) (F0 m 0 ls []) := by
  have hx := X.1
  have hb := X.2.1
  intro σ x1 x2 h H locs ls I hl
  unfold m_X11_house at h
  refine lv_aload_n hx hb dX11_house_0 rfl (lv_at hl 0 rfl) ?_
  refine lv_iconst (v := 0) hx hb dX11_house_1 (by decide) ?_
  refine pfR_X11_195 X I  dX11_house_2 (fun H locs I => ?_)
  obtain ⟨σ1, eσ1, h⟩ := lt_e h
  replace I := wi_nm eσ1 I
  refine lv_aload_n hx hb dX11_house_5 rfl (lv_at hl 0 rfl) ?_
  refine lv_iload_n hx hb dX11_house_6 rfl (lv_at hl 1 rfl) ?_
  obtain ⟨q2, hq2, h⟩ := bd h
  refine r_callVI (V := (vR E)) (k := 0) (As := [.int x1]) (rest := []) X I hl (c_X11_isHouse  hq2) yv_X11_isHouse tw_1056 ⟨rfl, rfl, Nat.le_of_ble_eq_true rfl, Nat.le_of_ble_eq_true rfl⟩ (Nat.le_of_ble_eq_true rfl) rfl rfl rfl rfl (Nat.le_of_ble_eq_true rfl) dX11_house_7 (fun H locs I => ?_)
  refine lv_if_ne (tgt := 19) hx hb dX11_house_10 (by decide) (fun c3 => ?_) (fun c3 => ?_)
  · have h := ite_f h c3
    refine lv_iload_n hx hb dX11_house_19 rfl (lv_at hl 2 rfl) ?_
    by_cases c4 : x2 = (0 : Int32)
    · have h := ite_t h c4
      have ht : Int32.toInt x2 = 0 := by rw [c4]; rfl
      refine lv_tableIn (off := 48) (tgt := 68) hx hb dX11_house_20 (by rw [ht]; decide) (by rw [ht]; decide) (by rw [ht]; rfl) (by decide) ?_
      refine lv_aload_n hx hb dX11_house_68 rfl (lv_at hl 0 rfl) ?_
      refine gfR_X11_59 X I dX11_house_69 ?_
      refine lv_iload_n hx hb dX11_house_72 rfl (lv_at hl 1 rfl) ?_
      obtain ⟨hin, h⟩ := gd_some h
      refine ialdR X I (kR_6 E) hin dX11_house_73 ?_
      exact r_iret X I (Option.some.inj h).symm dX11_house_74
    replace h := ite_f h c4
    by_cases c5 : x2 = (1 : Int32)
    · have h := ite_t h c5
      have ht : Int32.toInt x2 = 1 := by rw [c5]; rfl
      refine lv_tableIn (off := 55) (tgt := 75) hx hb dX11_house_20 (by rw [ht]; decide) (by rw [ht]; decide) (by rw [ht]; rfl) (by decide) ?_
      refine lv_aload_n hx hb dX11_house_75 rfl (lv_at hl 0 rfl) ?_
      refine gfR_X11_102 X I dX11_house_76 ?_
      refine lv_iload_n hx hb dX11_house_79 rfl (lv_at hl 1 rfl) ?_
      obtain ⟨hin, h⟩ := gd_some h
      refine ialdR X I (kR_20 E) hin dX11_house_80 ?_
      exact r_iret X I (Option.some.inj h).symm dX11_house_81
    replace h := ite_f h c5
    by_cases c6 : x2 = (2 : Int32)
    · have h := ite_t h c6
      have ht : Int32.toInt x2 = 2 := by rw [c6]; rfl
      refine lv_tableIn (off := 62) (tgt := 82) hx hb dX11_house_20 (by rw [ht]; decide) (by rw [ht]; decide) (by rw [ht]; rfl) (by decide) ?_
      refine lv_aload_n hx hb dX11_house_82 rfl (lv_at hl 0 rfl) ?_
      refine gfR_X11_104 X I dX11_house_83 ?_
      refine lv_iload_n hx hb dX11_house_86 rfl (lv_at hl 1 rfl) ?_
      obtain ⟨hin, h⟩ := gd_some h
      refine ialdR X I (kR_21 E) hin dX11_house_87 ?_
      exact r_iret X I (Option.some.inj h).symm dX11_house_88
    replace h := ite_f h c6
    by_cases c7 : x2 = (3 : Int32)
    · have h := ite_t h c7
      have ht : Int32.toInt x2 = 3 := by rw [c7]; rfl
      refine lv_tableIn (off := 69) (tgt := 89) hx hb dX11_house_20 (by rw [ht]; decide) (by rw [ht]; decide) (by rw [ht]; rfl) (by decide) ?_
      refine lv_aload_n hx hb dX11_house_89 rfl (lv_at hl 0 rfl) ?_
      refine gfR_X11_107 X I dX11_house_90 ?_
      refine lv_iload_n hx hb dX11_house_93 rfl (lv_at hl 1 rfl) ?_
      obtain ⟨hin, h⟩ := gd_some h
      refine ialdR X I (kR_22 E) hin dX11_house_94 ?_
      exact r_iret X I (Option.some.inj h).symm dX11_house_95
    replace h := ite_f h c7
    by_cases c8 : x2 = (4 : Int32)
    · have h := ite_t h c8
      have ht : Int32.toInt x2 = 4 := by rw [c8]; rfl
      refine lv_tableIn (off := 76) (tgt := 96) hx hb dX11_house_20 (by rw [ht]; decide) (by rw [ht]; decide) (by rw [ht]; rfl) (by decide) ?_
      refine lv_aload_n hx hb dX11_house_96 rfl (lv_at hl 0 rfl) ?_
      refine gfR_X11_110 X I dX11_house_97 ?_
      refine lv_iload_n hx hb dX11_house_100 rfl (lv_at hl 1 rfl) ?_
      obtain ⟨hin, h⟩ := gd_some h
      refine ialdR X I (kR_23 E) hin dX11_house_101 ?_
      exact r_iret X I (Option.some.inj h).symm dX11_house_102
    replace h := ite_f h c8
    by_cases c9 : x2 = (5 : Int32)
    · have h := ite_t h c9
      have ht : Int32.toInt x2 = 5 := by rw [c9]; rfl
      refine lv_tableIn (off := 83) (tgt := 103) hx hb dX11_house_20 (by rw [ht]; decide) (by rw [ht]; decide) (by rw [ht]; rfl) (by decide) ?_
      refine lv_aload_n hx hb dX11_house_103 rfl (lv_at hl 0 rfl) ?_
      refine gfR_X11_113 X I dX11_house_104 ?_
      refine lv_iload_n hx hb dX11_house_107 rfl (lv_at hl 1 rfl) ?_
      obtain ⟨hin, h⟩ := gd_some h
      refine ialdR X I (kR_24 E) hin dX11_house_108 ?_
      exact r_iret X I (Option.some.inj h).symm dX11_house_109
    replace h := ite_f h c9
    by_cases c10 : x2 = (6 : Int32)
    · have h := ite_t h c10
      have ht : Int32.toInt x2 = 6 := by rw [c10]; rfl
      refine lv_tableIn (off := 90) (tgt := 110) hx hb dX11_house_20 (by rw [ht]; decide) (by rw [ht]; decide) (by rw [ht]; rfl) (by decide) ?_
      refine lv_aload_n hx hb dX11_house_110 rfl (lv_at hl 0 rfl) ?_
      refine gfR_X11_61 X I dX11_house_111 ?_
      refine lv_iload_n hx hb dX11_house_114 rfl (lv_at hl 1 rfl) ?_
      obtain ⟨hin, h⟩ := gd_some h
      refine ialdR X I (kR_7 E) hin dX11_house_115 ?_
      exact r_iret X I (Option.some.inj h).symm dX11_house_116
    replace h := ite_f h c10
    by_cases c11 : x2 = (7 : Int32)
    · have h := ite_t h c11
      have ht : Int32.toInt x2 = 7 := by rw [c11]; rfl
      refine lv_tableIn (off := 97) (tgt := 117) hx hb dX11_house_20 (by rw [ht]; decide) (by rw [ht]; decide) (by rw [ht]; rfl) (by decide) ?_
      refine lv_aload_n hx hb dX11_house_117 rfl (lv_at hl 0 rfl) ?_
      refine gfR_X11_344 X I dX11_house_118 ?_
      refine lv_iload_n hx hb dX11_house_121 rfl (lv_at hl 1 rfl) ?_
      obtain ⟨q12, hq12, h⟩ := bd h
      refine r_callSI (V := (vR E)) (As := [.int (σ1 0 42), .int x1]) (rest := []) X I hl (c_X11_isOf  hq12) ys_X11_isOf tw_1012 ⟨rfl, rfl, Nat.le_of_ble_eq_true rfl, Nat.le_of_ble_eq_true rfl⟩ rfl rfl (Nat.le_of_ble_eq_true rfl) dX11_house_122 (fun H locs I => ?_)
      refine lv_if_ne (tgt := 140) hx hb dX11_house_125 (by decide) (fun c13 => ?_) (fun c13 => ?_)
      · have h := ite_f h c13
        refine lv_iconst (v := 0) hx hb dX11_house_140 (by decide) ?_
        exact r_iret X I (Option.some.inj h).symm dX11_house_141
      · have h := ite_t h c13
        refine lv_aload_n hx hb dX11_house_128 rfl (lv_at hl 0 rfl) ?_
        refine lv_iload_n hx hb dX11_house_129 rfl (lv_at hl 1 rfl) ?_
        obtain ⟨q14, hq14, h⟩ := bd h
        refine r_callVI (V := (vR E)) (k := 0) (As := [.int x1]) (rest := []) X I hl (c_X11_isAsleep  hq14) yv_X11_isAsleep tw_1021 ⟨rfl, rfl, Nat.le_of_ble_eq_true rfl, Nat.le_of_ble_eq_true rfl⟩ (Nat.le_of_ble_eq_true rfl) rfl rfl rfl rfl (Nat.le_of_ble_eq_true rfl) dX11_house_130 (fun H locs I => ?_)
        refine lv_if_eq (tgt := 140) hx hb dX11_house_133 (by decide) (fun c15 => ?_) (fun c15 => ?_)
        · have h := ite_t h c15
          refine lv_iconst (v := 0) hx hb dX11_house_140 (by decide) ?_
          exact r_iret X I (Option.some.inj h).symm dX11_house_141
        · have h := ite_f h c15
          refine lv_iconst (v := 1) hx hb dX11_house_136 (by decide) ?_
          refine lv_goto (tgt := 141) hx hb dX11_house_137 (by decide) ?_
          exact r_iret X I (Option.some.inj h).symm dX11_house_141
    replace h := ite_f h c11
    have kd : W p l e rm_X11_house s m args below meth c H locs 0 0 (MQ below (QI (vR E) A q) args s 0 0 A) (F0 m 142 ls []) := by
      refine lv_aload_n hx hb dX11_house_142 rfl (lv_at hl 0 rfl) ?_
      refine lv_iconst (v := 1) hx hb dX11_house_143 (by decide) ?_
      obtain ⟨q16, hq16, h⟩ := bd h
      refine r_callVI (V := (vR E)) (k := 0) (As := [.int (1 : Int32)]) (rest := []) X I hl (c_X11_fail  hq16) yv_X11_fail tw_957 ⟨rfl, rfl, Nat.le_of_ble_eq_true rfl, Nat.le_of_ble_eq_true rfl⟩ (Nat.le_of_ble_eq_true rfl) rfl rfl rfl rfl (Nat.le_of_ble_eq_true rfl) dX11_house_144 (fun H locs I => ?_)
      exact r_iret X I (Option.some.inj h).symm dX11_house_147
    have tc4 := lv_neT (a := 0) c4 (by decide)
    have tc5 := lv_neT (a := 1) c5 (by decide)
    have tc6 := lv_neT (a := 2) c6 (by decide)
    have tc7 := lv_neT (a := 3) c7 (by decide)
    have tc8 := lv_neT (a := 4) c8 (by decide)
    have tc9 := lv_neT (a := 5) c9 (by decide)
    have tc10 := lv_neT (a := 6) c10 (by decide)
    have tc11 := lv_neT (a := 7) c11 (by decide)
    exact lv_tableOut (tgt := 142) hx hb dX11_house_20 (by omega) (by decide) kd
  · have h := ite_t h c3
    refine lv_aload_n hx hb dX11_house_13 rfl (lv_at hl 0 rfl) ?_
    refine lv_iconst (v := 1) hx hb dX11_house_14 (by decide) ?_
    obtain ⟨q17, hq17, h⟩ := bd h
    refine r_callVI (V := (vR E)) (k := 0) (As := [.int (1 : Int32)]) (rest := []) X I hl (c_X11_fail  hq17) yv_X11_fail tw_957 ⟨rfl, rfl, Nat.le_of_ble_eq_true rfl, Nat.le_of_ble_eq_true rfl⟩ (Nat.le_of_ble_eq_true rfl) rfl rfl rfl rfl (Nat.le_of_ble_eq_true rfl) dX11_house_15 (fun H locs I => ?_)
    exact r_iret X I (Option.some.inj h).symm dX11_house_18
theorem c_X11_house {l : Launch} {E : RE} {σ : Mem} {x1 : Int32} {x2 : Int32} {q : Int32 × Mem} (h : m_X11_house σ x1 x2 = some q) : CI l (vR E) yX11_house (.code yX11_house cX11_house 3 (some .int) :: GG) rm_X11_house [.ref (ra E 0), .int x1, .int x2] σ q :=
  mk_CI (by decide +kernel) (Nat.le_of_ble_eq_true rfl) (fun p e s m args below meth c A ls X I hl => w_X11_house_0 X  σ x1 x2 h s.heap [] ls I (lv_sub hl [0, 1, 2] rfl))

def rm_X11_tenant : Room := { frames := 3, cells := 0, slots := 0, locals := 110 }
def m_X11_tenant (σ : Mem) (x1 : Int32) (x2 : Int32) : Option (Int32 × Mem) := (lt (ms σ 0 5 (0 : Int32)) fun σ1 => ((m_X11_isTenant σ1 x1).bind fun q2 => (if q2 = (0 : Int32) then ((m_X11_fail σ1 (1 : Int32)).bind fun q12 => (some (q12.1, q12.2))) else (if x2 = (0 : Int32) then (gd x1 7 (some ((σ1 25 (Int32.toNatClampNeg x1)), σ1))) else (if x2 = (1 : Int32) then (gd x1 14 (some ((σ1 12 (Int32.toNatClampNeg x1)), σ1))) else (if x2 = (2 : Int32) then (gd x1 7 (some ((σ1 26 (Int32.toNatClampNeg x1)), σ1))) else (if x2 = (3 : Int32) then (gd x1 7 (some ((σ1 27 (Int32.toNatClampNeg x1)), σ1))) else (if x2 = (4 : Int32) then ((m_X11_housesOf σ1 x1).bind fun q9 => (some (q9, σ1))) else (if x2 = (5 : Int32) then (gd x1 14 (some ((σ1 11 (Int32.toNatClampNeg x1)), σ1))) else ((m_X11_fail σ1 (1 : Int32)).bind fun q11 => (some (q11.1, q11.2))))))))))))
set_option maxHeartbeats 4000000 in
set_option maxRecDepth 100000 in
theorem w_X11_tenant_0 {p : Program} {l : Launch} {e : Env} {s : State} {m : MethodId} {args : Array Value} {below : List Frame} {meth : Method} {c : Code} {A : Nat → Prop} {E : RE} {q : Int32 × Mem} (X : CX p s m meth c args cX11_tenant 3 RX11 (some .int)) : ∀ (σ : Mem) (x1 : Int32) (x2 : Int32) , m_X11_tenant σ x1 x2 = some q → ∀ (H : Heap) (locs : List Loc) (ls : Array Slot), WI (vR E) A s H locs σ → lv_has ls 3 [(0, .ref (ra E 0)), (1, .int x1), (2, .int x2)] → W p l e rm_X11_tenant s m args below meth c H locs 0 0 (MQ below (QI (vR E) A q) args s 0 0 A) (F0 m 0 ls []) := by
  have hx := X.1
  have hb := X.2.1
  intro σ x1 x2 h H locs ls I hl
  unfold m_X11_tenant at h
  refine lv_aload_n hx hb dX11_tenant_0 rfl (lv_at hl 0 rfl) ?_
  refine lv_iconst (v := 0) hx hb dX11_tenant_1 (by decide) ?_
  refine pfR_X11_195 X I  dX11_tenant_2 (fun H locs I => ?_)
  obtain ⟨σ1, eσ1, h⟩ := lt_e h
  replace I := wi_nm eσ1 I
  refine lv_aload_n hx hb dX11_tenant_5 rfl (lv_at hl 0 rfl) ?_
  refine lv_iload_n hx hb dX11_tenant_6 rfl (lv_at hl 1 rfl) ?_
  obtain ⟨q2, hq2, h⟩ := bd h
  refine r_callVI (V := (vR E)) (k := 0) (As := [.int x1]) (rest := []) X I hl (c_X11_isTenant  hq2) yv_X11_isTenant tw_1061 ⟨rfl, rfl, Nat.le_of_ble_eq_true rfl, Nat.le_of_ble_eq_true rfl⟩ (Nat.le_of_ble_eq_true rfl) rfl rfl rfl rfl (Nat.le_of_ble_eq_true rfl) dX11_tenant_7 (fun H locs I => ?_)
  refine lv_if_ne (tgt := 19) hx hb dX11_tenant_10 (by decide) (fun c3 => ?_) (fun c3 => ?_)
  · have h := ite_f h c3
    refine lv_iload_n hx hb dX11_tenant_19 rfl (lv_at hl 2 rfl) ?_
    by_cases c4 : x2 = (0 : Int32)
    · have h := ite_t h c4
      have ht : Int32.toInt x2 = 0 := by rw [c4]; rfl
      refine lv_tableIn (off := 40) (tgt := 60) hx hb dX11_tenant_20 (by rw [ht]; decide) (by rw [ht]; decide) (by rw [ht]; rfl) (by decide) ?_
      refine lv_aload_n hx hb dX11_tenant_60 rfl (lv_at hl 0 rfl) ?_
      refine gfR_X11_115 X I dX11_tenant_61 ?_
      refine lv_iload_n hx hb dX11_tenant_64 rfl (lv_at hl 1 rfl) ?_
      obtain ⟨hin, h⟩ := gd_some h
      refine ialdR X I (kR_25 E) hin dX11_tenant_65 ?_
      exact r_iret X I (Option.some.inj h).symm dX11_tenant_66
    replace h := ite_f h c4
    by_cases c5 : x2 = (1 : Int32)
    · have h := ite_t h c5
      have ht : Int32.toInt x2 = 1 := by rw [c5]; rfl
      refine lv_tableIn (off := 47) (tgt := 67) hx hb dX11_tenant_20 (by rw [ht]; decide) (by rw [ht]; decide) (by rw [ht]; rfl) (by decide) ?_
      refine lv_aload_n hx hb dX11_tenant_67 rfl (lv_at hl 0 rfl) ?_
      refine gfR_X11_74 X I dX11_tenant_68 ?_
      refine lv_iload_n hx hb dX11_tenant_71 rfl (lv_at hl 1 rfl) ?_
      obtain ⟨hin, h⟩ := gd_some h
      refine ialdR X I (kR_12 E) hin dX11_tenant_72 ?_
      exact r_iret X I (Option.some.inj h).symm dX11_tenant_73
    replace h := ite_f h c5
    by_cases c6 : x2 = (2 : Int32)
    · have h := ite_t h c6
      have ht : Int32.toInt x2 = 2 := by rw [c6]; rfl
      refine lv_tableIn (off := 54) (tgt := 74) hx hb dX11_tenant_20 (by rw [ht]; decide) (by rw [ht]; decide) (by rw [ht]; rfl) (by decide) ?_
      refine lv_aload_n hx hb dX11_tenant_74 rfl (lv_at hl 0 rfl) ?_
      refine gfR_X11_117 X I dX11_tenant_75 ?_
      refine lv_iload_n hx hb dX11_tenant_78 rfl (lv_at hl 1 rfl) ?_
      obtain ⟨hin, h⟩ := gd_some h
      refine ialdR X I (kR_26 E) hin dX11_tenant_79 ?_
      exact r_iret X I (Option.some.inj h).symm dX11_tenant_80
    replace h := ite_f h c6
    by_cases c7 : x2 = (3 : Int32)
    · have h := ite_t h c7
      have ht : Int32.toInt x2 = 3 := by rw [c7]; rfl
      refine lv_tableIn (off := 61) (tgt := 81) hx hb dX11_tenant_20 (by rw [ht]; decide) (by rw [ht]; decide) (by rw [ht]; rfl) (by decide) ?_
      refine lv_aload_n hx hb dX11_tenant_81 rfl (lv_at hl 0 rfl) ?_
      refine gfR_X11_120 X I dX11_tenant_82 ?_
      refine lv_iload_n hx hb dX11_tenant_85 rfl (lv_at hl 1 rfl) ?_
      obtain ⟨hin, h⟩ := gd_some h
      refine ialdR X I (kR_27 E) hin dX11_tenant_86 ?_
      exact r_iret X I (Option.some.inj h).symm dX11_tenant_87
    replace h := ite_f h c7
    by_cases c8 : x2 = (4 : Int32)
    · have h := ite_t h c8
      have ht : Int32.toInt x2 = 4 := by rw [c8]; rfl
      refine lv_tableIn (off := 68) (tgt := 88) hx hb dX11_tenant_20 (by rw [ht]; decide) (by rw [ht]; decide) (by rw [ht]; rfl) (by decide) ?_
      refine lv_aload_n hx hb dX11_tenant_88 rfl (lv_at hl 0 rfl) ?_
      refine lv_iload_n hx hb dX11_tenant_89 rfl (lv_at hl 1 rfl) ?_
      obtain ⟨q9, hq9, h⟩ := bd h
      refine r_callVI (V := (vR E)) (k := 0) (As := [.int x1]) (rest := []) X I hl (c_X11_housesOf  hq9) yv_X11_housesOf tw_981 ⟨rfl, rfl, Nat.le_of_ble_eq_true rfl, Nat.le_of_ble_eq_true rfl⟩ (Nat.le_of_ble_eq_true rfl) rfl rfl rfl rfl (Nat.le_of_ble_eq_true rfl) dX11_tenant_90 (fun H locs I => ?_)
      exact r_iret X I (Option.some.inj h).symm dX11_tenant_93
    replace h := ite_f h c8
    by_cases c10 : x2 = (5 : Int32)
    · have h := ite_t h c10
      have ht : Int32.toInt x2 = 5 := by rw [c10]; rfl
      refine lv_tableIn (off := 74) (tgt := 94) hx hb dX11_tenant_20 (by rw [ht]; decide) (by rw [ht]; decide) (by rw [ht]; rfl) (by decide) ?_
      refine lv_aload_n hx hb dX11_tenant_94 rfl (lv_at hl 0 rfl) ?_
      refine gfR_X11_72 X I dX11_tenant_95 ?_
      refine lv_iload_n hx hb dX11_tenant_98 rfl (lv_at hl 1 rfl) ?_
      obtain ⟨hin, h⟩ := gd_some h
      refine ialdR X I (kR_11 E) hin dX11_tenant_99 ?_
      exact r_iret X I (Option.some.inj h).symm dX11_tenant_100
    replace h := ite_f h c10
    have kd : W p l e rm_X11_tenant s m args below meth c H locs 0 0 (MQ below (QI (vR E) A q) args s 0 0 A) (F0 m 101 ls []) := by
      refine lv_aload_n hx hb dX11_tenant_101 rfl (lv_at hl 0 rfl) ?_
      refine lv_iconst (v := 1) hx hb dX11_tenant_102 (by decide) ?_
      obtain ⟨q11, hq11, h⟩ := bd h
      refine r_callVI (V := (vR E)) (k := 0) (As := [.int (1 : Int32)]) (rest := []) X I hl (c_X11_fail  hq11) yv_X11_fail tw_957 ⟨rfl, rfl, Nat.le_of_ble_eq_true rfl, Nat.le_of_ble_eq_true rfl⟩ (Nat.le_of_ble_eq_true rfl) rfl rfl rfl rfl (Nat.le_of_ble_eq_true rfl) dX11_tenant_103 (fun H locs I => ?_)
      exact r_iret X I (Option.some.inj h).symm dX11_tenant_106
    have tc4 := lv_neT (a := 0) c4 (by decide)
    have tc5 := lv_neT (a := 1) c5 (by decide)
    have tc6 := lv_neT (a := 2) c6 (by decide)
    have tc7 := lv_neT (a := 3) c7 (by decide)
    have tc8 := lv_neT (a := 4) c8 (by decide)
    have tc10 := lv_neT (a := 5) c10 (by decide)
    exact lv_tableOut (tgt := 101) hx hb dX11_tenant_20 (by omega) (by decide) kd
  · have h := ite_t h c3
    refine lv_aload_n hx hb dX11_tenant_13 rfl (lv_at hl 0 rfl) ?_
    refine lv_iconst (v := 1) hx hb dX11_tenant_14 (by decide) ?_
    obtain ⟨q12, hq12, h⟩ := bd h
    refine r_callVI (V := (vR E)) (k := 0) (As := [.int (1 : Int32)]) (rest := []) X I hl (c_X11_fail  hq12) yv_X11_fail tw_957 ⟨rfl, rfl, Nat.le_of_ble_eq_true rfl, Nat.le_of_ble_eq_true rfl⟩ (Nat.le_of_ble_eq_true rfl) rfl rfl rfl rfl (Nat.le_of_ble_eq_true rfl) dX11_tenant_15 (fun H locs I => ?_)
    exact r_iret X I (Option.some.inj h).symm dX11_tenant_18
theorem c_X11_tenant {l : Launch} {E : RE} {σ : Mem} {x1 : Int32} {x2 : Int32} {q : Int32 × Mem} (h : m_X11_tenant σ x1 x2 = some q) : CI l (vR E) yX11_tenant (.code yX11_tenant cX11_tenant 3 (some .int) :: GG) rm_X11_tenant [.ref (ra E 0), .int x1, .int x2] σ q :=
  mk_CI (by decide +kernel) (Nat.le_of_ble_eq_true rfl) (fun p e s m args below meth c A ls X I hl => w_X11_tenant_0 X  σ x1 x2 h s.heap [] ls I (lv_sub hl [0, 1, 2] rfl))

def rm_X11_refuse : Room := { frames := 1, cells := 0, slots := 0, locals := 64 }
def m_X11_refuse (σ : Mem) (x1 : Int32) : Option (Int32 × Mem) := (gd x1 3 (gd x1 3 (lt (ms σ 18 (Int32.toNatClampNeg x1) (((σ 18 (Int32.toNatClampNeg x1)) + (1 : Int32)))) fun σ1 => (some ((-1 : Int32), σ1)))))
set_option maxHeartbeats 4000000 in
set_option maxRecDepth 100000 in
theorem w_X11_refuse_0 {p : Program} {l : Launch} {e : Env} {s : State} {m : MethodId} {args : Array Value} {below : List Frame} {meth : Method} {c : Code} {A : Nat → Prop} {E : RE} {q : Int32 × Mem} (X : CX p s m meth c args cX11_refuse 2 RX11 (some .int)) : ∀ (σ : Mem) (x1 : Int32) , m_X11_refuse σ x1 = some q → ∀ (H : Heap) (locs : List Loc) (ls : Array Slot), WI (vR E) A s H locs σ → lv_has ls 2 [(0, .ref (ra E 0)), (1, .int x1)] → W p l e rm_X11_refuse s m args below meth c H locs 0 0 (MQ below (QI (vR E) A q) args s 0 0 A) (F0 m 0 ls []) := by
  have hx := X.1
  have hb := X.2.1
  intro σ x1 h H locs ls I hl
  unfold m_X11_refuse at h
  refine lv_aload_n hx hb dX11_refuse_0 rfl (lv_at hl 0 rfl) ?_
  refine gfR_X11_92 X I dX11_refuse_1 ?_
  refine lv_iload_n hx hb dX11_refuse_4 rfl (lv_at hl 1 rfl) ?_
  refine lv_dup2_11 hx hb dX11_refuse_5 rfl rfl ?_
  obtain ⟨hin, h⟩ := gd_some h
  refine ialdR X I (kR_18 E) hin dX11_refuse_6 ?_
  refine lv_iconst (v := 1) hx hb dX11_refuse_7 (by decide) ?_
  refine lv_iadd hx hb dX11_refuse_8 ?_
  obtain ⟨hin, h⟩ := gd_some h
  refine iastR X I (kR_18 E) hin dX11_refuse_9 (fun H locs I => ?_)
  obtain ⟨σ1, eσ1, h⟩ := lt_e h
  replace I := wi_nm eσ1 I
  refine lv_iconst (v := -1) hx hb dX11_refuse_10 (by decide) ?_
  exact r_iret X I (Option.some.inj h).symm dX11_refuse_11
theorem c_X11_refuse {l : Launch} {E : RE} {σ : Mem} {x1 : Int32} {q : Int32 × Mem} (h : m_X11_refuse σ x1 = some q) : CI l (vR E) yX11_refuse (.code yX11_refuse cX11_refuse 2 (some .int) :: GG) rm_X11_refuse [.ref (ra E 0), .int x1] σ q :=
  mk_CI (by decide +kernel) (Nat.le_of_ble_eq_true rfl) (fun p e s m args below meth c A ls X I hl => w_X11_refuse_0 X  σ x1 h s.heap [] ls I (lv_sub hl [0, 1] rfl))

def rm_X11_keep : Room := { frames := 2, cells := 0, slots := 0, locals := 88 }
def f_X11_keep_12 : Nat → Mem → Int32 → Option (Mem)
  | 0, _, _ => none
  | n + 1, σ, x1 => (if (2560 : Int32) ≤ x1 then (lt (ms σ 0 44 ((σ 0 44) - (1 : Int32))) fun σ2 => ((m_X11_pack 28 2560 σ2 ((64 : Int32) * (σ2 0 44))).bind fun q3 => (lt (ms q3 0 44 ((q3 0 44) + (1 : Int32))) fun σ4 => (some σ4)))) else (gd x1 2560 (gd (x1 - (64 : Int32)) 2560 (lt (ms σ 28 (Int32.toNatClampNeg (x1 - (64 : Int32))) ((σ 28 (Int32.toNatClampNeg x1)))) fun σ5 => f_X11_keep_12 n σ5 (x1 + 1)))))
def m_X11_keep (σ : Mem) : Option (Mem) := (if (σ 0 44) = (40 : Int32) then (f_X11_keep_12 KF σ (64 : Int32)) else ((m_X11_pack 28 2560 σ ((64 : Int32) * (σ 0 44))).bind fun q2 => (lt (ms q2 0 44 ((q2 0 44) + (1 : Int32))) fun σ3 => (some σ3))))
set_option maxHeartbeats 4000000 in
set_option maxRecDepth 100000 in
theorem w_X11_keep_12 {p : Program} {l : Launch} {e : Env} {s : State} {m : MethodId} {args : Array Value} {below : List Frame} {meth : Method} {c : Code} {A : Nat → Prop} {E : RE} {q : Mem} (X : CX p s m meth c args cX11_keep 2 RX11 none) : ∀ (n : Nat), ∀ (σ : Mem) (x1 : Int32) , f_X11_keep_12 n σ x1 = some q → ∀ (H : Heap) (locs : List Loc) (ls : Array Slot), WI (vR E) A s H locs σ → lv_has ls 2 [(0, .ref (ra E 0)), (1, .int x1)] → W p l e rm_X11_keep s m args below meth c H locs 0 0 (MQ below (QV (vR E) A q) args s 0 0 A) (F0 m 12 ls []) := by
  have hx := X.1
  have hb := X.2.1
  intro n
  induction n with
  | zero =>
    intro σ x1 h
    cases h
  | succ n ih =>
    intro σ x1 h H locs ls I hl
    rw [f_X11_keep_12] at h
    refine lv_iload_n hx hb dX11_keep_12 rfl (lv_at hl 1 rfl) ?_
    refine lv_aload_n hx hb dX11_keep_13 rfl (lv_at hl 0 rfl) ?_
    refine gfR_X11_122 X I dX11_keep_14 ?_
    refine alenIR X I (kR_28 E) (v := 2560) rfl dX11_keep_17 ?_
    refine lv_icmp_ge (tgt := 42) hx hb dX11_keep_18 (by decide) (fun c1 => ?_) (fun c1 => ?_)
    · have h := ite_t h c1
      refine lv_aload_n hx hb dX11_keep_42 rfl (lv_at hl 0 rfl) ?_
      refine lv_dup hx hb dX11_keep_43 rfl ?_
      refine gfR_X11_350 X I dX11_keep_44 ?_
      refine lv_iconst (v := 1) hx hb dX11_keep_47 (by decide) ?_
      refine lv_isub hx hb dX11_keep_48 ?_
      refine pfR_X11_350 X I  dX11_keep_49 (fun H locs I => ?_)
      obtain ⟨σ2, eσ2, h⟩ := lt_e h
      replace I := wi_nm eσ2 I
      refine lv_aload_n hx hb dX11_keep_52 rfl (lv_at hl 0 rfl) ?_
      refine lv_aload_n hx hb dX11_keep_53 rfl (lv_at hl 0 rfl) ?_
      refine gfR_X11_122 X I dX11_keep_54 ?_
      refine lv_bipush (v := 64) hx hb dX11_keep_57 (by decide) ?_
      refine lv_aload_n hx hb dX11_keep_59 rfl (lv_at hl 0 rfl) ?_
      refine gfR_X11_350 X I dX11_keep_60 ?_
      refine lv_imul hx hb dX11_keep_63 ?_
      obtain ⟨q3, hq3, h⟩ := bd h
      refine r_callVV (V := (vR E)) (k := 0) (As := [.ref (ra E 28), .int ((64 : Int32) * (σ2 0 44))]) (rest := []) X I hl (c_X11_pack (kR_28 E) hq3) yv_X11_pack tw_1067 ⟨rfl, rfl, Nat.le_of_ble_eq_true rfl, Nat.le_of_ble_eq_true rfl⟩ (Nat.le_of_ble_eq_true rfl) rfl rfl rfl rfl (Nat.le_of_ble_eq_true rfl) dX11_keep_64 (fun H locs I => ?_)
      refine lv_aload_n hx hb dX11_keep_67 rfl (lv_at hl 0 rfl) ?_
      refine lv_dup hx hb dX11_keep_68 rfl ?_
      refine gfR_X11_350 X I dX11_keep_69 ?_
      refine lv_iconst (v := 1) hx hb dX11_keep_72 (by decide) ?_
      refine lv_iadd hx hb dX11_keep_73 ?_
      refine pfR_X11_350 X I  dX11_keep_74 (fun H locs I => ?_)
      obtain ⟨σ4, eσ4, h⟩ := lt_e h
      replace I := wi_nm eσ4 I
      exact r_vret X I (Option.some.inj h).symm dX11_keep_77
    · have h := ite_f h c1
      refine lv_aload_n hx hb dX11_keep_21 rfl (lv_at hl 0 rfl) ?_
      refine gfR_X11_122 X I dX11_keep_22 ?_
      refine lv_iload_n hx hb dX11_keep_25 rfl (lv_at hl 1 rfl) ?_
      refine lv_bipush (v := 64) hx hb dX11_keep_26 (by decide) ?_
      refine lv_isub hx hb dX11_keep_28 ?_
      refine lv_aload_n hx hb dX11_keep_29 rfl (lv_at hl 0 rfl) ?_
      refine gfR_X11_122 X I dX11_keep_30 ?_
      refine lv_iload_n hx hb dX11_keep_33 rfl (lv_at hl 1 rfl) ?_
      obtain ⟨hin, h⟩ := gd_some h
      refine ialdR X I (kR_28 E) hin dX11_keep_34 ?_
      obtain ⟨hin, h⟩ := gd_some h
      refine iastR X I (kR_28 E) hin dX11_keep_35 (fun H locs I => ?_)
      obtain ⟨σ5, eσ5, h⟩ := lt_e h
      replace I := wi_nm eσ5 I
      refine lv_iinc (v := (x1 + 1)) (lv' := [(1, .int (x1 + 1)), (0, .ref (ra E 0))]) hx hb dX11_keep_36 hl (k := 1) rfl rfl (by decide) rfl (fun ls hl => ?_)
      refine lv_goto (tgt := 12) hx hb dX11_keep_39 (by decide) ?_
      exact ih σ5 (x1 + 1) h H locs ls I (lv_sub hl [1, 0] rfl)
set_option maxHeartbeats 4000000 in
set_option maxRecDepth 100000 in
theorem w_X11_keep_0 {p : Program} {l : Launch} {e : Env} {s : State} {m : MethodId} {args : Array Value} {below : List Frame} {meth : Method} {c : Code} {A : Nat → Prop} {E : RE} {q : Mem} (X : CX p s m meth c args cX11_keep 2 RX11 none) : ∀ (σ : Mem)  , m_X11_keep σ = some q → ∀ (H : Heap) (locs : List Loc) (ls : Array Slot), WI (vR E) A s H locs σ → lv_has ls 2 [(0, .ref (ra E 0))] → W p l e rm_X11_keep s m args below meth c H locs 0 0 (MQ below (QV (vR E) A q) args s 0 0 A) (F0 m 0 ls []) := by
  have hx := X.1
  have hb := X.2.1
  intro σ  h H locs ls I hl
  unfold m_X11_keep at h
  refine lv_aload_n hx hb dX11_keep_0 rfl (lv_at hl 0 rfl) ?_
  refine gfR_X11_350 X I dX11_keep_1 ?_
  refine lv_bipush (v := 40) hx hb dX11_keep_4 (by decide) ?_
  refine lv_icmp_ne (tgt := 52) hx hb dX11_keep_6 (by decide) (fun c1 => ?_) (fun c1 => ?_)
  · have h := ite_f h c1
    refine lv_aload_n hx hb dX11_keep_52 rfl (lv_at hl 0 rfl) ?_
    refine lv_aload_n hx hb dX11_keep_53 rfl (lv_at hl 0 rfl) ?_
    refine gfR_X11_122 X I dX11_keep_54 ?_
    refine lv_bipush (v := 64) hx hb dX11_keep_57 (by decide) ?_
    refine lv_aload_n hx hb dX11_keep_59 rfl (lv_at hl 0 rfl) ?_
    refine gfR_X11_350 X I dX11_keep_60 ?_
    refine lv_imul hx hb dX11_keep_63 ?_
    obtain ⟨q2, hq2, h⟩ := bd h
    refine r_callVV (V := (vR E)) (k := 0) (As := [.ref (ra E 28), .int ((64 : Int32) * (σ 0 44))]) (rest := []) X I hl (c_X11_pack (kR_28 E) hq2) yv_X11_pack tw_1067 ⟨rfl, rfl, Nat.le_of_ble_eq_true rfl, Nat.le_of_ble_eq_true rfl⟩ (Nat.le_of_ble_eq_true rfl) rfl rfl rfl rfl (Nat.le_of_ble_eq_true rfl) dX11_keep_64 (fun H locs I => ?_)
    refine lv_aload_n hx hb dX11_keep_67 rfl (lv_at hl 0 rfl) ?_
    refine lv_dup hx hb dX11_keep_68 rfl ?_
    refine gfR_X11_350 X I dX11_keep_69 ?_
    refine lv_iconst (v := 1) hx hb dX11_keep_72 (by decide) ?_
    refine lv_iadd hx hb dX11_keep_73 ?_
    refine pfR_X11_350 X I  dX11_keep_74 (fun H locs I => ?_)
    obtain ⟨σ3, eσ3, h⟩ := lt_e h
    replace I := wi_nm eσ3 I
    exact r_vret X I (Option.some.inj h).symm dX11_keep_77
  · have h := ite_t h c1
    refine lv_bipush (v := 64) hx hb dX11_keep_9 (by decide) ?_
    refine lv_istore_n (lv' := [(1, .int (64 : Int32)), (0, .ref (ra E 0))]) hx hb dX11_keep_11 rfl hl (by decide) rfl (fun ls hl => ?_)
    exact w_X11_keep_12 X   KF σ (64 : Int32) h H locs ls I (lv_sub hl [1, 0] rfl)
theorem c_X11_keep {l : Launch} {E : RE} {σ : Mem} {q : Mem} (h : m_X11_keep σ = some q) : CV l (vR E) yX11_keep (.code yX11_keep cX11_keep 2 none :: GG) rm_X11_keep [.ref (ra E 0)] σ q :=
  mk_CV (by decide +kernel) (Nat.le_of_ble_eq_true rfl) (fun p e s m args below meth c A ls X I hl => w_X11_keep_0 X  σ  h s.heap [] ls I (lv_sub hl [0] rfl))

def rm_X11_quarters : Room := { frames := 7, cells := 0, slots := 0, locals := 206 }
def m_X11_quarters (σ : Mem) (x1 : Int32) : Option (Int32 × Mem) := (lt (ms σ 0 5 (0 : Int32)) fun σ1 => ((m_X11_isIn σ1 (Int32.toInt64 x1) (1 : Int64) (20 : Int64)).bind fun q2 => (if q2 = (0 : Int32) then ((m_X11_refuse σ1 (1 : Int32)).bind fun q4 => (some (q4.1, q4.2))) else (if ((σ1 0 41) + x1) ≤ (999 : Int32) then ((m_X11_keep σ1).bind fun q6 => ((m_X11_goOn q6 x1).bind fun q7 => (some ((q7 0 41), q7)))) else ((m_X11_refuse σ1 (1 : Int32)).bind fun q8 => (some (q8.1, q8.2)))))))
set_option maxHeartbeats 4000000 in
set_option maxRecDepth 100000 in
theorem w_X11_quarters_0 {p : Program} {l : Launch} {e : Env} {s : State} {m : MethodId} {args : Array Value} {below : List Frame} {meth : Method} {c : Code} {A : Nat → Prop} {E : RE} {q : Int32 × Mem} (X : CX p s m meth c args cX11_quarters 2 RX11 (some .int)) : ∀ (σ : Mem) (x1 : Int32) , m_X11_quarters σ x1 = some q → ∀ (H : Heap) (locs : List Loc) (ls : Array Slot), WI (vR E) A s H locs σ → lv_has ls 2 [(0, .ref (ra E 0)), (1, .int x1)] → W p l e rm_X11_quarters s m args below meth c H locs 0 0 (MQ below (QI (vR E) A q) args s 0 0 A) (F0 m 0 ls []) := by
  have hx := X.1
  have hb := X.2.1
  intro σ x1 h H locs ls I hl
  unfold m_X11_quarters at h
  refine lv_aload_n hx hb dX11_quarters_0 rfl (lv_at hl 0 rfl) ?_
  refine lv_iconst (v := 0) hx hb dX11_quarters_1 (by decide) ?_
  refine pfR_X11_195 X I  dX11_quarters_2 (fun H locs I => ?_)
  obtain ⟨σ1, eσ1, h⟩ := lt_e h
  replace I := wi_nm eσ1 I
  refine lv_iload_n hx hb dX11_quarters_5 rfl (lv_at hl 1 rfl) ?_
  refine lv_i2l hx hb dX11_quarters_6 rfl ?_
  refine lv_lconst (v := 1) hx hb dX11_quarters_7 (by decide) ?_
  refine lv_ldc2 hx hb X.2.2.2.1 (X.2.2.2.2.1 _ tw_1072) dX11_quarters_8 ?_
  obtain ⟨q2, hq2, h⟩ := bd h
  refine r_callSI (V := (vR E)) (As := [.long (Int32.toInt64 x1), .long (1 : Int64), .long (20 : Int64)]) (rest := []) X I hl (c_X11_isIn  hq2) ys_X11_isIn tw_801 ⟨rfl, rfl, Nat.le_of_ble_eq_true rfl, Nat.le_of_ble_eq_true rfl⟩ rfl rfl (Nat.le_of_ble_eq_true rfl) dX11_quarters_11 (fun H locs I => ?_)
  refine lv_if_eq (tgt := 29) hx hb dX11_quarters_14 (by decide) (fun c3 => ?_) (fun c3 => ?_)
  · have h := ite_t h c3
    refine lv_aload_n hx hb dX11_quarters_29 rfl (lv_at hl 0 rfl) ?_
    refine lv_iconst (v := 1) hx hb dX11_quarters_30 (by decide) ?_
    obtain ⟨q4, hq4, h⟩ := bd h
    refine r_callVI (V := (vR E)) (k := 0) (As := [.int (1 : Int32)]) (rest := []) X I hl (c_X11_refuse  hq4) yv_X11_refuse tw_1073 ⟨rfl, rfl, Nat.le_of_ble_eq_true rfl, Nat.le_of_ble_eq_true rfl⟩ (Nat.le_of_ble_eq_true rfl) rfl rfl rfl rfl (Nat.le_of_ble_eq_true rfl) dX11_quarters_31 (fun H locs I => ?_)
    exact r_iret X I (Option.some.inj h).symm dX11_quarters_34
  · have h := ite_f h c3
    refine lv_aload_n hx hb dX11_quarters_17 rfl (lv_at hl 0 rfl) ?_
    refine gfR_X11_342 X I dX11_quarters_18 ?_
    refine lv_iload_n hx hb dX11_quarters_21 rfl (lv_at hl 1 rfl) ?_
    refine lv_iadd hx hb dX11_quarters_22 ?_
    refine lv_sipush (v := 999) hx hb dX11_quarters_23 (by decide) ?_
    refine lv_icmp_le (tgt := 35) hx hb dX11_quarters_26 (by decide) (fun c5 => ?_) (fun c5 => ?_)
    · have h := ite_t h c5
      refine lv_aload_n hx hb dX11_quarters_35 rfl (lv_at hl 0 rfl) ?_
      obtain ⟨q6, hq6, h⟩ := bd h
      refine r_callVV (V := (vR E)) (k := 0) (As := []) (rest := []) X I hl (c_X11_keep  hq6) yv_X11_keep tw_1078 ⟨rfl, rfl, Nat.le_of_ble_eq_true rfl, Nat.le_of_ble_eq_true rfl⟩ (Nat.le_of_ble_eq_true rfl) rfl rfl rfl rfl (Nat.le_of_ble_eq_true rfl) dX11_quarters_36 (fun H locs I => ?_)
      refine lv_aload_n hx hb dX11_quarters_39 rfl (lv_at hl 0 rfl) ?_
      refine lv_iload_n hx hb dX11_quarters_40 rfl (lv_at hl 1 rfl) ?_
      obtain ⟨q7, hq7, h⟩ := bd h
      refine r_callVV (V := (vR E)) (k := 0) (As := [.int x1]) (rest := []) X I hl (c_X11_goOn  hq7) yv_X11_goOn tw_1083 ⟨rfl, rfl, Nat.le_of_ble_eq_true rfl, Nat.le_of_ble_eq_true rfl⟩ (Nat.le_of_ble_eq_true rfl) rfl rfl rfl rfl (Nat.le_of_ble_eq_true rfl) dX11_quarters_41 (fun H locs I => ?_)
      refine lv_aload_n hx hb dX11_quarters_44 rfl (lv_at hl 0 rfl) ?_
      refine gfR_X11_342 X I dX11_quarters_45 ?_
      exact r_iret X I (Option.some.inj h).symm dX11_quarters_48
    · have h := ite_f h c5
      refine lv_aload_n hx hb dX11_quarters_29 rfl (lv_at hl 0 rfl) ?_
      refine lv_iconst (v := 1) hx hb dX11_quarters_30 (by decide) ?_
      obtain ⟨q8, hq8, h⟩ := bd h
      refine r_callVI (V := (vR E)) (k := 0) (As := [.int (1 : Int32)]) (rest := []) X I hl (c_X11_refuse  hq8) yv_X11_refuse tw_1073 ⟨rfl, rfl, Nat.le_of_ble_eq_true rfl, Nat.le_of_ble_eq_true rfl⟩ (Nat.le_of_ble_eq_true rfl) rfl rfl rfl rfl (Nat.le_of_ble_eq_true rfl) dX11_quarters_31 (fun H locs I => ?_)
      exact r_iret X I (Option.some.inj h).symm dX11_quarters_34
theorem c_X11_quarters {l : Launch} {E : RE} {σ : Mem} {x1 : Int32} {q : Int32 × Mem} (h : m_X11_quarters σ x1 = some q) : CI l (vR E) yX11_quarters (.code yX11_quarters cX11_quarters 2 (some .int) :: GG) rm_X11_quarters [.ref (ra E 0), .int x1] σ q :=
  mk_CI (by decide +kernel) (Nat.le_of_ble_eq_true rfl) (fun p e s m args below meth c A ls X I hl => w_X11_quarters_0 X  σ x1 h s.heap [] ls I (lv_sub hl [0, 1] rfl))

def rm_X11_buy : Room := { frames := 3, cells := 0, slots := 0, locals := 110 }
def m_X11_buy (σ : Mem) (x1 : Int32) (x2 : Int32) : Option (Int32 × Mem) := (lt (ms σ 0 5 (0 : Int32)) fun σ1 => ((m_X11_isTenant σ1 x1).bind fun q2 => (if q2 = (0 : Int32) then ((m_X11_fail σ1 (1 : Int32)).bind fun q12 => (some (q12.1, q12.2))) else ((m_X11_isIn σ1 (Int32.toInt64 x2) (1 : Int64) (9 : Int64)).bind fun q4 => (if q4 = (0 : Int32) then ((m_X11_refuse σ1 (1 : Int32)).bind fun q6 => (some (q6.1, q6.2))) else (gd x1 7 (if ((3 : Int32) * x2) ≤ (σ1 27 (Int32.toNatClampNeg x1)) then ((m_X11_keep σ1).bind fun q8 => (gd x1 7 (gd x1 7 (lt (ms q8 27 (Int32.toNatClampNeg x1) (((q8 27 (Int32.toNatClampNeg x1)) - ((3 : Int32) * x2)))) fun σ9 => (gd x1 7 (gd x1 7 (lt (ms σ9 25 (Int32.toNatClampNeg x1) ((imin (20 : Int32) ((σ9 25 (Int32.toNatClampNeg x1)) + x2)))) fun σ10 => (gd x1 7 (some ((σ10 25 (Int32.toNatClampNeg x1)), σ10)))))))))) else ((m_X11_refuse σ1 (1 : Int32)).bind fun q11 => (some (q11.1, q11.2))))))))))
set_option maxHeartbeats 4000000 in
set_option maxRecDepth 100000 in
theorem w_X11_buy_0 {p : Program} {l : Launch} {e : Env} {s : State} {m : MethodId} {args : Array Value} {below : List Frame} {meth : Method} {c : Code} {A : Nat → Prop} {E : RE} {q : Int32 × Mem} (X : CX p s m meth c args cX11_buy 3 RX11 (some .int)) : ∀ (σ : Mem) (x1 : Int32) (x2 : Int32) , m_X11_buy σ x1 x2 = some q → ∀ (H : Heap) (locs : List Loc) (ls : Array Slot), WI (vR E) A s H locs σ → lv_has ls 3 [(0, .ref (ra E 0)), (1, .int x1), (2, .int x2)] → W p l e rm_X11_buy s m args below meth c H locs 0 0 (MQ below (QI (vR E) A q) args s 0 0 A) (F0 m 0 ls []) := by
  have hx := X.1
  have hb := X.2.1
  intro σ x1 x2 h H locs ls I hl
  unfold m_X11_buy at h
  refine lv_aload_n hx hb dX11_buy_0 rfl (lv_at hl 0 rfl) ?_
  refine lv_iconst (v := 0) hx hb dX11_buy_1 (by decide) ?_
  refine pfR_X11_195 X I  dX11_buy_2 (fun H locs I => ?_)
  obtain ⟨σ1, eσ1, h⟩ := lt_e h
  replace I := wi_nm eσ1 I
  refine lv_aload_n hx hb dX11_buy_5 rfl (lv_at hl 0 rfl) ?_
  refine lv_iload_n hx hb dX11_buy_6 rfl (lv_at hl 1 rfl) ?_
  obtain ⟨q2, hq2, h⟩ := bd h
  refine r_callVI (V := (vR E)) (k := 0) (As := [.int x1]) (rest := []) X I hl (c_X11_isTenant  hq2) yv_X11_isTenant tw_1061 ⟨rfl, rfl, Nat.le_of_ble_eq_true rfl, Nat.le_of_ble_eq_true rfl⟩ (Nat.le_of_ble_eq_true rfl) rfl rfl rfl rfl (Nat.le_of_ble_eq_true rfl) dX11_buy_7 (fun H locs I => ?_)
  refine lv_if_ne (tgt := 19) hx hb dX11_buy_10 (by decide) (fun c3 => ?_) (fun c3 => ?_)
  · have h := ite_f h c3
    refine lv_iload_n hx hb dX11_buy_19 rfl (lv_at hl 2 rfl) ?_
    refine lv_i2l hx hb dX11_buy_20 rfl ?_
    refine lv_lconst (v := 1) hx hb dX11_buy_21 (by decide) ?_
    refine lv_ldc2 hx hb X.2.2.2.1 (X.2.2.2.2.1 _ tw_1088) dX11_buy_22 ?_
    obtain ⟨q4, hq4, h⟩ := bd h
    refine r_callSI (V := (vR E)) (As := [.long (Int32.toInt64 x2), .long (1 : Int64), .long (9 : Int64)]) (rest := []) X I hl (c_X11_isIn  hq4) ys_X11_isIn tw_801 ⟨rfl, rfl, Nat.le_of_ble_eq_true rfl, Nat.le_of_ble_eq_true rfl⟩ rfl rfl (Nat.le_of_ble_eq_true rfl) dX11_buy_25 (fun H locs I => ?_)
    refine lv_if_eq (tgt := 43) hx hb dX11_buy_28 (by decide) (fun c5 => ?_) (fun c5 => ?_)
    · have h := ite_t h c5
      refine lv_aload_n hx hb dX11_buy_43 rfl (lv_at hl 0 rfl) ?_
      refine lv_iconst (v := 1) hx hb dX11_buy_44 (by decide) ?_
      obtain ⟨q6, hq6, h⟩ := bd h
      refine r_callVI (V := (vR E)) (k := 0) (As := [.int (1 : Int32)]) (rest := []) X I hl (c_X11_refuse  hq6) yv_X11_refuse tw_1073 ⟨rfl, rfl, Nat.le_of_ble_eq_true rfl, Nat.le_of_ble_eq_true rfl⟩ (Nat.le_of_ble_eq_true rfl) rfl rfl rfl rfl (Nat.le_of_ble_eq_true rfl) dX11_buy_45 (fun H locs I => ?_)
      exact r_iret X I (Option.some.inj h).symm dX11_buy_48
    · have h := ite_f h c5
      refine lv_aload_n hx hb dX11_buy_31 rfl (lv_at hl 0 rfl) ?_
      refine gfR_X11_120 X I dX11_buy_32 ?_
      refine lv_iload_n hx hb dX11_buy_35 rfl (lv_at hl 1 rfl) ?_
      obtain ⟨hin, h⟩ := gd_some h
      refine ialdR X I (kR_27 E) hin dX11_buy_36 ?_
      refine lv_iconst (v := 3) hx hb dX11_buy_37 (by decide) ?_
      refine lv_iload_n hx hb dX11_buy_38 rfl (lv_at hl 2 rfl) ?_
      refine lv_imul hx hb dX11_buy_39 ?_
      refine lv_icmp_ge (tgt := 49) hx hb dX11_buy_40 (by decide) (fun c7 => ?_) (fun c7 => ?_)
      · have h := ite_t h c7
        refine lv_aload_n hx hb dX11_buy_49 rfl (lv_at hl 0 rfl) ?_
        obtain ⟨q8, hq8, h⟩ := bd h
        refine r_callVV (V := (vR E)) (k := 0) (As := []) (rest := []) X I hl (c_X11_keep  hq8) yv_X11_keep tw_1078 ⟨rfl, rfl, Nat.le_of_ble_eq_true rfl, Nat.le_of_ble_eq_true rfl⟩ (Nat.le_of_ble_eq_true rfl) rfl rfl rfl rfl (Nat.le_of_ble_eq_true rfl) dX11_buy_50 (fun H locs I => ?_)
        refine lv_aload_n hx hb dX11_buy_53 rfl (lv_at hl 0 rfl) ?_
        refine gfR_X11_120 X I dX11_buy_54 ?_
        refine lv_iload_n hx hb dX11_buy_57 rfl (lv_at hl 1 rfl) ?_
        refine lv_dup2_11 hx hb dX11_buy_58 rfl rfl ?_
        obtain ⟨hin, h⟩ := gd_some h
        refine ialdR X I (kR_27 E) hin dX11_buy_59 ?_
        refine lv_iconst (v := 3) hx hb dX11_buy_60 (by decide) ?_
        refine lv_iload_n hx hb dX11_buy_61 rfl (lv_at hl 2 rfl) ?_
        refine lv_imul hx hb dX11_buy_62 ?_
        refine lv_isub hx hb dX11_buy_63 ?_
        obtain ⟨hin, h⟩ := gd_some h
        refine iastR X I (kR_27 E) hin dX11_buy_64 (fun H locs I => ?_)
        obtain ⟨σ9, eσ9, h⟩ := lt_e h
        replace I := wi_nm eσ9 I
        refine lv_aload_n hx hb dX11_buy_65 rfl (lv_at hl 0 rfl) ?_
        refine gfR_X11_115 X I dX11_buy_66 ?_
        refine lv_iload_n hx hb dX11_buy_69 rfl (lv_at hl 1 rfl) ?_
        refine lv_bipush (v := 20) hx hb dX11_buy_70 (by decide) ?_
        refine lv_aload_n hx hb dX11_buy_72 rfl (lv_at hl 0 rfl) ?_
        refine gfR_X11_115 X I dX11_buy_73 ?_
        refine lv_iload_n hx hb dX11_buy_76 rfl (lv_at hl 1 rfl) ?_
        obtain ⟨hin, h⟩ := gd_some h
        refine ialdR X I (kR_25 E) hin dX11_buy_77 ?_
        refine lv_iload_n hx hb dX11_buy_78 rfl (lv_at hl 2 rfl) ?_
        refine lv_iadd hx hb dX11_buy_79 ?_
        refine r_min X hl tw_831 ⟨Nat.le_of_ble_eq_true rfl, Nat.le_of_ble_eq_true rfl⟩ dX11_buy_80 ?_
        obtain ⟨hin, h⟩ := gd_some h
        refine iastR X I (kR_25 E) hin dX11_buy_83 (fun H locs I => ?_)
        obtain ⟨σ10, eσ10, h⟩ := lt_e h
        replace I := wi_nm eσ10 I
        refine lv_aload_n hx hb dX11_buy_84 rfl (lv_at hl 0 rfl) ?_
        refine gfR_X11_115 X I dX11_buy_85 ?_
        refine lv_iload_n hx hb dX11_buy_88 rfl (lv_at hl 1 rfl) ?_
        obtain ⟨hin, h⟩ := gd_some h
        refine ialdR X I (kR_25 E) hin dX11_buy_89 ?_
        exact r_iret X I (Option.some.inj h).symm dX11_buy_90
      · have h := ite_f h c7
        refine lv_aload_n hx hb dX11_buy_43 rfl (lv_at hl 0 rfl) ?_
        refine lv_iconst (v := 1) hx hb dX11_buy_44 (by decide) ?_
        obtain ⟨q11, hq11, h⟩ := bd h
        refine r_callVI (V := (vR E)) (k := 0) (As := [.int (1 : Int32)]) (rest := []) X I hl (c_X11_refuse  hq11) yv_X11_refuse tw_1073 ⟨rfl, rfl, Nat.le_of_ble_eq_true rfl, Nat.le_of_ble_eq_true rfl⟩ (Nat.le_of_ble_eq_true rfl) rfl rfl rfl rfl (Nat.le_of_ble_eq_true rfl) dX11_buy_45 (fun H locs I => ?_)
        exact r_iret X I (Option.some.inj h).symm dX11_buy_48
  · have h := ite_t h c3
    refine lv_aload_n hx hb dX11_buy_13 rfl (lv_at hl 0 rfl) ?_
    refine lv_iconst (v := 1) hx hb dX11_buy_14 (by decide) ?_
    obtain ⟨q12, hq12, h⟩ := bd h
    refine r_callVI (V := (vR E)) (k := 0) (As := [.int (1 : Int32)]) (rest := []) X I hl (c_X11_fail  hq12) yv_X11_fail tw_957 ⟨rfl, rfl, Nat.le_of_ble_eq_true rfl, Nat.le_of_ble_eq_true rfl⟩ (Nat.le_of_ble_eq_true rfl) rfl rfl rfl rfl (Nat.le_of_ble_eq_true rfl) dX11_buy_15 (fun H locs I => ?_)
    exact r_iret X I (Option.some.inj h).symm dX11_buy_18
theorem c_X11_buy {l : Launch} {E : RE} {σ : Mem} {x1 : Int32} {x2 : Int32} {q : Int32 × Mem} (h : m_X11_buy σ x1 x2 = some q) : CI l (vR E) yX11_buy (.code yX11_buy cX11_buy 3 (some .int) :: GG) rm_X11_buy [.ref (ra E 0), .int x1, .int x2] σ q :=
  mk_CI (by decide +kernel) (Nat.le_of_ble_eq_true rfl) (fun p e s m args below meth c A ls X I hl => w_X11_buy_0 X  σ x1 x2 h s.heap [] ls I (lv_sub hl [0, 1, 2] rfl))

def rm_X11_cats : Room := { frames := 3, cells := 0, slots := 0, locals := 110 }
def m_X11_cats (σ : Mem) (x1 : Int32) (x2 : Int32) : Option (Int32 × Mem) := (lt (ms σ 0 5 (0 : Int32)) fun σ1 => ((m_X11_isTenant σ1 x1).bind fun q2 => (if q2 = (0 : Int32) then ((m_X11_fail σ1 (1 : Int32)).bind fun q10 => (some (q10.1, q10.2))) else ((m_X11_isIn σ1 (Int32.toInt64 x2) (0 : Int64) (3 : Int64)).bind fun q4 => (if q4 = (0 : Int32) then ((m_X11_refuse σ1 (1 : Int32)).bind fun q9 => (some (q9.1, q9.2))) else ((m_X11_keep σ1).bind fun q6 => (gd x1 7 (lt (q6 26 (Int32.toNatClampNeg x1)) fun y7 => (gd x1 7 (lt (ms q6 26 (Int32.toNatClampNeg x1) (x2)) fun σ8 => (some (y7, σ8))))))))))))
set_option maxHeartbeats 4000000 in
set_option maxRecDepth 100000 in
theorem w_X11_cats_0 {p : Program} {l : Launch} {e : Env} {s : State} {m : MethodId} {args : Array Value} {below : List Frame} {meth : Method} {c : Code} {A : Nat → Prop} {E : RE} {q : Int32 × Mem} (X : CX p s m meth c args cX11_cats 4 RX11 (some .int)) : ∀ (σ : Mem) (x1 : Int32) (x2 : Int32) , m_X11_cats σ x1 x2 = some q → ∀ (H : Heap) (locs : List Loc) (ls : Array Slot), WI (vR E) A s H locs σ → lv_has ls 4 [(0, .ref (ra E 0)), (1, .int x1), (2, .int x2)] → W p l e rm_X11_cats s m args below meth c H locs 0 0 (MQ below (QI (vR E) A q) args s 0 0 A) (F0 m 0 ls []) := by
  have hx := X.1
  have hb := X.2.1
  intro σ x1 x2 h H locs ls I hl
  unfold m_X11_cats at h
  refine lv_aload_n hx hb dX11_cats_0 rfl (lv_at hl 0 rfl) ?_
  refine lv_iconst (v := 0) hx hb dX11_cats_1 (by decide) ?_
  refine pfR_X11_195 X I  dX11_cats_2 (fun H locs I => ?_)
  obtain ⟨σ1, eσ1, h⟩ := lt_e h
  replace I := wi_nm eσ1 I
  refine lv_aload_n hx hb dX11_cats_5 rfl (lv_at hl 0 rfl) ?_
  refine lv_iload_n hx hb dX11_cats_6 rfl (lv_at hl 1 rfl) ?_
  obtain ⟨q2, hq2, h⟩ := bd h
  refine r_callVI (V := (vR E)) (k := 0) (As := [.int x1]) (rest := []) X I hl (c_X11_isTenant  hq2) yv_X11_isTenant tw_1061 ⟨rfl, rfl, Nat.le_of_ble_eq_true rfl, Nat.le_of_ble_eq_true rfl⟩ (Nat.le_of_ble_eq_true rfl) rfl rfl rfl rfl (Nat.le_of_ble_eq_true rfl) dX11_cats_7 (fun H locs I => ?_)
  refine lv_if_ne (tgt := 19) hx hb dX11_cats_10 (by decide) (fun c3 => ?_) (fun c3 => ?_)
  · have h := ite_f h c3
    refine lv_iload_n hx hb dX11_cats_19 rfl (lv_at hl 2 rfl) ?_
    refine lv_i2l hx hb dX11_cats_20 rfl ?_
    refine lv_lconst (v := 0) hx hb dX11_cats_21 (by decide) ?_
    refine lv_ldc2 hx hb X.2.2.2.1 (X.2.2.2.2.1 _ tw_1089) dX11_cats_22 ?_
    obtain ⟨q4, hq4, h⟩ := bd h
    refine r_callSI (V := (vR E)) (As := [.long (Int32.toInt64 x2), .long (0 : Int64), .long (3 : Int64)]) (rest := []) X I hl (c_X11_isIn  hq4) ys_X11_isIn tw_801 ⟨rfl, rfl, Nat.le_of_ble_eq_true rfl, Nat.le_of_ble_eq_true rfl⟩ rfl rfl (Nat.le_of_ble_eq_true rfl) dX11_cats_25 (fun H locs I => ?_)
    refine lv_if_ne (tgt := 37) hx hb dX11_cats_28 (by decide) (fun c5 => ?_) (fun c5 => ?_)
    · have h := ite_f h c5
      refine lv_aload_n hx hb dX11_cats_37 rfl (lv_at hl 0 rfl) ?_
      obtain ⟨q6, hq6, h⟩ := bd h
      refine r_callVV (V := (vR E)) (k := 0) (As := []) (rest := []) X I hl (c_X11_keep  hq6) yv_X11_keep tw_1078 ⟨rfl, rfl, Nat.le_of_ble_eq_true rfl, Nat.le_of_ble_eq_true rfl⟩ (Nat.le_of_ble_eq_true rfl) rfl rfl rfl rfl (Nat.le_of_ble_eq_true rfl) dX11_cats_38 (fun H locs I => ?_)
      refine lv_aload_n hx hb dX11_cats_41 rfl (lv_at hl 0 rfl) ?_
      refine gfR_X11_117 X I dX11_cats_42 ?_
      refine lv_iload_n hx hb dX11_cats_45 rfl (lv_at hl 1 rfl) ?_
      obtain ⟨hin, h⟩ := gd_some h
      refine ialdR X I (kR_26 E) hin dX11_cats_46 ?_
      obtain ⟨y7, ey7, h⟩ := lt_e h
      refine nm_i ey7 ?_
      refine lv_istore_n (lv' := [(3, .int y7), (0, .ref (ra E 0)), (1, .int x1), (2, .int x2)]) hx hb dX11_cats_47 rfl hl (by decide) rfl (fun ls hl => ?_)
      refine lv_aload_n hx hb dX11_cats_48 rfl (lv_at hl 1 rfl) ?_
      refine gfR_X11_117 X I dX11_cats_49 ?_
      refine lv_iload_n hx hb dX11_cats_52 rfl (lv_at hl 2 rfl) ?_
      refine lv_iload_n hx hb dX11_cats_53 rfl (lv_at hl 3 rfl) ?_
      obtain ⟨hin, h⟩ := gd_some h
      refine iastR X I (kR_26 E) hin dX11_cats_54 (fun H locs I => ?_)
      obtain ⟨σ8, eσ8, h⟩ := lt_e h
      replace I := wi_nm eσ8 I
      refine lv_iload_n hx hb dX11_cats_55 rfl (lv_at hl 0 rfl) ?_
      exact r_iret X I (Option.some.inj h).symm dX11_cats_56
    · have h := ite_t h c5
      refine lv_aload_n hx hb dX11_cats_31 rfl (lv_at hl 0 rfl) ?_
      refine lv_iconst (v := 1) hx hb dX11_cats_32 (by decide) ?_
      obtain ⟨q9, hq9, h⟩ := bd h
      refine r_callVI (V := (vR E)) (k := 0) (As := [.int (1 : Int32)]) (rest := []) X I hl (c_X11_refuse  hq9) yv_X11_refuse tw_1073 ⟨rfl, rfl, Nat.le_of_ble_eq_true rfl, Nat.le_of_ble_eq_true rfl⟩ (Nat.le_of_ble_eq_true rfl) rfl rfl rfl rfl (Nat.le_of_ble_eq_true rfl) dX11_cats_33 (fun H locs I => ?_)
      exact r_iret X I (Option.some.inj h).symm dX11_cats_36
  · have h := ite_t h c3
    refine lv_aload_n hx hb dX11_cats_13 rfl (lv_at hl 0 rfl) ?_
    refine lv_iconst (v := 1) hx hb dX11_cats_14 (by decide) ?_
    obtain ⟨q10, hq10, h⟩ := bd h
    refine r_callVI (V := (vR E)) (k := 0) (As := [.int (1 : Int32)]) (rest := []) X I hl (c_X11_fail  hq10) yv_X11_fail tw_957 ⟨rfl, rfl, Nat.le_of_ble_eq_true rfl, Nat.le_of_ble_eq_true rfl⟩ (Nat.le_of_ble_eq_true rfl) rfl rfl rfl rfl (Nat.le_of_ble_eq_true rfl) dX11_cats_15 (fun H locs I => ?_)
    exact r_iret X I (Option.some.inj h).symm dX11_cats_18
theorem c_X11_cats {l : Launch} {E : RE} {σ : Mem} {x1 : Int32} {x2 : Int32} {q : Int32 × Mem} (h : m_X11_cats σ x1 x2 = some q) : CI l (vR E) yX11_cats (.code yX11_cats cX11_cats 4 (some .int) :: GG) rm_X11_cats [.ref (ra E 0), .int x1, .int x2] σ q :=
  mk_CI (by decide +kernel) (Nat.le_of_ble_eq_true rfl) (fun p e s m args below meth c A ls X I hl => w_X11_cats_0 X  σ x1 x2 h s.heap [] ls I (lv_sub hl [0, 1, 2] rfl))

def rm_X11_lead : Room := { frames := 3, cells := 0, slots := 0, locals := 110 }
def m_X11_lead (σ : Mem) (x1 : Int32) (x2 : Int32) : Option (Int32 × Mem) := (lt (ms σ 0 5 (0 : Int32)) fun σ1 => ((m_X11_isHouse σ1 x1).bind fun q2 => (if q2 = (0 : Int32) then ((m_X11_failing σ1 (1 : Int32)).bind fun q12 => (gz q12.1 (some (q12.1, q12.2)))) else ((m_X11_isOf σ1 (σ1 0 42) x1).bind fun q4 => (if q4 = (0 : Int32) then ((m_X11_isOf σ1 (σ1 0 43) x1).bind fun q7 => (if q7 = x2 then (gd (1 : Int32) 3 (gd (1 : Int32) 3 (lt (ms σ1 18 (Int32.toNatClampNeg (1 : Int32)) (((σ1 18 (Int32.toNatClampNeg (1 : Int32))) + (1 : Int32)))) fun σ11 => (some ((0 : Int32), σ11))))) else ((m_X11_keep σ1).bind fun q9 => (lt (ms q9 0 43 ((q9 0 43) ^^^ ((1 : Int32) <<< (x1 &&& 31)))) fun σ10 => (some ((1 : Int32), σ10)))))) else (gd (1 : Int32) 3 (gd (1 : Int32) 3 (lt (ms σ1 18 (Int32.toNatClampNeg (1 : Int32)) (((σ1 18 (Int32.toNatClampNeg (1 : Int32))) + (1 : Int32)))) fun σ6 => (some ((0 : Int32), σ6))))))))))
set_option maxHeartbeats 4000000 in
set_option maxRecDepth 100000 in
theorem w_X11_lead_0 {p : Program} {l : Launch} {e : Env} {s : State} {m : MethodId} {args : Array Value} {below : List Frame} {meth : Method} {c : Code} {A : Nat → Prop} {E : RE} {q : Int32 × Mem} (X : CX p s m meth c args cX11_lead 3 RX11 (some .boolean)) : ∀ (σ : Mem) (x1 : Int32) (x2 : Int32) , m_X11_lead σ x1 x2 = some q → ∀ (H : Heap) (locs : List Loc) (ls : Array Slot), WI (vR E) A s H locs σ → lv_has ls 3 [(0, .ref (ra E 0)), (1, .int x1), (2, .int x2)] → W p l e rm_X11_lead s m args below meth c H locs 0 0 (MQ below (QI (vR E) A q) args s 0 0 A) (F0 m 0 ls []) := by
  have hx := X.1
  have hb := X.2.1
  intro σ x1 x2 h H locs ls I hl
  unfold m_X11_lead at h
  refine lv_aload_n hx hb dX11_lead_0 rfl (lv_at hl 0 rfl) ?_
  refine lv_iconst (v := 0) hx hb dX11_lead_1 (by decide) ?_
  refine pfR_X11_195 X I  dX11_lead_2 (fun H locs I => ?_)
  obtain ⟨σ1, eσ1, h⟩ := lt_e h
  replace I := wi_nm eσ1 I
  refine lv_aload_n hx hb dX11_lead_5 rfl (lv_at hl 0 rfl) ?_
  refine lv_iload_n hx hb dX11_lead_6 rfl (lv_at hl 1 rfl) ?_
  obtain ⟨q2, hq2, h⟩ := bd h
  refine r_callVI (V := (vR E)) (k := 0) (As := [.int x1]) (rest := []) X I hl (c_X11_isHouse  hq2) yv_X11_isHouse tw_1056 ⟨rfl, rfl, Nat.le_of_ble_eq_true rfl, Nat.le_of_ble_eq_true rfl⟩ (Nat.le_of_ble_eq_true rfl) rfl rfl rfl rfl (Nat.le_of_ble_eq_true rfl) dX11_lead_7 (fun H locs I => ?_)
  refine lv_if_ne (tgt := 19) hx hb dX11_lead_10 (by decide) (fun c3 => ?_) (fun c3 => ?_)
  · have h := ite_f h c3
    refine lv_aload_n hx hb dX11_lead_19 rfl (lv_at hl 0 rfl) ?_
    refine gfR_X11_344 X I dX11_lead_20 ?_
    refine lv_iload_n hx hb dX11_lead_23 rfl (lv_at hl 1 rfl) ?_
    obtain ⟨q4, hq4, h⟩ := bd h
    refine r_callSI (V := (vR E)) (As := [.int (σ1 0 42), .int x1]) (rest := []) X I hl (c_X11_isOf  hq4) ys_X11_isOf tw_1012 ⟨rfl, rfl, Nat.le_of_ble_eq_true rfl, Nat.le_of_ble_eq_true rfl⟩ rfl rfl (Nat.le_of_ble_eq_true rfl) dX11_lead_24 (fun H locs I => ?_)
    refine lv_if_ne (tgt := 42) hx hb dX11_lead_27 (by decide) (fun c5 => ?_) (fun c5 => ?_)
    · have h := ite_f h c5
      refine lv_aload_n hx hb dX11_lead_42 rfl (lv_at hl 0 rfl) ?_
      refine gfR_X11_92 X I dX11_lead_43 ?_
      refine lv_iconst (v := 1) hx hb dX11_lead_46 (by decide) ?_
      refine lv_dup2_11 hx hb dX11_lead_47 rfl rfl ?_
      obtain ⟨hin, h⟩ := gd_some h
      refine ialdR X I (kR_18 E) hin dX11_lead_48 ?_
      refine lv_iconst (v := 1) hx hb dX11_lead_49 (by decide) ?_
      refine lv_iadd hx hb dX11_lead_50 ?_
      obtain ⟨hin, h⟩ := gd_some h
      refine iastR X I (kR_18 E) hin dX11_lead_51 (fun H locs I => ?_)
      obtain ⟨σ6, eσ6, h⟩ := lt_e h
      replace I := wi_nm eσ6 I
      refine lv_iconst (v := 0) hx hb dX11_lead_52 (by decide) ?_
      exact r_zret X I (Option.some.inj h).symm rfl dX11_lead_53
    · have h := ite_t h c5
      refine lv_aload_n hx hb dX11_lead_30 rfl (lv_at hl 0 rfl) ?_
      refine gfR_X11_347 X I dX11_lead_31 ?_
      refine lv_iload_n hx hb dX11_lead_34 rfl (lv_at hl 1 rfl) ?_
      obtain ⟨q7, hq7, h⟩ := bd h
      refine r_callSI (V := (vR E)) (As := [.int (σ1 0 43), .int x1]) (rest := []) X I hl (c_X11_isOf  hq7) ys_X11_isOf tw_1012 ⟨rfl, rfl, Nat.le_of_ble_eq_true rfl, Nat.le_of_ble_eq_true rfl⟩ rfl rfl (Nat.le_of_ble_eq_true rfl) dX11_lead_35 (fun H locs I => ?_)
      refine lv_iload_n hx hb dX11_lead_38 rfl (lv_at hl 2 rfl) ?_
      refine lv_icmp_ne (tgt := 54) hx hb dX11_lead_39 (by decide) (fun c8 => ?_) (fun c8 => ?_)
      · have h := ite_f h c8
        refine lv_aload_n hx hb dX11_lead_54 rfl (lv_at hl 0 rfl) ?_
        obtain ⟨q9, hq9, h⟩ := bd h
        refine r_callVV (V := (vR E)) (k := 0) (As := []) (rest := []) X I hl (c_X11_keep  hq9) yv_X11_keep tw_1078 ⟨rfl, rfl, Nat.le_of_ble_eq_true rfl, Nat.le_of_ble_eq_true rfl⟩ (Nat.le_of_ble_eq_true rfl) rfl rfl rfl rfl (Nat.le_of_ble_eq_true rfl) dX11_lead_55 (fun H locs I => ?_)
        refine lv_aload_n hx hb dX11_lead_58 rfl (lv_at hl 0 rfl) ?_
        refine lv_dup hx hb dX11_lead_59 rfl ?_
        refine gfR_X11_347 X I dX11_lead_60 ?_
        refine lv_iconst (v := 1) hx hb dX11_lead_63 (by decide) ?_
        refine lv_iload_n hx hb dX11_lead_64 rfl (lv_at hl 1 rfl) ?_
        refine lv_ishl hx hb dX11_lead_65 ?_
        refine lv_ixor hx hb dX11_lead_66 ?_
        refine pfR_X11_347 X I  dX11_lead_67 (fun H locs I => ?_)
        obtain ⟨σ10, eσ10, h⟩ := lt_e h
        replace I := wi_nm eσ10 I
        refine lv_iconst (v := 1) hx hb dX11_lead_70 (by decide) ?_
        exact r_zret X I (Option.some.inj h).symm rfl dX11_lead_71
      · have h := ite_t h c8
        refine lv_aload_n hx hb dX11_lead_42 rfl (lv_at hl 0 rfl) ?_
        refine gfR_X11_92 X I dX11_lead_43 ?_
        refine lv_iconst (v := 1) hx hb dX11_lead_46 (by decide) ?_
        refine lv_dup2_11 hx hb dX11_lead_47 rfl rfl ?_
        obtain ⟨hin, h⟩ := gd_some h
        refine ialdR X I (kR_18 E) hin dX11_lead_48 ?_
        refine lv_iconst (v := 1) hx hb dX11_lead_49 (by decide) ?_
        refine lv_iadd hx hb dX11_lead_50 ?_
        obtain ⟨hin, h⟩ := gd_some h
        refine iastR X I (kR_18 E) hin dX11_lead_51 (fun H locs I => ?_)
        obtain ⟨σ11, eσ11, h⟩ := lt_e h
        replace I := wi_nm eσ11 I
        refine lv_iconst (v := 0) hx hb dX11_lead_52 (by decide) ?_
        exact r_zret X I (Option.some.inj h).symm rfl dX11_lead_53
  · have h := ite_t h c3
    refine lv_aload_n hx hb dX11_lead_13 rfl (lv_at hl 0 rfl) ?_
    refine lv_iconst (v := 1) hx hb dX11_lead_14 (by decide) ?_
    obtain ⟨q12, hq12, h⟩ := bd h
    refine r_callVI (V := (vR E)) (k := 0) (As := [.int (1 : Int32)]) (rest := []) X I hl (c_X11_failing  hq12) yv_X11_failing tw_1090 ⟨rfl, rfl, Nat.le_of_ble_eq_true rfl, Nat.le_of_ble_eq_true rfl⟩ (Nat.le_of_ble_eq_true rfl) rfl rfl rfl rfl (Nat.le_of_ble_eq_true rfl) dX11_lead_15 (fun H locs I => ?_)
    obtain ⟨hz, h⟩ := gz_some h
    exact r_zret X I (Option.some.inj h).symm hz.1 dX11_lead_18
theorem c_X11_lead {l : Launch} {E : RE} {σ : Mem} {x1 : Int32} {x2 : Int32} {q : Int32 × Mem} (h : m_X11_lead σ x1 x2 = some q) : CI l (vR E) yX11_lead (.code yX11_lead cX11_lead 3 (some .boolean) :: GG) rm_X11_lead [.ref (ra E 0), .int x1, .int x2] σ q :=
  mk_CI (by decide +kernel) (Nat.le_of_ble_eq_true rfl) (fun p e s m args below meth c A ls X I hl => w_X11_lead_0 X  σ x1 x2 h s.heap [] ls I (lv_sub hl [0, 1, 2] rfl))

def rm_X11_temper : Room := { frames := 3, cells := 0, slots := 0, locals := 110 }
def m_X11_temper (σ : Mem) (x1 : Int32) (x2 : Int32) : Option (Int32 × Mem) := (lt (ms σ 0 5 (0 : Int32)) fun σ1 => ((m_X11_isHouse σ1 x1).bind fun q2 => (if q2 = (0 : Int32) then ((m_X11_fail σ1 (1 : Int32)).bind fun q13 => (some (q13.1, q13.2))) else ((m_X11_isOf σ1 (σ1 0 42) x1).bind fun q4 => (if q4 = (0 : Int32) then ((m_X11_isIn σ1 (Int32.toInt64 x2) (0 : Int64) (9 : Int64)).bind fun q7 => (if q7 = (0 : Int32) then ((m_X11_refuse σ1 (1 : Int32)).bind fun q12 => (some (q12.1, q12.2))) else ((m_X11_keep σ1).bind fun q9 => (gd x1 8 (lt (q9 21 (Int32.toNatClampNeg x1)) fun y10 => (gd x1 8 (lt (ms q9 21 (Int32.toNatClampNeg x1) (x2)) fun σ11 => (some (y10, σ11))))))))) else ((m_X11_refuse σ1 (1 : Int32)).bind fun q6 => (some (q6.1, q6.2))))))))
set_option maxHeartbeats 4000000 in
set_option maxRecDepth 100000 in
theorem w_X11_temper_0 {p : Program} {l : Launch} {e : Env} {s : State} {m : MethodId} {args : Array Value} {below : List Frame} {meth : Method} {c : Code} {A : Nat → Prop} {E : RE} {q : Int32 × Mem} (X : CX p s m meth c args cX11_temper 4 RX11 (some .int)) : ∀ (σ : Mem) (x1 : Int32) (x2 : Int32) , m_X11_temper σ x1 x2 = some q → ∀ (H : Heap) (locs : List Loc) (ls : Array Slot), WI (vR E) A s H locs σ → lv_has ls 4 [(0, .ref (ra E 0)), (1, .int x1), (2, .int x2)] → W p l e rm_X11_temper s m args below meth c H locs 0 0 (MQ below (QI (vR E) A q) args s 0 0 A) (F0 m 0 ls []) := by
  have hx := X.1
  have hb := X.2.1
  intro σ x1 x2 h H locs ls I hl
  unfold m_X11_temper at h
  refine lv_aload_n hx hb dX11_temper_0 rfl (lv_at hl 0 rfl) ?_
  refine lv_iconst (v := 0) hx hb dX11_temper_1 (by decide) ?_
  refine pfR_X11_195 X I  dX11_temper_2 (fun H locs I => ?_)
  obtain ⟨σ1, eσ1, h⟩ := lt_e h
  replace I := wi_nm eσ1 I
  refine lv_aload_n hx hb dX11_temper_5 rfl (lv_at hl 0 rfl) ?_
  refine lv_iload_n hx hb dX11_temper_6 rfl (lv_at hl 1 rfl) ?_
  obtain ⟨q2, hq2, h⟩ := bd h
  refine r_callVI (V := (vR E)) (k := 0) (As := [.int x1]) (rest := []) X I hl (c_X11_isHouse  hq2) yv_X11_isHouse tw_1056 ⟨rfl, rfl, Nat.le_of_ble_eq_true rfl, Nat.le_of_ble_eq_true rfl⟩ (Nat.le_of_ble_eq_true rfl) rfl rfl rfl rfl (Nat.le_of_ble_eq_true rfl) dX11_temper_7 (fun H locs I => ?_)
  refine lv_if_ne (tgt := 19) hx hb dX11_temper_10 (by decide) (fun c3 => ?_) (fun c3 => ?_)
  · have h := ite_f h c3
    refine lv_aload_n hx hb dX11_temper_19 rfl (lv_at hl 0 rfl) ?_
    refine gfR_X11_344 X I dX11_temper_20 ?_
    refine lv_iload_n hx hb dX11_temper_23 rfl (lv_at hl 1 rfl) ?_
    obtain ⟨q4, hq4, h⟩ := bd h
    refine r_callSI (V := (vR E)) (As := [.int (σ1 0 42), .int x1]) (rest := []) X I hl (c_X11_isOf  hq4) ys_X11_isOf tw_1012 ⟨rfl, rfl, Nat.le_of_ble_eq_true rfl, Nat.le_of_ble_eq_true rfl⟩ rfl rfl (Nat.le_of_ble_eq_true rfl) dX11_temper_24 (fun H locs I => ?_)
    refine lv_if_ne (tgt := 42) hx hb dX11_temper_27 (by decide) (fun c5 => ?_) (fun c5 => ?_)
    · have h := ite_f h c5
      refine lv_aload_n hx hb dX11_temper_42 rfl (lv_at hl 0 rfl) ?_
      refine lv_iconst (v := 1) hx hb dX11_temper_43 (by decide) ?_
      obtain ⟨q6, hq6, h⟩ := bd h
      refine r_callVI (V := (vR E)) (k := 0) (As := [.int (1 : Int32)]) (rest := []) X I hl (c_X11_refuse  hq6) yv_X11_refuse tw_1073 ⟨rfl, rfl, Nat.le_of_ble_eq_true rfl, Nat.le_of_ble_eq_true rfl⟩ (Nat.le_of_ble_eq_true rfl) rfl rfl rfl rfl (Nat.le_of_ble_eq_true rfl) dX11_temper_44 (fun H locs I => ?_)
      exact r_iret X I (Option.some.inj h).symm dX11_temper_47
    · have h := ite_t h c5
      refine lv_iload_n hx hb dX11_temper_30 rfl (lv_at hl 2 rfl) ?_
      refine lv_i2l hx hb dX11_temper_31 rfl ?_
      refine lv_lconst (v := 0) hx hb dX11_temper_32 (by decide) ?_
      refine lv_ldc2 hx hb X.2.2.2.1 (X.2.2.2.2.1 _ tw_1088) dX11_temper_33 ?_
      obtain ⟨q7, hq7, h⟩ := bd h
      refine r_callSI (V := (vR E)) (As := [.long (Int32.toInt64 x2), .long (0 : Int64), .long (9 : Int64)]) (rest := []) X I hl (c_X11_isIn  hq7) ys_X11_isIn tw_801 ⟨rfl, rfl, Nat.le_of_ble_eq_true rfl, Nat.le_of_ble_eq_true rfl⟩ rfl rfl (Nat.le_of_ble_eq_true rfl) dX11_temper_36 (fun H locs I => ?_)
      refine lv_if_ne (tgt := 48) hx hb dX11_temper_39 (by decide) (fun c8 => ?_) (fun c8 => ?_)
      · have h := ite_f h c8
        refine lv_aload_n hx hb dX11_temper_48 rfl (lv_at hl 0 rfl) ?_
        obtain ⟨q9, hq9, h⟩ := bd h
        refine r_callVV (V := (vR E)) (k := 0) (As := []) (rest := []) X I hl (c_X11_keep  hq9) yv_X11_keep tw_1078 ⟨rfl, rfl, Nat.le_of_ble_eq_true rfl, Nat.le_of_ble_eq_true rfl⟩ (Nat.le_of_ble_eq_true rfl) rfl rfl rfl rfl (Nat.le_of_ble_eq_true rfl) dX11_temper_49 (fun H locs I => ?_)
        refine lv_aload_n hx hb dX11_temper_52 rfl (lv_at hl 0 rfl) ?_
        refine gfR_X11_104 X I dX11_temper_53 ?_
        refine lv_iload_n hx hb dX11_temper_56 rfl (lv_at hl 1 rfl) ?_
        obtain ⟨hin, h⟩ := gd_some h
        refine ialdR X I (kR_21 E) hin dX11_temper_57 ?_
        obtain ⟨y10, ey10, h⟩ := lt_e h
        refine nm_i ey10 ?_
        refine lv_istore_n (lv' := [(3, .int y10), (0, .ref (ra E 0)), (1, .int x1), (2, .int x2)]) hx hb dX11_temper_58 rfl hl (by decide) rfl (fun ls hl => ?_)
        refine lv_aload_n hx hb dX11_temper_59 rfl (lv_at hl 1 rfl) ?_
        refine gfR_X11_104 X I dX11_temper_60 ?_
        refine lv_iload_n hx hb dX11_temper_63 rfl (lv_at hl 2 rfl) ?_
        refine lv_iload_n hx hb dX11_temper_64 rfl (lv_at hl 3 rfl) ?_
        obtain ⟨hin, h⟩ := gd_some h
        refine iastR X I (kR_21 E) hin dX11_temper_65 (fun H locs I => ?_)
        obtain ⟨σ11, eσ11, h⟩ := lt_e h
        replace I := wi_nm eσ11 I
        refine lv_iload_n hx hb dX11_temper_66 rfl (lv_at hl 0 rfl) ?_
        exact r_iret X I (Option.some.inj h).symm dX11_temper_67
      · have h := ite_t h c8
        refine lv_aload_n hx hb dX11_temper_42 rfl (lv_at hl 0 rfl) ?_
        refine lv_iconst (v := 1) hx hb dX11_temper_43 (by decide) ?_
        obtain ⟨q12, hq12, h⟩ := bd h
        refine r_callVI (V := (vR E)) (k := 0) (As := [.int (1 : Int32)]) (rest := []) X I hl (c_X11_refuse  hq12) yv_X11_refuse tw_1073 ⟨rfl, rfl, Nat.le_of_ble_eq_true rfl, Nat.le_of_ble_eq_true rfl⟩ (Nat.le_of_ble_eq_true rfl) rfl rfl rfl rfl (Nat.le_of_ble_eq_true rfl) dX11_temper_44 (fun H locs I => ?_)
        exact r_iret X I (Option.some.inj h).symm dX11_temper_47
  · have h := ite_t h c3
    refine lv_aload_n hx hb dX11_temper_13 rfl (lv_at hl 0 rfl) ?_
    refine lv_iconst (v := 1) hx hb dX11_temper_14 (by decide) ?_
    obtain ⟨q13, hq13, h⟩ := bd h
    refine r_callVI (V := (vR E)) (k := 0) (As := [.int (1 : Int32)]) (rest := []) X I hl (c_X11_fail  hq13) yv_X11_fail tw_957 ⟨rfl, rfl, Nat.le_of_ble_eq_true rfl, Nat.le_of_ble_eq_true rfl⟩ (Nat.le_of_ble_eq_true rfl) rfl rfl rfl rfl (Nat.le_of_ble_eq_true rfl) dX11_temper_15 (fun H locs I => ?_)
    exact r_iret X I (Option.some.inj h).symm dX11_temper_18
theorem c_X11_temper {l : Launch} {E : RE} {σ : Mem} {x1 : Int32} {x2 : Int32} {q : Int32 × Mem} (h : m_X11_temper σ x1 x2 = some q) : CI l (vR E) yX11_temper (.code yX11_temper cX11_temper 4 (some .int) :: GG) rm_X11_temper [.ref (ra E 0), .int x1, .int x2] σ q :=
  mk_CI (by decide +kernel) (Nat.le_of_ble_eq_true rfl) (fun p e s m args below meth c A ls X I hl => w_X11_temper_0 X  σ x1 x2 h s.heap [] ls I (lv_sub hl [0, 1, 2] rfl))

def rm_X11_undo : Room := { frames := 2, cells := 0, slots := 0, locals := 88 }
def m_X11_undo (σ : Mem) : Option (Int32 × Mem) := (lt (ms σ 0 5 (0 : Int32)) fun σ1 => (if (σ1 0 44) = (0 : Int32) then (some ((-1 : Int32), σ1)) else (lt (ms σ1 0 44 ((σ1 0 44) - (1 : Int32))) fun σ3 => ((m_X11_unpack 28 2560 σ3 ((64 : Int32) * (σ3 0 44))).bind fun q4 => (some ((q4 0 44), q4))))))
set_option maxHeartbeats 4000000 in
set_option maxRecDepth 100000 in
theorem w_X11_undo_0 {p : Program} {l : Launch} {e : Env} {s : State} {m : MethodId} {args : Array Value} {below : List Frame} {meth : Method} {c : Code} {A : Nat → Prop} {E : RE} {q : Int32 × Mem} (X : CX p s m meth c args cX11_undo 1 RX11 (some .int)) : ∀ (σ : Mem)  , m_X11_undo σ = some q → ∀ (H : Heap) (locs : List Loc) (ls : Array Slot), WI (vR E) A s H locs σ → lv_has ls 1 [(0, .ref (ra E 0))] → W p l e rm_X11_undo s m args below meth c H locs 0 0 (MQ below (QI (vR E) A q) args s 0 0 A) (F0 m 0 ls []) := by
  have hx := X.1
  have hb := X.2.1
  intro σ  h H locs ls I hl
  unfold m_X11_undo at h
  refine lv_aload_n hx hb dX11_undo_0 rfl (lv_at hl 0 rfl) ?_
  refine lv_iconst (v := 0) hx hb dX11_undo_1 (by decide) ?_
  refine pfR_X11_195 X I  dX11_undo_2 (fun H locs I => ?_)
  obtain ⟨σ1, eσ1, h⟩ := lt_e h
  replace I := wi_nm eσ1 I
  refine lv_aload_n hx hb dX11_undo_5 rfl (lv_at hl 0 rfl) ?_
  refine gfR_X11_350 X I dX11_undo_6 ?_
  refine lv_if_ne (tgt := 14) hx hb dX11_undo_9 (by decide) (fun c2 => ?_) (fun c2 => ?_)
  · have h := ite_f h c2
    refine lv_aload_n hx hb dX11_undo_14 rfl (lv_at hl 0 rfl) ?_
    refine lv_dup hx hb dX11_undo_15 rfl ?_
    refine gfR_X11_350 X I dX11_undo_16 ?_
    refine lv_iconst (v := 1) hx hb dX11_undo_19 (by decide) ?_
    refine lv_isub hx hb dX11_undo_20 ?_
    refine pfR_X11_350 X I  dX11_undo_21 (fun H locs I => ?_)
    obtain ⟨σ3, eσ3, h⟩ := lt_e h
    replace I := wi_nm eσ3 I
    refine lv_aload_n hx hb dX11_undo_24 rfl (lv_at hl 0 rfl) ?_
    refine lv_aload_n hx hb dX11_undo_25 rfl (lv_at hl 0 rfl) ?_
    refine gfR_X11_122 X I dX11_undo_26 ?_
    refine lv_bipush (v := 64) hx hb dX11_undo_29 (by decide) ?_
    refine lv_aload_n hx hb dX11_undo_31 rfl (lv_at hl 0 rfl) ?_
    refine gfR_X11_350 X I dX11_undo_32 ?_
    refine lv_imul hx hb dX11_undo_35 ?_
    obtain ⟨q4, hq4, h⟩ := bd h
    refine r_callVV (V := (vR E)) (k := 0) (As := [.ref (ra E 28), .int ((64 : Int32) * (σ3 0 44))]) (rest := []) X I hl (c_X11_unpack (kR_28 E) hq4) yv_X11_unpack tw_1095 ⟨rfl, rfl, Nat.le_of_ble_eq_true rfl, Nat.le_of_ble_eq_true rfl⟩ (Nat.le_of_ble_eq_true rfl) rfl rfl rfl rfl (Nat.le_of_ble_eq_true rfl) dX11_undo_36 (fun H locs I => ?_)
    refine lv_aload_n hx hb dX11_undo_39 rfl (lv_at hl 0 rfl) ?_
    refine gfR_X11_350 X I dX11_undo_40 ?_
    exact r_iret X I (Option.some.inj h).symm dX11_undo_43
  · have h := ite_t h c2
    refine lv_iconst (v := -1) hx hb dX11_undo_12 (by decide) ?_
    exact r_iret X I (Option.some.inj h).symm dX11_undo_13
theorem c_X11_undo {l : Launch} {E : RE} {σ : Mem} {q : Int32 × Mem} (h : m_X11_undo σ = some q) : CI l (vR E) yX11_undo (.code yX11_undo cX11_undo 1 (some .int) :: GG) rm_X11_undo [.ref (ra E 0)] σ q :=
  mk_CI (by decide +kernel) (Nat.le_of_ble_eq_true rfl) (fun p e s m args below meth c A ls X I hl => w_X11_undo_0 X  σ  h s.heap [] ls I (lv_sub hl [0] rfl))

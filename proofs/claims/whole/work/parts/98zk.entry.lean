/-! what holds at the law's entry -/
def gvL : List Cond := flatC (Jvm.Cond.and given_1 narrow_1)
def sPos : List Nat := [55, 266, 300, 346, 419, 445, 283, 328, 399, 375, 89, 98, 108, 118, 129, 137, 256, 146, 243, 249, 153, 160, 170, 181, 189, 198, 206, 215, 223, 233, 465, 475, 486, 497, 509, 517, 528, 540, 549, 559, 568, 578, 587, 598, 639, 647, 655, 609, 618, 628]
def tPos : List Nat := [557, 814, 838, 851, 1020, 1129, 832, 850, 918, 897, 621, 674, 685, 686, 693, 700, 782, 748, 780, 781, 758, 759, 760, 761, 762, 763, 764, 765, 766, 767, 1172, 1173, 1174, 1175, 1176, 1177, 1178, 1179, 1180, 1181, 1182, 1183, 1184, 1185, 1486, 1507, 1508, 1459, 1460, 1461]
def lPos : List Nat := [12, 19, 26]
def lTab : List Nat := [680, 692, 699]
set_option maxRecDepth 100000 in
theorem gv_s : ∀ i, i < 50 → gvL[sPos.getD i 0]? = some (Cond.exactly (.string (sOwn.getD i "") (sIdx.getD i 0)) "java/lang/String") ∧ gvL[sPos.getD i 0 + 1]? = some (Cond.eq (.field (.string (sOwn.getD i "") (sIdx.getD i 0)) "java/lang/String" "coder" "B") (.int 0)) ∧ gvL[sPos.getD i 0 + 2]? = some (Cond.arrayOf (.field (.string (sOwn.getD i "") (sIdx.getD i 0)) "java/lang/String" "value" "[B") .byte) ∧ gvL[sPos.getD i 0 + 3]? = some (Cond.eq (.length (.field (.string (sOwn.getD i "") (sIdx.getD i 0)) "java/lang/String" "value" "[B")) (.int (Int32.ofNat (sByt.getD i []).length))) ∧ tables_1[tPos.getD i 0]? = some (Cond.stringRef (sOwn.getD i "") (sIdx.getD i 0) (sTxt.getD i "")) ∧ (sByt.getD i []).length < 2 ^ 31 := by decide +kernel
set_option maxRecDepth 100000 in
theorem gv_e : ∀ i, i < 50 → ∀ j, j < (sByt.getD i []).length → gvL[sPos.getD i 0 + 4 + j]? = some (Cond.eq (.elem (.field (.string (sOwn.getD i "") (sIdx.getD i 0)) "java/lang/String" "value" "[B") (.int (Int32.ofNat j))) (.int ((sByt.getD i []).getD j 0))) := by decide +kernel
set_option maxRecDepth 100000 in
theorem gv_l : ∀ i, i < 3 → gvL[lPos.getD i 0]? = some (Cond.arrayOf (.static "DogLeases$PlanReader" (lNm.getD i "") "[I") .int) ∧ gvL[lPos.getD i 0 + 1]? = some (Cond.eq (.length (.static "DogLeases$PlanReader" (lNm.getD i "") "[I")) (.int (Int32.ofNat (lVal.getD i []).length))) ∧ tables_1[lTab.getD i 0]? = some (Cond.laysStatic "DogLeases$PlanReader" (lNm.getD i "") "[I") ∧ (lVal.getD i []).length < 2 ^ 31 := by decide +kernel
set_option maxRecDepth 100000 in
theorem gv_le : ∀ i, i < 3 → ∀ j, j < (lVal.getD i []).length → gvL[lPos.getD i 0 + 2 + j]? = some (Cond.eq (.elem (.static "DogLeases$PlanReader" (lNm.getD i "") "[I") (.int (Int32.ofNat j))) (.int ((lVal.getD i []).getD j 0))) := by decide +kernel
section ENTRY
variable {args : Array Value} {s : State} {A : Nat → Prop}
theorem ff_str (hg : ∀ w ∈ gvL, w.before args s = true) (ht : ∀ w ∈ tables_1, w.before args s = true) (hA : ∀ a : Nat, a < s.heap.size → ¬ A a) : ∃ adK adV : Nat → Nat, ∀ i, i < 50 → vk_R (sOwn.getD i "") (sIdx.getD i 0) (sTxt.getD i "") (adK i) s ∧ va_O "java/lang/String" (adK i) A s s.heap ∧ va_OF "java/lang/String" "coder" "B" (.int 0) (adK i) A s s.heap ∧ va_OF "java/lang/String" "value" "[B" (.ref (adV i)) (adK i) A s s.heap ∧ va_T .byte (adV i) (sByt.getD i []).length (fun j => .int ((sByt.getD i []).getD j 0)) A s s.heap := by
  have h0 : ∀ i : Nat, ∃ q : Nat × Nat, i < 50 → vk_R (sOwn.getD i "") (sIdx.getD i 0) (sTxt.getD i "") q.1 s ∧ va_O "java/lang/String" q.1 A s s.heap ∧ va_OF "java/lang/String" "coder" "B" (.int 0) q.1 A s s.heap ∧ va_OF "java/lang/String" "value" "[B" (.ref q.2) q.1 A s s.heap ∧ va_T .byte q.2 (sByt.getD i []).length (fun j => .int ((sByt.getD i []).getD j 0)) A s s.heap := by
    intro i
    by_cases hi : i < 50
    · obtain ⟨e1, e2, e3, e4, e5, e6⟩ := gv_s i hi
      obtain ⟨a, c, cA, kA, q1, q2, q3, q4, q5, q6, -⟩ := Cond.exactly_spec (args := args) (first := s) (o := none) (s := s) (idx := []) (t := .string (sOwn.getD i "") (sIdx.getD i 0)) (cls := "java/lang/String") (hg _ (List.mem_of_getElem? e1))
      obtain ⟨t, hv, hT⟩ := va_Tof (f := fun j => .int ((sByt.getD i []).getD j 0)) (A := A) e6 (hg _ (List.mem_of_getElem? e3)) (va_eqt (hg _ (List.mem_of_getElem? e4))) (fun j hj => va_eqt (hg _ (List.mem_of_getElem? (gv_e i hi j hj)))) hA
      exact ⟨(a, t), fun _ => ⟨vk_R.of (A := args) (ht _ (List.mem_of_getElem? e5)) q1, ⟨cA, q3, q5, by rw [q6]; exact q2, hA a (Array.getElem?_eq_some_iff.mp q3).1⟩, vk_OFof q1 (va_eqt (hg _ (List.mem_of_getElem? e2))) hA, vk_OFof q1 hv hA, hT⟩⟩
    · exact ⟨(0, 0), fun h => absurd h hi⟩
  obtain ⟨ad, had⟩ := Classical.axiomOfChoice h0
  exact ⟨fun i => (ad i).1, fun i => (ad i).2, had⟩
theorem ff_lim (hg : ∀ w ∈ gvL, w.before args s = true) (ht : ∀ w ∈ tables_1, w.before args s = true) (hA : ∀ a : Nat, a < s.heap.size → ¬ A a) : ∃ ad : Nat → Nat, ∀ i, i < 3 → va_Z "DogLeases$PlanReader" (lNm.getD i "") "[I" (.ref (ad i)) A s s.heap ∧ va_T .int (ad i) (lVal.getD i []).length (fun k => .int ((lVal.getD i []).getD k 0)) A s s.heap := by
  have h0 : ∀ i : Nat, ∃ q : Nat, i < 3 → va_Z "DogLeases$PlanReader" (lNm.getD i "") "[I" (.ref q) A s s.heap ∧ va_T .int q (lVal.getD i []).length (fun k => .int ((lVal.getD i []).getD k 0)) A s s.heap := by
    intro i
    by_cases hi : i < 3
    · obtain ⟨e1, e2, e3, e4⟩ := gv_l i hi
      obtain ⟨t, hv, hT⟩ := va_Tof (f := fun k => .int ((lVal.getD i []).getD k 0)) (A := A) e4 (hg _ (List.mem_of_getElem? e1)) (va_eqt (hg _ (List.mem_of_getElem? e2))) (fun j hj => va_eqt (hg _ (List.mem_of_getElem? (gv_le i hi j hj)))) hA
      exact ⟨t, fun _ => ⟨va_Zof (ht _ (List.mem_of_getElem? e3)) (ht _ (List.mem_of_getElem? (i := 2) (by decide +kernel))) hv hA, hT⟩⟩
    · exact ⟨0, fun h => absurd h hi⟩
  obtain ⟨ad, had⟩ := Classical.axiomOfChoice h0
  exact ⟨ad, had⟩
theorem xw_in : ∀ w ∈ XW, w.onTables = true ∧ w ∈ tables_1 := by
  intro w hw
  rcases List.mem_cons.mp hw with rfl | hw
  · exact ⟨rfl, List.mem_of_getElem? (i := 807) (by decide +kernel)⟩
  rcases List.mem_cons.mp hw with rfl | hw
  · exact ⟨rfl, List.mem_of_getElem? (i := 519) (by decide +kernel)⟩
  rcases List.mem_cons.mp hw with rfl | hw
  · exact ⟨rfl, List.mem_of_getElem? (i := 521) (by decide +kernel)⟩
  rcases List.mem_cons.mp hw with rfl | hw
  · exact ⟨rfl, List.mem_of_getElem? (i := 523) (by decide +kernel)⟩
  rcases List.mem_cons.mp hw with rfl | hw
  · exact ⟨rfl, List.mem_of_getElem? (i := 525) (by decide +kernel)⟩
  cases hw
theorem st_FF (hg : ∀ w ∈ gvL, w.before args s = true) (ht : ∀ w ∈ tables_1, w.before args s = true) (hA : ∀ a : Nat, a < s.heap.size → ¬ A a) : ∃ x : XE, FF x A s s.heap := by
  obtain ⟨a, v, hs⟩ := ff_str hg ht hA
  obtain ⟨z, hz⟩ := ff_lim hg ht hA
  refine ⟨(a, v, z), fun i hi => hs i hi, fun j hj => hz j hj, va_Zof (ht (.laysStatic "java/lang/String" "COMPACT_STRINGS" "Z") (List.mem_of_getElem? (i := 635) (by decide +kernel))) (ht (.initialized "java/lang/String") (List.mem_of_getElem? (i := 19) (by decide +kernel))) (va_eqt (hg (.eq (.static "java/lang/String" "COMPACT_STRINGS" "Z") (.int 1)) (List.mem_of_getElem? (i := 6) (by decide +kernel)))) hA, va_Zqof (ht (.laysStatic "jdk/internal/util/Preconditions" "SIOOBE_FORMATTER" "Ljava/util/function/BiFunction;") (List.mem_of_getElem? (i := 651) (by decide +kernel))) (ht (.initialized "jdk/internal/util/Preconditions") (List.mem_of_getElem? (i := 21) (by decide +kernel))) (hg (.isRef (.static "jdk/internal/util/Preconditions" "SIOOBE_FORMATTER" "Ljava/util/function/BiFunction;")) (List.mem_of_getElem? (i := 7) (by decide +kernel))) hA, vx_Zqof (ht (.laysStatic "java/lang/Throwable" "UNASSIGNED_STACK" "[Ljava/lang/StackTraceElement;") (List.mem_of_getElem? (i := 544) (by decide +kernel))) (ht (.initialized "java/lang/Throwable") (List.mem_of_getElem? (i := 14) (by decide +kernel))) (hg (.isRef (.static "java/lang/Throwable" "UNASSIGNED_STACK" "[Ljava/lang/StackTraceElement;")) (List.mem_of_getElem? (i := 4) (by decide +kernel))) hA, vx_Zqof (ht (.laysStatic "java/lang/Throwable" "SUPPRESSED_SENTINEL" "Ljava/util/List;") (List.mem_of_getElem? (i := 546) (by decide +kernel))) (ht (.initialized "java/lang/Throwable") (List.mem_of_getElem? (i := 14) (by decide +kernel))) (hg (.isRef (.static "java/lang/Throwable" "SUPPRESSED_SENTINEL" "Ljava/util/List;")) (List.mem_of_getElem? (i := 5) (by decide +kernel))) hA, fun w hw => va_Nw.of (xw_in w hw).1 (ht w (xw_in w hw).2), va_Nc.of (hg (.not (.castable "java/lang/IllegalArgumentException" "java/util/NoSuchElementException")) (List.mem_of_getElem? (i := 54) (by decide +kernel)))⟩
theorem st_NW (ht : ∀ w ∈ tables_1, w.before args s = true) : NWs s := by
  intro w hw
  rcases List.mem_cons.mp hw with rfl | hw
  · exact va_Nw.of rfl (ht _ (List.mem_of_getElem? (i := 35) (by decide +kernel)))
  rcases List.mem_cons.mp hw with rfl | hw
  · exact va_Nw.of rfl (ht _ (List.mem_of_getElem? (i := 41) (by decide +kernel)))
  rcases List.mem_cons.mp hw with rfl | hw
  · exact va_Nw.of rfl (ht _ (List.mem_of_getElem? (i := 47) (by decide +kernel)))
  rcases List.mem_cons.mp hw with rfl | hw
  · exact va_Nw.of rfl (ht _ (List.mem_of_getElem? (i := 82) (by decide +kernel)))
  rcases List.mem_cons.mp hw with rfl | hw
  · exact va_Nw.of rfl (ht _ (List.mem_of_getElem? (i := 131) (by decide +kernel)))
  rcases List.mem_cons.mp hw with rfl | hw
  · exact va_Nw.of rfl (ht _ (List.mem_of_getElem? (i := 136) (by decide +kernel)))
  rcases List.mem_cons.mp hw with rfl | hw
  · exact va_Nw.of rfl (ht _ (List.mem_of_getElem? (i := 215) (by decide +kernel)))
  rcases List.mem_cons.mp hw with rfl | hw
  · exact va_Nw.of rfl (ht _ (List.mem_of_getElem? (i := 220) (by decide +kernel)))
  rcases List.mem_cons.mp hw with rfl | hw
  · exact va_Nw.of rfl (ht _ (List.mem_of_getElem? (i := 240) (by decide +kernel)))
  rcases List.mem_cons.mp hw with rfl | hw
  · exact va_Nw.of rfl (ht _ (List.mem_of_getElem? (i := 265) (by decide +kernel)))
  rcases List.mem_cons.mp hw with rfl | hw
  · exact va_Nw.of rfl (ht _ (List.mem_of_getElem? (i := 271) (by decide +kernel)))
  rcases List.mem_cons.mp hw with rfl | hw
  · exact va_Nw.of rfl (ht _ (List.mem_of_getElem? (i := 288) (by decide +kernel)))
  cases hw
theorem st_AO (ht : ∀ w ∈ tables_1, w.before args s = true) : va_AO "java/lang/String" s := va_AO.of (ht _ (List.mem_of_getElem? (i := 1171) (by decide +kernel)))
theorem st_arr {ty : FieldType} (h : (Cond.arrayClass ty).before args s = true) : ∃ c : ClassId, ArrOfT s c ty ∧ s.vm.findClass ("[" ++ ty.toString) = some c := by
  obtain ⟨c, k, comp, h1, h2, h3⟩ := Cond.arrayClass_spec h
  exact ⟨c, fun n z => ⟨fun k h => (by cases h), k, h2, comp, h3⟩, h1⟩
theorem st_arrS (h : va_AO "java/lang/String" s) : ∃ c : ClassId, ArrOfT s c (.object "java/lang/String") ∧ va_RA s c (.object "java/lang/String") := by
  obtain ⟨comp, c, k, h1, h2, h3, h4, h5⟩ := Cond.arrayOver_spec (va_AO.use (A := #[]) h)
  exact ⟨c, fun N z => ⟨fun k h => (by cases h), k, h3, comp, h4⟩, k, comp, h3, h4, h1, h5⟩
theorem st_i0 : (.instantiable RX0 3 : Cond) ∈ GG := gg_2 (List.mem_of_getElem? (i := 30) (by decide +kernel)) (by decide +kernel)
theorem st_i1 : (.instantiable RX1 4 : Cond) ∈ GG := gg_2 (List.mem_of_getElem? (i := 24) (by decide +kernel)) (by decide +kernel)
theorem st_i2 : (.instantiable RX2 10 : Cond) ∈ GG := gg_1 (List.mem_of_getElem? (i := 130) (by decide +kernel)) (by decide +kernel)
theorem st_i3 : (.instantiable RX3 5 : Cond) ∈ GG := gg_1 (List.mem_of_getElem? (i := 34) (by decide +kernel)) (by decide +kernel)
theorem st_i4 : (.instantiable RX4 3 : Cond) ∈ GG := gg_1 (List.mem_of_getElem? (i := 81) (by decide +kernel)) (by decide +kernel)
theorem st_i5 : (.instantiable RX5 10 : Cond) ∈ GG := gg_1 (List.mem_of_getElem? (i := 40) (by decide +kernel)) (by decide +kernel)
theorem st_i6 : (.instantiable RX6 2 : Cond) ∈ GG := gg_2 (List.mem_of_getElem? (i := 47) (by decide +kernel)) (by decide +kernel)
theorem st_i7 : (.instantiable RX7 6 : Cond) ∈ GG := gg_1 (List.mem_of_getElem? (i := 239) (by decide +kernel)) (by decide +kernel)
theorem st_i8 : (.instantiable RX8 5 : Cond) ∈ GG := gg_1 (List.mem_of_getElem? (i := 214) (by decide +kernel)) (by decide +kernel)
theorem st_i9 : (.instantiable RX9 7 : Cond) ∈ GG := gg_1 (List.mem_of_getElem? (i := 46) (by decide +kernel)) (by decide +kernel)
theorem st_i10 : (.instantiable RX10 12 : Cond) ∈ GG := gg_1 (List.mem_of_getElem? (i := 26) (by decide +kernel)) (by decide +kernel)
theorem st_i11 : (.instantiable RX11 74 : Cond) ∈ GG := gg_5 (List.mem_of_getElem? (i := 205) (by decide +kernel)) (by decide +kernel)
theorem st_D (hG : ∀ w ∈ GG, w.before args s = true) : ∃ D : va_G, ∀ (c : Nat) (q : vw_C), vwCl[c]? = some q → u_Kn s q.1 q.2.1 q.2.2 (D.1 c) (D.2 c) := by
  have h : ∀ c : Nat, ∃ z : ClassId × (Nat → Nat), ∀ q : vw_C, vwCl[c]? = some q → u_Kn s q.1 q.2.1 q.2.2 z.1 z.2 := by
    intro c
    match c with
    | 0 =>
      obtain ⟨a, b, h⟩ := u_known (C := RX0) (T := TX0) (N := 3) (n := 3) hG inGX0 (hG _ st_i0)
      exact ⟨(a, b), fun q hq => by cases hq; exact h⟩
    | 1 =>
      obtain ⟨a, b, h⟩ := u_known (C := RX1) (T := TX1) (N := 4) (n := 4) hG inGX1 (hG _ st_i1)
      exact ⟨(a, b), fun q hq => by cases hq; exact h⟩
    | 2 =>
      obtain ⟨a, b, h⟩ := u_known (C := RX2) (T := TX2) (N := 10) (n := 10) hG inGX2 (hG _ st_i2)
      exact ⟨(a, b), fun q hq => by cases hq; exact h⟩
    | 3 =>
      obtain ⟨a, b, h⟩ := u_known (C := RX3) (T := TX3) (N := 5) (n := 5) hG inGX3 (hG _ st_i3)
      exact ⟨(a, b), fun q hq => by cases hq; exact h⟩
    | 4 =>
      obtain ⟨a, b, h⟩ := u_known (C := RX4) (T := TX4) (N := 3) (n := 3) hG inGX4 (hG _ st_i4)
      exact ⟨(a, b), fun q hq => by cases hq; exact h⟩
    | 5 =>
      obtain ⟨a, b, h⟩ := u_known (C := RX5) (T := TX5) (N := 10) (n := 10) hG inGX5 (hG _ st_i5)
      exact ⟨(a, b), fun q hq => by cases hq; exact h⟩
    | 6 =>
      obtain ⟨a, b, h⟩ := u_known (C := RX6) (T := TX6) (N := 2) (n := 2) hG inGX6 (hG _ st_i6)
      exact ⟨(a, b), fun q hq => by cases hq; exact h⟩
    | 7 =>
      obtain ⟨a, b, h⟩ := u_known (C := RX7) (T := TX7) (N := 6) (n := 6) hG inGX7 (hG _ st_i7)
      exact ⟨(a, b), fun q hq => by cases hq; exact h⟩
    | 8 =>
      obtain ⟨a, b, h⟩ := u_known (C := RX8) (T := TX8) (N := 5) (n := 5) hG inGX8 (hG _ st_i8)
      exact ⟨(a, b), fun q hq => by cases hq; exact h⟩
    | 9 =>
      obtain ⟨a, b, h⟩ := u_known (C := RX9) (T := TX9) (N := 7) (n := 7) hG inGX9 (hG _ st_i9)
      exact ⟨(a, b), fun q hq => by cases hq; exact h⟩
    | 10 =>
      obtain ⟨a, b, h⟩ := u_known (C := RX10) (T := TX10) (N := 12) (n := 12) hG inGX10 (hG _ st_i10)
      exact ⟨(a, b), fun q hq => by cases hq; exact h⟩
    | 11 =>
      obtain ⟨a, b, h⟩ := u_known (C := RX11) (T := TX11) (N := 74) (n := 74) hG inGX11 (hG _ st_i11)
      exact ⟨(a, b), fun q hq => by cases hq; exact h⟩
    | k + 12 => exact ⟨(0, fun _ => 0), fun q hq => by simp [vwCl] at hq⟩
  obtain ⟨f, hf⟩ := Classical.axiomOfChoice h
  exact ⟨(fun c => (f c).1, fun c => (f c).2), fun c q hq => hf c q hq⟩
end ENTRY

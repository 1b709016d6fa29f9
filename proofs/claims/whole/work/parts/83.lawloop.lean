theorem nI_sub6 (d : Nat) : Int32.ofNat (d + 6) - 6 = nI d := by
  have h : Int32.ofNat (d + 6) = nI d + 6 := (nI_add d 6).symm
  rw [h]
  exact Int32.add_sub_cancel _ _
theorem law_out {L j : Nat} (hL : L ≤ 3072) (hj : 6 * j ≤ L) (h : ¬ Int32.ofNat L - 6 < nI (6 * j)) : 6 * j + 6 ≤ L := by
  rcases Nat.lt_or_ge L 6 with q | q
  · exfalso
    apply h
    refine Int32.lt_of_lt_of_le (b := 0) ?_ (nI_pos' (by omega))
    rcases (show L = 0 ∨ L = 1 ∨ L = 2 ∨ L = 3 ∨ L = 4 ∨ L = 5 by omega) with rfl | rfl | rfl | rfl | rfl | rfl <;> decide
  · obtain ⟨d, rfl⟩ : ∃ d, L = d + 6 := ⟨L - 6, by omega⟩
    rw [nI_sub6] at h
    rcases Nat.lt_or_ge d (6 * j) with q2 | q2
    · exact absurd (nI_lt q2 (by omega)) h
    · omega

set_option maxHeartbeats 4000000 in
set_option maxRecDepth 100000 in
theorem law_loop {p : Program} {l : Launch} {e : Env} {s : State} {m : MethodId} {below : List Frame} {meth : Method} {c : Code} {b L : Nat} {xs : Nat → Int32} {E : CE} {E2 : RE} {Rel : Mem → Mem → Prop} (hlt : l.stackTraces = false) (hn : 0 < E.2.2.2.2.2.2) (hSim : SIM Rel) (X : CX p s m meth c #[Value.ref b] cL_law 7 RL (some .boolean)) (hr : meth.sig.returnType = ret) (hlocks : meth.locks = false) (hX : va_X b L xs s s.heap) (hbl : b < s.heap.size) (hL : L ≤ 3072) (hd : DJ (vC E) (vR E2)) {KC KS : Nat} (hKC : KC ≤ 590000) (hKS : KS ≤ 7200000) :
    ∀ (n j : Nat), 6 * j ≤ L → L < 6 * j + n → ∀ (σ τ : Mem), Rel σ τ → ∀ (H : Heap) (locs : List Loc) (ls : Array Slot), WI (vC E) (fun q : Nat => s.heap.size ≤ q) s H locs σ → WI (vR E2) (fun q : Nat => s.heap.size ≤ q) s H locs τ → lv_has ls 7 [(0, .ref b), (1, .ref (ca E 0)), (2, .ref (ra E2 0)), (3, .ref (ca E 59)), (4, .int (nI (6 * j)))] → W p l e room_1 s m #[Value.ref b] below meth c H locs (KC + 4 * j) (KS + 24 * j) (lw_Z below #[Value.ref b] s) (F0 m 23 ls []) := by
  have hx := X.1
  have hb := X.2.1
  have hbA : ¬ (fun q : Nat => s.heap.size ≤ q) b := Nat.not_le.mpr hbl
  intro n
  induction n with
  | zero => intro j h1 h2; exact absurd h2 (by omega)
  | succ n ih =>
    intro j hj hn0 σ τ hR H locs ls I J hl
    have hc : KC + 4 * j + 4 ≤ 601024 := by omega
    have hs : KS + 24 * j + 24 ≤ 7293034 := by omega
    refine lv_iload hx hb dL_law_23 (lv_at hl 4 rfl) ?_
    refine lv_aload_n hx hb dL_law_25 rfl (lv_at hl 0 rfl) ?_
    refine va_slen hx hb hX hbl hbA I.2.2.2.1 dL_law_26 ?_
    refine lv_bipush (v := 6) hx hb dL_law_27 (by decide) ?_
    refine lv_isub hx hb dL_law_29 ?_
    refine lv_icmp_gt (tgt := 2292) hx hb dL_law_30 (by decide) (fun c1 => ?_) (fun c1 => ?_)
    · refine lv_iconst (v := 1) hx hb dL_law_2292 (by decide) ?_
      refine va_forget (fun q hq => I.2.2.2.1.2.2 q hq) ?_
      refine W.widen (k := 601024) (n := 7293034) (Nat.le_trans (Nat.le_add_right _ 4) hc) (Nat.le_trans (Nat.le_add_right _ 24) hs) ?_
      exact lw_ret hx hb hr hlocks dL_law_2293
    · have hq := law_out hL hj c1
      have hi0 : vp_in (nI (6 * j)) L := vp_in_nI (by omega) (by omega)
      have hi1 : vp_in (nI (6 * j) + 1) L := by rw [show nI (6 * j) + 1 = nI (6 * j + 1) from nI_add _ 1]; exact vp_in_nI (by omega) (by omega)
      have hi2 : vp_in (nI (6 * j) + 2) L := by rw [show nI (6 * j) + 2 = nI (6 * j + 2) from nI_add _ 2]; exact vp_in_nI (by omega) (by omega)
      have hi3 : vp_in (nI (6 * j) + 3) L := by rw [show nI (6 * j) + 3 = nI (6 * j + 3) from nI_add _ 3]; exact vp_in_nI (by omega) (by omega)
      have hi4 : vp_in (nI (6 * j) + 4) L := by rw [show nI (6 * j) + 4 = nI (6 * j + 4) from nI_add _ 4]; exact vp_in_nI (by omega) (by omega)
      have hi5 : vp_in (nI (6 * j) + 5) L := by rw [show nI (6 * j) + 5 = nI (6 * j + 5) from nI_add _ 5]; exact vp_in_nI (by omega) (by omega)
      have kend : ∀ (σ1 τ1 : Mem), Rel σ1 τ1 → ∀ (H : Heap) (locs : List Loc) (ls : Array Slot), WI (vC E) (fun q : Nat => s.heap.size ≤ q) s H locs σ1 → WI (vR E2) (fun q : Nat => s.heap.size ≤ q) s H locs τ1 → lv_has ls 7 [(0, .ref b), (1, .ref (ca E 0)), (2, .ref (ra E2 0)), (3, .ref (ca E 59)), (4, .int (nI (6 * j)))] → W p l e room_1 s m #[Value.ref b] below meth c H locs (KC + 4 * j + 4) (KS + 24 * j + 24) (lw_Z below #[Value.ref b] s) (F0 m 2286 ls []) := by
        intro σ1 τ1 hR1 H locs ls I J hl
        refine lv_iinc (v := nI (6 * (j + 1))) (lv' := [(4, .int (nI (6 * (j + 1)))), (0, .ref b), (1, .ref (ca E 0)), (2, .ref (ra E2 0)), (3, .ref (ca E 59))]) hx hb dL_law_2286 hl (k := 4) rfl (by rw [show 6 * (j + 1) = 6 * j + 6 by omega]; exact nI_add _ 6) (by decide) rfl (fun ls hl => ?_)
        refine lv_goto (tgt := 23) hx hb dL_law_2289 (by decide) ?_
        have e1 : KC + 4 * j + 4 = KC + 4 * (j + 1) := by omega
        have e2 : KS + 24 * j + 24 = KS + 24 * (j + 1) := by omega
        rw [e1, e2]
        exact ih (j + 1) (by omega) (by omega) σ1 τ1 hR1 H locs ls I J (lv_sub hl [1, 2, 3, 4, 0] rfl)
      refine lv_aload_n hx hb dL_law_33 rfl (lv_at hl 0 rfl) ?_
      refine lv_iload hx hb dL_law_34 (lv_at hl 4 rfl) ?_
      refine va_sld hx hb hX hbl hbA I.2.2.2.1 hi0 dL_law_36 ?_
      refine lv_bipush (v := 63) hx hb dL_law_37 (by decide) ?_
      refine lv_iand hx hb dL_law_39 ?_
      refine lv_topi (fun y _ => ?_)
      by_cases c10 : y = (0 : Int32)
      · have ht : Int32.toInt y = 0 := by rw [c10]; rfl
        refine lv_tableIn (off := 160) (tgt := 200) hx hb dL_law_40 (by rw [ht]; decide) (by rw [ht]; decide) (by rw [ht]; rfl) (by decide) ?_
        exact lc_feed hlt hn hSim.1 X hX hbl hd hi1 hi2 hi3 hi4 hi5 hR hc hs I J hl kend
      by_cases c11 : y = (1 : Int32)
      · have ht : Int32.toInt y = 1 := by rw [c11]; rfl
        refine lv_tableIn (off := 233) (tgt := 273) hx hb dL_law_40 (by rw [ht]; decide) (by rw [ht]; decide) (by rw [ht]; rfl) (by decide) ?_
        exact lc_terrace hlt hn hSim.2.1 X hX hbl hd hi1 hi2 hi3 hi4 hi5 hR hc hs I J hl kend
      by_cases c12 : y = (2 : Int32)
      · have ht : Int32.toInt y = 2 := by rw [c12]; rfl
        refine lv_tableIn (off := 289) (tgt := 329) hx hb dL_law_40 (by rw [ht]; decide) (by rw [ht]; decide) (by rw [ht]; rfl) (by decide) ?_
        exact lc_fault hlt hn hSim.2.2.1 X hX hbl hd hi1 hi2 hi3 hi4 hi5 hR hc hs I J hl kend
      by_cases c13 : y = (3 : Int32)
      · have ht : Int32.toInt y = 3 := by rw [c13]; rfl
        refine lv_tableIn (off := 302) (tgt := 342) hx hb dL_law_40 (by rw [ht]; decide) (by rw [ht]; decide) (by rw [ht]; rfl) (by decide) ?_
        exact lc_count hlt hn hSim.2.2.2.1 X hX hbl hd hi1 hi2 hi3 hi4 hi5 hR hc hs I J hl kend
      by_cases c14 : y = (4 : Int32)
      · have ht : Int32.toInt y = 4 := by rw [c14]; rfl
        refine lv_tableIn (off := 358) (tgt := 398) hx hb dL_law_40 (by rw [ht]; decide) (by rw [ht]; decide) (by rw [ht]; rfl) (by decide) ?_
        exact lc_house hlt hn hSim.2.2.2.2.1 X hX hbl hd hi1 hi2 hi3 hi4 hi5 hR hc hs I J hl kend
      by_cases c15 : y = (5 : Int32)
      · have ht : Int32.toInt y = 5 := by rw [c15]; rfl
        refine lv_tableIn (off := 426) (tgt := 466) hx hb dL_law_40 (by rw [ht]; decide) (by rw [ht]; decide) (by rw [ht]; rfl) (by decide) ?_
        exact lc_tenant hlt hn hSim.2.2.2.2.2.1 X hX hbl hd hi1 hi2 hi3 hi4 hi5 hR hc hs I J hl kend
      by_cases c16 : y = (6 : Int32)
      · have ht : Int32.toInt y = 6 := by rw [c16]; rfl
        refine lv_tableIn (off := 494) (tgt := 534) hx hb dL_law_40 (by rw [ht]; decide) (by rw [ht]; decide) (by rw [ht]; rfl) (by decide) ?_
        exact lc_quarters hlt hn hSim.2.2.2.2.2.2.1 X hX hbl hd hi1 hi2 hi3 hi4 hi5 hR hc hs I J hl kend
      by_cases c17 : y = (7 : Int32)
      · have ht : Int32.toInt y = 7 := by rw [c17]; rfl
        refine lv_tableIn (off := 519) (tgt := 559) hx hb dL_law_40 (by rw [ht]; decide) (by rw [ht]; decide) (by rw [ht]; rfl) (by decide) ?_
        exact lc_buy hlt hn hSim.2.2.2.2.2.2.2.1 X hX hbl hd hi1 hi2 hi3 hi4 hi5 hR hc hs I J hl kend
      by_cases c18 : y = (8 : Int32)
      · have ht : Int32.toInt y = 8 := by rw [c18]; rfl
        refine lv_tableIn (off := 587) (tgt := 627) hx hb dL_law_40 (by rw [ht]; decide) (by rw [ht]; decide) (by rw [ht]; rfl) (by decide) ?_
        exact lc_cats hlt hn hSim.2.2.2.2.2.2.2.2.1 X hX hbl hd hi1 hi2 hi3 hi4 hi5 hR hc hs I J hl kend
      by_cases c19 : y = (9 : Int32)
      · have ht : Int32.toInt y = 9 := by rw [c19]; rfl
        refine lv_tableIn (off := 655) (tgt := 695) hx hb dL_law_40 (by rw [ht]; decide) (by rw [ht]; decide) (by rw [ht]; rfl) (by decide) ?_
        exact lc_lead hlt hn hSim.2.2.2.2.2.2.2.2.2.1 X hX hbl hd hi1 hi2 hi3 hi4 hi5 hR hc hs I J hl kend
      by_cases c20 : y = (10 : Int32)
      · have ht : Int32.toInt y = 10 := by rw [c20]; rfl
        refine lv_tableIn (off := 746) (tgt := 786) hx hb dL_law_40 (by rw [ht]; decide) (by rw [ht]; decide) (by rw [ht]; rfl) (by decide) ?_
        exact lc_temper hlt hn hSim.2.2.2.2.2.2.2.2.2.2.1 X hX hbl hd hi1 hi2 hi3 hi4 hi5 hR hc hs I J hl kend
      by_cases c21 : y = (11 : Int32)
      · have ht : Int32.toInt y = 11 := by rw [c21]; rfl
        refine lv_tableIn (off := 814) (tgt := 854) hx hb dL_law_40 (by rw [ht]; decide) (by rw [ht]; decide) (by rw [ht]; rfl) (by decide) ?_
        exact lc_undo hlt hn hSim.2.2.2.2.2.2.2.2.2.2.2.1 X hX hbl hd hi1 hi2 hi3 hi4 hi5 hR hc hs I J hl kend
      by_cases c22 : y = (12 : Int32)
      · have ht : Int32.toInt y = 12 := by rw [c22]; rfl
        refine lv_tableIn (off := 827) (tgt := 867) hx hb dL_law_40 (by rw [ht]; decide) (by rw [ht]; decide) (by rw [ht]; rfl) (by decide) ?_
        exact lc_then hlt hn hSim.2.2.2.2.2.2.2.2.2.2.2.2.1 X hX hbl hd hi1 hi2 hi3 hi4 hi5 hR hc hs I J hl kend
      by_cases c23 : y = (13 : Int32)
      · have ht : Int32.toInt y = 13 := by rw [c23]; rfl
        refine lv_tableIn (off := 895) (tgt := 935) hx hb dL_law_40 (by rw [ht]; decide) (by rw [ht]; decide) (by rw [ht]; rfl) (by decide) ?_
        exact lc_purse hlt hn hSim.2.2.2.2.2.2.2.2.2.2.2.2.2.1 X hX hbl hd hi1 hi2 hi3 hi4 hi5 hR hc hs I J hl kend
      by_cases c24 : y = (14 : Int32)
      · have ht : Int32.toInt y = 14 := by rw [c24]; rfl
        refine lv_tableIn (off := 975) (tgt := 1015) hx hb dL_law_40 (by rw [ht]; decide) (by rw [ht]; decide) (by rw [ht]; rfl) (by decide) ?_
        exact lc_sealed hlt hn hSim.2.2.2.2.2.2.2.2.2.2.2.2.2.2.1 X hX hbl hd hi1 hi2 hi3 hi4 hi5 hR hc hs I J hl kend
      by_cases c25 : y = (15 : Int32)
      · have ht : Int32.toInt y = 15 := by rw [c25]; rfl
        refine lv_tableIn (off := 1031) (tgt := 1071) hx hb dL_law_40 (by rw [ht]; decide) (by rw [ht]; decide) (by rw [ht]; rfl) (by decide) ?_
        exact lc_gets hlt hn hSim.2.2.2.2.2.2.2.2.2.2.2.2.2.2.2.1 X hX hbl hd hi1 hi2 hi3 hi4 hi5 hR hc hs I J hl kend
      by_cases c26 : y = (16 : Int32)
      · have ht : Int32.toInt y = 16 := by rw [c26]; rfl
        refine lv_tableIn (off := 1099) (tgt := 1139) hx hb dL_law_40 (by rw [ht]; decide) (by rw [ht]; decide) (by rw [ht]; rfl) (by decide) ?_
        exact lc_loses hlt hn hSim.2.2.2.2.2.2.2.2.2.2.2.2.2.2.2.2.1 X hX hbl hd hi1 hi2 hi3 hi4 hi5 hR hc hs I J hl kend
      by_cases c27 : y = (17 : Int32)
      · have ht : Int32.toInt y = 17 := by rw [c27]; rfl
        refine lv_tableIn (off := 1155) (tgt := 1195) hx hb dL_law_40 (by rw [ht]; decide) (by rw [ht]; decide) (by rw [ht]; rfl) (by decide) ?_
        exact lc_most hlt hn hSim.2.2.2.2.2.2.2.2.2.2.2.2.2.2.2.2.2.1 X hX hbl hd hi1 hi2 hi3 hi4 hi5 hR hc hs I J hl kend
      by_cases c28 : y = (18 : Int32)
      · have ht : Int32.toInt y = 18 := by rw [c28]; rfl
        refine lv_tableIn (off := 1211) (tgt := 1251) hx hb dL_law_40 (by rw [ht]; decide) (by rw [ht]; decide) (by rw [ht]; rfl) (by decide) ?_
        exact lc_row hlt hn hSim.2.2.2.2.2.2.2.2.2.2.2.2.2.2.2.2.2.2.1 X hX hbl hd hi1 hi2 hi3 hi4 hi5 hR hc hs I J hl kend
      by_cases c29 : y = (19 : Int32)
      · have ht : Int32.toInt y = 19 := by rw [c29]; rfl
        refine lv_tableIn (off := 1279) (tgt := 1319) hx hb dL_law_40 (by rw [ht]; decide) (by rw [ht]; decide) (by rw [ht]; rfl) (by decide) ?_
        exact lc_empty hlt hn hSim.2.2.2.2.2.2.2.2.2.2.2.2.2.2.2.2.2.2.2.1 X hX hbl hd hi1 hi2 hi3 hi4 hi5 hR hc hs I J hl kend
      by_cases c30 : y = (20 : Int32)
      · have ht : Int32.toInt y = 20 := by rw [c30]; rfl
        refine lv_tableIn (off := 1335) (tgt := 1375) hx hb dL_law_40 (by rw [ht]; decide) (by rw [ht]; decide) (by rw [ht]; rfl) (by decide) ?_
        exact lc_liking hlt hn hSim.2.2.2.2.2.2.2.2.2.2.2.2.2.2.2.2.2.2.2.2.1 X hX hbl hd hi1 hi2 hi3 hi4 hi5 hR hc hs I J hl kend
      by_cases c31 : y = (21 : Int32)
      · have ht : Int32.toInt y = 21 := by rw [c31]; rfl
        refine lv_tableIn (off := 1403) (tgt := 1443) hx hb dL_law_40 (by rw [ht]; decide) (by rw [ht]; decide) (by rw [ht]; rfl) (by decide) ?_
        exact lc_leastChops hlt hn hSim.2.2.2.2.2.2.2.2.2.2.2.2.2.2.2.2.2.2.2.2.2.1 X hX hbl hd hi1 hi2 hi3 hi4 hi5 hR hc hs I J hl kend
      by_cases c32 : y = (22 : Int32)
      · have ht : Int32.toInt y = 22 := by rw [c32]; rfl
        refine lv_tableIn (off := 1471) (tgt := 1511) hx hb dL_law_40 (by rw [ht]; decide) (by rw [ht]; decide) (by rw [ht]; rfl) (by decide) ?_
        exact lc_toWin hlt hn hSim.2.2.2.2.2.2.2.2.2.2.2.2.2.2.2.2.2.2.2.2.2.2.1 X hX hbl hd hi1 hi2 hi3 hi4 hi5 hR hc hs I J hl kend
      by_cases c33 : y = (23 : Int32)
      · have ht : Int32.toInt y = 23 := by rw [c33]; rfl
        refine lv_tableIn (off := 1539) (tgt := 1579) hx hb dL_law_40 (by rw [ht]; decide) (by rw [ht]; decide) (by rw [ht]; rfl) (by decide) ?_
        exact lc_ruin hlt hn hSim.2.2.2.2.2.2.2.2.2.2.2.2.2.2.2.2.2.2.2.2.2.2.2.1 X hX hbl hd hi1 hi2 hi3 hi4 hi5 hR hc hs I J hl kend
      by_cases c34 : y = (24 : Int32)
      · have ht : Int32.toInt y = 24 := by rw [c34]; rfl
        refine lv_tableIn (off := 1595) (tgt := 1635) hx hb dL_law_40 (by rw [ht]; decide) (by rw [ht]; decide) (by rw [ht]; rfl) (by decide) ?_
        exact lc_share hlt hn hSim.2.2.2.2.2.2.2.2.2.2.2.2.2.2.2.2.2.2.2.2.2.2.2.2.1 X hX hbl hd hi1 hi2 hi3 hi4 hi5 hR hc hs I J hl kend
      by_cases c35 : y = (25 : Int32)
      · have ht : Int32.toInt y = 25 := by rw [c35]; rfl
        refine lv_tableIn (off := 1663) (tgt := 1703) hx hb dL_law_40 (by rw [ht]; decide) (by rw [ht]; decide) (by rw [ht]; rfl) (by decide) ?_
        exact lc_beside hlt hn hSim.2.2.2.2.2.2.2.2.2.2.2.2.2.2.2.2.2.2.2.2.2.2.2.2.2.1 X hX hbl hd hi1 hi2 hi3 hi4 hi5 hR hc hs I J hl kend
      by_cases c36 : y = (26 : Int32)
      · have ht : Int32.toInt y = 26 := by rw [c36]; rfl
        refine lv_tableIn (off := 1719) (tgt := 1759) hx hb dL_law_40 (by rw [ht]; decide) (by rw [ht]; decide) (by rw [ht]; rfl) (by decide) ?_
        exact lc_oldest hlt hn hSim.2.2.2.2.2.2.2.2.2.2.2.2.2.2.2.2.2.2.2.2.2.2.2.2.2.2.1 X hX hbl hd hi1 hi2 hi3 hi4 hi5 hR hc hs I J hl kend
      by_cases c37 : y = (27 : Int32)
      · have ht : Int32.toInt y = 27 := by rw [c37]; rfl
        refine lv_tableIn (off := 1775) (tgt := 1815) hx hb dL_law_40 (by rw [ht]; decide) (by rw [ht]; decide) (by rw [ht]; rfl) (by decide) ?_
        exact lc_envy hlt hn hSim.2.2.2.2.2.2.2.2.2.2.2.2.2.2.2.2.2.2.2.2.2.2.2.2.2.2.2.1 X hX hbl hd hi1 hi2 hi3 hi4 hi5 hR hc hs I J hl kend
      by_cases c38 : y = (28 : Int32)
      · have ht : Int32.toInt y = 28 := by rw [c38]; rfl
        refine lv_tableIn (off := 1831) (tgt := 1871) hx hb dL_law_40 (by rw [ht]; decide) (by rw [ht]; decide) (by rw [ht]; rfl) (by decide) ?_
        exact lc_see hlt hn hSim.2.2.2.2.2.2.2.2.2.2.2.2.2.2.2.2.2.2.2.2.2.2.2.2.2.2.2.2.1 X hX hbl hd hi1 hi2 hi3 hi4 hi5 hR hc hs I J hl kend
      by_cases c39 : y = (29 : Int32)
      · have ht : Int32.toInt y = 29 := by rw [c39]; rfl
        refine lv_tableIn (off := 1939) (tgt := 1979) hx hb dL_law_40 (by rw [ht]; decide) (by rw [ht]; decide) (by rw [ht]; rfl) (by decide) ?_
        exact lc_pockets hlt hn hSim.2.2.2.2.2.2.2.2.2.2.2.2.2.2.2.2.2.2.2.2.2.2.2.2.2.2.2.2.2.1 X hX hbl hd hi1 hi2 hi3 hi4 hi5 hR hc hs I J hl kend
      by_cases c40 : y = (30 : Int32)
      · have ht : Int32.toInt y = 30 := by rw [c40]; rfl
        refine lv_tableIn (off := 1995) (tgt := 2035) hx hb dL_law_40 (by rw [ht]; decide) (by rw [ht]; decide) (by rw [ht]; rfl) (by decide) ?_
        exact lc_look hlt hn hSim.2.2.2.2.2.2.2.2.2.2.2.2.2.2.2.2.2.2.2.2.2.2.2.2.2.2.2.2.2.2.1 X hX hbl hd hi1 hi2 hi3 hi4 hi5 hR hc hs I J hl kend
      by_cases c41 : y = (31 : Int32)
      · have ht : Int32.toInt y = 31 := by rw [c41]; rfl
        refine lv_tableIn (off := 2051) (tgt := 2091) hx hb dL_law_40 (by rw [ht]; decide) (by rw [ht]; decide) (by rw [ht]; rfl) (by decide) ?_
        exact lc_forget hlt hn hSim.2.2.2.2.2.2.2.2.2.2.2.2.2.2.2.2.2.2.2.2.2.2.2.2.2.2.2.2.2.2.2.1 X hX hbl hd hi1 hi2 hi3 hi4 hi5 hR hc hs I J hl kend
      by_cases c42 : y = (32 : Int32)
      · have ht : Int32.toInt y = 32 := by rw [c42]; rfl
        refine lv_tableIn (off := 2062) (tgt := 2102) hx hb dL_law_40 (by rw [ht]; decide) (by rw [ht]; decide) (by rw [ht]; rfl) (by decide) ?_
        exact lc_game hlt hn hSim.2.2.2.2.2.2.2.2.2.2.2.2.2.2.2.2.2.2.2.2.2.2.2.2.2.2.2.2.2.2.2.2.1 X hX hbl hd hi1 hi2 hi3 hi4 hi5 hR hc hs I J hl kend
      by_cases c43 : y = (33 : Int32)
      · have ht : Int32.toInt y = 33 := by rw [c43]; rfl
        refine lv_tableIn (off := 2142) (tgt := 2182) hx hb dL_law_40 (by rw [ht]; decide) (by rw [ht]; decide) (by rw [ht]; rfl) (by decide) ?_
        exact lc_years hlt hn hSim.2.2.2.2.2.2.2.2.2.2.2.2.2.2.2.2.2.2.2.2.2.2.2.2.2.2.2.2.2.2.2.2.2.1 X hX hbl hd hi1 hi2 hi3 hi4 hi5 hR hc hs I J hl kend
      by_cases c44 : y = (34 : Int32)
      · have ht : Int32.toInt y = 34 := by rw [c44]; rfl
        refine lv_tableIn (off := 2222) (tgt := 2262) hx hb dL_law_40 (by rw [ht]; decide) (by rw [ht]; decide) (by rw [ht]; rfl) (by decide) ?_
        exact lc_image hlt hn hSim.2.2.2.2.2.2.2.2.2.2.2.2.2.2.2.2.2.2.2.2.2.2.2.2.2.2.2.2.2.2.2.2.2.2.1 X hX hbl hd hi1 hi2 hi3 hi4 hi5 hR hc hs I J hl kend
      by_cases c45 : y = (35 : Int32)
      · have ht : Int32.toInt y = 35 := by rw [c45]; rfl
        refine lv_tableIn (off := 2233) (tgt := 2273) hx hb dL_law_40 (by rw [ht]; decide) (by rw [ht]; decide) (by rw [ht]; rfl) (by decide) ?_
        exact lc_restore hlt hn hSim.2.2.2.2.2.2.2.2.2.2.2.2.2.2.2.2.2.2.2.2.2.2.2.2.2.2.2.2.2.2.2.2.2.2.2 X hX hbl hd hi1 hi2 hi3 hi4 hi5 hR hc hs I J hl kend
      have t10 := lv_neT (a := 0) c10 (by decide)
      have t11 := lv_neT (a := 1) c11 (by decide)
      have t12 := lv_neT (a := 2) c12 (by decide)
      have t13 := lv_neT (a := 3) c13 (by decide)
      have t14 := lv_neT (a := 4) c14 (by decide)
      have t15 := lv_neT (a := 5) c15 (by decide)
      have t16 := lv_neT (a := 6) c16 (by decide)
      have t17 := lv_neT (a := 7) c17 (by decide)
      have t18 := lv_neT (a := 8) c18 (by decide)
      have t19 := lv_neT (a := 9) c19 (by decide)
      have t20 := lv_neT (a := 10) c20 (by decide)
      have t21 := lv_neT (a := 11) c21 (by decide)
      have t22 := lv_neT (a := 12) c22 (by decide)
      have t23 := lv_neT (a := 13) c23 (by decide)
      have t24 := lv_neT (a := 14) c24 (by decide)
      have t25 := lv_neT (a := 15) c25 (by decide)
      have t26 := lv_neT (a := 16) c26 (by decide)
      have t27 := lv_neT (a := 17) c27 (by decide)
      have t28 := lv_neT (a := 18) c28 (by decide)
      have t29 := lv_neT (a := 19) c29 (by decide)
      have t30 := lv_neT (a := 20) c30 (by decide)
      have t31 := lv_neT (a := 21) c31 (by decide)
      have t32 := lv_neT (a := 22) c32 (by decide)
      have t33 := lv_neT (a := 23) c33 (by decide)
      have t34 := lv_neT (a := 24) c34 (by decide)
      have t35 := lv_neT (a := 25) c35 (by decide)
      have t36 := lv_neT (a := 26) c36 (by decide)
      have t37 := lv_neT (a := 27) c37 (by decide)
      have t38 := lv_neT (a := 28) c38 (by decide)
      have t39 := lv_neT (a := 29) c39 (by decide)
      have t40 := lv_neT (a := 30) c40 (by decide)
      have t41 := lv_neT (a := 31) c41 (by decide)
      have t42 := lv_neT (a := 32) c42 (by decide)
      have t43 := lv_neT (a := 33) c43 (by decide)
      have t44 := lv_neT (a := 34) c44 (by decide)
      have t45 := lv_neT (a := 35) c45 (by decide)
      refine lv_tableOut (tgt := 2286) hx hb dL_law_40 (by omega) (by decide) ?_
      refine W.widen (k := KC + 4 * j + 4) (n := KS + 24 * j + 24) (Nat.le_add_right _ _) (Nat.le_add_right _ _) ?_
      exact kend σ τ hR H locs ls I J hl

/-! the reference's world: 52 cells -/
abbrev RE : Type := va_G × (Nat → Nat) × ClassId × ClassId × ClassId × XE
def ra (E : RE) (k : Nat) : Nat := E.2.1 k
def vsel (v : Int32) : Nat := if v = 0 then 3 else 4
def sArr (k : Nat) : List Nat := match k with
  | 1 => [30, 31]
  | 2 => [32, 33]
  | 3 => [34, 35, 36, 37, 38, 39, 40, 41, 42, 43]
  | 4 => [34, 35, 36, 37]
  | _ => []
def wd (k j : Nat) : Nat := (sArr k).getD j 0
def wl (k : Nat) : Int32 := Int32.ofNat (sArr k).length
def wn (k : Nat) : Nat := (sArr k).length
def cellR (E : RE) (k : Nat) (r : Nat → Int32) : va_E := match k with
  | 0 => .inr (11, [.ref (ra E 1), .ref (ra E 2), .ref (ra E 3), .ref (ra E 4), .ref (ra E (vsel (r 4))), .int (r 5), .ref (ra E 5), .ref (ra E 6), .ref (ra E 7), .ref (ra E 8), .ref (ra E 9), .ref (ra E 10), .ref (ra E 11), .ref (ra E 12), .ref (ra E 13), .ref (ra E 14), .ref (ra E 15), .ref (ra E 16), .ref (ra E 17), .ref (ra E 18), .ref (ra E 19), .int (r 21), .int (r 22), .int (r 23), .int (r 24), .int (r 25), .int (r 26), .int (r 27), .int (r 28), .int (r 29), .int (r 30), .int (r 31), .ref (ra E 20), .ref (ra E 21), .ref (ra E 22), .ref (ra E 23), .ref (ra E 24), .ref (ra E 25), .ref (ra E 26), .ref (ra E 27), .ref (ra E 28), .int (r 41), .int (r 42), .int (r 43), .int (r 44), .int (r 45), .ref (ra E 29), .ref (ra E 30), .ref (ra E 31), .ref (ra E 32), .ref (ra E 33), .ref (ra E 34), .ref (ra E 35), .ref (ra E 36), .ref (ra E 37), .ref (ra E 38), .ref (ra E 39), .ref (ra E 40), .ref (ra E 41), .ref (ra E 42), .ref (ra E 43), .int (r 61), .ref (ra E 44), .int (r 63), .int (r 64), .int (r 65), .int (r 66), .ref (ra E 45), .ref (ra E 46), .ref (ra E 47), .ref (ra E 48), .ref (ra E 49), .ref (ra E 50), .ref (ra E 51)])
  | 1 => .inl (E.2.2.2.2.1, 2, .inr (.inr (.inr (.inr (fun j => some (E.2.2.2.2.2.1 (wd 1 j)))))))
  | 2 => .inl (E.2.2.2.2.1, 2, .inr (.inr (.inr (.inr (fun j => some (E.2.2.2.2.2.1 (wd 2 j)))))))
  | 3 => .inl (E.2.2.2.2.1, 10, .inr (.inr (.inr (.inr (fun j => some (E.2.2.2.2.2.1 (wd 3 j)))))))
  | 4 => .inl (E.2.2.2.2.1, 4, .inr (.inr (.inr (.inr (fun j => some (E.2.2.2.2.2.1 (wd 4 j)))))))
  | 5 => .inl (E.2.2.1, 10, .inl r)
  | 6 => .inl (E.2.2.1, 16, .inl r)
  | 7 => .inl (E.2.2.1, 16, .inl r)
  | 8 => .inl (E.2.2.1, 16, .inl r)
  | 9 => .inl (E.2.2.1, 16, .inl r)
  | 10 => .inl (E.2.2.1, 16, .inl r)
  | 11 => .inl (E.2.2.1, 14, .inl r)
  | 12 => .inl (E.2.2.1, 14, .inl r)
  | 13 => .inl (E.2.2.1, 14, .inl r)
  | 14 => .inl (E.2.2.1, 14, .inl r)
  | 15 => .inl (E.2.2.1, 14, .inl r)
  | 16 => .inl (E.2.2.1, 1400, .inl r)
  | 17 => .inl (E.2.2.1, 1400, .inl r)
  | 18 => .inl (E.2.2.1, 3, .inl r)
  | 19 => .inl (E.2.2.1, 700, .inl r)
  | 20 => .inl (E.2.2.1, 8, .inl r)
  | 21 => .inl (E.2.2.1, 8, .inl r)
  | 22 => .inl (E.2.2.1, 8, .inl r)
  | 23 => .inl (E.2.2.1, 8, .inl r)
  | 24 => .inl (E.2.2.1, 8, .inl r)
  | 25 => .inl (E.2.2.1, 7, .inl r)
  | 26 => .inl (E.2.2.1, 7, .inl r)
  | 27 => .inl (E.2.2.1, 7, .inl r)
  | 28 => .inl (E.2.2.1, 2560, .inl r)
  | 29 => .inl (E.2.2.1, 10, .inl r)
  | 30 => .inl (E.2.2.1, 64, .inl r)
  | 31 => .inl (E.2.2.1, 8, .inl r)
  | 32 => .inl (E.2.2.1, 8, .inl r)
  | 33 => .inl (E.2.2.1, 7, .inl r)
  | 34 => .inl (E.2.2.1, 64, .inl r)
  | 35 => .inl (E.2.2.1, 2048, .inl r)
  | 36 => .inl (E.2.2.1, 1792, .inl r)
  | 37 => .inl (E.2.2.1, 8, .inl r)
  | 38 => .inl (E.2.2.1, 8, .inl r)
  | 39 => .inl (E.2.2.1, 8, .inl r)
  | 40 => .inl (E.2.2.1, 64, .inl r)
  | 41 => .inl (E.2.2.2.1, 8, .inl r)
  | 42 => .inl (E.2.2.1, 147, .inl r)
  | 43 => .inl (E.2.2.1, 1176, .inl r)
  | 44 => .inl (E.2.2.1, 8, .inl r)
  | 45 => .inl (E.2.2.1, 64, .inl r)
  | 46 => .inl (E.2.2.1, 2560, .inl r)
  | 47 => .inl (E.2.2.1, 8, .inl r)
  | 48 => .inl (E.2.2.1, 8, .inl r)
  | 49 => .inl (E.2.2.1, 8, .inl r)
  | 50 => .inl (E.2.2.1, 3, .inl r)
  | _ => .inl (E.2.2.2.1, 8, .inl r)
def vR (E : RE) : WV := (E.1, [(E.2.2.1, .int), (E.2.2.2.1, .boolean), (E.2.2.2.2.1, .object "java/lang/String")], cellR E, ra E, 52, FF E.2.2.2.2.2)
def KRo11 (E : RE) (k : Nat) : Prop := k = 0
def KRaI (E : RE) (k n : Nat) : Prop := k < 52 ∧ ∀ r, cellR E k r = .inl (E.2.2.1, n, .inl r)
def KRaZ (E : RE) (k n : Nat) : Prop := k < 52 ∧ ∀ r, cellR E k r = .inl (E.2.2.2.1, n, .inl r)
def KRs (E : RE) (k : Nat) : Prop := k < 52 ∧ ∀ r, cellR E k r = .inl (E.2.2.2.2.1, wn k, .inr (.inr (.inr (.inr (fun j => some (E.2.2.2.2.2.1 (wd k j)))))))
theorem kR_0 (E : RE) : KRo11 E 0 := rfl
theorem kR_1 (E : RE) : KRs E 1 := ⟨by decide, fun _ => rfl⟩
theorem kR_2 (E : RE) : KRs E 2 := ⟨by decide, fun _ => rfl⟩
theorem kR_3 (E : RE) : KRs E 3 := ⟨by decide, fun _ => rfl⟩
theorem kR_4 (E : RE) : KRs E 4 := ⟨by decide, fun _ => rfl⟩
theorem kR_5 (E : RE) : KRaI E 5 10 := ⟨by decide, fun _ => rfl⟩
theorem kR_6 (E : RE) : KRaI E 6 16 := ⟨by decide, fun _ => rfl⟩
theorem kR_7 (E : RE) : KRaI E 7 16 := ⟨by decide, fun _ => rfl⟩
theorem kR_8 (E : RE) : KRaI E 8 16 := ⟨by decide, fun _ => rfl⟩
theorem kR_9 (E : RE) : KRaI E 9 16 := ⟨by decide, fun _ => rfl⟩
theorem kR_10 (E : RE) : KRaI E 10 16 := ⟨by decide, fun _ => rfl⟩
theorem kR_11 (E : RE) : KRaI E 11 14 := ⟨by decide, fun _ => rfl⟩
theorem kR_12 (E : RE) : KRaI E 12 14 := ⟨by decide, fun _ => rfl⟩
theorem kR_13 (E : RE) : KRaI E 13 14 := ⟨by decide, fun _ => rfl⟩
theorem kR_14 (E : RE) : KRaI E 14 14 := ⟨by decide, fun _ => rfl⟩
theorem kR_15 (E : RE) : KRaI E 15 14 := ⟨by decide, fun _ => rfl⟩
theorem kR_16 (E : RE) : KRaI E 16 1400 := ⟨by decide, fun _ => rfl⟩
theorem kR_17 (E : RE) : KRaI E 17 1400 := ⟨by decide, fun _ => rfl⟩
theorem kR_18 (E : RE) : KRaI E 18 3 := ⟨by decide, fun _ => rfl⟩
theorem kR_19 (E : RE) : KRaI E 19 700 := ⟨by decide, fun _ => rfl⟩
theorem kR_20 (E : RE) : KRaI E 20 8 := ⟨by decide, fun _ => rfl⟩
theorem kR_21 (E : RE) : KRaI E 21 8 := ⟨by decide, fun _ => rfl⟩
theorem kR_22 (E : RE) : KRaI E 22 8 := ⟨by decide, fun _ => rfl⟩
theorem kR_23 (E : RE) : KRaI E 23 8 := ⟨by decide, fun _ => rfl⟩
theorem kR_24 (E : RE) : KRaI E 24 8 := ⟨by decide, fun _ => rfl⟩
theorem kR_25 (E : RE) : KRaI E 25 7 := ⟨by decide, fun _ => rfl⟩
theorem kR_26 (E : RE) : KRaI E 26 7 := ⟨by decide, fun _ => rfl⟩
theorem kR_27 (E : RE) : KRaI E 27 7 := ⟨by decide, fun _ => rfl⟩
theorem kR_28 (E : RE) : KRaI E 28 2560 := ⟨by decide, fun _ => rfl⟩
theorem kR_29 (E : RE) : KRaI E 29 10 := ⟨by decide, fun _ => rfl⟩
theorem kR_30 (E : RE) : KRaI E 30 64 := ⟨by decide, fun _ => rfl⟩
theorem kR_31 (E : RE) : KRaI E 31 8 := ⟨by decide, fun _ => rfl⟩
theorem kR_32 (E : RE) : KRaI E 32 8 := ⟨by decide, fun _ => rfl⟩
theorem kR_33 (E : RE) : KRaI E 33 7 := ⟨by decide, fun _ => rfl⟩
theorem kR_34 (E : RE) : KRaI E 34 64 := ⟨by decide, fun _ => rfl⟩
theorem kR_35 (E : RE) : KRaI E 35 2048 := ⟨by decide, fun _ => rfl⟩
theorem kR_36 (E : RE) : KRaI E 36 1792 := ⟨by decide, fun _ => rfl⟩
theorem kR_37 (E : RE) : KRaI E 37 8 := ⟨by decide, fun _ => rfl⟩
theorem kR_38 (E : RE) : KRaI E 38 8 := ⟨by decide, fun _ => rfl⟩
theorem kR_39 (E : RE) : KRaI E 39 8 := ⟨by decide, fun _ => rfl⟩
theorem kR_40 (E : RE) : KRaI E 40 64 := ⟨by decide, fun _ => rfl⟩
theorem kR_41 (E : RE) : KRaZ E 41 8 := ⟨by decide, fun _ => rfl⟩
theorem kR_42 (E : RE) : KRaI E 42 147 := ⟨by decide, fun _ => rfl⟩
theorem kR_43 (E : RE) : KRaI E 43 1176 := ⟨by decide, fun _ => rfl⟩
theorem kR_44 (E : RE) : KRaI E 44 8 := ⟨by decide, fun _ => rfl⟩
theorem kR_45 (E : RE) : KRaI E 45 64 := ⟨by decide, fun _ => rfl⟩
theorem kR_46 (E : RE) : KRaI E 46 2560 := ⟨by decide, fun _ => rfl⟩
theorem kR_47 (E : RE) : KRaI E 47 8 := ⟨by decide, fun _ => rfl⟩
theorem kR_48 (E : RE) : KRaI E 48 8 := ⟨by decide, fun _ => rfl⟩
theorem kR_49 (E : RE) : KRaI E 49 8 := ⟨by decide, fun _ => rfl⟩
theorem kR_50 (E : RE) : KRaI E 50 3 := ⟨by decide, fun _ => rfl⟩
theorem kR_51 (E : RE) : KRaZ E 51 8 := ⟨by decide, fun _ => rfl⟩
theorem kR_vsel (E : RE) (v : Int32) : KRs E (vsel v) := by
  unfold vsel
  split
  · exact kR_3 E
  · exact kR_4 E
theorem wd_lt (k j : Nat) : wd k j < 50 := by
  have h : ∀ x ∈ sArr k, x < 50 := by
    intro x hx
    unfold sArr at hx
    split at hx <;> simp at hx <;> omega
  unfold wd
  by_cases hj : j < (sArr k).length
  · rw [List.getD_eq_getElem?_getD, List.getElem?_eq_getElem hj]
    exact h _ (List.getElem_mem hj)
  · rw [List.getD_eq_getElem?_getD, List.getElem?_eq_none (by omega)]
    show (0 : Nat) < 50
    decide
theorem inGX11 : ∀ w ∈ u_ws RX11 TX11 74, w ∈ GG := gg_ps _ [1364, 1366, 1368, 1370, 1372, 1374, 1376, 1378, 1380, 1382, 1384, 1386, 1388, 1390, 1392, 1394, 1396, 1398, 1400, 1402, 1404, 1406, 1408, 1410, 1412, 1414, 1416, 1418, 1420, 1422, 1424, 1426, 1428, 1430, 1432, 1434, 1436, 1438, 1440, 1442, 1444, 1446, 1448, 1450, 1452, 1454, 1456, 1458, 1460, 1462, 1464, 1466, 1468, 1470, 1472, 1474, 1476, 1478, 1480, 1482, 1484, 1486, 1488, 1490, 1492, 1494, 1496, 1498, 1500, 1502, 1504, 1506, 1508, 1510] (by decide +kernel) (by decide +kernel)
theorem tw_799 : (.fieldLink RX11 195 (TX11 5).1 (TX11 5).2.1 (TX11 5).2.2.1 : Cond) ∈ GG := gg_5 (List.mem_of_getElem? (i := 231) (by decide +kernel)) (by decide +kernel)
theorem tw_800 : (.fieldLink RX11 55 (TX11 6).1 (TX11 6).2.1 (TX11 6).2.2.1 : Cond) ∈ GG := gg_5 (List.mem_of_getElem? (i := 232) (by decide +kernel)) (by decide +kernel)
theorem tw_801 : (.methodLink RX11 198 yX11_isIn : Cond) ∈ GG := gg_7 (List.mem_of_getElem? (i := 112) (by decide +kernel)) (by decide +kernel)
theorem tw_802 : (.code yX11_isIn cX11_isIn 6 (some .boolean) : Cond) ∈ GG := gg_7 (List.mem_of_getElem? (i := 114) (by decide +kernel)) (by decide +kernel)
theorem tw_803 : (.initialized yX11_isIn.cls : Cond) ∈ GG := gg_1 (List.mem_of_getElem? (i := 13) (by decide +kernel)) (by decide +kernel)
theorem tw_804 : (.static yX11_isIn : Cond) ∈ GG := gg_7 (List.mem_of_getElem? (i := 113) (by decide +kernel)) (by decide +kernel)
theorem tw_805 : (.fieldLink RX11 202 (TX11 21).1 (TX11 21).2.1 (TX11 21).2.2.1 : Cond) ∈ GG := gg_6 (List.mem_of_getElem? (i := 7) (by decide +kernel)) (by decide +kernel)
theorem tw_806 : (.fieldLink RX11 95 (TX11 20).1 (TX11 20).2.1 (TX11 20).2.2.1 : Cond) ∈ GG := gg_6 (List.mem_of_getElem? (i := 6) (by decide +kernel)) (by decide +kernel)
theorem tw_807 : (.fieldLink RX11 205 (TX11 23).1 (TX11 23).2.1 (TX11 23).2.2.1 : Cond) ∈ GG := gg_6 (List.mem_of_getElem? (i := 9) (by decide +kernel)) (by decide +kernel)
theorem tw_808 : (.fieldLink RX11 208 (TX11 22).1 (TX11 22).2.1 (TX11 22).2.2.1 : Cond) ∈ GG := gg_6 (List.mem_of_getElem? (i := 8) (by decide +kernel)) (by decide +kernel)
theorem tw_809 : (.methodLink RX11 211 yX11_byteAt : Cond) ∈ GG := gg_6 (List.mem_of_getElem? (i := 230) (by decide +kernel)) (by decide +kernel)
theorem tw_810 : (.code yX11_byteAt cX11_byteAt 2 (some .int) : Cond) ∈ GG := gg_6 (List.mem_of_getElem? (i := 233) (by decide +kernel)) (by decide +kernel)
theorem tw_811 : (.initialized yX11_byteAt.cls : Cond) ∈ GG := gg_1 (List.mem_of_getElem? (i := 13) (by decide +kernel)) (by decide +kernel)
theorem tw_812 : (.instanceMethod yX11_byteAt : Cond) ∈ GG := gg_6 (List.mem_of_getElem? (i := 232) (by decide +kernel)) (by decide +kernel)
theorem tw_813 : (.selects yX11_byteAt.cls yX11_byteAt yX11_byteAt : Cond) ∈ GG := gg_s (q := (⟨"DogLeasesModel", "byteAt", "(I)I"⟩, 74)) (List.mem_of_getElem? (i := 51) (by decide +kernel))
theorem tw_814 : (.fieldLink RX11 215 (TX11 26).1 (TX11 26).2.1 (TX11 26).2.2.1 : Cond) ∈ GG := gg_6 (List.mem_of_getElem? (i := 12) (by decide +kernel)) (by decide +kernel)
theorem tw_815 : (.methodLink RX11 221 yX11_isLetter : Cond) ∈ GG := gg_6 (List.mem_of_getElem? (i := 234) (by decide +kernel)) (by decide +kernel)
theorem tw_816 : (.code yX11_isLetter cX11_isLetter 1 (some .boolean) : Cond) ∈ GG := gg_6 (List.mem_of_getElem? (i := 236) (by decide +kernel)) (by decide +kernel)
theorem tw_817 : (.initialized yX11_isLetter.cls : Cond) ∈ GG := gg_1 (List.mem_of_getElem? (i := 13) (by decide +kernel)) (by decide +kernel)
theorem tw_818 : (.static yX11_isLetter : Cond) ∈ GG := gg_6 (List.mem_of_getElem? (i := 235) (by decide +kernel)) (by decide +kernel)
theorem tw_819 : (.methodLink RX11 225 yX11_isDigit : Cond) ∈ GG := gg_6 (List.mem_of_getElem? (i := 237) (by decide +kernel)) (by decide +kernel)
theorem tw_820 : (.code yX11_isDigit cX11_isDigit 1 (some .boolean) : Cond) ∈ GG := gg_6 (List.mem_of_getElem? (i := 239) (by decide +kernel)) (by decide +kernel)
theorem tw_821 : (.initialized yX11_isDigit.cls : Cond) ∈ GG := gg_1 (List.mem_of_getElem? (i := 13) (by decide +kernel)) (by decide +kernel)
theorem tw_822 : (.static yX11_isDigit : Cond) ∈ GG := gg_6 (List.mem_of_getElem? (i := 238) (by decide +kernel)) (by decide +kernel)
theorem tw_823 : (.methodLink RX11 238 yX11_isMark : Cond) ∈ GG := gg_7 (List.mem_of_getElem? (i := 2) (by decide +kernel)) (by decide +kernel)
theorem tw_824 : (.code yX11_isMark cX11_isMark 1 (some .boolean) : Cond) ∈ GG := gg_7 (List.mem_of_getElem? (i := 4) (by decide +kernel)) (by decide +kernel)
theorem tw_825 : (.initialized yX11_isMark.cls : Cond) ∈ GG := gg_1 (List.mem_of_getElem? (i := 13) (by decide +kernel)) (by decide +kernel)
theorem tw_826 : (.static yX11_isMark : Cond) ∈ GG := gg_7 (List.mem_of_getElem? (i := 3) (by decide +kernel)) (by decide +kernel)
theorem tw_827 : (.fieldLink RX11 218 (TX11 24).1 (TX11 24).2.1 (TX11 24).2.2.1 : Cond) ∈ GG := gg_6 (List.mem_of_getElem? (i := 10) (by decide +kernel)) (by decide +kernel)
theorem tw_828 : (.fieldLink RX11 241 (TX11 27).1 (TX11 27).2.1 (TX11 27).2.2.1 : Cond) ∈ GG := gg_6 (List.mem_of_getElem? (i := 13) (by decide +kernel)) (by decide +kernel)
theorem tw_829 : (.fieldLink RX11 228 (TX11 25).1 (TX11 25).2.1 (TX11 25).2.2.1 : Cond) ∈ GG := gg_6 (List.mem_of_getElem? (i := 11) (by decide +kernel)) (by decide +kernel)
theorem tw_830 : (.constant RX11 231 (100000) : Cond) ∈ GG := gg_7 (List.mem_of_getElem? (i := 0) (by decide +kernel)) (by decide +kernel)
theorem tw_831 : (.methodLink RX11 232 Lib.Math.min.name : Cond) ∈ GG := gg_7 (List.mem_of_getElem? (i := 1) (by decide +kernel)) (by decide +kernel)
theorem tw_832 : (.fieldLink RX11 244 (TX11 28).1 (TX11 28).2.1 (TX11 28).2.2.1 : Cond) ∈ GG := gg_6 (List.mem_of_getElem? (i := 14) (by decide +kernel)) (by decide +kernel)
theorem tw_833 : (.fieldLink RX11 247 (TX11 29).1 (TX11 29).2.1 (TX11 29).2.2.1 : Cond) ∈ GG := gg_6 (List.mem_of_getElem? (i := 15) (by decide +kernel)) (by decide +kernel)
theorem tw_834 : (.methodLink RX11 250 yJ0_length_8abf5 : Cond) ∈ GG := gg_7 (List.mem_of_getElem? (i := 17) (by decide +kernel)) (by decide +kernel)
theorem tw_835 : (.methodLink RX11 254 yJ0_charAt_5068e : Cond) ∈ GG := gg_7 (List.mem_of_getElem? (i := 18) (by decide +kernel)) (by decide +kernel)
theorem tw_836 : (.methodLink RX11 258 yX11_is : Cond) ∈ GG := gg_7 (List.mem_of_getElem? (i := 13) (by decide +kernel)) (by decide +kernel)
theorem tw_837 : (.code yX11_is cX11_is 4 (some .boolean) : Cond) ∈ GG := gg_7 (List.mem_of_getElem? (i := 16) (by decide +kernel)) (by decide +kernel)
theorem tw_838 : (.initialized yX11_is.cls : Cond) ∈ GG := gg_1 (List.mem_of_getElem? (i := 13) (by decide +kernel)) (by decide +kernel)
theorem tw_839 : (.instanceMethod yX11_is : Cond) ∈ GG := gg_7 (List.mem_of_getElem? (i := 15) (by decide +kernel)) (by decide +kernel)
theorem tw_840 : (.selects yX11_is.cls yX11_is yX11_is : Cond) ∈ GG := gg_s (q := (⟨"DogLeasesModel", "is", "(Ljava/lang/String;)Z"⟩, 74)) (List.mem_of_getElem? (i := 54) (by decide +kernel))
theorem tw_841 : (.methodLink RX11 269 yX11_stepOn : Cond) ∈ GG := gg_6 (List.mem_of_getElem? (i := 226) (by decide +kernel)) (by decide +kernel)
theorem tw_842 : (.code yX11_stepOn cX11_stepOn 2 none : Cond) ∈ GG := gg_6 (List.mem_of_getElem? (i := 229) (by decide +kernel)) (by decide +kernel)
theorem tw_843 : (.initialized yX11_stepOn.cls : Cond) ∈ GG := gg_1 (List.mem_of_getElem? (i := 13) (by decide +kernel)) (by decide +kernel)
theorem tw_844 : (.instanceMethod yX11_stepOn : Cond) ∈ GG := gg_6 (List.mem_of_getElem? (i := 228) (by decide +kernel)) (by decide +kernel)
theorem tw_845 : (.selects yX11_stepOn.cls yX11_stepOn yX11_stepOn : Cond) ∈ GG := gg_s (q := (⟨"DogLeasesModel", "stepOn", "()V"⟩, 74)) (List.mem_of_getElem? (i := 50) (by decide +kernel))
theorem tw_846 : (.methodLink RX11 262 yX11_isMarked : Cond) ∈ GG := gg_7 (List.mem_of_getElem? (i := 34) (by decide +kernel)) (by decide +kernel)
theorem tw_847 : (.code yX11_isMarked cX11_isMarked 2 (some .boolean) : Cond) ∈ GG := gg_7 (List.mem_of_getElem? (i := 37) (by decide +kernel)) (by decide +kernel)
theorem tw_848 : (.initialized yX11_isMarked.cls : Cond) ∈ GG := gg_1 (List.mem_of_getElem? (i := 13) (by decide +kernel)) (by decide +kernel)
theorem tw_849 : (.instanceMethod yX11_isMarked : Cond) ∈ GG := gg_7 (List.mem_of_getElem? (i := 36) (by decide +kernel)) (by decide +kernel)
theorem tw_850 : (.selects yX11_isMarked.cls yX11_isMarked yX11_isMarked : Cond) ∈ GG := gg_s (q := (⟨"DogLeasesModel", "isMarked", "(I)Z"⟩, 74)) (List.mem_of_getElem? (i := 58) (by decide +kernel))
theorem tw_851 : (.methodLink RX11 265 yX11_wrong : Cond) ∈ GG := gg_7 (List.mem_of_getElem? (i := 22) (by decide +kernel)) (by decide +kernel)
theorem tw_852 : (.code yX11_wrong cX11_wrong 2 none : Cond) ∈ GG := gg_7 (List.mem_of_getElem? (i := 25) (by decide +kernel)) (by decide +kernel)
theorem tw_853 : (.initialized yX11_wrong.cls : Cond) ∈ GG := gg_1 (List.mem_of_getElem? (i := 13) (by decide +kernel)) (by decide +kernel)
theorem tw_854 : (.instanceMethod yX11_wrong : Cond) ∈ GG := gg_7 (List.mem_of_getElem? (i := 24) (by decide +kernel)) (by decide +kernel)
theorem tw_855 : (.selects yX11_wrong.cls yX11_wrong yX11_wrong : Cond) ∈ GG := gg_s (q := (⟨"DogLeasesModel", "wrong", "(I)V"⟩, 74)) (List.mem_of_getElem? (i := 55) (by decide +kernel))
theorem tw_856 : (.fieldLink RX11 272 (TX11 31).1 (TX11 31).2.1 (TX11 31).2.2.1 : Cond) ∈ GG := gg_6 (List.mem_of_getElem? (i := 17) (by decide +kernel)) (by decide +kernel)
theorem tw_857 : (.fieldLink RX11 86 (TX11 17).1 (TX11 17).2.1 (TX11 17).2.2.1 : Cond) ∈ GG := gg_6 (List.mem_of_getElem? (i := 3) (by decide +kernel)) (by decide +kernel)
theorem tw_858 : (.fieldLink RX11 89 (TX11 18).1 (TX11 18).2.1 (TX11 18).2.2.1 : Cond) ∈ GG := gg_6 (List.mem_of_getElem? (i := 4) (by decide +kernel)) (by decide +kernel)
theorem tw_859 : (.methodLink RX11 286 yX11_mark : Cond) ∈ GG := gg_7 (List.mem_of_getElem? (i := 63) (by decide +kernel)) (by decide +kernel)
theorem tw_860 : (.code yX11_mark cX11_mark 2 none : Cond) ∈ GG := gg_7 (List.mem_of_getElem? (i := 66) (by decide +kernel)) (by decide +kernel)
theorem tw_861 : (.initialized yX11_mark.cls : Cond) ∈ GG := gg_1 (List.mem_of_getElem? (i := 13) (by decide +kernel)) (by decide +kernel)
theorem tw_862 : (.instanceMethod yX11_mark : Cond) ∈ GG := gg_7 (List.mem_of_getElem? (i := 65) (by decide +kernel)) (by decide +kernel)
theorem tw_863 : (.selects yX11_mark.cls yX11_mark yX11_mark : Cond) ∈ GG := gg_s (q := (⟨"DogLeasesModel", "mark", "(I)V"⟩, 74)) (List.mem_of_getElem? (i := 65) (by decide +kernel))
theorem tw_864 : (.methodLink RX11 289 yX11_readExpression : Cond) ∈ GG := gg_7 (List.mem_of_getElem? (i := 30) (by decide +kernel)) (by decide +kernel)
theorem tw_865 : (.code yX11_readExpression cX11_readExpression 3 none : Cond) ∈ GG := gg_7 (List.mem_of_getElem? (i := 33) (by decide +kernel)) (by decide +kernel)
theorem tw_866 : (.initialized yX11_readExpression.cls : Cond) ∈ GG := gg_1 (List.mem_of_getElem? (i := 13) (by decide +kernel)) (by decide +kernel)
theorem tw_867 : (.instanceMethod yX11_readExpression : Cond) ∈ GG := gg_7 (List.mem_of_getElem? (i := 32) (by decide +kernel)) (by decide +kernel)
theorem tw_868 : (.selects yX11_readExpression.cls yX11_readExpression yX11_readExpression : Cond) ∈ GG := gg_s (q := (⟨"DogLeasesModel", "readExpression", "(I)V"⟩, 74)) (List.mem_of_getElem? (i := 57) (by decide +kernel))
theorem tw_869 : (.fieldLink RX11 52 (TX11 4).1 (TX11 4).2.1 (TX11 4).2.2.1 : Cond) ∈ GG := gg_5 (List.mem_of_getElem? (i := 230) (by decide +kernel)) (by decide +kernel)
theorem tw_870 : (.methodLink RX11 282 yX11_which : Cond) ∈ GG := gg_7 (List.mem_of_getElem? (i := 9) (by decide +kernel)) (by decide +kernel)
theorem tw_871 : (.code yX11_which cX11_which 3 (some .int) : Cond) ∈ GG := gg_7 (List.mem_of_getElem? (i := 12) (by decide +kernel)) (by decide +kernel)
theorem tw_872 : (.initialized yX11_which.cls : Cond) ∈ GG := gg_1 (List.mem_of_getElem? (i := 13) (by decide +kernel)) (by decide +kernel)
theorem tw_873 : (.instanceMethod yX11_which : Cond) ∈ GG := gg_7 (List.mem_of_getElem? (i := 11) (by decide +kernel)) (by decide +kernel)
theorem tw_874 : (.selects yX11_which.cls yX11_which yX11_which : Cond) ∈ GG := gg_s (q := (⟨"DogLeasesModel", "which", "([Ljava/lang/String;)I"⟩, 74)) (List.mem_of_getElem? (i := 53) (by decide +kernel))
theorem tw_875 : (.methodLink RX11 279 yX11_lay : Cond) ∈ GG := gg_7 (List.mem_of_getElem? (i := 59) (by decide +kernel)) (by decide +kernel)
theorem tw_876 : (.code yX11_lay cX11_lay 4 none : Cond) ∈ GG := gg_7 (List.mem_of_getElem? (i := 62) (by decide +kernel)) (by decide +kernel)
theorem tw_877 : (.initialized yX11_lay.cls : Cond) ∈ GG := gg_1 (List.mem_of_getElem? (i := 13) (by decide +kernel)) (by decide +kernel)
theorem tw_878 : (.instanceMethod yX11_lay : Cond) ∈ GG := gg_7 (List.mem_of_getElem? (i := 61) (by decide +kernel)) (by decide +kernel)
theorem tw_879 : (.selects yX11_lay.cls yX11_lay yX11_lay : Cond) ∈ GG := gg_s (q := (⟨"DogLeasesModel", "lay", "(I)V"⟩, 74)) (List.mem_of_getElem? (i := 64) (by decide +kernel))
theorem tw_880 : (.methodLink RX11 276 yX11_readNumber : Cond) ∈ GG := gg_7 (List.mem_of_getElem? (i := 26) (by decide +kernel)) (by decide +kernel)
theorem tw_881 : (.code yX11_readNumber cX11_readNumber 4 (some .int) : Cond) ∈ GG := gg_7 (List.mem_of_getElem? (i := 29) (by decide +kernel)) (by decide +kernel)
theorem tw_882 : (.initialized yX11_readNumber.cls : Cond) ∈ GG := gg_1 (List.mem_of_getElem? (i := 13) (by decide +kernel)) (by decide +kernel)
theorem tw_883 : (.instanceMethod yX11_readNumber : Cond) ∈ GG := gg_7 (List.mem_of_getElem? (i := 28) (by decide +kernel)) (by decide +kernel)
theorem tw_884 : (.selects yX11_readNumber.cls yX11_readNumber yX11_readNumber : Cond) ∈ GG := gg_s (q := (⟨"DogLeasesModel", "readNumber", "(II)I"⟩, 74)) (List.mem_of_getElem? (i := 56) (by decide +kernel))
theorem tw_885 : (.methodLink RX11 292 yX11_readPart : Cond) ∈ GG := gg_7 (List.mem_of_getElem? (i := 55) (by decide +kernel)) (by decide +kernel)
theorem tw_886 : (.code yX11_readPart cX11_readPart 3 none : Cond) ∈ GG := gg_7 (List.mem_of_getElem? (i := 58) (by decide +kernel)) (by decide +kernel)
theorem tw_887 : (.initialized yX11_readPart.cls : Cond) ∈ GG := gg_1 (List.mem_of_getElem? (i := 13) (by decide +kernel)) (by decide +kernel)
theorem tw_888 : (.instanceMethod yX11_readPart : Cond) ∈ GG := gg_7 (List.mem_of_getElem? (i := 57) (by decide +kernel)) (by decide +kernel)
theorem tw_889 : (.selects yX11_readPart.cls yX11_readPart yX11_readPart : Cond) ∈ GG := gg_s (q := (⟨"DogLeasesModel", "readPart", "(I)V"⟩, 74)) (List.mem_of_getElem? (i := 63) (by decide +kernel))
theorem tw_890 : (.methodLink RX11 295 yX11_readProduct : Cond) ∈ GG := gg_7 (List.mem_of_getElem? (i := 51) (by decide +kernel)) (by decide +kernel)
theorem tw_891 : (.code yX11_readProduct cX11_readProduct 3 none : Cond) ∈ GG := gg_7 (List.mem_of_getElem? (i := 54) (by decide +kernel)) (by decide +kernel)
theorem tw_892 : (.initialized yX11_readProduct.cls : Cond) ∈ GG := gg_1 (List.mem_of_getElem? (i := 13) (by decide +kernel)) (by decide +kernel)
theorem tw_893 : (.instanceMethod yX11_readProduct : Cond) ∈ GG := gg_7 (List.mem_of_getElem? (i := 53) (by decide +kernel)) (by decide +kernel)
theorem tw_894 : (.selects yX11_readProduct.cls yX11_readProduct yX11_readProduct : Cond) ∈ GG := gg_s (q := (⟨"DogLeasesModel", "readProduct", "(I)V"⟩, 74)) (List.mem_of_getElem? (i := 62) (by decide +kernel))
theorem tw_895 : (.methodLink RX11 300 yX11_readSum : Cond) ∈ GG := gg_7 (List.mem_of_getElem? (i := 47) (by decide +kernel)) (by decide +kernel)
theorem tw_896 : (.code yX11_readSum cX11_readSum 3 none : Cond) ∈ GG := gg_7 (List.mem_of_getElem? (i := 50) (by decide +kernel)) (by decide +kernel)
theorem tw_897 : (.initialized yX11_readSum.cls : Cond) ∈ GG := gg_1 (List.mem_of_getElem? (i := 13) (by decide +kernel)) (by decide +kernel)
theorem tw_898 : (.instanceMethod yX11_readSum : Cond) ∈ GG := gg_7 (List.mem_of_getElem? (i := 49) (by decide +kernel)) (by decide +kernel)
theorem tw_899 : (.selects yX11_readSum.cls yX11_readSum yX11_readSum : Cond) ∈ GG := gg_s (q := (⟨"DogLeasesModel", "readSum", "(I)V"⟩, 74)) (List.mem_of_getElem? (i := 61) (by decide +kernel))
theorem tw_900 : (.methodLink RX11 303 yX11_readNot : Cond) ∈ GG := gg_7 (List.mem_of_getElem? (i := 42) (by decide +kernel)) (by decide +kernel)
theorem tw_901 : (.code yX11_readNot cX11_readNot 4 none : Cond) ∈ GG := gg_7 (List.mem_of_getElem? (i := 45) (by decide +kernel)) (by decide +kernel)
theorem tw_902 : (.initialized yX11_readNot.cls : Cond) ∈ GG := gg_1 (List.mem_of_getElem? (i := 13) (by decide +kernel)) (by decide +kernel)
theorem tw_903 : (.instanceMethod yX11_readNot : Cond) ∈ GG := gg_7 (List.mem_of_getElem? (i := 44) (by decide +kernel)) (by decide +kernel)
theorem tw_904 : (.selects yX11_readNot.cls yX11_readNot yX11_readNot : Cond) ∈ GG := gg_s (q := (⟨"DogLeasesModel", "readNot", "(I)V"⟩, 74)) (List.mem_of_getElem? (i := 60) (by decide +kernel))
theorem tw_905 : (.methodLink RX11 308 yX11_readAnd : Cond) ∈ GG := gg_7 (List.mem_of_getElem? (i := 38) (by decide +kernel)) (by decide +kernel)
theorem tw_906 : (.code yX11_readAnd cX11_readAnd 2 none : Cond) ∈ GG := gg_7 (List.mem_of_getElem? (i := 41) (by decide +kernel)) (by decide +kernel)
theorem tw_907 : (.initialized yX11_readAnd.cls : Cond) ∈ GG := gg_1 (List.mem_of_getElem? (i := 13) (by decide +kernel)) (by decide +kernel)
theorem tw_908 : (.instanceMethod yX11_readAnd : Cond) ∈ GG := gg_7 (List.mem_of_getElem? (i := 40) (by decide +kernel)) (by decide +kernel)
theorem tw_909 : (.selects yX11_readAnd.cls yX11_readAnd yX11_readAnd : Cond) ∈ GG := gg_s (q := (⟨"DogLeasesModel", "readAnd", "(I)V"⟩, 74)) (List.mem_of_getElem? (i := 59) (by decide +kernel))
theorem tw_910 : (.methodLink RX11 313 yX11_another : Cond) ∈ GG := gg_7 (List.mem_of_getElem? (i := 73) (by decide +kernel)) (by decide +kernel)
theorem tw_911 : (.code yX11_another cX11_another 3 (some .boolean) : Cond) ∈ GG := gg_7 (List.mem_of_getElem? (i := 76) (by decide +kernel)) (by decide +kernel)
theorem tw_912 : (.initialized yX11_another.cls : Cond) ∈ GG := gg_1 (List.mem_of_getElem? (i := 13) (by decide +kernel)) (by decide +kernel)
theorem tw_913 : (.instanceMethod yX11_another : Cond) ∈ GG := gg_7 (List.mem_of_getElem? (i := 75) (by decide +kernel)) (by decide +kernel)
theorem tw_914 : (.selects yX11_another.cls yX11_another yX11_another : Cond) ∈ GG := gg_s (q := (⟨"DogLeasesModel", "another", "(II)Z"⟩, 74)) (List.mem_of_getElem? (i := 67) (by decide +kernel))
theorem tw_915 : (.fieldLink RX11 61 (TX11 8).1 (TX11 8).2.1 (TX11 8).2.2.1 : Cond) ∈ GG := gg_5 (List.mem_of_getElem? (i := 234) (by decide +kernel)) (by decide +kernel)
theorem tw_916 : (.fieldLink RX11 59 (TX11 7).1 (TX11 7).2.1 (TX11 7).2.2.1 : Cond) ∈ GG := gg_5 (List.mem_of_getElem? (i := 233) (by decide +kernel)) (by decide +kernel)
theorem tw_917 : (.fieldLink RX11 63 (TX11 9).1 (TX11 9).2.1 (TX11 9).2.2.1 : Cond) ∈ GG := gg_5 (List.mem_of_getElem? (i := 235) (by decide +kernel)) (by decide +kernel)
theorem tw_918 : (.fieldLink RX11 66 (TX11 10).1 (TX11 10).2.1 (TX11 10).2.2.1 : Cond) ∈ GG := gg_5 (List.mem_of_getElem? (i := 236) (by decide +kernel)) (by decide +kernel)
theorem tw_919 : (.fieldLink RX11 69 (TX11 11).1 (TX11 11).2.1 (TX11 11).2.2.1 : Cond) ∈ GG := gg_5 (List.mem_of_getElem? (i := 237) (by decide +kernel)) (by decide +kernel)
theorem tw_920 : (.fieldLink RX11 72 (TX11 12).1 (TX11 12).2.1 (TX11 12).2.2.1 : Cond) ∈ GG := gg_5 (List.mem_of_getElem? (i := 238) (by decide +kernel)) (by decide +kernel)
theorem tw_921 : (.fieldLink RX11 77 (TX11 14).1 (TX11 14).2.1 (TX11 14).2.2.1 : Cond) ∈ GG := gg_6 (List.mem_of_getElem? (i := 0) (by decide +kernel)) (by decide +kernel)
theorem tw_922 : (.fieldLink RX11 74 (TX11 13).1 (TX11 13).2.1 (TX11 13).2.2.1 : Cond) ∈ GG := gg_5 (List.mem_of_getElem? (i := 239) (by decide +kernel)) (by decide +kernel)
theorem tw_923 : (.fieldLink RX11 80 (TX11 15).1 (TX11 15).2.1 (TX11 15).2.2.1 : Cond) ∈ GG := gg_6 (List.mem_of_getElem? (i := 1) (by decide +kernel)) (by decide +kernel)
theorem tw_924 : (.fieldLink RX11 83 (TX11 16).1 (TX11 16).2.1 (TX11 16).2.2.1 : Cond) ∈ GG := gg_6 (List.mem_of_getElem? (i := 2) (by decide +kernel)) (by decide +kernel)
theorem tw_925 : (.fieldLink RX11 15 (TX11 0).1 (TX11 0).2.1 (TX11 0).2.2.1 : Cond) ∈ GG := gg_5 (List.mem_of_getElem? (i := 226) (by decide +kernel)) (by decide +kernel)
theorem tw_926 : (.fieldLink RX11 23 (TX11 1).1 (TX11 1).2.1 (TX11 1).2.2.1 : Cond) ∈ GG := gg_5 (List.mem_of_getElem? (i := 227) (by decide +kernel)) (by decide +kernel)
theorem tw_927 : (.methodLink RX11 326 yX11_sayTenant : Cond) ∈ GG := gg_7 (List.mem_of_getElem? (i := 77) (by decide +kernel)) (by decide +kernel)
theorem tw_928 : (.code yX11_sayTenant cX11_sayTenant 3 none : Cond) ∈ GG := gg_7 (List.mem_of_getElem? (i := 80) (by decide +kernel)) (by decide +kernel)
theorem tw_929 : (.initialized yX11_sayTenant.cls : Cond) ∈ GG := gg_1 (List.mem_of_getElem? (i := 13) (by decide +kernel)) (by decide +kernel)
theorem tw_930 : (.instanceMethod yX11_sayTenant : Cond) ∈ GG := gg_7 (List.mem_of_getElem? (i := 79) (by decide +kernel)) (by decide +kernel)
theorem tw_931 : (.selects yX11_sayTenant.cls yX11_sayTenant yX11_sayTenant : Cond) ∈ GG := gg_s (q := (⟨"DogLeasesModel", "sayTenant", "(I)V"⟩, 74)) (List.mem_of_getElem? (i := 68) (by decide +kernel))
theorem tw_932 : (.methodLink RX11 323 yX11_sayHouse : Cond) ∈ GG := gg_7 (List.mem_of_getElem? (i := 69) (by decide +kernel)) (by decide +kernel)
theorem tw_933 : (.code yX11_sayHouse cX11_sayHouse 3 none : Cond) ∈ GG := gg_7 (List.mem_of_getElem? (i := 72) (by decide +kernel)) (by decide +kernel)
theorem tw_934 : (.initialized yX11_sayHouse.cls : Cond) ∈ GG := gg_1 (List.mem_of_getElem? (i := 13) (by decide +kernel)) (by decide +kernel)
theorem tw_935 : (.instanceMethod yX11_sayHouse : Cond) ∈ GG := gg_7 (List.mem_of_getElem? (i := 71) (by decide +kernel)) (by decide +kernel)
theorem tw_936 : (.selects yX11_sayHouse.cls yX11_sayHouse yX11_sayHouse : Cond) ∈ GG := gg_s (q := (⟨"DogLeasesModel", "sayHouse", "(I)V"⟩, 74)) (List.mem_of_getElem? (i := 66) (by decide +kernel))
theorem tw_937 : (.fieldLink RX11 46 (TX11 2).1 (TX11 2).2.1 (TX11 2).2.2.1 : Cond) ∈ GG := gg_5 (List.mem_of_getElem? (i := 228) (by decide +kernel)) (by decide +kernel)
theorem tw_938 : (.fieldLink RX11 49 (TX11 3).1 (TX11 3).2.1 (TX11 3).2.2.1 : Cond) ∈ GG := gg_5 (List.mem_of_getElem? (i := 229) (by decide +kernel)) (by decide +kernel)
theorem tw_939 : (.methodLink RX11 338 yX11_takeHalf : Cond) ∈ GG := gg_7 (List.mem_of_getElem? (i := 85) (by decide +kernel)) (by decide +kernel)
theorem tw_940 : (.code yX11_takeHalf cX11_takeHalf 2 none : Cond) ∈ GG := gg_7 (List.mem_of_getElem? (i := 87) (by decide +kernel)) (by decide +kernel)
theorem tw_941 : (.initialized yX11_takeHalf.cls : Cond) ∈ GG := gg_1 (List.mem_of_getElem? (i := 13) (by decide +kernel)) (by decide +kernel)
theorem tw_942 : (.static yX11_takeHalf : Cond) ∈ GG := gg_7 (List.mem_of_getElem? (i := 86) (by decide +kernel)) (by decide +kernel)
theorem tw_943 : (.fieldLink RX11 342 (TX11 41).1 (TX11 41).2.1 (TX11 41).2.2.1 : Cond) ∈ GG := gg_6 (List.mem_of_getElem? (i := 27) (by decide +kernel)) (by decide +kernel)
theorem tw_944 : (.fieldLink RX11 344 (TX11 42).1 (TX11 42).2.1 (TX11 42).2.2.1 : Cond) ∈ GG := gg_6 (List.mem_of_getElem? (i := 28) (by decide +kernel)) (by decide +kernel)
theorem tw_945 : (.fieldLink RX11 347 (TX11 43).1 (TX11 43).2.1 (TX11 43).2.2.1 : Cond) ∈ GG := gg_6 (List.mem_of_getElem? (i := 29) (by decide +kernel)) (by decide +kernel)
theorem tw_946 : (.fieldLink RX11 350 (TX11 44).1 (TX11 44).2.1 (TX11 44).2.2.1 : Cond) ∈ GG := gg_6 (List.mem_of_getElem? (i := 30) (by decide +kernel)) (by decide +kernel)
theorem tw_947 : (.fieldLink RX11 353 (TX11 45).1 (TX11 45).2.1 (TX11 45).2.2.1 : Cond) ∈ GG := gg_6 (List.mem_of_getElem? (i := 31) (by decide +kernel)) (by decide +kernel)
theorem tw_948 : (.fieldLink RX11 356 (TX11 64).1 (TX11 64).2.1 (TX11 64).2.2.1 : Cond) ∈ GG := gg_6 (List.mem_of_getElem? (i := 50) (by decide +kernel)) (by decide +kernel)
theorem tw_949 : (.fieldLink RX11 115 (TX11 37).1 (TX11 37).2.1 (TX11 37).2.2.1 : Cond) ∈ GG := gg_6 (List.mem_of_getElem? (i := 23) (by decide +kernel)) (by decide +kernel)
theorem tw_950 : (.fieldLink RX11 117 (TX11 38).1 (TX11 38).2.1 (TX11 38).2.2.1 : Cond) ∈ GG := gg_6 (List.mem_of_getElem? (i := 24) (by decide +kernel)) (by decide +kernel)
theorem tw_951 : (.fieldLink RX11 120 (TX11 39).1 (TX11 39).2.1 (TX11 39).2.2.1 : Cond) ∈ GG := gg_6 (List.mem_of_getElem? (i := 25) (by decide +kernel)) (by decide +kernel)
theorem tw_952 : (.fieldLink RX11 102 (TX11 32).1 (TX11 32).2.1 (TX11 32).2.2.1 : Cond) ∈ GG := gg_6 (List.mem_of_getElem? (i := 18) (by decide +kernel)) (by decide +kernel)
theorem tw_953 : (.fieldLink RX11 104 (TX11 33).1 (TX11 33).2.1 (TX11 33).2.2.1 : Cond) ∈ GG := gg_6 (List.mem_of_getElem? (i := 19) (by decide +kernel)) (by decide +kernel)
theorem tw_954 : (.fieldLink RX11 107 (TX11 34).1 (TX11 34).2.1 (TX11 34).2.2.1 : Cond) ∈ GG := gg_6 (List.mem_of_getElem? (i := 20) (by decide +kernel)) (by decide +kernel)
theorem tw_955 : (.fieldLink RX11 110 (TX11 35).1 (TX11 35).2.1 (TX11 35).2.2.1 : Cond) ∈ GG := gg_6 (List.mem_of_getElem? (i := 21) (by decide +kernel)) (by decide +kernel)
theorem tw_956 : (.fieldLink RX11 113 (TX11 36).1 (TX11 36).2.1 (TX11 36).2.2.1 : Cond) ∈ GG := gg_6 (List.mem_of_getElem? (i := 22) (by decide +kernel)) (by decide +kernel)
theorem tw_957 : (.methodLink RX11 329 yX11_fail : Cond) ∈ GG := gg_6 (List.mem_of_getElem? (i := 222) (by decide +kernel)) (by decide +kernel)
theorem tw_958 : (.code yX11_fail cX11_fail 2 (some .int) : Cond) ∈ GG := gg_6 (List.mem_of_getElem? (i := 225) (by decide +kernel)) (by decide +kernel)
theorem tw_959 : (.initialized yX11_fail.cls : Cond) ∈ GG := gg_1 (List.mem_of_getElem? (i := 13) (by decide +kernel)) (by decide +kernel)
theorem tw_960 : (.instanceMethod yX11_fail : Cond) ∈ GG := gg_6 (List.mem_of_getElem? (i := 224) (by decide +kernel)) (by decide +kernel)
theorem tw_961 : (.selects yX11_fail.cls yX11_fail yX11_fail : Cond) ∈ GG := gg_s (q := (⟨"DogLeasesModel", "fail", "(I)I"⟩, 74)) (List.mem_of_getElem? (i := 49) (by decide +kernel))
theorem tw_962 : (.fieldLink RX11 98 (TX11 30).1 (TX11 30).2.1 (TX11 30).2.2.1 : Cond) ∈ GG := gg_6 (List.mem_of_getElem? (i := 16) (by decide +kernel)) (by decide +kernel)
theorem tw_963 : (.methodLink RX11 335 yX11_takeOver : Cond) ∈ GG := gg_7 (List.mem_of_getElem? (i := 81) (by decide +kernel)) (by decide +kernel)
theorem tw_964 : (.code yX11_takeOver cX11_takeOver 3 none : Cond) ∈ GG := gg_7 (List.mem_of_getElem? (i := 84) (by decide +kernel)) (by decide +kernel)
theorem tw_965 : (.initialized yX11_takeOver.cls : Cond) ∈ GG := gg_1 (List.mem_of_getElem? (i := 13) (by decide +kernel)) (by decide +kernel)
theorem tw_966 : (.instanceMethod yX11_takeOver : Cond) ∈ GG := gg_7 (List.mem_of_getElem? (i := 83) (by decide +kernel)) (by decide +kernel)
theorem tw_967 : (.selects yX11_takeOver.cls yX11_takeOver yX11_takeOver : Cond) ∈ GG := gg_s (q := (⟨"DogLeasesModel", "takeOver", "()V"⟩, 74)) (List.mem_of_getElem? (i := 69) (by decide +kernel))
theorem tw_968 : (.fieldLink RX11 92 (TX11 19).1 (TX11 19).2.1 (TX11 19).2.2.1 : Cond) ∈ GG := gg_6 (List.mem_of_getElem? (i := 5) (by decide +kernel)) (by decide +kernel)
theorem tw_969 : (.methodLink RX11 332 yX11_readLine : Cond) ∈ GG := gg_7 (List.mem_of_getElem? (i := 5) (by decide +kernel)) (by decide +kernel)
theorem tw_970 : (.code yX11_readLine cX11_readLine 5 (some .int) : Cond) ∈ GG := gg_7 (List.mem_of_getElem? (i := 8) (by decide +kernel)) (by decide +kernel)
theorem tw_971 : (.initialized yX11_readLine.cls : Cond) ∈ GG := gg_1 (List.mem_of_getElem? (i := 13) (by decide +kernel)) (by decide +kernel)
theorem tw_972 : (.instanceMethod yX11_readLine : Cond) ∈ GG := gg_7 (List.mem_of_getElem? (i := 7) (by decide +kernel)) (by decide +kernel)
theorem tw_973 : (.selects yX11_readLine.cls yX11_readLine yX11_readLine : Cond) ∈ GG := gg_s (q := (⟨"DogLeasesModel", "readLine", "(I)I"⟩, 74)) (List.mem_of_getElem? (i := 52) (by decide +kernel))
theorem tw_974 : (.fieldLink RX11 128 (TX11 47).1 (TX11 47).2.1 (TX11 47).2.2.1 : Cond) ∈ GG := gg_6 (List.mem_of_getElem? (i := 33) (by decide +kernel)) (by decide +kernel)
theorem tw_975 : (.methodLink RX11 359 yX11_reckon : Cond) ∈ GG := gg_7 (List.mem_of_getElem? (i := 130) (by decide +kernel)) (by decide +kernel)
theorem tw_976 : (.code yX11_reckon cX11_reckon 3 (some .int) : Cond) ∈ GG := gg_7 (List.mem_of_getElem? (i := 132) (by decide +kernel)) (by decide +kernel)
theorem tw_977 : (.initialized yX11_reckon.cls : Cond) ∈ GG := gg_1 (List.mem_of_getElem? (i := 13) (by decide +kernel)) (by decide +kernel)
theorem tw_978 : (.static yX11_reckon : Cond) ∈ GG := gg_7 (List.mem_of_getElem? (i := 131) (by decide +kernel)) (by decide +kernel)
theorem tw_979 : (.fieldLink RX11 125 (TX11 46).1 (TX11 46).2.1 (TX11 46).2.2.1 : Cond) ∈ GG := gg_6 (List.mem_of_getElem? (i := 32) (by decide +kernel)) (by decide +kernel)
theorem tw_980 : (.fieldLink RX11 137 (TX11 50).1 (TX11 50).2.1 (TX11 50).2.2.1 : Cond) ∈ GG := gg_6 (List.mem_of_getElem? (i := 36) (by decide +kernel)) (by decide +kernel)
theorem tw_981 : (.methodLink RX11 363 yX11_housesOf : Cond) ∈ GG := gg_7 (List.mem_of_getElem? (i := 141) (by decide +kernel)) (by decide +kernel)
theorem tw_982 : (.code yX11_housesOf cX11_housesOf 4 (some .int) : Cond) ∈ GG := gg_7 (List.mem_of_getElem? (i := 144) (by decide +kernel)) (by decide +kernel)
theorem tw_983 : (.initialized yX11_housesOf.cls : Cond) ∈ GG := gg_1 (List.mem_of_getElem? (i := 13) (by decide +kernel)) (by decide +kernel)
theorem tw_984 : (.instanceMethod yX11_housesOf : Cond) ∈ GG := gg_7 (List.mem_of_getElem? (i := 143) (by decide +kernel)) (by decide +kernel)
theorem tw_985 : (.selects yX11_housesOf.cls yX11_housesOf yX11_housesOf : Cond) ∈ GG := gg_s (q := (⟨"DogLeasesModel", "housesOf", "(I)I"⟩, 74)) (List.mem_of_getElem? (i := 77) (by decide +kernel))
theorem tw_986 : (.fieldLink RX11 131 (TX11 48).1 (TX11 48).2.1 (TX11 48).2.2.1 : Cond) ∈ GG := gg_6 (List.mem_of_getElem? (i := 34) (by decide +kernel)) (by decide +kernel)
theorem tw_987 : (.fieldLink RX11 134 (TX11 49).1 (TX11 49).2.1 (TX11 49).2.2.1 : Cond) ∈ GG := gg_6 (List.mem_of_getElem? (i := 35) (by decide +kernel)) (by decide +kernel)
theorem tw_988 : (.methodLink RX11 366 yX11_ask : Cond) ∈ GG := gg_7 (List.mem_of_getElem? (i := 122) (by decide +kernel)) (by decide +kernel)
theorem tw_989 : (.code yX11_ask cX11_ask 2 none : Cond) ∈ GG := gg_7 (List.mem_of_getElem? (i := 125) (by decide +kernel)) (by decide +kernel)
theorem tw_990 : (.initialized yX11_ask.cls : Cond) ∈ GG := gg_1 (List.mem_of_getElem? (i := 13) (by decide +kernel)) (by decide +kernel)
theorem tw_991 : (.instanceMethod yX11_ask : Cond) ∈ GG := gg_7 (List.mem_of_getElem? (i := 124) (by decide +kernel)) (by decide +kernel)
theorem tw_992 : (.selects yX11_ask.cls yX11_ask yX11_ask : Cond) ∈ GG := gg_s (q := (⟨"DogLeasesModel", "ask", "(I)V"⟩, 74)) (List.mem_of_getElem? (i := 74) (by decide +kernel))
theorem tw_993 : (.methodLink RX11 369 yX11_valueNow : Cond) ∈ GG := gg_7 (List.mem_of_getElem? (i := 126) (by decide +kernel)) (by decide +kernel)
theorem tw_994 : (.code yX11_valueNow cX11_valueNow 6 (some .int) : Cond) ∈ GG := gg_7 (List.mem_of_getElem? (i := 129) (by decide +kernel)) (by decide +kernel)
theorem tw_995 : (.initialized yX11_valueNow.cls : Cond) ∈ GG := gg_1 (List.mem_of_getElem? (i := 13) (by decide +kernel)) (by decide +kernel)
theorem tw_996 : (.instanceMethod yX11_valueNow : Cond) ∈ GG := gg_7 (List.mem_of_getElem? (i := 128) (by decide +kernel)) (by decide +kernel)
theorem tw_997 : (.selects yX11_valueNow.cls yX11_valueNow yX11_valueNow : Cond) ∈ GG := gg_s (q := (⟨"DogLeasesModel", "valueNow", "([II)I"⟩, 74)) (List.mem_of_getElem? (i := 75) (by decide +kernel))
theorem tw_998 : (.methodLink RX11 379 Lib.Math.max.name : Cond) ∈ GG := gg_7 (List.mem_of_getElem? (i := 196) (by decide +kernel)) (by decide +kernel)
theorem tw_999 : (.methodLink RX11 373 yX11_bitsOf : Cond) ∈ GG := gg_7 (List.mem_of_getElem? (i := 190) (by decide +kernel)) (by decide +kernel)
theorem tw_1000 : (.code yX11_bitsOf cX11_bitsOf 3 (some .int) : Cond) ∈ GG := gg_7 (List.mem_of_getElem? (i := 192) (by decide +kernel)) (by decide +kernel)
theorem tw_1001 : (.initialized yX11_bitsOf.cls : Cond) ∈ GG := gg_1 (List.mem_of_getElem? (i := 13) (by decide +kernel)) (by decide +kernel)
theorem tw_1002 : (.static yX11_bitsOf : Cond) ∈ GG := gg_7 (List.mem_of_getElem? (i := 191) (by decide +kernel)) (by decide +kernel)
theorem tw_1003 : (.methodLink RX11 376 yX11_next : Cond) ∈ GG := gg_7 (List.mem_of_getElem? (i := 193) (by decide +kernel)) (by decide +kernel)
theorem tw_1004 : (.code yX11_next cX11_next 1 (some .int) : Cond) ∈ GG := gg_7 (List.mem_of_getElem? (i := 195) (by decide +kernel)) (by decide +kernel)
theorem tw_1005 : (.initialized yX11_next.cls : Cond) ∈ GG := gg_1 (List.mem_of_getElem? (i := 13) (by decide +kernel)) (by decide +kernel)
theorem tw_1006 : (.static yX11_next : Cond) ∈ GG := gg_7 (List.mem_of_getElem? (i := 194) (by decide +kernel)) (by decide +kernel)
theorem tw_1007 : (.methodLink RX11 382 yX11_lifeOf : Cond) ∈ GG := gg_7 (List.mem_of_getElem? (i := 178) (by decide +kernel)) (by decide +kernel)
theorem tw_1008 : (.code yX11_lifeOf cX11_lifeOf 2 (some .int) : Cond) ∈ GG := gg_7 (List.mem_of_getElem? (i := 181) (by decide +kernel)) (by decide +kernel)
theorem tw_1009 : (.initialized yX11_lifeOf.cls : Cond) ∈ GG := gg_1 (List.mem_of_getElem? (i := 13) (by decide +kernel)) (by decide +kernel)
theorem tw_1010 : (.instanceMethod yX11_lifeOf : Cond) ∈ GG := gg_7 (List.mem_of_getElem? (i := 180) (by decide +kernel)) (by decide +kernel)
theorem tw_1011 : (.selects yX11_lifeOf.cls yX11_lifeOf yX11_lifeOf : Cond) ∈ GG := gg_s (q := (⟨"DogLeasesModel", "lifeOf", "(I)I"⟩, 74)) (List.mem_of_getElem? (i := 85) (by decide +kernel))
theorem tw_1012 : (.methodLink RX11 385 yX11_isOf : Cond) ∈ GG := gg_7 (List.mem_of_getElem? (i := 115) (by decide +kernel)) (by decide +kernel)
theorem tw_1013 : (.code yX11_isOf cX11_isOf 2 (some .boolean) : Cond) ∈ GG := gg_7 (List.mem_of_getElem? (i := 117) (by decide +kernel)) (by decide +kernel)
theorem tw_1014 : (.initialized yX11_isOf.cls : Cond) ∈ GG := gg_1 (List.mem_of_getElem? (i := 13) (by decide +kernel)) (by decide +kernel)
theorem tw_1015 : (.static yX11_isOf : Cond) ∈ GG := gg_7 (List.mem_of_getElem? (i := 116) (by decide +kernel)) (by decide +kernel)
theorem tw_1016 : (.methodLink RX11 391 yX11_likes : Cond) ∈ GG := gg_7 (List.mem_of_getElem? (i := 186) (by decide +kernel)) (by decide +kernel)
theorem tw_1017 : (.code yX11_likes cX11_likes 5 (some .int) : Cond) ∈ GG := gg_7 (List.mem_of_getElem? (i := 189) (by decide +kernel)) (by decide +kernel)
theorem tw_1018 : (.initialized yX11_likes.cls : Cond) ∈ GG := gg_1 (List.mem_of_getElem? (i := 13) (by decide +kernel)) (by decide +kernel)
theorem tw_1019 : (.instanceMethod yX11_likes : Cond) ∈ GG := gg_7 (List.mem_of_getElem? (i := 188) (by decide +kernel)) (by decide +kernel)
theorem tw_1020 : (.selects yX11_likes.cls yX11_likes yX11_likes : Cond) ∈ GG := gg_s (q := (⟨"DogLeasesModel", "likes", "(II)I"⟩, 74)) (List.mem_of_getElem? (i := 87) (by decide +kernel))
theorem tw_1021 : (.methodLink RX11 388 yX11_isAsleep : Cond) ∈ GG := gg_7 (List.mem_of_getElem? (i := 118) (by decide +kernel)) (by decide +kernel)
theorem tw_1022 : (.code yX11_isAsleep cX11_isAsleep 2 (some .boolean) : Cond) ∈ GG := gg_7 (List.mem_of_getElem? (i := 121) (by decide +kernel)) (by decide +kernel)
theorem tw_1023 : (.initialized yX11_isAsleep.cls : Cond) ∈ GG := gg_1 (List.mem_of_getElem? (i := 13) (by decide +kernel)) (by decide +kernel)
theorem tw_1024 : (.instanceMethod yX11_isAsleep : Cond) ∈ GG := gg_7 (List.mem_of_getElem? (i := 120) (by decide +kernel)) (by decide +kernel)
theorem tw_1025 : (.selects yX11_isAsleep.cls yX11_isAsleep yX11_isAsleep : Cond) ∈ GG := gg_s (q := (⟨"DogLeasesModel", "isAsleep", "(I)Z"⟩, 74)) (List.mem_of_getElem? (i := 73) (by decide +kernel))
theorem tw_1026 : (.methodLink RX11 393 yX11_tellBegun : Cond) ∈ GG := gg_7 (List.mem_of_getElem? (i := 170) (by decide +kernel)) (by decide +kernel)
theorem tw_1027 : (.code yX11_tellBegun cX11_tellBegun 2 none : Cond) ∈ GG := gg_7 (List.mem_of_getElem? (i := 173) (by decide +kernel)) (by decide +kernel)
theorem tw_1028 : (.initialized yX11_tellBegun.cls : Cond) ∈ GG := gg_1 (List.mem_of_getElem? (i := 13) (by decide +kernel)) (by decide +kernel)
theorem tw_1029 : (.instanceMethod yX11_tellBegun : Cond) ∈ GG := gg_7 (List.mem_of_getElem? (i := 172) (by decide +kernel)) (by decide +kernel)
theorem tw_1030 : (.selects yX11_tellBegun.cls yX11_tellBegun yX11_tellBegun : Cond) ∈ GG := gg_s (q := (⟨"DogLeasesModel", "tellBegun", "()V"⟩, 74)) (List.mem_of_getElem? (i := 83) (by decide +kernel))
theorem tw_1031 : (.methodLink RX11 399 yX11_sits : Cond) ∈ GG := gg_7 (List.mem_of_getElem? (i := 182) (by decide +kernel)) (by decide +kernel)
theorem tw_1032 : (.code yX11_sits cX11_sits 7 none : Cond) ∈ GG := gg_7 (List.mem_of_getElem? (i := 185) (by decide +kernel)) (by decide +kernel)
theorem tw_1033 : (.initialized yX11_sits.cls : Cond) ∈ GG := gg_1 (List.mem_of_getElem? (i := 13) (by decide +kernel)) (by decide +kernel)
theorem tw_1034 : (.instanceMethod yX11_sits : Cond) ∈ GG := gg_7 (List.mem_of_getElem? (i := 184) (by decide +kernel)) (by decide +kernel)
theorem tw_1035 : (.selects yX11_sits.cls yX11_sits yX11_sits : Cond) ∈ GG := gg_s (q := (⟨"DogLeasesModel", "sits", "(I)V"⟩, 74)) (List.mem_of_getElem? (i := 86) (by decide +kernel))
theorem tw_1036 : (.methodLink RX11 396 yX11_older : Cond) ∈ GG := gg_7 (List.mem_of_getElem? (i := 174) (by decide +kernel)) (by decide +kernel)
theorem tw_1037 : (.code yX11_older cX11_older 2 none : Cond) ∈ GG := gg_7 (List.mem_of_getElem? (i := 177) (by decide +kernel)) (by decide +kernel)
theorem tw_1038 : (.initialized yX11_older.cls : Cond) ∈ GG := gg_1 (List.mem_of_getElem? (i := 13) (by decide +kernel)) (by decide +kernel)
theorem tw_1039 : (.instanceMethod yX11_older : Cond) ∈ GG := gg_7 (List.mem_of_getElem? (i := 176) (by decide +kernel)) (by decide +kernel)
theorem tw_1040 : (.selects yX11_older.cls yX11_older yX11_older : Cond) ∈ GG := gg_s (q := (⟨"DogLeasesModel", "older", "(I)V"⟩, 74)) (List.mem_of_getElem? (i := 84) (by decide +kernel))
theorem tw_1041 : (.methodLink RX11 402 yX11_aQuarter : Cond) ∈ GG := gg_7 (List.mem_of_getElem? (i := 166) (by decide +kernel)) (by decide +kernel)
theorem tw_1042 : (.code yX11_aQuarter cX11_aQuarter 4 none : Cond) ∈ GG := gg_7 (List.mem_of_getElem? (i := 169) (by decide +kernel)) (by decide +kernel)
theorem tw_1043 : (.initialized yX11_aQuarter.cls : Cond) ∈ GG := gg_1 (List.mem_of_getElem? (i := 13) (by decide +kernel)) (by decide +kernel)
theorem tw_1044 : (.instanceMethod yX11_aQuarter : Cond) ∈ GG := gg_7 (List.mem_of_getElem? (i := 168) (by decide +kernel)) (by decide +kernel)
theorem tw_1045 : (.selects yX11_aQuarter.cls yX11_aQuarter yX11_aQuarter : Cond) ∈ GG := gg_s (q := (⟨"DogLeasesModel", "aQuarter", "()V"⟩, 74)) (List.mem_of_getElem? (i := 82) (by decide +kernel))
theorem tw_1046 : (.methodLink RX11 405 yX11_nobodys : Cond) ∈ GG := gg_7 (List.mem_of_getElem? (i := 96) (by decide +kernel)) (by decide +kernel)
theorem tw_1047 : (.code yX11_nobodys cX11_nobodys 3 (some .int) : Cond) ∈ GG := gg_7 (List.mem_of_getElem? (i := 99) (by decide +kernel)) (by decide +kernel)
theorem tw_1048 : (.initialized yX11_nobodys.cls : Cond) ∈ GG := gg_1 (List.mem_of_getElem? (i := 13) (by decide +kernel)) (by decide +kernel)
theorem tw_1049 : (.instanceMethod yX11_nobodys : Cond) ∈ GG := gg_7 (List.mem_of_getElem? (i := 98) (by decide +kernel)) (by decide +kernel)
theorem tw_1050 : (.selects yX11_nobodys.cls yX11_nobodys yX11_nobodys : Cond) ∈ GG := gg_s (q := (⟨"DogLeasesModel", "nobodys", "()I"⟩, 74)) (List.mem_of_getElem? (i := 70) (by decide +kernel))
theorem tw_1051 : (.methodLink RX11 408 yX11_allCoins : Cond) ∈ GG := gg_7 (List.mem_of_getElem? (i := 100) (by decide +kernel)) (by decide +kernel)
theorem tw_1052 : (.code yX11_allCoins cX11_allCoins 3 (some .int) : Cond) ∈ GG := gg_7 (List.mem_of_getElem? (i := 103) (by decide +kernel)) (by decide +kernel)
theorem tw_1053 : (.initialized yX11_allCoins.cls : Cond) ∈ GG := gg_1 (List.mem_of_getElem? (i := 13) (by decide +kernel)) (by decide +kernel)
theorem tw_1054 : (.instanceMethod yX11_allCoins : Cond) ∈ GG := gg_7 (List.mem_of_getElem? (i := 102) (by decide +kernel)) (by decide +kernel)
theorem tw_1055 : (.selects yX11_allCoins.cls yX11_allCoins yX11_allCoins : Cond) ∈ GG := gg_s (q := (⟨"DogLeasesModel", "allCoins", "()I"⟩, 74)) (List.mem_of_getElem? (i := 71) (by decide +kernel))
theorem tw_1056 : (.methodLink RX11 411 yX11_isHouse : Cond) ∈ GG := gg_7 (List.mem_of_getElem? (i := 108) (by decide +kernel)) (by decide +kernel)
theorem tw_1057 : (.code yX11_isHouse cX11_isHouse 2 (some .boolean) : Cond) ∈ GG := gg_7 (List.mem_of_getElem? (i := 111) (by decide +kernel)) (by decide +kernel)
theorem tw_1058 : (.initialized yX11_isHouse.cls : Cond) ∈ GG := gg_1 (List.mem_of_getElem? (i := 13) (by decide +kernel)) (by decide +kernel)
theorem tw_1059 : (.instanceMethod yX11_isHouse : Cond) ∈ GG := gg_7 (List.mem_of_getElem? (i := 110) (by decide +kernel)) (by decide +kernel)
theorem tw_1060 : (.selects yX11_isHouse.cls yX11_isHouse yX11_isHouse : Cond) ∈ GG := gg_s (q := (⟨"DogLeasesModel", "isHouse", "(I)Z"⟩, 74)) (List.mem_of_getElem? (i := 72) (by decide +kernel))
theorem tw_1061 : (.methodLink RX11 414 yX11_isTenant : Cond) ∈ GG := gg_7 (List.mem_of_getElem? (i := 137) (by decide +kernel)) (by decide +kernel)
theorem tw_1062 : (.code yX11_isTenant cX11_isTenant 2 (some .boolean) : Cond) ∈ GG := gg_7 (List.mem_of_getElem? (i := 140) (by decide +kernel)) (by decide +kernel)
theorem tw_1063 : (.initialized yX11_isTenant.cls : Cond) ∈ GG := gg_1 (List.mem_of_getElem? (i := 13) (by decide +kernel)) (by decide +kernel)
theorem tw_1064 : (.instanceMethod yX11_isTenant : Cond) ∈ GG := gg_7 (List.mem_of_getElem? (i := 139) (by decide +kernel)) (by decide +kernel)
theorem tw_1065 : (.selects yX11_isTenant.cls yX11_isTenant yX11_isTenant : Cond) ∈ GG := gg_s (q := (⟨"DogLeasesModel", "isTenant", "(I)Z"⟩, 74)) (List.mem_of_getElem? (i := 76) (by decide +kernel))
theorem tw_1066 : (.fieldLink RX11 122 (TX11 40).1 (TX11 40).2.1 (TX11 40).2.2.1 : Cond) ∈ GG := gg_6 (List.mem_of_getElem? (i := 26) (by decide +kernel)) (by decide +kernel)
theorem tw_1067 : (.methodLink RX11 417 yX11_pack : Cond) ∈ GG := gg_7 (List.mem_of_getElem? (i := 158) (by decide +kernel)) (by decide +kernel)
theorem tw_1068 : (.code yX11_pack cX11_pack 5 none : Cond) ∈ GG := gg_7 (List.mem_of_getElem? (i := 161) (by decide +kernel)) (by decide +kernel)
theorem tw_1069 : (.initialized yX11_pack.cls : Cond) ∈ GG := gg_1 (List.mem_of_getElem? (i := 13) (by decide +kernel)) (by decide +kernel)
theorem tw_1070 : (.instanceMethod yX11_pack : Cond) ∈ GG := gg_7 (List.mem_of_getElem? (i := 160) (by decide +kernel)) (by decide +kernel)
theorem tw_1071 : (.selects yX11_pack.cls yX11_pack yX11_pack : Cond) ∈ GG := gg_s (q := (⟨"DogLeasesModel", "pack", "([II)V"⟩, 74)) (List.mem_of_getElem? (i := 80) (by decide +kernel))
theorem tw_1072 : (.constantLong RX11 421 (20) : Cond) ∈ GG := gg_7 (List.mem_of_getElem? (i := 149) (by decide +kernel)) (by decide +kernel)
theorem tw_1073 : (.methodLink RX11 423 yX11_refuse : Cond) ∈ GG := gg_7 (List.mem_of_getElem? (i := 150) (by decide +kernel)) (by decide +kernel)
theorem tw_1074 : (.code yX11_refuse cX11_refuse 2 (some .int) : Cond) ∈ GG := gg_7 (List.mem_of_getElem? (i := 153) (by decide +kernel)) (by decide +kernel)
theorem tw_1075 : (.initialized yX11_refuse.cls : Cond) ∈ GG := gg_1 (List.mem_of_getElem? (i := 13) (by decide +kernel)) (by decide +kernel)
theorem tw_1076 : (.instanceMethod yX11_refuse : Cond) ∈ GG := gg_7 (List.mem_of_getElem? (i := 152) (by decide +kernel)) (by decide +kernel)
theorem tw_1077 : (.selects yX11_refuse.cls yX11_refuse yX11_refuse : Cond) ∈ GG := gg_s (q := (⟨"DogLeasesModel", "refuse", "(I)I"⟩, 74)) (List.mem_of_getElem? (i := 78) (by decide +kernel))
theorem tw_1078 : (.methodLink RX11 426 yX11_keep : Cond) ∈ GG := gg_7 (List.mem_of_getElem? (i := 154) (by decide +kernel)) (by decide +kernel)
theorem tw_1079 : (.code yX11_keep cX11_keep 2 none : Cond) ∈ GG := gg_7 (List.mem_of_getElem? (i := 157) (by decide +kernel)) (by decide +kernel)
theorem tw_1080 : (.initialized yX11_keep.cls : Cond) ∈ GG := gg_1 (List.mem_of_getElem? (i := 13) (by decide +kernel)) (by decide +kernel)
theorem tw_1081 : (.instanceMethod yX11_keep : Cond) ∈ GG := gg_7 (List.mem_of_getElem? (i := 156) (by decide +kernel)) (by decide +kernel)
theorem tw_1082 : (.selects yX11_keep.cls yX11_keep yX11_keep : Cond) ∈ GG := gg_s (q := (⟨"DogLeasesModel", "keep", "()V"⟩, 74)) (List.mem_of_getElem? (i := 79) (by decide +kernel))
theorem tw_1083 : (.methodLink RX11 429 yX11_goOn : Cond) ∈ GG := gg_7 (List.mem_of_getElem? (i := 162) (by decide +kernel)) (by decide +kernel)
theorem tw_1084 : (.code yX11_goOn cX11_goOn 3 none : Cond) ∈ GG := gg_7 (List.mem_of_getElem? (i := 165) (by decide +kernel)) (by decide +kernel)
theorem tw_1085 : (.initialized yX11_goOn.cls : Cond) ∈ GG := gg_1 (List.mem_of_getElem? (i := 13) (by decide +kernel)) (by decide +kernel)
theorem tw_1086 : (.instanceMethod yX11_goOn : Cond) ∈ GG := gg_7 (List.mem_of_getElem? (i := 164) (by decide +kernel)) (by decide +kernel)
theorem tw_1087 : (.selects yX11_goOn.cls yX11_goOn yX11_goOn : Cond) ∈ GG := gg_s (q := (⟨"DogLeasesModel", "goOn", "(I)V"⟩, 74)) (List.mem_of_getElem? (i := 81) (by decide +kernel))
theorem tw_1088 : (.constantLong RX11 432 (9) : Cond) ∈ GG := gg_7 (List.mem_of_getElem? (i := 201) (by decide +kernel)) (by decide +kernel)
theorem tw_1089 : (.constantLong RX11 434 (3) : Cond) ∈ GG := gg_7 (List.mem_of_getElem? (i := 206) (by decide +kernel)) (by decide +kernel)
theorem tw_1090 : (.methodLink RX11 436 yX11_failing : Cond) ∈ GG := gg_7 (List.mem_of_getElem? (i := 211) (by decide +kernel)) (by decide +kernel)
theorem tw_1091 : (.code yX11_failing cX11_failing 2 (some .boolean) : Cond) ∈ GG := gg_7 (List.mem_of_getElem? (i := 214) (by decide +kernel)) (by decide +kernel)
theorem tw_1092 : (.initialized yX11_failing.cls : Cond) ∈ GG := gg_1 (List.mem_of_getElem? (i := 13) (by decide +kernel)) (by decide +kernel)
theorem tw_1093 : (.instanceMethod yX11_failing : Cond) ∈ GG := gg_7 (List.mem_of_getElem? (i := 213) (by decide +kernel)) (by decide +kernel)
theorem tw_1094 : (.selects yX11_failing.cls yX11_failing yX11_failing : Cond) ∈ GG := gg_s (q := (⟨"DogLeasesModel", "failing", "(I)Z"⟩, 74)) (List.mem_of_getElem? (i := 88) (by decide +kernel))
theorem tw_1095 : (.methodLink RX11 439 yX11_unpack : Cond) ∈ GG := gg_7 (List.mem_of_getElem? (i := 223) (by decide +kernel)) (by decide +kernel)
theorem tw_1096 : (.code yX11_unpack cX11_unpack 5 none : Cond) ∈ GG := gg_7 (List.mem_of_getElem? (i := 226) (by decide +kernel)) (by decide +kernel)
theorem tw_1097 : (.initialized yX11_unpack.cls : Cond) ∈ GG := gg_1 (List.mem_of_getElem? (i := 13) (by decide +kernel)) (by decide +kernel)
theorem tw_1098 : (.instanceMethod yX11_unpack : Cond) ∈ GG := gg_7 (List.mem_of_getElem? (i := 225) (by decide +kernel)) (by decide +kernel)
theorem tw_1099 : (.selects yX11_unpack.cls yX11_unpack yX11_unpack : Cond) ∈ GG := gg_s (q := (⟨"DogLeasesModel", "unpack", "([II)V"⟩, 74)) (List.mem_of_getElem? (i := 89) (by decide +kernel))
theorem tw_1100 : (.constantLong RX11 442 (40) : Cond) ∈ GG := gg_7 (List.mem_of_getElem? (i := 231) (by decide +kernel)) (by decide +kernel)
theorem tw_1101 : (.fieldLink RX11 140 (TX11 51).1 (TX11 51).2.1 (TX11 51).2.2.1 : Cond) ∈ GG := gg_6 (List.mem_of_getElem? (i := 37) (by decide +kernel)) (by decide +kernel)
theorem tw_1102 : (.methodLink RX11 444 yX11_likingOf : Cond) ∈ GG := gg_8 (List.mem_of_getElem? (i := 24) (by decide +kernel)) (by decide +kernel)
theorem tw_1103 : (.code yX11_likingOf cX11_likingOf 3 (some .int) : Cond) ∈ GG := gg_8 (List.mem_of_getElem? (i := 27) (by decide +kernel)) (by decide +kernel)
theorem tw_1104 : (.initialized yX11_likingOf.cls : Cond) ∈ GG := gg_1 (List.mem_of_getElem? (i := 13) (by decide +kernel)) (by decide +kernel)
theorem tw_1105 : (.instanceMethod yX11_likingOf : Cond) ∈ GG := gg_8 (List.mem_of_getElem? (i := 26) (by decide +kernel)) (by decide +kernel)
theorem tw_1106 : (.selects yX11_likingOf.cls yX11_likingOf yX11_likingOf : Cond) ∈ GG := gg_s (q := (⟨"DogLeasesModel", "likingOf", "(II)I"⟩, 74)) (List.mem_of_getElem? (i := 90) (by decide +kernel))
theorem tw_1107 : (.methodLink RX11 447 yX11_housesNext : Cond) ∈ GG := gg_8 (List.mem_of_getElem? (i := 32) (by decide +kernel)) (by decide +kernel)
theorem tw_1108 : (.code yX11_housesNext cX11_housesNext 3 (some .int) : Cond) ∈ GG := gg_8 (List.mem_of_getElem? (i := 35) (by decide +kernel)) (by decide +kernel)
theorem tw_1109 : (.initialized yX11_housesNext.cls : Cond) ∈ GG := gg_1 (List.mem_of_getElem? (i := 13) (by decide +kernel)) (by decide +kernel)
theorem tw_1110 : (.instanceMethod yX11_housesNext : Cond) ∈ GG := gg_8 (List.mem_of_getElem? (i := 34) (by decide +kernel)) (by decide +kernel)
theorem tw_1111 : (.selects yX11_housesNext.cls yX11_housesNext yX11_housesNext : Cond) ∈ GG := gg_s (q := (⟨"DogLeasesModel", "housesNext", "(I)I"⟩, 74)) (List.mem_of_getElem? (i := 91) (by decide +kernel))
theorem tw_1112 : (.fieldLink RX11 146 (TX11 53).1 (TX11 53).2.1 (TX11 53).2.2.1 : Cond) ∈ GG := gg_6 (List.mem_of_getElem? (i := 39) (by decide +kernel)) (by decide +kernel)
theorem tw_1113 : (.fieldLink RX11 143 (TX11 52).1 (TX11 52).2.1 (TX11 52).2.2.1 : Cond) ∈ GG := gg_6 (List.mem_of_getElem? (i := 38) (by decide +kernel)) (by decide +kernel)
theorem tw_1114 : (.methodLink RX11 450 yX11_by : Cond) ∈ GG := gg_8 (List.mem_of_getElem? (i := 58) (by decide +kernel)) (by decide +kernel)
theorem tw_1115 : (.code yX11_by cX11_by 4 (some .int) : Cond) ∈ GG := gg_8 (List.mem_of_getElem? (i := 61) (by decide +kernel)) (by decide +kernel)
theorem tw_1116 : (.initialized yX11_by.cls : Cond) ∈ GG := gg_1 (List.mem_of_getElem? (i := 13) (by decide +kernel)) (by decide +kernel)
theorem tw_1117 : (.instanceMethod yX11_by : Cond) ∈ GG := gg_8 (List.mem_of_getElem? (i := 60) (by decide +kernel)) (by decide +kernel)
theorem tw_1118 : (.selects yX11_by.cls yX11_by yX11_by : Cond) ∈ GG := gg_s (q := (⟨"DogLeasesModel", "by", "(III)I"⟩, 74)) (List.mem_of_getElem? (i := 94) (by decide +kernel))
theorem tw_1119 : (.constantLong RX11 453 (-1) : Cond) ∈ GG := gg_8 (List.mem_of_getElem? (i := 48) (by decide +kernel)) (by decide +kernel)
theorem tw_1120 : (.constantLong RX11 455 (8) : Cond) ∈ GG := gg_8 (List.mem_of_getElem? (i := 49) (by decide +kernel)) (by decide +kernel)
theorem tw_1121 : (.methodLink RX11 457 yX11_tellLiked : Cond) ∈ GG := gg_8 (List.mem_of_getElem? (i := 50) (by decide +kernel)) (by decide +kernel)
theorem tw_1122 : (.code yX11_tellLiked cX11_tellLiked 7 none : Cond) ∈ GG := gg_8 (List.mem_of_getElem? (i := 53) (by decide +kernel)) (by decide +kernel)
theorem tw_1123 : (.initialized yX11_tellLiked.cls : Cond) ∈ GG := gg_1 (List.mem_of_getElem? (i := 13) (by decide +kernel)) (by decide +kernel)
theorem tw_1124 : (.instanceMethod yX11_tellLiked : Cond) ∈ GG := gg_8 (List.mem_of_getElem? (i := 52) (by decide +kernel)) (by decide +kernel)
theorem tw_1125 : (.selects yX11_tellLiked.cls yX11_tellLiked yX11_tellLiked : Cond) ∈ GG := gg_s (q := (⟨"DogLeasesModel", "tellLiked", "(I)V"⟩, 74)) (List.mem_of_getElem? (i := 92) (by decide +kernel))
theorem tw_1126 : (.methodLink RX11 460 yX11_tellMost : Cond) ∈ GG := gg_8 (List.mem_of_getElem? (i := 54) (by decide +kernel)) (by decide +kernel)
theorem tw_1127 : (.code yX11_tellMost cX11_tellMost 6 none : Cond) ∈ GG := gg_8 (List.mem_of_getElem? (i := 57) (by decide +kernel)) (by decide +kernel)
theorem tw_1128 : (.initialized yX11_tellMost.cls : Cond) ∈ GG := gg_1 (List.mem_of_getElem? (i := 13) (by decide +kernel)) (by decide +kernel)
theorem tw_1129 : (.instanceMethod yX11_tellMost : Cond) ∈ GG := gg_8 (List.mem_of_getElem? (i := 56) (by decide +kernel)) (by decide +kernel)
theorem tw_1130 : (.selects yX11_tellMost.cls yX11_tellMost yX11_tellMost : Cond) ∈ GG := gg_s (q := (⟨"DogLeasesModel", "tellMost", "()V"⟩, 74)) (List.mem_of_getElem? (i := 93) (by decide +kernel))
theorem tw_1131 : (.methodLink RX11 463 yX11_goingTo : Cond) ∈ GG := gg_8 (List.mem_of_getElem? (i := 62) (by decide +kernel)) (by decide +kernel)
theorem tw_1132 : (.code yX11_goingTo cX11_goingTo 4 (some .int) : Cond) ∈ GG := gg_8 (List.mem_of_getElem? (i := 65) (by decide +kernel)) (by decide +kernel)
theorem tw_1133 : (.initialized yX11_goingTo.cls : Cond) ∈ GG := gg_1 (List.mem_of_getElem? (i := 13) (by decide +kernel)) (by decide +kernel)
theorem tw_1134 : (.instanceMethod yX11_goingTo : Cond) ∈ GG := gg_8 (List.mem_of_getElem? (i := 64) (by decide +kernel)) (by decide +kernel)
theorem tw_1135 : (.selects yX11_goingTo.cls yX11_goingTo yX11_goingTo : Cond) ∈ GG := gg_s (q := (⟨"DogLeasesModel", "goingTo", "(II)I"⟩, 74)) (List.mem_of_getElem? (i := 95) (by decide +kernel))
theorem tw_1136 : (.constantLong RX11 466 (12) : Cond) ∈ GG := gg_8 (List.mem_of_getElem? (i := 82) (by decide +kernel)) (by decide +kernel)
theorem tw_1137 : (.fieldLink RX11 149 (TX11 54).1 (TX11 54).2.1 (TX11 54).2.2.1 : Cond) ∈ GG := gg_6 (List.mem_of_getElem? (i := 40) (by decide +kernel)) (by decide +kernel)
theorem tw_1138 : (.fieldLink RX11 152 (TX11 55).1 (TX11 55).2.1 (TX11 55).2.2.1 : Cond) ∈ GG := gg_6 (List.mem_of_getElem? (i := 41) (by decide +kernel)) (by decide +kernel)
theorem tw_1139 : (.fieldLink RX11 155 (TX11 56).1 (TX11 56).2.1 (TX11 56).2.2.1 : Cond) ∈ GG := gg_6 (List.mem_of_getElem? (i := 42) (by decide +kernel)) (by decide +kernel)
theorem tw_1140 : (.fieldLink RX11 161 (TX11 58).1 (TX11 58).2.1 (TX11 58).2.2.1 : Cond) ∈ GG := gg_6 (List.mem_of_getElem? (i := 44) (by decide +kernel)) (by decide +kernel)
theorem tw_1141 : (.fieldLink RX11 158 (TX11 57).1 (TX11 57).2.1 (TX11 57).2.2.1 : Cond) ∈ GG := gg_6 (List.mem_of_getElem? (i := 43) (by decide +kernel)) (by decide +kernel)
theorem tw_1142 : (.fieldLink RX11 468 (TX11 61).1 (TX11 61).2.1 (TX11 61).2.2.1 : Cond) ∈ GG := gg_6 (List.mem_of_getElem? (i := 47) (by decide +kernel)) (by decide +kernel)
theorem tw_1143 : (.methodLink RX11 471 yX11_isAsSeen : Cond) ∈ GG := gg_8 (List.mem_of_getElem? (i := 88) (by decide +kernel)) (by decide +kernel)
theorem tw_1144 : (.code yX11_isAsSeen cX11_isAsSeen 4 (some .boolean) : Cond) ∈ GG := gg_8 (List.mem_of_getElem? (i := 91) (by decide +kernel)) (by decide +kernel)
theorem tw_1145 : (.initialized yX11_isAsSeen.cls : Cond) ∈ GG := gg_1 (List.mem_of_getElem? (i := 13) (by decide +kernel)) (by decide +kernel)
theorem tw_1146 : (.instanceMethod yX11_isAsSeen : Cond) ∈ GG := gg_8 (List.mem_of_getElem? (i := 90) (by decide +kernel)) (by decide +kernel)
theorem tw_1147 : (.selects yX11_isAsSeen.cls yX11_isAsSeen yX11_isAsSeen : Cond) ∈ GG := gg_s (q := (⟨"DogLeasesModel", "isAsSeen", "()Z"⟩, 74)) (List.mem_of_getElem? (i := 96) (by decide +kernel))
theorem tw_1148 : (.fieldLink RX11 165 (TX11 59).1 (TX11 59).2.1 (TX11 59).2.2.1 : Cond) ∈ GG := gg_6 (List.mem_of_getElem? (i := 45) (by decide +kernel)) (by decide +kernel)
theorem tw_1149 : (.constantLong RX11 475 (2) : Cond) ∈ GG := gg_8 (List.mem_of_getElem? (i := 87) (by decide +kernel)) (by decide +kernel)
theorem tw_1150 : (.methodLink RX11 477 yX11_tellFits : Cond) ∈ GG := gg_8 (List.mem_of_getElem? (i := 92) (by decide +kernel)) (by decide +kernel)
theorem tw_1151 : (.code yX11_tellFits cX11_tellFits 4 none : Cond) ∈ GG := gg_8 (List.mem_of_getElem? (i := 95) (by decide +kernel)) (by decide +kernel)
theorem tw_1152 : (.initialized yX11_tellFits.cls : Cond) ∈ GG := gg_1 (List.mem_of_getElem? (i := 13) (by decide +kernel)) (by decide +kernel)
theorem tw_1153 : (.instanceMethod yX11_tellFits : Cond) ∈ GG := gg_8 (List.mem_of_getElem? (i := 94) (by decide +kernel)) (by decide +kernel)
theorem tw_1154 : (.selects yX11_tellFits.cls yX11_tellFits yX11_tellFits : Cond) ∈ GG := gg_s (q := (⟨"DogLeasesModel", "tellFits", "()V"⟩, 74)) (List.mem_of_getElem? (i := 97) (by decide +kernel))
theorem tw_1155 : (.fieldLink RX11 168 (TX11 60).1 (TX11 60).2.1 (TX11 60).2.2.1 : Cond) ∈ GG := gg_6 (List.mem_of_getElem? (i := 46) (by decide +kernel)) (by decide +kernel)
theorem tw_1156 : (.methodLink RX11 480 yX11_unlike : Cond) ∈ GG := gg_8 (List.mem_of_getElem? (i := 100) (by decide +kernel)) (by decide +kernel)
theorem tw_1157 : (.code yX11_unlike cX11_unlike 6 (some .int) : Cond) ∈ GG := gg_8 (List.mem_of_getElem? (i := 103) (by decide +kernel)) (by decide +kernel)
theorem tw_1158 : (.initialized yX11_unlike.cls : Cond) ∈ GG := gg_1 (List.mem_of_getElem? (i := 13) (by decide +kernel)) (by decide +kernel)
theorem tw_1159 : (.instanceMethod yX11_unlike : Cond) ∈ GG := gg_8 (List.mem_of_getElem? (i := 102) (by decide +kernel)) (by decide +kernel)
theorem tw_1160 : (.selects yX11_unlike.cls yX11_unlike yX11_unlike : Cond) ∈ GG := gg_s (q := (⟨"DogLeasesModel", "unlike", "(I)I"⟩, 74)) (List.mem_of_getElem? (i := 98) (by decide +kernel))
theorem tw_1161 : (.methodLink RX11 483 yX11_choose : Cond) ∈ GG := gg_8 (List.mem_of_getElem? (i := 116) (by decide +kernel)) (by decide +kernel)
theorem tw_1162 : (.code yX11_choose cX11_choose 3 none : Cond) ∈ GG := gg_8 (List.mem_of_getElem? (i := 119) (by decide +kernel)) (by decide +kernel)
theorem tw_1163 : (.initialized yX11_choose.cls : Cond) ∈ GG := gg_1 (List.mem_of_getElem? (i := 13) (by decide +kernel)) (by decide +kernel)
theorem tw_1164 : (.instanceMethod yX11_choose : Cond) ∈ GG := gg_8 (List.mem_of_getElem? (i := 118) (by decide +kernel)) (by decide +kernel)
theorem tw_1165 : (.selects yX11_choose.cls yX11_choose yX11_choose : Cond) ∈ GG := gg_s (q := (⟨"DogLeasesModel", "choose", "(II)V"⟩, 74)) (List.mem_of_getElem? (i := 100) (by decide +kernel))
theorem tw_1166 : (.fieldLink RX11 171 (TX11 62).1 (TX11 62).2.1 (TX11 62).2.2.1 : Cond) ∈ GG := gg_6 (List.mem_of_getElem? (i := 48) (by decide +kernel)) (by decide +kernel)
theorem tw_1167 : (.methodLink RX11 487 yX11_rents : Cond) ∈ GG := gg_8 (List.mem_of_getElem? (i := 120) (by decide +kernel)) (by decide +kernel)
theorem tw_1168 : (.code yX11_rents cX11_rents 4 (some .int) : Cond) ∈ GG := gg_8 (List.mem_of_getElem? (i := 123) (by decide +kernel)) (by decide +kernel)
theorem tw_1169 : (.initialized yX11_rents.cls : Cond) ∈ GG := gg_1 (List.mem_of_getElem? (i := 13) (by decide +kernel)) (by decide +kernel)
theorem tw_1170 : (.instanceMethod yX11_rents : Cond) ∈ GG := gg_8 (List.mem_of_getElem? (i := 122) (by decide +kernel)) (by decide +kernel)
theorem tw_1171 : (.selects yX11_rents.cls yX11_rents yX11_rents : Cond) ∈ GG := gg_s (q := (⟨"DogLeasesModel", "rents", "(I)I"⟩, 74)) (List.mem_of_getElem? (i := 101) (by decide +kernel))
theorem tw_1172 : (.methodLink RX11 490 yX11_tellGains : Cond) ∈ GG := gg_8 (List.mem_of_getElem? (i := 112) (by decide +kernel)) (by decide +kernel)
theorem tw_1173 : (.code yX11_tellGains cX11_tellGains 4 none : Cond) ∈ GG := gg_8 (List.mem_of_getElem? (i := 115) (by decide +kernel)) (by decide +kernel)
theorem tw_1174 : (.initialized yX11_tellGains.cls : Cond) ∈ GG := gg_1 (List.mem_of_getElem? (i := 13) (by decide +kernel)) (by decide +kernel)
theorem tw_1175 : (.instanceMethod yX11_tellGains : Cond) ∈ GG := gg_8 (List.mem_of_getElem? (i := 114) (by decide +kernel)) (by decide +kernel)
theorem tw_1176 : (.selects yX11_tellGains.cls yX11_tellGains yX11_tellGains : Cond) ∈ GG := gg_s (q := (⟨"DogLeasesModel", "tellGains", "(II)V"⟩, 74)) (List.mem_of_getElem? (i := 99) (by decide +kernel))
theorem tw_1177 : (.fieldLink RX11 493 (TX11 63).1 (TX11 63).2.1 (TX11 63).2.2.1 : Cond) ∈ GG := gg_6 (List.mem_of_getElem? (i := 49) (by decide +kernel)) (by decide +kernel)
theorem tw_1178 : (.constant RX11 496 (1103515245) : Cond) ∈ GG := gg_8 (List.mem_of_getElem? (i := 136) (by decide +kernel)) (by decide +kernel)
theorem tw_1179 : (.methodLink RX11 497 yX11_drawOf : Cond) ∈ GG := gg_8 (List.mem_of_getElem? (i := 132) (by decide +kernel)) (by decide +kernel)
theorem tw_1180 : (.code yX11_drawOf cX11_drawOf 2 (some .int) : Cond) ∈ GG := gg_8 (List.mem_of_getElem? (i := 135) (by decide +kernel)) (by decide +kernel)
theorem tw_1181 : (.initialized yX11_drawOf.cls : Cond) ∈ GG := gg_1 (List.mem_of_getElem? (i := 13) (by decide +kernel)) (by decide +kernel)
theorem tw_1182 : (.instanceMethod yX11_drawOf : Cond) ∈ GG := gg_8 (List.mem_of_getElem? (i := 134) (by decide +kernel)) (by decide +kernel)
theorem tw_1183 : (.selects yX11_drawOf.cls yX11_drawOf yX11_drawOf : Cond) ∈ GG := gg_s (q := (⟨"DogLeasesModel", "drawOf", "(I)I"⟩, 74)) (List.mem_of_getElem? (i := 103) (by decide +kernel))
theorem tw_1184 : (.methodLink RX11 500 yX11_something : Cond) ∈ GG := gg_8 (List.mem_of_getElem? (i := 128) (by decide +kernel)) (by decide +kernel)
theorem tw_1185 : (.code yX11_something cX11_something 3 none : Cond) ∈ GG := gg_8 (List.mem_of_getElem? (i := 131) (by decide +kernel)) (by decide +kernel)
theorem tw_1186 : (.initialized yX11_something.cls : Cond) ∈ GG := gg_1 (List.mem_of_getElem? (i := 13) (by decide +kernel)) (by decide +kernel)
theorem tw_1187 : (.instanceMethod yX11_something : Cond) ∈ GG := gg_8 (List.mem_of_getElem? (i := 130) (by decide +kernel)) (by decide +kernel)
theorem tw_1188 : (.selects yX11_something.cls yX11_something yX11_something : Cond) ∈ GG := gg_s (q := (⟨"DogLeasesModel", "something", "()V"⟩, 74)) (List.mem_of_getElem? (i := 102) (by decide +kernel))
theorem tw_1189 : (.fieldLink RX11 503 (TX11 65).1 (TX11 65).2.1 (TX11 65).2.2.1 : Cond) ∈ GG := gg_6 (List.mem_of_getElem? (i := 51) (by decide +kernel)) (by decide +kernel)
theorem tw_1190 : (.fieldLink RX11 506 (TX11 66).1 (TX11 66).2.1 (TX11 66).2.2.1 : Cond) ∈ GG := gg_6 (List.mem_of_getElem? (i := 52) (by decide +kernel)) (by decide +kernel)
theorem tw_1191 : (.fieldLink RX11 174 (TX11 67).1 (TX11 67).2.1 (TX11 67).2.2.1 : Cond) ∈ GG := gg_6 (List.mem_of_getElem? (i := 53) (by decide +kernel)) (by decide +kernel)
theorem tw_1192 : (.fieldLink RX11 177 (TX11 68).1 (TX11 68).2.1 (TX11 68).2.2.1 : Cond) ∈ GG := gg_6 (List.mem_of_getElem? (i := 54) (by decide +kernel)) (by decide +kernel)
theorem tw_1193 : (.methodLink RX11 509 yX11_copyTo : Cond) ∈ GG := gg_8 (List.mem_of_getElem? (i := 141) (by decide +kernel)) (by decide +kernel)
theorem tw_1194 : (.code yX11_copyTo cX11_copyTo 3 none : Cond) ∈ GG := gg_8 (List.mem_of_getElem? (i := 143) (by decide +kernel)) (by decide +kernel)
theorem tw_1195 : (.initialized yX11_copyTo.cls : Cond) ∈ GG := gg_1 (List.mem_of_getElem? (i := 13) (by decide +kernel)) (by decide +kernel)
theorem tw_1196 : (.static yX11_copyTo : Cond) ∈ GG := gg_8 (List.mem_of_getElem? (i := 142) (by decide +kernel)) (by decide +kernel)
theorem tw_1197 : (.fieldLink RX11 180 (TX11 69).1 (TX11 69).2.1 (TX11 69).2.2.1 : Cond) ∈ GG := gg_6 (List.mem_of_getElem? (i := 55) (by decide +kernel)) (by decide +kernel)
theorem tw_1198 : (.fieldLink RX11 183 (TX11 70).1 (TX11 70).2.1 (TX11 70).2.2.1 : Cond) ∈ GG := gg_6 (List.mem_of_getElem? (i := 56) (by decide +kernel)) (by decide +kernel)
theorem tw_1199 : (.fieldLink RX11 186 (TX11 71).1 (TX11 71).2.1 (TX11 71).2.2.1 : Cond) ∈ GG := gg_6 (List.mem_of_getElem? (i := 57) (by decide +kernel)) (by decide +kernel)
theorem tw_1200 : (.fieldLink RX11 189 (TX11 72).1 (TX11 72).2.1 (TX11 72).2.2.1 : Cond) ∈ GG := gg_6 (List.mem_of_getElem? (i := 58) (by decide +kernel)) (by decide +kernel)
theorem tw_1201 : (.fieldLink RX11 192 (TX11 73).1 (TX11 73).2.1 (TX11 73).2.2.1 : Cond) ∈ GG := gg_6 (List.mem_of_getElem? (i := 59) (by decide +kernel)) (by decide +kernel)
section RWR
variable {p : Program} {l : Launch} {e : Env} {R : Room} {s : State} {m : MethodId} {args : Array Value} {below : List Frame} {meth : Method} {c : Code} {H : Heap} {locs : List Loc} {cells slots : Nat} {Q : State → Prop} {cc : ByteArray} {pc : Nat} {ls : Array Slot} {rest : List Value} {nL : Nat} {A : Nat → Prop} {σ : Mem} {ret : Option FieldType}
def saR (E : RE) (w : Nat) : Nat := E.2.2.2.2.2.1 w
def taR (E : RE) (w : Nat) : Nat := E.2.2.2.2.2.2.2 w
theorem ldcSR {E : RE} {own : String} {idx : Nat} (X : CX p s m meth c args cc nL own ret) (I : WI (vR E) A s H locs σ) {w : Nat} (hw : w < 50) (ho : sOwn.getD w "" = own) (hi : sIdx.getD w 0 = idx) (d : decode cc pc = .ok (.ldc idx, 2)) (kk : W p l e R s m args below meth c H locs cells slots Q (F0 m (pc + 2) ls (.ref (saR E w) :: rest))) : W p l e R s m args below meth c H locs cells slots Q (F0 m pc ls rest) := r_ldcS (V := (vR E)) (x := E.2.2.2.2.2) rfl X I hw ho hi d kk
theorem ldcSWR {E : RE} {own : String} {idx : Nat} (X : CX p s m meth c args cc nL own ret) (I : WI (vR E) A s H locs σ) {w : Nat} (hw : w < 50) (ho : sOwn.getD w "" = own) (hi : sIdx.getD w 0 = idx) (d : decode cc pc = .ok (.ldc_w idx, 3)) (kk : W p l e R s m args below meth c H locs cells slots Q (F0 m (pc + 3) ls (.ref (saR E w) :: rest))) : W p l e R s m args below meth c H locs cells slots Q (F0 m pc ls rest) := r_ldcSW (V := (vR E)) (x := E.2.2.2.2.2) rfl X I hw ho hi d kk
theorem slenR {E : RE} {own : String} {lvs : List (Nat × Value)} {idx : Nat} (X : CX p s m meth c args cc nL own ret) (I : WI (vR E) A s H locs σ) (hl : lv_has ls nL lvs) {w : Nat} (hw : w < 50) (hk : Cond.methodLink own idx yJ0_length_8abf5 ∈ GG) (hR : rm_J0_length_8abf5.frames + 1 ≤ R.frames ∧ 8 + (1 + 11) + rm_J0_length_8abf5.locals ≤ R.locals) (hrest : (rest.map fun v => v.category).sum ≤ 8) (d : decode cc pc = .ok (.invokevirtual idx, 3)) (kk : ∀ (H1 : Heap) (locs1 : List Loc), WI (vR E) A s H1 locs1 σ → W p l e R s m args below meth c H1 locs1 0 0 Q (F0 m (pc + 3) ls (.int (sLen w) :: rest))) : W p l e R s m args below meth c H locs 0 0 Q (F0 m pc ls (.ref (saR E w) :: rest)) := r_slen (V := (vR E)) (x := E.2.2.2.2.2) rfl X I hl hw hk hR hrest d kk
theorem schrR {E : RE} {own : String} {lvs : List (Nat × Value)} {idx : Nat} (X : CX p s m meth c args cc nL own ret) (I : WI (vR E) A s H locs σ) (hl : lv_has ls nL lvs) {w : Nat} (hw : w < 50) {k : Int32} (hin : vp_in k (sNum w)) (hk : Cond.methodLink own idx yJ0_charAt_5068e ∈ GG) (hR : rm_J0_charAt_5068e.frames + 1 ≤ R.frames ∧ 8 + (2 + 11) + rm_J0_charAt_5068e.locals ≤ R.locals) (hrest : (rest.map fun v => v.category).sum ≤ 8) (d : decode cc pc = .ok (.invokevirtual idx, 3)) (kk : ∀ (H1 : Heap) (locs1 : List Loc), WI (vR E) A s H1 locs1 σ → W p l e R s m args below meth c H1 locs1 0 0 Q (F0 m (pc + 3) ls (.int (sch w k.toNatClampNeg) :: rest))) : W p l e R s m args below meth c H locs 0 0 Q (F0 m pc ls (.int k :: .ref (saR E w) :: rest)) := r_schr (V := (vR E)) (x := E.2.2.2.2.2) rfl X I hl hw hin hk hR hrest d kk
theorem ialdR {E : RE} {own : String} (X : CX p s m meth c args cc nL own ret) (I : WI (vR E) A s H locs σ) {k n : Nat} (hk : KRaI E k n) {i : Int32} (hin : vp_in i n) (d : decode cc pc = .ok (.iaload, 1)) (kk : W p l e R s m args below meth c H locs cells slots Q (F0 m (pc + 1) ls (.int (σ k i.toNatClampNeg) :: rest))) : W p l e R s m args below meth c H locs cells slots Q (F0 m pc ls (.int i :: .ref (ra E k) :: rest)) := r_iald (V := (vR E)) (t0 := 0) X I hk.1 rfl (hk.2 _) hin d kk
theorem iastR {E : RE} {own : String} (X : CX p s m meth c args cc nL own ret) (I : WI (vR E) A s H locs σ) {k n : Nat} (hk : KRaI E k n) {i x : Int32} (hin : vp_in i n) (d : decode cc pc = .ok (.iastore, 1)) (kk : ∀ (H1 : Heap) (locs1 : List Loc), WI (vR E) A s H1 locs1 (ms σ k i.toNatClampNeg x) → W p l e R s m args below meth c H1 locs1 cells slots Q (F0 m (pc + 1) ls rest)) : W p l e R s m args below meth c H locs cells slots Q (F0 m pc ls (.int x :: .int i :: .ref (ra E k) :: rest)) := r_iast (V := (vR E)) (t0 := 0) X I hk.1 rfl hk.2 hin d kk
theorem zaldR {E : RE} {own : String} (X : CX p s m meth c args cc nL own ret) (I : WI (vR E) A s H locs σ) {k n : Nat} (hk : KRaZ E k n) {i : Int32} (hin : vp_in i n) (d : decode cc pc = .ok (.baload, 1)) (kk : W p l e R s m args below meth c H locs cells slots Q (F0 m (pc + 1) ls (.int (σ k i.toNatClampNeg) :: rest))) : W p l e R s m args below meth c H locs cells slots Q (F0 m pc ls (.int i :: .ref (ra E k) :: rest)) := r_zald (V := (vR E)) (t0 := 1) X I hk.1 rfl (hk.2 _) hin d kk
theorem zastR {E : RE} {own : String} (X : CX p s m meth c args cc nL own ret) (I : WI (vR E) A s H locs σ) {k n : Nat} (hk : KRaZ E k n) {i x : Int32} (hz : narrow .boolean (.int x) = .int x ∧ fits .boolean (.int x) = true) (hin : vp_in i n) (d : decode cc pc = .ok (.bastore, 1)) (kk : ∀ (H1 : Heap) (locs1 : List Loc), WI (vR E) A s H1 locs1 (ms σ k i.toNatClampNeg x) → W p l e R s m args below meth c H1 locs1 cells slots Q (F0 m (pc + 1) ls rest)) : W p l e R s m args below meth c H locs cells slots Q (F0 m pc ls (.int x :: .int i :: .ref (ra E k) :: rest)) := r_zast (V := (vR E)) (t0 := 1) X I hk.1 rfl hk.2 hz hin d kk
theorem alenIR {E : RE} {own : String} (X : CX p s m meth c args cc nL own ret) (I : WI (vR E) A s H locs σ) {k n : Nat} (hk : KRaI E k n) {v : Int32} (hv : Int32.ofNat n = v) (d : decode cc pc = .ok (.arraylength, 1)) (kk : W p l e R s m args below meth c H locs cells slots Q (F0 m (pc + 1) ls (.int v :: rest))) : W p l e R s m args below meth c H locs cells slots Q (F0 m pc ls (.ref (ra E k) :: rest)) := r_alen (V := (vR E)) (t0 := 0) X I hk.1 rfl (hk.2 _) hv d kk
theorem alenSR {E : RE} {own : String} (X : CX p s m meth c args cc nL own ret) (I : WI (vR E) A s H locs σ) {k : Nat} (hk : KRs E k) (d : decode cc pc = .ok (.arraylength, 1)) (kk : W p l e R s m args below meth c H locs cells slots Q (F0 m (pc + 1) ls (.int (wl k) :: rest))) : W p l e R s m args below meth c H locs cells slots Q (F0 m pc ls (.ref (ra E k) :: rest)) := r_alenS (V := (vR E)) (t0 := 2) X I hk.1 rfl (hk.2 _) rfl d kk
theorem aaldR {E : RE} {own : String} (X : CX p s m meth c args cc nL own ret) (I : WI (vR E) A s H locs σ) {k : Nat} (hk : KRs E k) {i : Int32} (hin : vp_in i (wn k)) (d : decode cc pc = .ok (.aaload, 1)) (kk : W p l e R s m args below meth c H locs cells slots Q (F0 m (pc + 1) ls (.ref (saR E (wd k i.toNatClampNeg)) :: rest))) : W p l e R s m args below meth c H locs cells slots Q (F0 m pc ls (.int i :: .ref (ra E k) :: rest)) := r_aald (V := (vR E)) (t0 := 2) X I hk.1 rfl (hk.2 _) rfl hin d kk
theorem gfR_X11_195 {E : RE} (X : CX p s m meth c args cc nL RX11 ret) (I : WI (vR E) A s H locs σ) (d : decode cc pc = .ok (.getfield 195, 3)) (kk : W p l e R s m args below meth c H locs cells slots Q (F0 m (pc + 3) ls (.int (σ 0 5) :: rest))) : W p l e R s m args below meth c H locs cells slots Q (F0 m pc ls (.ref (ra E 0) :: rest)) := r_get (V := (vR E)) (k := 0) X I (Nat.le_of_ble_eq_true rfl) rfl rfl inGX11 5 (by decide) tw_799 rfl d kk
theorem pfR_X11_195 {E : RE} (X : CX p s m meth c args cc nL RX11 ret) (I : WI (vR E) A s H locs σ) {x : Int32} (d : decode cc pc = .ok (.putfield 195, 3)) (kk : ∀ (H1 : Heap) (locs1 : List Loc), WI (vR E) A s H1 locs1 (ms σ 0 5 x) → W p l e R s m args below meth c H1 locs1 cells slots Q (F0 m (pc + 3) ls rest)) : W p l e R s m args below meth c H locs cells slots Q (F0 m pc ls (.int x :: .ref (ra E 0) :: rest)) := r_put (V := (vR E)) (k := 0) X I (Nat.le_of_ble_eq_true rfl) rfl rfl inGX11 tyX11 tyX11_ok nmX11 5 (by decide) tw_799 rfl rfl rfl (Nat.le_of_ble_eq_true rfl) rfl d kk
theorem gfR_X11_55 {E : RE} (X : CX p s m meth c args cc nL RX11 ret) (I : WI (vR E) A s H locs σ) (d : decode cc pc = .ok (.getfield 55, 3)) (kk : W p l e R s m args below meth c H locs cells slots Q (F0 m (pc + 3) ls (.ref (ra E 5) :: rest))) : W p l e R s m args below meth c H locs cells slots Q (F0 m pc ls (.ref (ra E 0) :: rest)) := r_get (V := (vR E)) (k := 0) X I (Nat.le_of_ble_eq_true rfl) rfl rfl inGX11 6 (by decide) tw_800 rfl d kk
theorem ys_X11_isIn : YS yX11_isIn cX11_isIn 6 (some .boolean) 3 := ⟨tw_802, tw_803, tw_804, by decide +kernel, by decide +kernel, by decide +kernel⟩
theorem gfR_X11_202 {E : RE} (X : CX p s m meth c args cc nL RX11 ret) (I : WI (vR E) A s H locs σ) (d : decode cc pc = .ok (.getfield 202, 3)) (kk : W p l e R s m args below meth c H locs cells slots Q (F0 m (pc + 3) ls (.int (σ 0 21) :: rest))) : W p l e R s m args below meth c H locs cells slots Q (F0 m pc ls (.ref (ra E 0) :: rest)) := r_get (V := (vR E)) (k := 0) X I (Nat.le_of_ble_eq_true rfl) rfl rfl inGX11 21 (by decide) tw_805 rfl d kk
theorem gfR_X11_95 {E : RE} (X : CX p s m meth c args cc nL RX11 ret) (I : WI (vR E) A s H locs σ) (d : decode cc pc = .ok (.getfield 95, 3)) (kk : W p l e R s m args below meth c H locs cells slots Q (F0 m (pc + 3) ls (.ref (ra E 19) :: rest))) : W p l e R s m args below meth c H locs cells slots Q (F0 m pc ls (.ref (ra E 0) :: rest)) := r_get (V := (vR E)) (k := 0) X I (Nat.le_of_ble_eq_true rfl) rfl rfl inGX11 20 (by decide) tw_806 rfl d kk
theorem pfR_X11_202 {E : RE} (X : CX p s m meth c args cc nL RX11 ret) (I : WI (vR E) A s H locs σ) {x : Int32} (d : decode cc pc = .ok (.putfield 202, 3)) (kk : ∀ (H1 : Heap) (locs1 : List Loc), WI (vR E) A s H1 locs1 (ms σ 0 21 x) → W p l e R s m args below meth c H1 locs1 cells slots Q (F0 m (pc + 3) ls rest)) : W p l e R s m args below meth c H locs cells slots Q (F0 m pc ls (.int x :: .ref (ra E 0) :: rest)) := r_put (V := (vR E)) (k := 0) X I (Nat.le_of_ble_eq_true rfl) rfl rfl inGX11 tyX11 tyX11_ok nmX11 21 (by decide) tw_805 rfl rfl rfl (Nat.le_of_ble_eq_true rfl) rfl d kk
theorem gfR_X11_205 {E : RE} (X : CX p s m meth c args cc nL RX11 ret) (I : WI (vR E) A s H locs σ) (d : decode cc pc = .ok (.getfield 205, 3)) (kk : W p l e R s m args below meth c H locs cells slots Q (F0 m (pc + 3) ls (.int (σ 0 23) :: rest))) : W p l e R s m args below meth c H locs cells slots Q (F0 m pc ls (.ref (ra E 0) :: rest)) := r_get (V := (vR E)) (k := 0) X I (Nat.le_of_ble_eq_true rfl) rfl rfl inGX11 23 (by decide) tw_807 rfl d kk
theorem gfR_X11_208 {E : RE} (X : CX p s m meth c args cc nL RX11 ret) (I : WI (vR E) A s H locs σ) (d : decode cc pc = .ok (.getfield 208, 3)) (kk : W p l e R s m args below meth c H locs cells slots Q (F0 m (pc + 3) ls (.int (σ 0 22) :: rest))) : W p l e R s m args below meth c H locs cells slots Q (F0 m pc ls (.ref (ra E 0) :: rest)) := r_get (V := (vR E)) (k := 0) X I (Nat.le_of_ble_eq_true rfl) rfl rfl inGX11 22 (by decide) tw_808 rfl d kk
theorem yv_X11_byteAt : YV yX11_byteAt cX11_byteAt 2 (some .int) 1 := ⟨tw_810, tw_811, tw_812, tw_813, by decide +kernel, by decide +kernel, by decide +kernel⟩
theorem pfR_X11_208 {E : RE} (X : CX p s m meth c args cc nL RX11 ret) (I : WI (vR E) A s H locs σ) {x : Int32} (d : decode cc pc = .ok (.putfield 208, 3)) (kk : ∀ (H1 : Heap) (locs1 : List Loc), WI (vR E) A s H1 locs1 (ms σ 0 22 x) → W p l e R s m args below meth c H1 locs1 cells slots Q (F0 m (pc + 3) ls rest)) : W p l e R s m args below meth c H locs cells slots Q (F0 m pc ls (.int x :: .ref (ra E 0) :: rest)) := r_put (V := (vR E)) (k := 0) X I (Nat.le_of_ble_eq_true rfl) rfl rfl inGX11 tyX11 tyX11_ok nmX11 22 (by decide) tw_808 rfl rfl rfl (Nat.le_of_ble_eq_true rfl) rfl d kk
theorem pfR_X11_215 {E : RE} (X : CX p s m meth c args cc nL RX11 ret) (I : WI (vR E) A s H locs σ) {x : Int32} (d : decode cc pc = .ok (.putfield 215, 3)) (kk : ∀ (H1 : Heap) (locs1 : List Loc), WI (vR E) A s H1 locs1 (ms σ 0 26 x) → W p l e R s m args below meth c H1 locs1 cells slots Q (F0 m (pc + 3) ls rest)) : W p l e R s m args below meth c H locs cells slots Q (F0 m pc ls (.int x :: .ref (ra E 0) :: rest)) := r_put (V := (vR E)) (k := 0) X I (Nat.le_of_ble_eq_true rfl) rfl rfl inGX11 tyX11 tyX11_ok nmX11 26 (by decide) tw_814 rfl rfl rfl (Nat.le_of_ble_eq_true rfl) rfl d kk
theorem ys_X11_isLetter : YS yX11_isLetter cX11_isLetter 1 (some .boolean) 1 := ⟨tw_816, tw_817, tw_818, by decide +kernel, by decide +kernel, by decide +kernel⟩
theorem ys_X11_isDigit : YS yX11_isDigit cX11_isDigit 1 (some .boolean) 1 := ⟨tw_820, tw_821, tw_822, by decide +kernel, by decide +kernel, by decide +kernel⟩
theorem ys_X11_isMark : YS yX11_isMark cX11_isMark 1 (some .boolean) 1 := ⟨tw_824, tw_825, tw_826, by decide +kernel, by decide +kernel, by decide +kernel⟩
theorem pfR_X11_218 {E : RE} (X : CX p s m meth c args cc nL RX11 ret) (I : WI (vR E) A s H locs σ) {x : Int32} (d : decode cc pc = .ok (.putfield 218, 3)) (kk : ∀ (H1 : Heap) (locs1 : List Loc), WI (vR E) A s H1 locs1 (ms σ 0 24 x) → W p l e R s m args below meth c H1 locs1 cells slots Q (F0 m (pc + 3) ls rest)) : W p l e R s m args below meth c H locs cells slots Q (F0 m pc ls (.int x :: .ref (ra E 0) :: rest)) := r_put (V := (vR E)) (k := 0) X I (Nat.le_of_ble_eq_true rfl) rfl rfl inGX11 tyX11 tyX11_ok nmX11 24 (by decide) tw_827 rfl rfl rfl (Nat.le_of_ble_eq_true rfl) rfl d kk
theorem pfR_X11_241 {E : RE} (X : CX p s m meth c args cc nL RX11 ret) (I : WI (vR E) A s H locs σ) {x : Int32} (d : decode cc pc = .ok (.putfield 241, 3)) (kk : ∀ (H1 : Heap) (locs1 : List Loc), WI (vR E) A s H1 locs1 (ms σ 0 27 x) → W p l e R s m args below meth c H1 locs1 cells slots Q (F0 m (pc + 3) ls rest)) : W p l e R s m args below meth c H locs cells slots Q (F0 m pc ls (.int x :: .ref (ra E 0) :: rest)) := r_put (V := (vR E)) (k := 0) X I (Nat.le_of_ble_eq_true rfl) rfl rfl inGX11 tyX11 tyX11_ok nmX11 27 (by decide) tw_828 rfl rfl rfl (Nat.le_of_ble_eq_true rfl) rfl d kk
theorem pfR_X11_228 {E : RE} (X : CX p s m meth c args cc nL RX11 ret) (I : WI (vR E) A s H locs σ) {x : Int32} (d : decode cc pc = .ok (.putfield 228, 3)) (kk : ∀ (H1 : Heap) (locs1 : List Loc), WI (vR E) A s H1 locs1 (ms σ 0 25 x) → W p l e R s m args below meth c H1 locs1 cells slots Q (F0 m (pc + 3) ls rest)) : W p l e R s m args below meth c H locs cells slots Q (F0 m pc ls (.int x :: .ref (ra E 0) :: rest)) := r_put (V := (vR E)) (k := 0) X I (Nat.le_of_ble_eq_true rfl) rfl rfl inGX11 tyX11 tyX11_ok nmX11 25 (by decide) tw_829 rfl rfl rfl (Nat.le_of_ble_eq_true rfl) rfl d kk
theorem gfR_X11_228 {E : RE} (X : CX p s m meth c args cc nL RX11 ret) (I : WI (vR E) A s H locs σ) (d : decode cc pc = .ok (.getfield 228, 3)) (kk : W p l e R s m args below meth c H locs cells slots Q (F0 m (pc + 3) ls (.int (σ 0 25) :: rest))) : W p l e R s m args below meth c H locs cells slots Q (F0 m pc ls (.ref (ra E 0) :: rest)) := r_get (V := (vR E)) (k := 0) X I (Nat.le_of_ble_eq_true rfl) rfl rfl inGX11 25 (by decide) tw_829 rfl d kk
theorem gfR_X11_244 {E : RE} (X : CX p s m meth c args cc nL RX11 ret) (I : WI (vR E) A s H locs σ) (d : decode cc pc = .ok (.getfield 244, 3)) (kk : W p l e R s m args below meth c H locs cells slots Q (F0 m (pc + 3) ls (.int (σ 0 28) :: rest))) : W p l e R s m args below meth c H locs cells slots Q (F0 m pc ls (.ref (ra E 0) :: rest)) := r_get (V := (vR E)) (k := 0) X I (Nat.le_of_ble_eq_true rfl) rfl rfl inGX11 28 (by decide) tw_832 rfl d kk
theorem pfR_X11_244 {E : RE} (X : CX p s m meth c args cc nL RX11 ret) (I : WI (vR E) A s H locs σ) {x : Int32} (d : decode cc pc = .ok (.putfield 244, 3)) (kk : ∀ (H1 : Heap) (locs1 : List Loc), WI (vR E) A s H1 locs1 (ms σ 0 28 x) → W p l e R s m args below meth c H1 locs1 cells slots Q (F0 m (pc + 3) ls rest)) : W p l e R s m args below meth c H locs cells slots Q (F0 m pc ls (.int x :: .ref (ra E 0) :: rest)) := r_put (V := (vR E)) (k := 0) X I (Nat.le_of_ble_eq_true rfl) rfl rfl inGX11 tyX11 tyX11_ok nmX11 28 (by decide) tw_832 rfl rfl rfl (Nat.le_of_ble_eq_true rfl) rfl d kk
theorem gfR_X11_215 {E : RE} (X : CX p s m meth c args cc nL RX11 ret) (I : WI (vR E) A s H locs σ) (d : decode cc pc = .ok (.getfield 215, 3)) (kk : W p l e R s m args below meth c H locs cells slots Q (F0 m (pc + 3) ls (.int (σ 0 26) :: rest))) : W p l e R s m args below meth c H locs cells slots Q (F0 m pc ls (.ref (ra E 0) :: rest)) := r_get (V := (vR E)) (k := 0) X I (Nat.le_of_ble_eq_true rfl) rfl rfl inGX11 26 (by decide) tw_814 rfl d kk
theorem pfR_X11_247 {E : RE} (X : CX p s m meth c args cc nL RX11 ret) (I : WI (vR E) A s H locs σ) {x : Int32} (d : decode cc pc = .ok (.putfield 247, 3)) (kk : ∀ (H1 : Heap) (locs1 : List Loc), WI (vR E) A s H1 locs1 (ms σ 0 29 x) → W p l e R s m args below meth c H1 locs1 cells slots Q (F0 m (pc + 3) ls rest)) : W p l e R s m args below meth c H locs cells slots Q (F0 m pc ls (.int x :: .ref (ra E 0) :: rest)) := r_put (V := (vR E)) (k := 0) X I (Nat.le_of_ble_eq_true rfl) rfl rfl inGX11 tyX11 tyX11_ok nmX11 29 (by decide) tw_833 rfl rfl rfl (Nat.le_of_ble_eq_true rfl) rfl d kk
theorem gfR_X11_218 {E : RE} (X : CX p s m meth c args cc nL RX11 ret) (I : WI (vR E) A s H locs σ) (d : decode cc pc = .ok (.getfield 218, 3)) (kk : W p l e R s m args below meth c H locs cells slots Q (F0 m (pc + 3) ls (.int (σ 0 24) :: rest))) : W p l e R s m args below meth c H locs cells slots Q (F0 m pc ls (.ref (ra E 0) :: rest)) := r_get (V := (vR E)) (k := 0) X I (Nat.le_of_ble_eq_true rfl) rfl rfl inGX11 24 (by decide) tw_827 rfl d kk
theorem gfR_X11_241 {E : RE} (X : CX p s m meth c args cc nL RX11 ret) (I : WI (vR E) A s H locs σ) (d : decode cc pc = .ok (.getfield 241, 3)) (kk : W p l e R s m args below meth c H locs cells slots Q (F0 m (pc + 3) ls (.int (σ 0 27) :: rest))) : W p l e R s m args below meth c H locs cells slots Q (F0 m pc ls (.ref (ra E 0) :: rest)) := r_get (V := (vR E)) (k := 0) X I (Nat.le_of_ble_eq_true rfl) rfl rfl inGX11 27 (by decide) tw_828 rfl d kk
theorem yv_X11_is : YV yX11_is cX11_is 4 (some .boolean) 1 := ⟨tw_837, tw_838, tw_839, tw_840, by decide +kernel, by decide +kernel, by decide +kernel⟩
theorem yv_X11_stepOn : YV yX11_stepOn cX11_stepOn 2 none 0 := ⟨tw_842, tw_843, tw_844, tw_845, by decide +kernel, by decide +kernel, by decide +kernel⟩
theorem yv_X11_isMarked : YV yX11_isMarked cX11_isMarked 2 (some .boolean) 1 := ⟨tw_847, tw_848, tw_849, tw_850, by decide +kernel, by decide +kernel, by decide +kernel⟩
theorem yv_X11_wrong : YV yX11_wrong cX11_wrong 2 none 1 := ⟨tw_852, tw_853, tw_854, tw_855, by decide +kernel, by decide +kernel, by decide +kernel⟩
theorem gfR_X11_272 {E : RE} (X : CX p s m meth c args cc nL RX11 ret) (I : WI (vR E) A s H locs σ) (d : decode cc pc = .ok (.getfield 272, 3)) (kk : W p l e R s m args below meth c H locs cells slots Q (F0 m (pc + 3) ls (.int (σ 0 31) :: rest))) : W p l e R s m args below meth c H locs cells slots Q (F0 m pc ls (.ref (ra E 0) :: rest)) := r_get (V := (vR E)) (k := 0) X I (Nat.le_of_ble_eq_true rfl) rfl rfl inGX11 31 (by decide) tw_856 rfl d kk
theorem gfR_X11_86 {E : RE} (X : CX p s m meth c args cc nL RX11 ret) (I : WI (vR E) A s H locs σ) (d : decode cc pc = .ok (.getfield 86, 3)) (kk : W p l e R s m args below meth c H locs cells slots Q (F0 m (pc + 3) ls (.ref (ra E 16) :: rest))) : W p l e R s m args below meth c H locs cells slots Q (F0 m pc ls (.ref (ra E 0) :: rest)) := r_get (V := (vR E)) (k := 0) X I (Nat.le_of_ble_eq_true rfl) rfl rfl inGX11 17 (by decide) tw_857 rfl d kk
theorem gfR_X11_89 {E : RE} (X : CX p s m meth c args cc nL RX11 ret) (I : WI (vR E) A s H locs σ) (d : decode cc pc = .ok (.getfield 89, 3)) (kk : W p l e R s m args below meth c H locs cells slots Q (F0 m (pc + 3) ls (.ref (ra E 17) :: rest))) : W p l e R s m args below meth c H locs cells slots Q (F0 m pc ls (.ref (ra E 0) :: rest)) := r_get (V := (vR E)) (k := 0) X I (Nat.le_of_ble_eq_true rfl) rfl rfl inGX11 18 (by decide) tw_858 rfl d kk
theorem yv_X11_mark : YV yX11_mark cX11_mark 2 none 1 := ⟨tw_860, tw_861, tw_862, tw_863, by decide +kernel, by decide +kernel, by decide +kernel⟩
theorem yv_X11_readExpression : YV yX11_readExpression cX11_readExpression 3 none 1 := ⟨tw_865, tw_866, tw_867, tw_868, by decide +kernel, by decide +kernel, by decide +kernel⟩
theorem gfR_X11_52 {E : RE} (X : CX p s m meth c args cc nL RX11 ret) (I : WI (vR E) A s H locs σ) (d : decode cc pc = .ok (.getfield 52, 3)) (kk : W p l e R s m args below meth c H locs cells slots Q (F0 m (pc + 3) ls (.ref (ra E (vsel (σ 0 4))) :: rest))) : W p l e R s m args below meth c H locs cells slots Q (F0 m pc ls (.ref (ra E 0) :: rest)) := r_get (V := (vR E)) (k := 0) X I (Nat.le_of_ble_eq_true rfl) rfl rfl inGX11 4 (by decide) tw_869 rfl d kk
theorem yv_X11_which : YV yX11_which cX11_which 3 (some .int) 1 := ⟨tw_871, tw_872, tw_873, tw_874, by decide +kernel, by decide +kernel, by decide +kernel⟩
theorem yv_X11_lay : YV yX11_lay cX11_lay 4 none 1 := ⟨tw_876, tw_877, tw_878, tw_879, by decide +kernel, by decide +kernel, by decide +kernel⟩
theorem yv_X11_readNumber : YV yX11_readNumber cX11_readNumber 4 (some .int) 2 := ⟨tw_881, tw_882, tw_883, tw_884, by decide +kernel, by decide +kernel, by decide +kernel⟩
theorem yv_X11_readPart : YV yX11_readPart cX11_readPart 3 none 1 := ⟨tw_886, tw_887, tw_888, tw_889, by decide +kernel, by decide +kernel, by decide +kernel⟩
theorem yv_X11_readProduct : YV yX11_readProduct cX11_readProduct 3 none 1 := ⟨tw_891, tw_892, tw_893, tw_894, by decide +kernel, by decide +kernel, by decide +kernel⟩
theorem yv_X11_readSum : YV yX11_readSum cX11_readSum 3 none 1 := ⟨tw_896, tw_897, tw_898, tw_899, by decide +kernel, by decide +kernel, by decide +kernel⟩
theorem yv_X11_readNot : YV yX11_readNot cX11_readNot 4 none 1 := ⟨tw_901, tw_902, tw_903, tw_904, by decide +kernel, by decide +kernel, by decide +kernel⟩
theorem yv_X11_readAnd : YV yX11_readAnd cX11_readAnd 2 none 1 := ⟨tw_906, tw_907, tw_908, tw_909, by decide +kernel, by decide +kernel, by decide +kernel⟩
theorem yv_X11_another : YV yX11_another cX11_another 3 (some .boolean) 2 := ⟨tw_911, tw_912, tw_913, tw_914, by decide +kernel, by decide +kernel, by decide +kernel⟩
theorem gfR_X11_61 {E : RE} (X : CX p s m meth c args cc nL RX11 ret) (I : WI (vR E) A s H locs σ) (d : decode cc pc = .ok (.getfield 61, 3)) (kk : W p l e R s m args below meth c H locs cells slots Q (F0 m (pc + 3) ls (.ref (ra E 7) :: rest))) : W p l e R s m args below meth c H locs cells slots Q (F0 m pc ls (.ref (ra E 0) :: rest)) := r_get (V := (vR E)) (k := 0) X I (Nat.le_of_ble_eq_true rfl) rfl rfl inGX11 8 (by decide) tw_915 rfl d kk
theorem gfR_X11_59 {E : RE} (X : CX p s m meth c args cc nL RX11 ret) (I : WI (vR E) A s H locs σ) (d : decode cc pc = .ok (.getfield 59, 3)) (kk : W p l e R s m args below meth c H locs cells slots Q (F0 m (pc + 3) ls (.ref (ra E 6) :: rest))) : W p l e R s m args below meth c H locs cells slots Q (F0 m pc ls (.ref (ra E 0) :: rest)) := r_get (V := (vR E)) (k := 0) X I (Nat.le_of_ble_eq_true rfl) rfl rfl inGX11 7 (by decide) tw_916 rfl d kk
theorem gfR_X11_63 {E : RE} (X : CX p s m meth c args cc nL RX11 ret) (I : WI (vR E) A s H locs σ) (d : decode cc pc = .ok (.getfield 63, 3)) (kk : W p l e R s m args below meth c H locs cells slots Q (F0 m (pc + 3) ls (.ref (ra E 8) :: rest))) : W p l e R s m args below meth c H locs cells slots Q (F0 m pc ls (.ref (ra E 0) :: rest)) := r_get (V := (vR E)) (k := 0) X I (Nat.le_of_ble_eq_true rfl) rfl rfl inGX11 9 (by decide) tw_917 rfl d kk
theorem gfR_X11_66 {E : RE} (X : CX p s m meth c args cc nL RX11 ret) (I : WI (vR E) A s H locs σ) (d : decode cc pc = .ok (.getfield 66, 3)) (kk : W p l e R s m args below meth c H locs cells slots Q (F0 m (pc + 3) ls (.ref (ra E 9) :: rest))) : W p l e R s m args below meth c H locs cells slots Q (F0 m pc ls (.ref (ra E 0) :: rest)) := r_get (V := (vR E)) (k := 0) X I (Nat.le_of_ble_eq_true rfl) rfl rfl inGX11 10 (by decide) tw_918 rfl d kk
theorem gfR_X11_69 {E : RE} (X : CX p s m meth c args cc nL RX11 ret) (I : WI (vR E) A s H locs σ) (d : decode cc pc = .ok (.getfield 69, 3)) (kk : W p l e R s m args below meth c H locs cells slots Q (F0 m (pc + 3) ls (.ref (ra E 10) :: rest))) : W p l e R s m args below meth c H locs cells slots Q (F0 m pc ls (.ref (ra E 0) :: rest)) := r_get (V := (vR E)) (k := 0) X I (Nat.le_of_ble_eq_true rfl) rfl rfl inGX11 11 (by decide) tw_919 rfl d kk
theorem gfR_X11_72 {E : RE} (X : CX p s m meth c args cc nL RX11 ret) (I : WI (vR E) A s H locs σ) (d : decode cc pc = .ok (.getfield 72, 3)) (kk : W p l e R s m args below meth c H locs cells slots Q (F0 m (pc + 3) ls (.ref (ra E 11) :: rest))) : W p l e R s m args below meth c H locs cells slots Q (F0 m pc ls (.ref (ra E 0) :: rest)) := r_get (V := (vR E)) (k := 0) X I (Nat.le_of_ble_eq_true rfl) rfl rfl inGX11 12 (by decide) tw_920 rfl d kk
theorem gfR_X11_77 {E : RE} (X : CX p s m meth c args cc nL RX11 ret) (I : WI (vR E) A s H locs σ) (d : decode cc pc = .ok (.getfield 77, 3)) (kk : W p l e R s m args below meth c H locs cells slots Q (F0 m (pc + 3) ls (.ref (ra E 13) :: rest))) : W p l e R s m args below meth c H locs cells slots Q (F0 m pc ls (.ref (ra E 0) :: rest)) := r_get (V := (vR E)) (k := 0) X I (Nat.le_of_ble_eq_true rfl) rfl rfl inGX11 14 (by decide) tw_921 rfl d kk
theorem gfR_X11_74 {E : RE} (X : CX p s m meth c args cc nL RX11 ret) (I : WI (vR E) A s H locs σ) (d : decode cc pc = .ok (.getfield 74, 3)) (kk : W p l e R s m args below meth c H locs cells slots Q (F0 m (pc + 3) ls (.ref (ra E 12) :: rest))) : W p l e R s m args below meth c H locs cells slots Q (F0 m pc ls (.ref (ra E 0) :: rest)) := r_get (V := (vR E)) (k := 0) X I (Nat.le_of_ble_eq_true rfl) rfl rfl inGX11 13 (by decide) tw_922 rfl d kk
theorem gfR_X11_80 {E : RE} (X : CX p s m meth c args cc nL RX11 ret) (I : WI (vR E) A s H locs σ) (d : decode cc pc = .ok (.getfield 80, 3)) (kk : W p l e R s m args below meth c H locs cells slots Q (F0 m (pc + 3) ls (.ref (ra E 14) :: rest))) : W p l e R s m args below meth c H locs cells slots Q (F0 m pc ls (.ref (ra E 0) :: rest)) := r_get (V := (vR E)) (k := 0) X I (Nat.le_of_ble_eq_true rfl) rfl rfl inGX11 15 (by decide) tw_923 rfl d kk
theorem gfR_X11_83 {E : RE} (X : CX p s m meth c args cc nL RX11 ret) (I : WI (vR E) A s H locs σ) (d : decode cc pc = .ok (.getfield 83, 3)) (kk : W p l e R s m args below meth c H locs cells slots Q (F0 m (pc + 3) ls (.ref (ra E 15) :: rest))) : W p l e R s m args below meth c H locs cells slots Q (F0 m pc ls (.ref (ra E 0) :: rest)) := r_get (V := (vR E)) (k := 0) X I (Nat.le_of_ble_eq_true rfl) rfl rfl inGX11 16 (by decide) tw_924 rfl d kk
theorem gfR_X11_15 {E : RE} (X : CX p s m meth c args cc nL RX11 ret) (I : WI (vR E) A s H locs σ) (d : decode cc pc = .ok (.getfield 15, 3)) (kk : W p l e R s m args below meth c H locs cells slots Q (F0 m (pc + 3) ls (.ref (ra E 1) :: rest))) : W p l e R s m args below meth c H locs cells slots Q (F0 m pc ls (.ref (ra E 0) :: rest)) := r_get (V := (vR E)) (k := 0) X I (Nat.le_of_ble_eq_true rfl) rfl rfl inGX11 0 (by decide) tw_925 rfl d kk
theorem gfR_X11_23 {E : RE} (X : CX p s m meth c args cc nL RX11 ret) (I : WI (vR E) A s H locs σ) (d : decode cc pc = .ok (.getfield 23, 3)) (kk : W p l e R s m args below meth c H locs cells slots Q (F0 m (pc + 3) ls (.ref (ra E 2) :: rest))) : W p l e R s m args below meth c H locs cells slots Q (F0 m pc ls (.ref (ra E 0) :: rest)) := r_get (V := (vR E)) (k := 0) X I (Nat.le_of_ble_eq_true rfl) rfl rfl inGX11 1 (by decide) tw_926 rfl d kk
theorem yv_X11_sayTenant : YV yX11_sayTenant cX11_sayTenant 3 none 1 := ⟨tw_928, tw_929, tw_930, tw_931, by decide +kernel, by decide +kernel, by decide +kernel⟩
theorem yv_X11_sayHouse : YV yX11_sayHouse cX11_sayHouse 3 none 1 := ⟨tw_933, tw_934, tw_935, tw_936, by decide +kernel, by decide +kernel, by decide +kernel⟩
theorem pfR_X11_272 {E : RE} (X : CX p s m meth c args cc nL RX11 ret) (I : WI (vR E) A s H locs σ) {x : Int32} (hz : narrow .boolean (.int x) = .int x ∧ fits .boolean (.int x) = true) (d : decode cc pc = .ok (.putfield 272, 3)) (kk : ∀ (H1 : Heap) (locs1 : List Loc), WI (vR E) A s H1 locs1 (ms σ 0 31 x) → W p l e R s m args below meth c H1 locs1 cells slots Q (F0 m (pc + 3) ls rest)) : W p l e R s m args below meth c H locs cells slots Q (F0 m pc ls (.int x :: .ref (ra E 0) :: rest)) := r_put (V := (vR E)) (k := 0) X I (Nat.le_of_ble_eq_true rfl) rfl rfl inGX11 tyX11 tyX11_ok nmX11 31 (by decide) tw_856 rfl hz.1 hz.2 (Nat.le_of_ble_eq_true rfl) rfl d kk
theorem gfR_X11_46 {E : RE} (X : CX p s m meth c args cc nL RX11 ret) (I : WI (vR E) A s H locs σ) (d : decode cc pc = .ok (.getfield 46, 3)) (kk : W p l e R s m args below meth c H locs cells slots Q (F0 m (pc + 3) ls (.ref (ra E 3) :: rest))) : W p l e R s m args below meth c H locs cells slots Q (F0 m pc ls (.ref (ra E 0) :: rest)) := r_get (V := (vR E)) (k := 0) X I (Nat.le_of_ble_eq_true rfl) rfl rfl inGX11 2 (by decide) tw_937 rfl d kk
theorem pfR_X11_52 {E : RE} (X : CX p s m meth c args cc nL RX11 ret) (I : WI (vR E) A s H locs σ) {x : Int32} (d : decode cc pc = .ok (.putfield 52, 3)) (kk : ∀ (H1 : Heap) (locs1 : List Loc), WI (vR E) A s H1 locs1 (ms σ 0 4 x) → W p l e R s m args below meth c H1 locs1 cells slots Q (F0 m (pc + 3) ls rest)) : W p l e R s m args below meth c H locs cells slots Q (F0 m pc ls (.ref (ra E (vsel x)) :: .ref (ra E 0) :: rest)) := r_putV (V := (vR E)) (k := 0) X I (Nat.le_of_ble_eq_true rfl) rfl rfl inGX11 tyX11 tyX11_ok nmX11 4 (by decide) tw_869 rfl rfl rfl (Nat.le_of_ble_eq_true rfl) rfl d kk
theorem gfR_X11_49 {E : RE} (X : CX p s m meth c args cc nL RX11 ret) (I : WI (vR E) A s H locs σ) (d : decode cc pc = .ok (.getfield 49, 3)) (kk : W p l e R s m args below meth c H locs cells slots Q (F0 m (pc + 3) ls (.ref (ra E 4) :: rest))) : W p l e R s m args below meth c H locs cells slots Q (F0 m pc ls (.ref (ra E 0) :: rest)) := r_get (V := (vR E)) (k := 0) X I (Nat.le_of_ble_eq_true rfl) rfl rfl inGX11 3 (by decide) tw_938 rfl d kk
theorem ys_X11_takeHalf : YS yX11_takeHalf cX11_takeHalf 2 none 1 := ⟨tw_940, tw_941, tw_942, by decide +kernel, by decide +kernel, by decide +kernel⟩
theorem pfR_X11_342 {E : RE} (X : CX p s m meth c args cc nL RX11 ret) (I : WI (vR E) A s H locs σ) {x : Int32} (d : decode cc pc = .ok (.putfield 342, 3)) (kk : ∀ (H1 : Heap) (locs1 : List Loc), WI (vR E) A s H1 locs1 (ms σ 0 41 x) → W p l e R s m args below meth c H1 locs1 cells slots Q (F0 m (pc + 3) ls rest)) : W p l e R s m args below meth c H locs cells slots Q (F0 m pc ls (.int x :: .ref (ra E 0) :: rest)) := r_put (V := (vR E)) (k := 0) X I (Nat.le_of_ble_eq_true rfl) rfl rfl inGX11 tyX11 tyX11_ok nmX11 41 (by decide) tw_943 rfl rfl rfl (Nat.le_of_ble_eq_true rfl) rfl d kk
theorem pfR_X11_344 {E : RE} (X : CX p s m meth c args cc nL RX11 ret) (I : WI (vR E) A s H locs σ) {x : Int32} (d : decode cc pc = .ok (.putfield 344, 3)) (kk : ∀ (H1 : Heap) (locs1 : List Loc), WI (vR E) A s H1 locs1 (ms σ 0 42 x) → W p l e R s m args below meth c H1 locs1 cells slots Q (F0 m (pc + 3) ls rest)) : W p l e R s m args below meth c H locs cells slots Q (F0 m pc ls (.int x :: .ref (ra E 0) :: rest)) := r_put (V := (vR E)) (k := 0) X I (Nat.le_of_ble_eq_true rfl) rfl rfl inGX11 tyX11 tyX11_ok nmX11 42 (by decide) tw_944 rfl rfl rfl (Nat.le_of_ble_eq_true rfl) rfl d kk
theorem pfR_X11_347 {E : RE} (X : CX p s m meth c args cc nL RX11 ret) (I : WI (vR E) A s H locs σ) {x : Int32} (d : decode cc pc = .ok (.putfield 347, 3)) (kk : ∀ (H1 : Heap) (locs1 : List Loc), WI (vR E) A s H1 locs1 (ms σ 0 43 x) → W p l e R s m args below meth c H1 locs1 cells slots Q (F0 m (pc + 3) ls rest)) : W p l e R s m args below meth c H locs cells slots Q (F0 m pc ls (.int x :: .ref (ra E 0) :: rest)) := r_put (V := (vR E)) (k := 0) X I (Nat.le_of_ble_eq_true rfl) rfl rfl inGX11 tyX11 tyX11_ok nmX11 43 (by decide) tw_945 rfl rfl rfl (Nat.le_of_ble_eq_true rfl) rfl d kk
theorem pfR_X11_350 {E : RE} (X : CX p s m meth c args cc nL RX11 ret) (I : WI (vR E) A s H locs σ) {x : Int32} (d : decode cc pc = .ok (.putfield 350, 3)) (kk : ∀ (H1 : Heap) (locs1 : List Loc), WI (vR E) A s H1 locs1 (ms σ 0 44 x) → W p l e R s m args below meth c H1 locs1 cells slots Q (F0 m (pc + 3) ls rest)) : W p l e R s m args below meth c H locs cells slots Q (F0 m pc ls (.int x :: .ref (ra E 0) :: rest)) := r_put (V := (vR E)) (k := 0) X I (Nat.le_of_ble_eq_true rfl) rfl rfl inGX11 tyX11 tyX11_ok nmX11 44 (by decide) tw_946 rfl rfl rfl (Nat.le_of_ble_eq_true rfl) rfl d kk
theorem pfR_X11_353 {E : RE} (X : CX p s m meth c args cc nL RX11 ret) (I : WI (vR E) A s H locs σ) {x : Int32} (d : decode cc pc = .ok (.putfield 353, 3)) (kk : ∀ (H1 : Heap) (locs1 : List Loc), WI (vR E) A s H1 locs1 (ms σ 0 45 x) → W p l e R s m args below meth c H1 locs1 cells slots Q (F0 m (pc + 3) ls rest)) : W p l e R s m args below meth c H locs cells slots Q (F0 m pc ls (.int x :: .ref (ra E 0) :: rest)) := r_put (V := (vR E)) (k := 0) X I (Nat.le_of_ble_eq_true rfl) rfl rfl inGX11 tyX11 tyX11_ok nmX11 45 (by decide) tw_947 rfl rfl rfl (Nat.le_of_ble_eq_true rfl) rfl d kk
theorem pfR_X11_356 {E : RE} (X : CX p s m meth c args cc nL RX11 ret) (I : WI (vR E) A s H locs σ) {x : Int32} (hz : narrow .boolean (.int x) = .int x ∧ fits .boolean (.int x) = true) (d : decode cc pc = .ok (.putfield 356, 3)) (kk : ∀ (H1 : Heap) (locs1 : List Loc), WI (vR E) A s H1 locs1 (ms σ 0 64 x) → W p l e R s m args below meth c H1 locs1 cells slots Q (F0 m (pc + 3) ls rest)) : W p l e R s m args below meth c H locs cells slots Q (F0 m pc ls (.int x :: .ref (ra E 0) :: rest)) := r_put (V := (vR E)) (k := 0) X I (Nat.le_of_ble_eq_true rfl) rfl rfl inGX11 tyX11 tyX11_ok nmX11 64 (by decide) tw_948 rfl hz.1 hz.2 (Nat.le_of_ble_eq_true rfl) rfl d kk
theorem gfR_X11_115 {E : RE} (X : CX p s m meth c args cc nL RX11 ret) (I : WI (vR E) A s H locs σ) (d : decode cc pc = .ok (.getfield 115, 3)) (kk : W p l e R s m args below meth c H locs cells slots Q (F0 m (pc + 3) ls (.ref (ra E 25) :: rest))) : W p l e R s m args below meth c H locs cells slots Q (F0 m pc ls (.ref (ra E 0) :: rest)) := r_get (V := (vR E)) (k := 0) X I (Nat.le_of_ble_eq_true rfl) rfl rfl inGX11 37 (by decide) tw_949 rfl d kk
theorem gfR_X11_117 {E : RE} (X : CX p s m meth c args cc nL RX11 ret) (I : WI (vR E) A s H locs σ) (d : decode cc pc = .ok (.getfield 117, 3)) (kk : W p l e R s m args below meth c H locs cells slots Q (F0 m (pc + 3) ls (.ref (ra E 26) :: rest))) : W p l e R s m args below meth c H locs cells slots Q (F0 m pc ls (.ref (ra E 0) :: rest)) := r_get (V := (vR E)) (k := 0) X I (Nat.le_of_ble_eq_true rfl) rfl rfl inGX11 38 (by decide) tw_950 rfl d kk
theorem gfR_X11_120 {E : RE} (X : CX p s m meth c args cc nL RX11 ret) (I : WI (vR E) A s H locs σ) (d : decode cc pc = .ok (.getfield 120, 3)) (kk : W p l e R s m args below meth c H locs cells slots Q (F0 m (pc + 3) ls (.ref (ra E 27) :: rest))) : W p l e R s m args below meth c H locs cells slots Q (F0 m pc ls (.ref (ra E 0) :: rest)) := r_get (V := (vR E)) (k := 0) X I (Nat.le_of_ble_eq_true rfl) rfl rfl inGX11 39 (by decide) tw_951 rfl d kk
theorem gfR_X11_102 {E : RE} (X : CX p s m meth c args cc nL RX11 ret) (I : WI (vR E) A s H locs σ) (d : decode cc pc = .ok (.getfield 102, 3)) (kk : W p l e R s m args below meth c H locs cells slots Q (F0 m (pc + 3) ls (.ref (ra E 20) :: rest))) : W p l e R s m args below meth c H locs cells slots Q (F0 m pc ls (.ref (ra E 0) :: rest)) := r_get (V := (vR E)) (k := 0) X I (Nat.le_of_ble_eq_true rfl) rfl rfl inGX11 32 (by decide) tw_952 rfl d kk
theorem gfR_X11_104 {E : RE} (X : CX p s m meth c args cc nL RX11 ret) (I : WI (vR E) A s H locs σ) (d : decode cc pc = .ok (.getfield 104, 3)) (kk : W p l e R s m args below meth c H locs cells slots Q (F0 m (pc + 3) ls (.ref (ra E 21) :: rest))) : W p l e R s m args below meth c H locs cells slots Q (F0 m pc ls (.ref (ra E 0) :: rest)) := r_get (V := (vR E)) (k := 0) X I (Nat.le_of_ble_eq_true rfl) rfl rfl inGX11 33 (by decide) tw_953 rfl d kk
theorem gfR_X11_107 {E : RE} (X : CX p s m meth c args cc nL RX11 ret) (I : WI (vR E) A s H locs σ) (d : decode cc pc = .ok (.getfield 107, 3)) (kk : W p l e R s m args below meth c H locs cells slots Q (F0 m (pc + 3) ls (.ref (ra E 22) :: rest))) : W p l e R s m args below meth c H locs cells slots Q (F0 m pc ls (.ref (ra E 0) :: rest)) := r_get (V := (vR E)) (k := 0) X I (Nat.le_of_ble_eq_true rfl) rfl rfl inGX11 34 (by decide) tw_954 rfl d kk
theorem gfR_X11_110 {E : RE} (X : CX p s m meth c args cc nL RX11 ret) (I : WI (vR E) A s H locs σ) (d : decode cc pc = .ok (.getfield 110, 3)) (kk : W p l e R s m args below meth c H locs cells slots Q (F0 m (pc + 3) ls (.ref (ra E 23) :: rest))) : W p l e R s m args below meth c H locs cells slots Q (F0 m pc ls (.ref (ra E 0) :: rest)) := r_get (V := (vR E)) (k := 0) X I (Nat.le_of_ble_eq_true rfl) rfl rfl inGX11 35 (by decide) tw_955 rfl d kk
theorem gfR_X11_113 {E : RE} (X : CX p s m meth c args cc nL RX11 ret) (I : WI (vR E) A s H locs σ) (d : decode cc pc = .ok (.getfield 113, 3)) (kk : W p l e R s m args below meth c H locs cells slots Q (F0 m (pc + 3) ls (.ref (ra E 24) :: rest))) : W p l e R s m args below meth c H locs cells slots Q (F0 m pc ls (.ref (ra E 0) :: rest)) := r_get (V := (vR E)) (k := 0) X I (Nat.le_of_ble_eq_true rfl) rfl rfl inGX11 36 (by decide) tw_956 rfl d kk
theorem yv_X11_fail : YV yX11_fail cX11_fail 2 (some .int) 1 := ⟨tw_958, tw_959, tw_960, tw_961, by decide +kernel, by decide +kernel, by decide +kernel⟩
theorem pfR_X11_205 {E : RE} (X : CX p s m meth c args cc nL RX11 ret) (I : WI (vR E) A s H locs σ) {x : Int32} (d : decode cc pc = .ok (.putfield 205, 3)) (kk : ∀ (H1 : Heap) (locs1 : List Loc), WI (vR E) A s H1 locs1 (ms σ 0 23 x) → W p l e R s m args below meth c H1 locs1 cells slots Q (F0 m (pc + 3) ls rest)) : W p l e R s m args below meth c H locs cells slots Q (F0 m pc ls (.int x :: .ref (ra E 0) :: rest)) := r_put (V := (vR E)) (k := 0) X I (Nat.le_of_ble_eq_true rfl) rfl rfl inGX11 tyX11 tyX11_ok nmX11 23 (by decide) tw_807 rfl rfl rfl (Nat.le_of_ble_eq_true rfl) rfl d kk
theorem pfR_X11_98 {E : RE} (X : CX p s m meth c args cc nL RX11 ret) (I : WI (vR E) A s H locs σ) {x : Int32} (d : decode cc pc = .ok (.putfield 98, 3)) (kk : ∀ (H1 : Heap) (locs1 : List Loc), WI (vR E) A s H1 locs1 (ms σ 0 30 x) → W p l e R s m args below meth c H1 locs1 cells slots Q (F0 m (pc + 3) ls rest)) : W p l e R s m args below meth c H locs cells slots Q (F0 m pc ls (.int x :: .ref (ra E 0) :: rest)) := r_put (V := (vR E)) (k := 0) X I (Nat.le_of_ble_eq_true rfl) rfl rfl inGX11 tyX11 tyX11_ok nmX11 30 (by decide) tw_962 rfl rfl rfl (Nat.le_of_ble_eq_true rfl) rfl d kk
theorem yv_X11_takeOver : YV yX11_takeOver cX11_takeOver 3 none 0 := ⟨tw_964, tw_965, tw_966, tw_967, by decide +kernel, by decide +kernel, by decide +kernel⟩
theorem gfR_X11_247 {E : RE} (X : CX p s m meth c args cc nL RX11 ret) (I : WI (vR E) A s H locs σ) (d : decode cc pc = .ok (.getfield 247, 3)) (kk : W p l e R s m args below meth c H locs cells slots Q (F0 m (pc + 3) ls (.int (σ 0 29) :: rest))) : W p l e R s m args below meth c H locs cells slots Q (F0 m pc ls (.ref (ra E 0) :: rest)) := r_get (V := (vR E)) (k := 0) X I (Nat.le_of_ble_eq_true rfl) rfl rfl inGX11 29 (by decide) tw_833 rfl d kk
theorem gfR_X11_92 {E : RE} (X : CX p s m meth c args cc nL RX11 ret) (I : WI (vR E) A s H locs σ) (d : decode cc pc = .ok (.getfield 92, 3)) (kk : W p l e R s m args below meth c H locs cells slots Q (F0 m (pc + 3) ls (.ref (ra E 18) :: rest))) : W p l e R s m args below meth c H locs cells slots Q (F0 m pc ls (.ref (ra E 0) :: rest)) := r_get (V := (vR E)) (k := 0) X I (Nat.le_of_ble_eq_true rfl) rfl rfl inGX11 19 (by decide) tw_968 rfl d kk
theorem yv_X11_readLine : YV yX11_readLine cX11_readLine 5 (some .int) 1 := ⟨tw_970, tw_971, tw_972, tw_973, by decide +kernel, by decide +kernel, by decide +kernel⟩
theorem gfR_X11_98 {E : RE} (X : CX p s m meth c args cc nL RX11 ret) (I : WI (vR E) A s H locs σ) (d : decode cc pc = .ok (.getfield 98, 3)) (kk : W p l e R s m args below meth c H locs cells slots Q (F0 m (pc + 3) ls (.int (σ 0 30) :: rest))) : W p l e R s m args below meth c H locs cells slots Q (F0 m pc ls (.ref (ra E 0) :: rest)) := r_get (V := (vR E)) (k := 0) X I (Nat.le_of_ble_eq_true rfl) rfl rfl inGX11 30 (by decide) tw_962 rfl d kk
theorem gfR_X11_342 {E : RE} (X : CX p s m meth c args cc nL RX11 ret) (I : WI (vR E) A s H locs σ) (d : decode cc pc = .ok (.getfield 342, 3)) (kk : W p l e R s m args below meth c H locs cells slots Q (F0 m (pc + 3) ls (.int (σ 0 41) :: rest))) : W p l e R s m args below meth c H locs cells slots Q (F0 m pc ls (.ref (ra E 0) :: rest)) := r_get (V := (vR E)) (k := 0) X I (Nat.le_of_ble_eq_true rfl) rfl rfl inGX11 41 (by decide) tw_943 rfl d kk
theorem gfR_X11_344 {E : RE} (X : CX p s m meth c args cc nL RX11 ret) (I : WI (vR E) A s H locs σ) (d : decode cc pc = .ok (.getfield 344, 3)) (kk : W p l e R s m args below meth c H locs cells slots Q (F0 m (pc + 3) ls (.int (σ 0 42) :: rest))) : W p l e R s m args below meth c H locs cells slots Q (F0 m pc ls (.ref (ra E 0) :: rest)) := r_get (V := (vR E)) (k := 0) X I (Nat.le_of_ble_eq_true rfl) rfl rfl inGX11 42 (by decide) tw_944 rfl d kk
theorem gfR_X11_347 {E : RE} (X : CX p s m meth c args cc nL RX11 ret) (I : WI (vR E) A s H locs σ) (d : decode cc pc = .ok (.getfield 347, 3)) (kk : W p l e R s m args below meth c H locs cells slots Q (F0 m (pc + 3) ls (.int (σ 0 43) :: rest))) : W p l e R s m args below meth c H locs cells slots Q (F0 m pc ls (.ref (ra E 0) :: rest)) := r_get (V := (vR E)) (k := 0) X I (Nat.le_of_ble_eq_true rfl) rfl rfl inGX11 43 (by decide) tw_945 rfl d kk
theorem gfR_X11_128 {E : RE} (X : CX p s m meth c args cc nL RX11 ret) (I : WI (vR E) A s H locs σ) (d : decode cc pc = .ok (.getfield 128, 3)) (kk : W p l e R s m args below meth c H locs cells slots Q (F0 m (pc + 3) ls (.ref (ra E 30) :: rest))) : W p l e R s m args below meth c H locs cells slots Q (F0 m pc ls (.ref (ra E 0) :: rest)) := r_get (V := (vR E)) (k := 0) X I (Nat.le_of_ble_eq_true rfl) rfl rfl inGX11 47 (by decide) tw_974 rfl d kk
theorem ys_X11_reckon : YS yX11_reckon cX11_reckon 3 (some .int) 3 := ⟨tw_976, tw_977, tw_978, by decide +kernel, by decide +kernel, by decide +kernel⟩
theorem gfR_X11_125 {E : RE} (X : CX p s m meth c args cc nL RX11 ret) (I : WI (vR E) A s H locs σ) (d : decode cc pc = .ok (.getfield 125, 3)) (kk : W p l e R s m args below meth c H locs cells slots Q (F0 m (pc + 3) ls (.ref (ra E 29) :: rest))) : W p l e R s m args below meth c H locs cells slots Q (F0 m pc ls (.ref (ra E 0) :: rest)) := r_get (V := (vR E)) (k := 0) X I (Nat.le_of_ble_eq_true rfl) rfl rfl inGX11 46 (by decide) tw_979 rfl d kk
theorem gfR_X11_137 {E : RE} (X : CX p s m meth c args cc nL RX11 ret) (I : WI (vR E) A s H locs σ) (d : decode cc pc = .ok (.getfield 137, 3)) (kk : W p l e R s m args below meth c H locs cells slots Q (F0 m (pc + 3) ls (.ref (ra E 33) :: rest))) : W p l e R s m args below meth c H locs cells slots Q (F0 m pc ls (.ref (ra E 0) :: rest)) := r_get (V := (vR E)) (k := 0) X I (Nat.le_of_ble_eq_true rfl) rfl rfl inGX11 50 (by decide) tw_980 rfl d kk
theorem yv_X11_housesOf : YV yX11_housesOf cX11_housesOf 4 (some .int) 1 := ⟨tw_982, tw_983, tw_984, tw_985, by decide +kernel, by decide +kernel, by decide +kernel⟩
theorem gfR_X11_131 {E : RE} (X : CX p s m meth c args cc nL RX11 ret) (I : WI (vR E) A s H locs σ) (d : decode cc pc = .ok (.getfield 131, 3)) (kk : W p l e R s m args below meth c H locs cells slots Q (F0 m (pc + 3) ls (.ref (ra E 31) :: rest))) : W p l e R s m args below meth c H locs cells slots Q (F0 m pc ls (.ref (ra E 0) :: rest)) := r_get (V := (vR E)) (k := 0) X I (Nat.le_of_ble_eq_true rfl) rfl rfl inGX11 48 (by decide) tw_986 rfl d kk
theorem gfR_X11_134 {E : RE} (X : CX p s m meth c args cc nL RX11 ret) (I : WI (vR E) A s H locs σ) (d : decode cc pc = .ok (.getfield 134, 3)) (kk : W p l e R s m args below meth c H locs cells slots Q (F0 m (pc + 3) ls (.ref (ra E 32) :: rest))) : W p l e R s m args below meth c H locs cells slots Q (F0 m pc ls (.ref (ra E 0) :: rest)) := r_get (V := (vR E)) (k := 0) X I (Nat.le_of_ble_eq_true rfl) rfl rfl inGX11 49 (by decide) tw_987 rfl d kk
theorem yv_X11_ask : YV yX11_ask cX11_ask 2 none 1 := ⟨tw_989, tw_990, tw_991, tw_992, by decide +kernel, by decide +kernel, by decide +kernel⟩
theorem yv_X11_valueNow : YV yX11_valueNow cX11_valueNow 6 (some .int) 2 := ⟨tw_994, tw_995, tw_996, tw_997, by decide +kernel, by decide +kernel, by decide +kernel⟩
theorem ys_X11_bitsOf : YS yX11_bitsOf cX11_bitsOf 3 (some .int) 1 := ⟨tw_1000, tw_1001, tw_1002, by decide +kernel, by decide +kernel, by decide +kernel⟩
theorem ys_X11_next : YS yX11_next cX11_next 1 (some .int) 1 := ⟨tw_1004, tw_1005, tw_1006, by decide +kernel, by decide +kernel, by decide +kernel⟩
theorem yv_X11_lifeOf : YV yX11_lifeOf cX11_lifeOf 2 (some .int) 1 := ⟨tw_1008, tw_1009, tw_1010, tw_1011, by decide +kernel, by decide +kernel, by decide +kernel⟩
theorem ys_X11_isOf : YS yX11_isOf cX11_isOf 2 (some .boolean) 2 := ⟨tw_1013, tw_1014, tw_1015, by decide +kernel, by decide +kernel, by decide +kernel⟩
theorem yv_X11_likes : YV yX11_likes cX11_likes 5 (some .int) 2 := ⟨tw_1017, tw_1018, tw_1019, tw_1020, by decide +kernel, by decide +kernel, by decide +kernel⟩
theorem yv_X11_isAsleep : YV yX11_isAsleep cX11_isAsleep 2 (some .boolean) 1 := ⟨tw_1022, tw_1023, tw_1024, tw_1025, by decide +kernel, by decide +kernel, by decide +kernel⟩
theorem yv_X11_tellBegun : YV yX11_tellBegun cX11_tellBegun 2 none 0 := ⟨tw_1027, tw_1028, tw_1029, tw_1030, by decide +kernel, by decide +kernel, by decide +kernel⟩
theorem yv_X11_sits : YV yX11_sits cX11_sits 7 none 1 := ⟨tw_1032, tw_1033, tw_1034, tw_1035, by decide +kernel, by decide +kernel, by decide +kernel⟩
theorem yv_X11_older : YV yX11_older cX11_older 2 none 1 := ⟨tw_1037, tw_1038, tw_1039, tw_1040, by decide +kernel, by decide +kernel, by decide +kernel⟩
theorem yv_X11_aQuarter : YV yX11_aQuarter cX11_aQuarter 4 none 0 := ⟨tw_1042, tw_1043, tw_1044, tw_1045, by decide +kernel, by decide +kernel, by decide +kernel⟩
theorem yv_X11_nobodys : YV yX11_nobodys cX11_nobodys 3 (some .int) 0 := ⟨tw_1047, tw_1048, tw_1049, tw_1050, by decide +kernel, by decide +kernel, by decide +kernel⟩
theorem yv_X11_allCoins : YV yX11_allCoins cX11_allCoins 3 (some .int) 0 := ⟨tw_1052, tw_1053, tw_1054, tw_1055, by decide +kernel, by decide +kernel, by decide +kernel⟩
theorem gfR_X11_350 {E : RE} (X : CX p s m meth c args cc nL RX11 ret) (I : WI (vR E) A s H locs σ) (d : decode cc pc = .ok (.getfield 350, 3)) (kk : W p l e R s m args below meth c H locs cells slots Q (F0 m (pc + 3) ls (.int (σ 0 44) :: rest))) : W p l e R s m args below meth c H locs cells slots Q (F0 m pc ls (.ref (ra E 0) :: rest)) := r_get (V := (vR E)) (k := 0) X I (Nat.le_of_ble_eq_true rfl) rfl rfl inGX11 44 (by decide) tw_946 rfl d kk
theorem gfR_X11_353 {E : RE} (X : CX p s m meth c args cc nL RX11 ret) (I : WI (vR E) A s H locs σ) (d : decode cc pc = .ok (.getfield 353, 3)) (kk : W p l e R s m args below meth c H locs cells slots Q (F0 m (pc + 3) ls (.int (σ 0 45) :: rest))) : W p l e R s m args below meth c H locs cells slots Q (F0 m pc ls (.ref (ra E 0) :: rest)) := r_get (V := (vR E)) (k := 0) X I (Nat.le_of_ble_eq_true rfl) rfl rfl inGX11 45 (by decide) tw_947 rfl d kk
theorem yv_X11_isHouse : YV yX11_isHouse cX11_isHouse 2 (some .boolean) 1 := ⟨tw_1057, tw_1058, tw_1059, tw_1060, by decide +kernel, by decide +kernel, by decide +kernel⟩
theorem yv_X11_isTenant : YV yX11_isTenant cX11_isTenant 2 (some .boolean) 1 := ⟨tw_1062, tw_1063, tw_1064, tw_1065, by decide +kernel, by decide +kernel, by decide +kernel⟩
theorem gfR_X11_122 {E : RE} (X : CX p s m meth c args cc nL RX11 ret) (I : WI (vR E) A s H locs σ) (d : decode cc pc = .ok (.getfield 122, 3)) (kk : W p l e R s m args below meth c H locs cells slots Q (F0 m (pc + 3) ls (.ref (ra E 28) :: rest))) : W p l e R s m args below meth c H locs cells slots Q (F0 m pc ls (.ref (ra E 0) :: rest)) := r_get (V := (vR E)) (k := 0) X I (Nat.le_of_ble_eq_true rfl) rfl rfl inGX11 40 (by decide) tw_1066 rfl d kk
theorem yv_X11_pack : YV yX11_pack cX11_pack 5 none 2 := ⟨tw_1068, tw_1069, tw_1070, tw_1071, by decide +kernel, by decide +kernel, by decide +kernel⟩
theorem yv_X11_refuse : YV yX11_refuse cX11_refuse 2 (some .int) 1 := ⟨tw_1074, tw_1075, tw_1076, tw_1077, by decide +kernel, by decide +kernel, by decide +kernel⟩
theorem yv_X11_keep : YV yX11_keep cX11_keep 2 none 0 := ⟨tw_1079, tw_1080, tw_1081, tw_1082, by decide +kernel, by decide +kernel, by decide +kernel⟩
theorem yv_X11_goOn : YV yX11_goOn cX11_goOn 3 none 1 := ⟨tw_1084, tw_1085, tw_1086, tw_1087, by decide +kernel, by decide +kernel, by decide +kernel⟩
theorem yv_X11_failing : YV yX11_failing cX11_failing 2 (some .boolean) 1 := ⟨tw_1091, tw_1092, tw_1093, tw_1094, by decide +kernel, by decide +kernel, by decide +kernel⟩
theorem yv_X11_unpack : YV yX11_unpack cX11_unpack 5 none 2 := ⟨tw_1096, tw_1097, tw_1098, tw_1099, by decide +kernel, by decide +kernel, by decide +kernel⟩
theorem gfR_X11_140 {E : RE} (X : CX p s m meth c args cc nL RX11 ret) (I : WI (vR E) A s H locs σ) (d : decode cc pc = .ok (.getfield 140, 3)) (kk : W p l e R s m args below meth c H locs cells slots Q (F0 m (pc + 3) ls (.ref (ra E 34) :: rest))) : W p l e R s m args below meth c H locs cells slots Q (F0 m pc ls (.ref (ra E 0) :: rest)) := r_get (V := (vR E)) (k := 0) X I (Nat.le_of_ble_eq_true rfl) rfl rfl inGX11 51 (by decide) tw_1101 rfl d kk
theorem yv_X11_likingOf : YV yX11_likingOf cX11_likingOf 3 (some .int) 2 := ⟨tw_1103, tw_1104, tw_1105, tw_1106, by decide +kernel, by decide +kernel, by decide +kernel⟩
theorem yv_X11_housesNext : YV yX11_housesNext cX11_housesNext 3 (some .int) 1 := ⟨tw_1108, tw_1109, tw_1110, tw_1111, by decide +kernel, by decide +kernel, by decide +kernel⟩
theorem gfR_X11_146 {E : RE} (X : CX p s m meth c args cc nL RX11 ret) (I : WI (vR E) A s H locs σ) (d : decode cc pc = .ok (.getfield 146, 3)) (kk : W p l e R s m args below meth c H locs cells slots Q (F0 m (pc + 3) ls (.ref (ra E 36) :: rest))) : W p l e R s m args below meth c H locs cells slots Q (F0 m pc ls (.ref (ra E 0) :: rest)) := r_get (V := (vR E)) (k := 0) X I (Nat.le_of_ble_eq_true rfl) rfl rfl inGX11 53 (by decide) tw_1112 rfl d kk
theorem gfR_X11_143 {E : RE} (X : CX p s m meth c args cc nL RX11 ret) (I : WI (vR E) A s H locs σ) (d : decode cc pc = .ok (.getfield 143, 3)) (kk : W p l e R s m args below meth c H locs cells slots Q (F0 m (pc + 3) ls (.ref (ra E 35) :: rest))) : W p l e R s m args below meth c H locs cells slots Q (F0 m pc ls (.ref (ra E 0) :: rest)) := r_get (V := (vR E)) (k := 0) X I (Nat.le_of_ble_eq_true rfl) rfl rfl inGX11 52 (by decide) tw_1113 rfl d kk
theorem yv_X11_by : YV yX11_by cX11_by 4 (some .int) 3 := ⟨tw_1115, tw_1116, tw_1117, tw_1118, by decide +kernel, by decide +kernel, by decide +kernel⟩
theorem yv_X11_tellLiked : YV yX11_tellLiked cX11_tellLiked 7 none 1 := ⟨tw_1122, tw_1123, tw_1124, tw_1125, by decide +kernel, by decide +kernel, by decide +kernel⟩
theorem yv_X11_tellMost : YV yX11_tellMost cX11_tellMost 6 none 0 := ⟨tw_1127, tw_1128, tw_1129, tw_1130, by decide +kernel, by decide +kernel, by decide +kernel⟩
theorem yv_X11_goingTo : YV yX11_goingTo cX11_goingTo 4 (some .int) 2 := ⟨tw_1132, tw_1133, tw_1134, tw_1135, by decide +kernel, by decide +kernel, by decide +kernel⟩
theorem gfR_X11_149 {E : RE} (X : CX p s m meth c args cc nL RX11 ret) (I : WI (vR E) A s H locs σ) (d : decode cc pc = .ok (.getfield 149, 3)) (kk : W p l e R s m args below meth c H locs cells slots Q (F0 m (pc + 3) ls (.ref (ra E 37) :: rest))) : W p l e R s m args below meth c H locs cells slots Q (F0 m pc ls (.ref (ra E 0) :: rest)) := r_get (V := (vR E)) (k := 0) X I (Nat.le_of_ble_eq_true rfl) rfl rfl inGX11 54 (by decide) tw_1137 rfl d kk
theorem gfR_X11_152 {E : RE} (X : CX p s m meth c args cc nL RX11 ret) (I : WI (vR E) A s H locs σ) (d : decode cc pc = .ok (.getfield 152, 3)) (kk : W p l e R s m args below meth c H locs cells slots Q (F0 m (pc + 3) ls (.ref (ra E 38) :: rest))) : W p l e R s m args below meth c H locs cells slots Q (F0 m pc ls (.ref (ra E 0) :: rest)) := r_get (V := (vR E)) (k := 0) X I (Nat.le_of_ble_eq_true rfl) rfl rfl inGX11 55 (by decide) tw_1138 rfl d kk
theorem gfR_X11_155 {E : RE} (X : CX p s m meth c args cc nL RX11 ret) (I : WI (vR E) A s H locs σ) (d : decode cc pc = .ok (.getfield 155, 3)) (kk : W p l e R s m args below meth c H locs cells slots Q (F0 m (pc + 3) ls (.ref (ra E 39) :: rest))) : W p l e R s m args below meth c H locs cells slots Q (F0 m pc ls (.ref (ra E 0) :: rest)) := r_get (V := (vR E)) (k := 0) X I (Nat.le_of_ble_eq_true rfl) rfl rfl inGX11 56 (by decide) tw_1139 rfl d kk
theorem gfR_X11_161 {E : RE} (X : CX p s m meth c args cc nL RX11 ret) (I : WI (vR E) A s H locs σ) (d : decode cc pc = .ok (.getfield 161, 3)) (kk : W p l e R s m args below meth c H locs cells slots Q (F0 m (pc + 3) ls (.ref (ra E 41) :: rest))) : W p l e R s m args below meth c H locs cells slots Q (F0 m pc ls (.ref (ra E 0) :: rest)) := r_get (V := (vR E)) (k := 0) X I (Nat.le_of_ble_eq_true rfl) rfl rfl inGX11 58 (by decide) tw_1140 rfl d kk
theorem gfR_X11_158 {E : RE} (X : CX p s m meth c args cc nL RX11 ret) (I : WI (vR E) A s H locs σ) (d : decode cc pc = .ok (.getfield 158, 3)) (kk : W p l e R s m args below meth c H locs cells slots Q (F0 m (pc + 3) ls (.ref (ra E 40) :: rest))) : W p l e R s m args below meth c H locs cells slots Q (F0 m pc ls (.ref (ra E 0) :: rest)) := r_get (V := (vR E)) (k := 0) X I (Nat.le_of_ble_eq_true rfl) rfl rfl inGX11 57 (by decide) tw_1141 rfl d kk
theorem pfR_X11_468 {E : RE} (X : CX p s m meth c args cc nL RX11 ret) (I : WI (vR E) A s H locs σ) {x : Int32} (d : decode cc pc = .ok (.putfield 468, 3)) (kk : ∀ (H1 : Heap) (locs1 : List Loc), WI (vR E) A s H1 locs1 (ms σ 0 61 x) → W p l e R s m args below meth c H1 locs1 cells slots Q (F0 m (pc + 3) ls rest)) : W p l e R s m args below meth c H locs cells slots Q (F0 m pc ls (.int x :: .ref (ra E 0) :: rest)) := r_put (V := (vR E)) (k := 0) X I (Nat.le_of_ble_eq_true rfl) rfl rfl inGX11 tyX11 tyX11_ok nmX11 61 (by decide) tw_1142 rfl rfl rfl (Nat.le_of_ble_eq_true rfl) rfl d kk
theorem yv_X11_isAsSeen : YV yX11_isAsSeen cX11_isAsSeen 4 (some .boolean) 0 := ⟨tw_1144, tw_1145, tw_1146, tw_1147, by decide +kernel, by decide +kernel, by decide +kernel⟩
theorem gfR_X11_165 {E : RE} (X : CX p s m meth c args cc nL RX11 ret) (I : WI (vR E) A s H locs σ) (d : decode cc pc = .ok (.getfield 165, 3)) (kk : W p l e R s m args below meth c H locs cells slots Q (F0 m (pc + 3) ls (.ref (ra E 42) :: rest))) : W p l e R s m args below meth c H locs cells slots Q (F0 m pc ls (.ref (ra E 0) :: rest)) := r_get (V := (vR E)) (k := 0) X I (Nat.le_of_ble_eq_true rfl) rfl rfl inGX11 59 (by decide) tw_1148 rfl d kk
theorem gfR_X11_468 {E : RE} (X : CX p s m meth c args cc nL RX11 ret) (I : WI (vR E) A s H locs σ) (d : decode cc pc = .ok (.getfield 468, 3)) (kk : W p l e R s m args below meth c H locs cells slots Q (F0 m (pc + 3) ls (.int (σ 0 61) :: rest))) : W p l e R s m args below meth c H locs cells slots Q (F0 m pc ls (.ref (ra E 0) :: rest)) := r_get (V := (vR E)) (k := 0) X I (Nat.le_of_ble_eq_true rfl) rfl rfl inGX11 61 (by decide) tw_1142 rfl d kk
theorem yv_X11_tellFits : YV yX11_tellFits cX11_tellFits 4 none 0 := ⟨tw_1151, tw_1152, tw_1153, tw_1154, by decide +kernel, by decide +kernel, by decide +kernel⟩
theorem gfR_X11_168 {E : RE} (X : CX p s m meth c args cc nL RX11 ret) (I : WI (vR E) A s H locs σ) (d : decode cc pc = .ok (.getfield 168, 3)) (kk : W p l e R s m args below meth c H locs cells slots Q (F0 m (pc + 3) ls (.ref (ra E 43) :: rest))) : W p l e R s m args below meth c H locs cells slots Q (F0 m pc ls (.ref (ra E 0) :: rest)) := r_get (V := (vR E)) (k := 0) X I (Nat.le_of_ble_eq_true rfl) rfl rfl inGX11 60 (by decide) tw_1155 rfl d kk
theorem yv_X11_unlike : YV yX11_unlike cX11_unlike 6 (some .int) 1 := ⟨tw_1157, tw_1158, tw_1159, tw_1160, by decide +kernel, by decide +kernel, by decide +kernel⟩
theorem yv_X11_choose : YV yX11_choose cX11_choose 3 none 2 := ⟨tw_1162, tw_1163, tw_1164, tw_1165, by decide +kernel, by decide +kernel, by decide +kernel⟩
theorem gfR_X11_171 {E : RE} (X : CX p s m meth c args cc nL RX11 ret) (I : WI (vR E) A s H locs σ) (d : decode cc pc = .ok (.getfield 171, 3)) (kk : W p l e R s m args below meth c H locs cells slots Q (F0 m (pc + 3) ls (.ref (ra E 44) :: rest))) : W p l e R s m args below meth c H locs cells slots Q (F0 m pc ls (.ref (ra E 0) :: rest)) := r_get (V := (vR E)) (k := 0) X I (Nat.le_of_ble_eq_true rfl) rfl rfl inGX11 62 (by decide) tw_1166 rfl d kk
theorem yv_X11_rents : YV yX11_rents cX11_rents 4 (some .int) 1 := ⟨tw_1168, tw_1169, tw_1170, tw_1171, by decide +kernel, by decide +kernel, by decide +kernel⟩
theorem yv_X11_tellGains : YV yX11_tellGains cX11_tellGains 4 none 2 := ⟨tw_1173, tw_1174, tw_1175, tw_1176, by decide +kernel, by decide +kernel, by decide +kernel⟩
theorem gfR_X11_493 {E : RE} (X : CX p s m meth c args cc nL RX11 ret) (I : WI (vR E) A s H locs σ) (d : decode cc pc = .ok (.getfield 493, 3)) (kk : W p l e R s m args below meth c H locs cells slots Q (F0 m (pc + 3) ls (.int (σ 0 63) :: rest))) : W p l e R s m args below meth c H locs cells slots Q (F0 m pc ls (.ref (ra E 0) :: rest)) := r_get (V := (vR E)) (k := 0) X I (Nat.le_of_ble_eq_true rfl) rfl rfl inGX11 63 (by decide) tw_1177 rfl d kk
theorem pfR_X11_493 {E : RE} (X : CX p s m meth c args cc nL RX11 ret) (I : WI (vR E) A s H locs σ) {x : Int32} (d : decode cc pc = .ok (.putfield 493, 3)) (kk : ∀ (H1 : Heap) (locs1 : List Loc), WI (vR E) A s H1 locs1 (ms σ 0 63 x) → W p l e R s m args below meth c H1 locs1 cells slots Q (F0 m (pc + 3) ls rest)) : W p l e R s m args below meth c H locs cells slots Q (F0 m pc ls (.int x :: .ref (ra E 0) :: rest)) := r_put (V := (vR E)) (k := 0) X I (Nat.le_of_ble_eq_true rfl) rfl rfl inGX11 tyX11 tyX11_ok nmX11 63 (by decide) tw_1177 rfl rfl rfl (Nat.le_of_ble_eq_true rfl) rfl d kk
theorem yv_X11_drawOf : YV yX11_drawOf cX11_drawOf 2 (some .int) 1 := ⟨tw_1180, tw_1181, tw_1182, tw_1183, by decide +kernel, by decide +kernel, by decide +kernel⟩
theorem yv_X11_something : YV yX11_something cX11_something 3 none 0 := ⟨tw_1185, tw_1186, tw_1187, tw_1188, by decide +kernel, by decide +kernel, by decide +kernel⟩
theorem pfR_X11_503 {E : RE} (X : CX p s m meth c args cc nL RX11 ret) (I : WI (vR E) A s H locs σ) {x : Int32} (d : decode cc pc = .ok (.putfield 503, 3)) (kk : ∀ (H1 : Heap) (locs1 : List Loc), WI (vR E) A s H1 locs1 (ms σ 0 65 x) → W p l e R s m args below meth c H1 locs1 cells slots Q (F0 m (pc + 3) ls rest)) : W p l e R s m args below meth c H locs cells slots Q (F0 m pc ls (.int x :: .ref (ra E 0) :: rest)) := r_put (V := (vR E)) (k := 0) X I (Nat.le_of_ble_eq_true rfl) rfl rfl inGX11 tyX11 tyX11_ok nmX11 65 (by decide) tw_1189 rfl rfl rfl (Nat.le_of_ble_eq_true rfl) rfl d kk
theorem pfR_X11_506 {E : RE} (X : CX p s m meth c args cc nL RX11 ret) (I : WI (vR E) A s H locs σ) {x : Int32} (d : decode cc pc = .ok (.putfield 506, 3)) (kk : ∀ (H1 : Heap) (locs1 : List Loc), WI (vR E) A s H1 locs1 (ms σ 0 66 x) → W p l e R s m args below meth c H1 locs1 cells slots Q (F0 m (pc + 3) ls rest)) : W p l e R s m args below meth c H locs cells slots Q (F0 m pc ls (.int x :: .ref (ra E 0) :: rest)) := r_put (V := (vR E)) (k := 0) X I (Nat.le_of_ble_eq_true rfl) rfl rfl inGX11 tyX11 tyX11_ok nmX11 66 (by decide) tw_1190 rfl rfl rfl (Nat.le_of_ble_eq_true rfl) rfl d kk
theorem gfR_X11_174 {E : RE} (X : CX p s m meth c args cc nL RX11 ret) (I : WI (vR E) A s H locs σ) (d : decode cc pc = .ok (.getfield 174, 3)) (kk : W p l e R s m args below meth c H locs cells slots Q (F0 m (pc + 3) ls (.ref (ra E 45) :: rest))) : W p l e R s m args below meth c H locs cells slots Q (F0 m pc ls (.ref (ra E 0) :: rest)) := r_get (V := (vR E)) (k := 0) X I (Nat.le_of_ble_eq_true rfl) rfl rfl inGX11 67 (by decide) tw_1191 rfl d kk
theorem gfR_X11_177 {E : RE} (X : CX p s m meth c args cc nL RX11 ret) (I : WI (vR E) A s H locs σ) (d : decode cc pc = .ok (.getfield 177, 3)) (kk : W p l e R s m args below meth c H locs cells slots Q (F0 m (pc + 3) ls (.ref (ra E 46) :: rest))) : W p l e R s m args below meth c H locs cells slots Q (F0 m pc ls (.ref (ra E 0) :: rest)) := r_get (V := (vR E)) (k := 0) X I (Nat.le_of_ble_eq_true rfl) rfl rfl inGX11 68 (by decide) tw_1192 rfl d kk
theorem ys_X11_copyTo : YS yX11_copyTo cX11_copyTo 3 none 2 := ⟨tw_1194, tw_1195, tw_1196, by decide +kernel, by decide +kernel, by decide +kernel⟩
theorem gfR_X11_180 {E : RE} (X : CX p s m meth c args cc nL RX11 ret) (I : WI (vR E) A s H locs σ) (d : decode cc pc = .ok (.getfield 180, 3)) (kk : W p l e R s m args below meth c H locs cells slots Q (F0 m (pc + 3) ls (.ref (ra E 47) :: rest))) : W p l e R s m args below meth c H locs cells slots Q (F0 m pc ls (.ref (ra E 0) :: rest)) := r_get (V := (vR E)) (k := 0) X I (Nat.le_of_ble_eq_true rfl) rfl rfl inGX11 69 (by decide) tw_1197 rfl d kk
theorem gfR_X11_183 {E : RE} (X : CX p s m meth c args cc nL RX11 ret) (I : WI (vR E) A s H locs σ) (d : decode cc pc = .ok (.getfield 183, 3)) (kk : W p l e R s m args below meth c H locs cells slots Q (F0 m (pc + 3) ls (.ref (ra E 48) :: rest))) : W p l e R s m args below meth c H locs cells slots Q (F0 m pc ls (.ref (ra E 0) :: rest)) := r_get (V := (vR E)) (k := 0) X I (Nat.le_of_ble_eq_true rfl) rfl rfl inGX11 70 (by decide) tw_1198 rfl d kk
theorem gfR_X11_186 {E : RE} (X : CX p s m meth c args cc nL RX11 ret) (I : WI (vR E) A s H locs σ) (d : decode cc pc = .ok (.getfield 186, 3)) (kk : W p l e R s m args below meth c H locs cells slots Q (F0 m (pc + 3) ls (.ref (ra E 49) :: rest))) : W p l e R s m args below meth c H locs cells slots Q (F0 m pc ls (.ref (ra E 0) :: rest)) := r_get (V := (vR E)) (k := 0) X I (Nat.le_of_ble_eq_true rfl) rfl rfl inGX11 71 (by decide) tw_1199 rfl d kk
theorem gfR_X11_189 {E : RE} (X : CX p s m meth c args cc nL RX11 ret) (I : WI (vR E) A s H locs σ) (d : decode cc pc = .ok (.getfield 189, 3)) (kk : W p l e R s m args below meth c H locs cells slots Q (F0 m (pc + 3) ls (.ref (ra E 50) :: rest))) : W p l e R s m args below meth c H locs cells slots Q (F0 m pc ls (.ref (ra E 0) :: rest)) := r_get (V := (vR E)) (k := 0) X I (Nat.le_of_ble_eq_true rfl) rfl rfl inGX11 72 (by decide) tw_1200 rfl d kk
theorem gfR_X11_192 {E : RE} (X : CX p s m meth c args cc nL RX11 ret) (I : WI (vR E) A s H locs σ) (d : decode cc pc = .ok (.getfield 192, 3)) (kk : W p l e R s m args below meth c H locs cells slots Q (F0 m (pc + 3) ls (.ref (ra E 51) :: rest))) : W p l e R s m args below meth c H locs cells slots Q (F0 m pc ls (.ref (ra E 0) :: rest)) := r_get (V := (vR E)) (k := 0) X I (Nat.le_of_ble_eq_true rfl) rfl rfl inGX11 73 (by decide) tw_1201 rfl d kk
theorem gfR_X11_356 {E : RE} (X : CX p s m meth c args cc nL RX11 ret) (I : WI (vR E) A s H locs σ) (d : decode cc pc = .ok (.getfield 356, 3)) (kk : W p l e R s m args below meth c H locs cells slots Q (F0 m (pc + 3) ls (.int (σ 0 64) :: rest))) : W p l e R s m args below meth c H locs cells slots Q (F0 m pc ls (.ref (ra E 0) :: rest)) := r_get (V := (vR E)) (k := 0) X I (Nat.le_of_ble_eq_true rfl) rfl rfl inGX11 64 (by decide) tw_948 rfl d kk
theorem gfR_X11_503 {E : RE} (X : CX p s m meth c args cc nL RX11 ret) (I : WI (vR E) A s H locs σ) (d : decode cc pc = .ok (.getfield 503, 3)) (kk : W p l e R s m args below meth c H locs cells slots Q (F0 m (pc + 3) ls (.int (σ 0 65) :: rest))) : W p l e R s m args below meth c H locs cells slots Q (F0 m pc ls (.ref (ra E 0) :: rest)) := r_get (V := (vR E)) (k := 0) X I (Nat.le_of_ble_eq_true rfl) rfl rfl inGX11 65 (by decide) tw_1189 rfl d kk
theorem gfR_X11_506 {E : RE} (X : CX p s m meth c args cc nL RX11 ret) (I : WI (vR E) A s H locs σ) (d : decode cc pc = .ok (.getfield 506, 3)) (kk : W p l e R s m args below meth c H locs cells slots Q (F0 m (pc + 3) ls (.int (σ 0 66) :: rest))) : W p l e R s m args below meth c H locs cells slots Q (F0 m pc ls (.ref (ra E 0) :: rest)) := r_get (V := (vR E)) (k := 0) X I (Nat.le_of_ble_eq_true rfl) rfl rfl inGX11 66 (by decide) tw_1190 rfl d kk
end RWR

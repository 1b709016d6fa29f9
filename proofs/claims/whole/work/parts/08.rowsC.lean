/-! the class' world: 59 cells -/
abbrev CE : Type := va_G × (Nat → Nat) × ClassId × ClassId
def ca (E : CE) (k : Nat) : Nat := E.2.1 k
def cellC (E : CE) (k : Nat) (r : Nat → Int32) : va_E := match k with
  | 0 => .inr (10, [.ref (ca E 1), .ref (ca E 3), .ref (ca E 22), .ref (ca E 23), .ref (ca E 38), .ref (ca E 42), .ref (ca E 49), .int (r 7), .int (r 8), .ref (ca E 56), .ref (ca E 57), .ref (ca E 58)])
  | 1 => .inr (3, [.ref (ca E 2), .ref (ca E 3), .ref (ca E 9), .ref (ca E 21), .int (r 4)])
  | 2 => .inr (5, [.ref (ca E 3), .ref (ca E 5), .ref (ca E 8), .int (r 3), .int (r 4), .int (r 5), .int (r 6), .int (r 7), .int (r 8), .int (r 9)])
  | 3 => .inr (9, [.ref (ca E 4), .int (r 1), .int (r 2), .int (r 3), .int (r 4), .int (r 5), .int (r 6)])
  | 4 => .inl (E.2.2.2, 700, .inl r)
  | 5 => .inr (4, [.ref (ca E 6), .ref (ca E 7), .int (r 2)])
  | 6 => .inl (E.2.2.1, 700, .inl r)
  | 7 => .inl (E.2.2.1, 64, .inl r)
  | 8 => .inl (E.2.2.1, 128, .inl r)
  | 9 => .inr (2, [.int (r 0), .int (r 1), .int (r 2), .ref (ca E 10), .ref (ca E 11), .ref (ca E 12), .ref (ca E 13), .ref (ca E 14), .ref (ca E 17), .ref (ca E 20)])
  | 10 => .inl (E.2.2.1, 8, .inl r)
  | 11 => .inl (E.2.2.1, 8, .inl r)
  | 12 => .inl (E.2.2.1, 7, .inl r)
  | 13 => .inl (E.2.2.1, 7, .inl r)
  | 14 => .inr (4, [.ref (ca E 15), .ref (ca E 16), .int (r 2)])
  | 15 => .inl (E.2.2.1, 700, .inl r)
  | 16 => .inl (E.2.2.1, 64, .inl r)
  | 17 => .inr (4, [.ref (ca E 18), .ref (ca E 19), .int (r 2)])
  | 18 => .inl (E.2.2.1, 700, .inl r)
  | 19 => .inl (E.2.2.1, 64, .inl r)
  | 20 => .inl (E.2.2.1, 64, .inl r)
  | 21 => .inl (E.2.2.1, 4, .inl r)
  | 22 => .inr (8, [.ref (ca E 23), .ref (ca E 35), .ref (ca E 36), .ref (ca E 37), .int (r 4)])
  | 23 => .inr (2, [.int (r 0), .int (r 1), .int (r 2), .ref (ca E 24), .ref (ca E 25), .ref (ca E 26), .ref (ca E 27), .ref (ca E 28), .ref (ca E 31), .ref (ca E 34)])
  | 24 => .inl (E.2.2.1, 8, .inl r)
  | 25 => .inl (E.2.2.1, 8, .inl r)
  | 26 => .inl (E.2.2.1, 7, .inl r)
  | 27 => .inl (E.2.2.1, 7, .inl r)
  | 28 => .inr (4, [.ref (ca E 29), .ref (ca E 30), .int (r 2)])
  | 29 => .inl (E.2.2.1, 700, .inl r)
  | 30 => .inl (E.2.2.1, 64, .inl r)
  | 31 => .inr (4, [.ref (ca E 32), .ref (ca E 33), .int (r 2)])
  | 32 => .inl (E.2.2.1, 700, .inl r)
  | 33 => .inl (E.2.2.1, 64, .inl r)
  | 34 => .inl (E.2.2.1, 64, .inl r)
  | 35 => .inl (E.2.2.1, 10, .inl r)
  | 36 => .inl (E.2.2.1, 8, .inl r)
  | 37 => .inl (E.2.2.1, 7, .inl r)
  | 38 => .inr (7, [.ref (ca E 39), .ref (ca E 40), .ref (ca E 41), .int (r 3), .int (r 4), .int (r 5)])
  | 39 => .inl (E.2.2.1, 56, .inl r)
  | 40 => .inl (E.2.2.1, 256, .inl r)
  | 41 => .inl (E.2.2.1, 2048, .inl r)
  | 42 => .inr (1, [.ref (ca E 43), .ref (ca E 44), .ref (ca E 46), .ref (ca E 48)])
  | 43 => .inl (E.2.2.1, 64, .inl r)
  | 44 => .inr (0, [.ref (ca E 45), .int (r 1), .int (r 2)])
  | 45 => .inl (E.2.2.1, 2560, .inl r)
  | 46 => .inr (6, [.ref (ca E 47), .int (r 1)])
  | 47 => .inl (E.2.2.1, 32, .inl r)
  | 48 => .inl (E.2.2.1, 3, .inl r)
  | 49 => .inr (1, [.ref (ca E 50), .ref (ca E 51), .ref (ca E 53), .ref (ca E 55)])
  | 50 => .inl (E.2.2.1, 64, .inl r)
  | 51 => .inr (0, [.ref (ca E 52), .int (r 1), .int (r 2)])
  | 52 => .inl (E.2.2.1, 2560, .inl r)
  | 53 => .inr (6, [.ref (ca E 54), .int (r 1)])
  | 54 => .inl (E.2.2.1, 32, .inl r)
  | 55 => .inl (E.2.2.1, 3, .inl r)
  | 56 => .inl (E.2.2.1, 64, .inl r)
  | 57 => .inl (E.2.2.1, 8, .inl r)
  | _ => .inl (E.2.2.1, 8, .inl r)
def vC (E : CE) : WV := (E.1, [(E.2.2.1, .int), (E.2.2.2, .byte)], cellC E, ca E, 59)
def KCo0 (E : CE) (k : Nat) : Prop := k < 59 ∧ ∀ r, cellC E k r = .inr (0, [.ref (ca E (k + 1)), .int (r 1), .int (r 2)])
def KCo1 (E : CE) (k : Nat) : Prop := k < 59 ∧ ∀ r, cellC E k r = .inr (1, [.ref (ca E (k + 1)), .ref (ca E (k + 2)), .ref (ca E (k + 4)), .ref (ca E (k + 6))])
def KCo2 (E : CE) (k : Nat) : Prop := k < 59 ∧ ∀ r, cellC E k r = .inr (2, [.int (r 0), .int (r 1), .int (r 2), .ref (ca E (k + 1)), .ref (ca E (k + 2)), .ref (ca E (k + 3)), .ref (ca E (k + 4)), .ref (ca E (k + 5)), .ref (ca E (k + 8)), .ref (ca E (k + 11))])
def KCo3 (E : CE) (k : Nat) : Prop := k < 59 ∧ ∀ r, cellC E k r = .inr (3, [.ref (ca E (k + 1)), .ref (ca E (k + 2)), .ref (ca E (k + 8)), .ref (ca E (k + 20)), .int (r 4)])
def KCo4 (E : CE) (k : Nat) : Prop := k < 59 ∧ ∀ r, cellC E k r = .inr (4, [.ref (ca E (k + 1)), .ref (ca E (k + 2)), .int (r 2)])
def KCo5 (E : CE) (k : Nat) : Prop := k < 59 ∧ ∀ r, cellC E k r = .inr (5, [.ref (ca E (k + 1)), .ref (ca E (k + 3)), .ref (ca E (k + 6)), .int (r 3), .int (r 4), .int (r 5), .int (r 6), .int (r 7), .int (r 8), .int (r 9)])
def KCo6 (E : CE) (k : Nat) : Prop := k < 59 ∧ ∀ r, cellC E k r = .inr (6, [.ref (ca E (k + 1)), .int (r 1)])
def KCo7 (E : CE) (k : Nat) : Prop := k < 59 ∧ ∀ r, cellC E k r = .inr (7, [.ref (ca E (k + 1)), .ref (ca E (k + 2)), .ref (ca E (k + 3)), .int (r 3), .int (r 4), .int (r 5)])
def KCo8 (E : CE) (k : Nat) : Prop := k < 59 ∧ ∀ r, cellC E k r = .inr (8, [.ref (ca E (k + 1)), .ref (ca E (k + 13)), .ref (ca E (k + 14)), .ref (ca E (k + 15)), .int (r 4)])
def KCo9 (E : CE) (k : Nat) : Prop := k < 59 ∧ ∀ r, cellC E k r = .inr (9, [.ref (ca E (k + 1)), .int (r 1), .int (r 2), .int (r 3), .int (r 4), .int (r 5), .int (r 6)])
def KCo10 (E : CE) (k : Nat) : Prop := k < 59 ∧ ∀ r, cellC E k r = .inr (10, [.ref (ca E (k + 1)), .ref (ca E (k + 3)), .ref (ca E (k + 22)), .ref (ca E (k + 23)), .ref (ca E (k + 38)), .ref (ca E (k + 42)), .ref (ca E (k + 49)), .int (r 7), .int (r 8), .ref (ca E (k + 56)), .ref (ca E (k + 57)), .ref (ca E (k + 58))])
def KCaI (E : CE) (k n : Nat) : Prop := k < 59 ∧ ∀ r, cellC E k r = .inl (E.2.2.1, n, .inl r)
def KCaB (E : CE) (k n : Nat) : Prop := k < 59 ∧ ∀ r, cellC E k r = .inl (E.2.2.2, n, .inl r)
theorem kC_0 (E : CE) : KCo10 E 0 := ⟨by decide, fun _ => rfl⟩
theorem kC_1 (E : CE) : KCo3 E 1 := ⟨by decide, fun _ => rfl⟩
theorem kC_2 (E : CE) : KCo5 E 2 := ⟨by decide, fun _ => rfl⟩
theorem kC_3 (E : CE) : KCo9 E 3 := ⟨by decide, fun _ => rfl⟩
theorem kC_4 (E : CE) : KCaB E 4 700 := ⟨by decide, fun _ => rfl⟩
theorem kC_5 (E : CE) : KCo4 E 5 := ⟨by decide, fun _ => rfl⟩
theorem kC_6 (E : CE) : KCaI E 6 700 := ⟨by decide, fun _ => rfl⟩
theorem kC_7 (E : CE) : KCaI E 7 64 := ⟨by decide, fun _ => rfl⟩
theorem kC_8 (E : CE) : KCaI E 8 128 := ⟨by decide, fun _ => rfl⟩
theorem kC_9 (E : CE) : KCo2 E 9 := ⟨by decide, fun _ => rfl⟩
theorem kC_10 (E : CE) : KCaI E 10 8 := ⟨by decide, fun _ => rfl⟩
theorem kC_11 (E : CE) : KCaI E 11 8 := ⟨by decide, fun _ => rfl⟩
theorem kC_12 (E : CE) : KCaI E 12 7 := ⟨by decide, fun _ => rfl⟩
theorem kC_13 (E : CE) : KCaI E 13 7 := ⟨by decide, fun _ => rfl⟩
theorem kC_14 (E : CE) : KCo4 E 14 := ⟨by decide, fun _ => rfl⟩
theorem kC_15 (E : CE) : KCaI E 15 700 := ⟨by decide, fun _ => rfl⟩
theorem kC_16 (E : CE) : KCaI E 16 64 := ⟨by decide, fun _ => rfl⟩
theorem kC_17 (E : CE) : KCo4 E 17 := ⟨by decide, fun _ => rfl⟩
theorem kC_18 (E : CE) : KCaI E 18 700 := ⟨by decide, fun _ => rfl⟩
theorem kC_19 (E : CE) : KCaI E 19 64 := ⟨by decide, fun _ => rfl⟩
theorem kC_20 (E : CE) : KCaI E 20 64 := ⟨by decide, fun _ => rfl⟩
theorem kC_21 (E : CE) : KCaI E 21 4 := ⟨by decide, fun _ => rfl⟩
theorem kC_22 (E : CE) : KCo8 E 22 := ⟨by decide, fun _ => rfl⟩
theorem kC_23 (E : CE) : KCo2 E 23 := ⟨by decide, fun _ => rfl⟩
theorem kC_24 (E : CE) : KCaI E 24 8 := ⟨by decide, fun _ => rfl⟩
theorem kC_25 (E : CE) : KCaI E 25 8 := ⟨by decide, fun _ => rfl⟩
theorem kC_26 (E : CE) : KCaI E 26 7 := ⟨by decide, fun _ => rfl⟩
theorem kC_27 (E : CE) : KCaI E 27 7 := ⟨by decide, fun _ => rfl⟩
theorem kC_28 (E : CE) : KCo4 E 28 := ⟨by decide, fun _ => rfl⟩
theorem kC_29 (E : CE) : KCaI E 29 700 := ⟨by decide, fun _ => rfl⟩
theorem kC_30 (E : CE) : KCaI E 30 64 := ⟨by decide, fun _ => rfl⟩
theorem kC_31 (E : CE) : KCo4 E 31 := ⟨by decide, fun _ => rfl⟩
theorem kC_32 (E : CE) : KCaI E 32 700 := ⟨by decide, fun _ => rfl⟩
theorem kC_33 (E : CE) : KCaI E 33 64 := ⟨by decide, fun _ => rfl⟩
theorem kC_34 (E : CE) : KCaI E 34 64 := ⟨by decide, fun _ => rfl⟩
theorem kC_35 (E : CE) : KCaI E 35 10 := ⟨by decide, fun _ => rfl⟩
theorem kC_36 (E : CE) : KCaI E 36 8 := ⟨by decide, fun _ => rfl⟩
theorem kC_37 (E : CE) : KCaI E 37 7 := ⟨by decide, fun _ => rfl⟩
theorem kC_38 (E : CE) : KCo7 E 38 := ⟨by decide, fun _ => rfl⟩
theorem kC_39 (E : CE) : KCaI E 39 56 := ⟨by decide, fun _ => rfl⟩
theorem kC_40 (E : CE) : KCaI E 40 256 := ⟨by decide, fun _ => rfl⟩
theorem kC_41 (E : CE) : KCaI E 41 2048 := ⟨by decide, fun _ => rfl⟩
theorem kC_42 (E : CE) : KCo1 E 42 := ⟨by decide, fun _ => rfl⟩
theorem kC_43 (E : CE) : KCaI E 43 64 := ⟨by decide, fun _ => rfl⟩
theorem kC_44 (E : CE) : KCo0 E 44 := ⟨by decide, fun _ => rfl⟩
theorem kC_45 (E : CE) : KCaI E 45 2560 := ⟨by decide, fun _ => rfl⟩
theorem kC_46 (E : CE) : KCo6 E 46 := ⟨by decide, fun _ => rfl⟩
theorem kC_47 (E : CE) : KCaI E 47 32 := ⟨by decide, fun _ => rfl⟩
theorem kC_48 (E : CE) : KCaI E 48 3 := ⟨by decide, fun _ => rfl⟩
theorem kC_49 (E : CE) : KCo1 E 49 := ⟨by decide, fun _ => rfl⟩
theorem kC_50 (E : CE) : KCaI E 50 64 := ⟨by decide, fun _ => rfl⟩
theorem kC_51 (E : CE) : KCo0 E 51 := ⟨by decide, fun _ => rfl⟩
theorem kC_52 (E : CE) : KCaI E 52 2560 := ⟨by decide, fun _ => rfl⟩
theorem kC_53 (E : CE) : KCo6 E 53 := ⟨by decide, fun _ => rfl⟩
theorem kC_54 (E : CE) : KCaI E 54 32 := ⟨by decide, fun _ => rfl⟩
theorem kC_55 (E : CE) : KCaI E 55 3 := ⟨by decide, fun _ => rfl⟩
theorem kC_56 (E : CE) : KCaI E 56 64 := ⟨by decide, fun _ => rfl⟩
theorem kC_57 (E : CE) : KCaI E 57 8 := ⟨by decide, fun _ => rfl⟩
theorem kC_58 (E : CE) : KCaI E 58 8 := ⟨by decide, fun _ => rfl⟩
theorem inGX0 : ∀ w ∈ u_ws RX0 TX0 3, w ∈ GG := gg_ps _ [383, 385, 387] (by decide +kernel) (by decide +kernel)
theorem inGX1 : ∀ w ∈ u_ws RX1 TX1 4, w ∈ GG := gg_ps _ [413, 415, 417, 419] (by decide +kernel) (by decide +kernel)
theorem inGX2 : ∀ w ∈ u_ws RX2 TX2 10, w ∈ GG := gg_ps _ [278, 280, 282, 284, 286, 288, 290, 292, 294, 296] (by decide +kernel) (by decide +kernel)
theorem inGX3 : ∀ w ∈ u_ws RX3 TX3 5, w ∈ GG := gg_ps _ [306, 308, 310, 312, 314] (by decide +kernel) (by decide +kernel)
theorem inGX4 : ∀ w ∈ u_ws RX4 TX4 3, w ∈ GG := gg_ps _ [193, 195, 197] (by decide +kernel) (by decide +kernel)
theorem inGX5 : ∀ w ∈ u_ws RX5 TX5 10, w ∈ GG := gg_ps _ [212, 214, 216, 218, 220, 222, 224, 226, 228, 230] (by decide +kernel) (by decide +kernel)
theorem inGX6 : ∀ w ∈ u_ws RX6 TX6 2, w ∈ GG := gg_ps _ [400, 402] (by decide +kernel) (by decide +kernel)
theorem inGX7 : ∀ w ∈ u_ws RX7 TX7 6, w ∈ GG := gg_ps _ [354, 356, 358, 360, 362, 364] (by decide +kernel) (by decide +kernel)
theorem inGX8 : ∀ w ∈ u_ws RX8 TX8 5, w ∈ GG := gg_ps _ [331, 333, 335, 337, 339] (by decide +kernel) (by decide +kernel)
theorem inGX9 : ∀ w ∈ u_ws RX9 TX9 7, w ∈ GG := gg_ps _ [168, 170, 172, 174, 176, 178, 180] (by decide +kernel) (by decide +kernel)
theorem inGX10 : ∀ w ∈ u_ws RX10 TX10 12, w ∈ GG := gg_ps _ [453, 455, 457, 459, 461, 463, 465, 467, 469, 471, 473, 475] (by decide +kernel) (by decide +kernel)
theorem tw_0 : (.fieldLink RX0 15 (TX0 1).1 (TX0 1).2.1 (TX0 1).2.2.1 : Cond) ∈ GG := gg_2 (List.mem_of_getElem? (i := 36) (by decide +kernel)) (by decide +kernel)
theorem tw_1 : (.fieldLink RX0 19 (TX0 2).1 (TX0 2).2.1 (TX0 2).2.2.1 : Cond) ∈ GG := gg_2 (List.mem_of_getElem? (i := 37) (by decide +kernel)) (by decide +kernel)
theorem tw_2 : (.fieldLink RX0 9 (TX0 0).1 (TX0 0).2.1 (TX0 0).2.2.1 : Cond) ∈ GG := gg_2 (List.mem_of_getElem? (i := 35) (by decide +kernel)) (by decide +kernel)
theorem tw_3 : (.methodLink RX0 22 arraycopyName : Cond) ∈ GG := gg_2 (List.mem_of_getElem? (i := 162) (by decide +kernel)) (by decide +kernel)
theorem tw_4 : (.fieldLink RX4 18 (TX4 2).1 (TX4 2).2.1 (TX4 2).2.2.1 : Cond) ∈ GG := gg_1 (List.mem_of_getElem? (i := 88) (by decide +kernel)) (by decide +kernel)
theorem tw_5 : (.fieldLink RX4 9 (TX4 0).1 (TX4 0).2.1 (TX4 0).2.2.1 : Cond) ∈ GG := gg_1 (List.mem_of_getElem? (i := 86) (by decide +kernel)) (by decide +kernel)
theorem tw_6 : (.methodLink RX4 22 arraycopyName : Cond) ∈ GG := gg_4 (List.mem_of_getElem? (i := 11) (by decide +kernel)) (by decide +kernel)
theorem tw_7 : (.fieldLink RX4 15 (TX4 1).1 (TX4 1).2.1 (TX4 1).2.2.1 : Cond) ∈ GG := gg_1 (List.mem_of_getElem? (i := 87) (by decide +kernel)) (by decide +kernel)
theorem tw_8 : (.methodLink RX4 28 yX4_join : Cond) ∈ GG := gg_2 (List.mem_of_getElem? (i := 207) (by decide +kernel)) (by decide +kernel)
theorem tw_9 : (.code yX4_join cX4_join 3 (some .int) : Cond) ∈ GG := gg_2 (List.mem_of_getElem? (i := 209) (by decide +kernel)) (by decide +kernel)
theorem tw_10 : (.initialized yX4_join.cls : Cond) ∈ GG := gg_1 (List.mem_of_getElem? (i := 5) (by decide +kernel)) (by decide +kernel)
theorem tw_11 : (.static yX4_join : Cond) ∈ GG := gg_2 (List.mem_of_getElem? (i := 208) (by decide +kernel)) (by decide +kernel)
theorem tw_12 : (.fieldLink RX6 15 (TX6 1).1 (TX6 1).2.1 (TX6 1).2.2.1 : Cond) ∈ GG := gg_2 (List.mem_of_getElem? (i := 53) (by decide +kernel)) (by decide +kernel)
theorem tw_13 : (.fieldLink RX6 11 (TX6 0).1 (TX6 0).2.1 (TX6 0).2.2.1 : Cond) ∈ GG := gg_2 (List.mem_of_getElem? (i := 52) (by decide +kernel)) (by decide +kernel)
theorem tw_14 : (.methodLink RX6 19 Lib.Math.max.name : Cond) ∈ GG := gg_5 (List.mem_of_getElem? (i := 142) (by decide +kernel)) (by decide +kernel)
theorem tw_15 : (.methodLink RX6 25 arraycopyName : Cond) ∈ GG := gg_3 (List.mem_of_getElem? (i := 24) (by decide +kernel)) (by decide +kernel)
theorem tw_16 : (.fieldLink RX8 12 (TX8 0).1 (TX8 0).2.1 (TX8 0).2.2.1 : Cond) ∈ GG := gg_1 (List.mem_of_getElem? (i := 221) (by decide +kernel)) (by decide +kernel)
theorem tw_17 : (.fieldLink RX8 42 (TX2 0).1 (TX2 0).2.1 (TX2 0).2.2.1 : Cond) ∈ GG := gg_1 (List.mem_of_getElem? (i := 138) (by decide +kernel)) (by decide +kernel)
theorem tw_18 : (.fieldLink RX8 62 (TX2 3).1 (TX2 3).2.1 (TX2 3).2.2.1 : Cond) ∈ GG := gg_1 (List.mem_of_getElem? (i := 151) (by decide +kernel)) (by decide +kernel)
theorem tw_19 : (.fieldLink RX8 56 (TX2 1).1 (TX2 1).2.1 (TX2 1).2.2.1 : Cond) ∈ GG := gg_1 (List.mem_of_getElem? (i := 142) (by decide +kernel)) (by decide +kernel)
theorem tw_20 : (.fieldLink RX8 65 (TX2 4).1 (TX2 4).2.1 (TX2 4).2.2.1 : Cond) ∈ GG := gg_1 (List.mem_of_getElem? (i := 156) (by decide +kernel)) (by decide +kernel)
theorem tw_21 : (.fieldLink RX8 68 (TX2 2).1 (TX2 2).2.1 (TX2 2).2.2.1 : Cond) ∈ GG := gg_1 (List.mem_of_getElem? (i := 148) (by decide +kernel)) (by decide +kernel)
theorem tw_22 : (.methodLink RX8 71 yX8_lifeOf : Cond) ∈ GG := gg_2 (List.mem_of_getElem? (i := 179) (by decide +kernel)) (by decide +kernel)
theorem tw_23 : (.code yX8_lifeOf cX8_lifeOf 2 (some .int) : Cond) ∈ GG := gg_2 (List.mem_of_getElem? (i := 182) (by decide +kernel)) (by decide +kernel)
theorem tw_24 : (.initialized yX8_lifeOf.cls : Cond) ∈ GG := gg_1 (List.mem_of_getElem? (i := 7) (by decide +kernel)) (by decide +kernel)
theorem tw_25 : (.instanceMethod yX8_lifeOf : Cond) ∈ GG := gg_2 (List.mem_of_getElem? (i := 180) (by decide +kernel)) (by decide +kernel)
theorem tw_26 : (.selects yX8_lifeOf.cls yX8_lifeOf yX8_lifeOf : Cond) ∈ GG := gg_2 (List.mem_of_getElem? (i := 181) (by decide +kernel)) (by decide +kernel)
theorem tw_27 : (.methodLink RX8 75 Lib.Math.max.name : Cond) ∈ GG := gg_2 (List.mem_of_getElem? (i := 221) (by decide +kernel)) (by decide +kernel)
theorem tw_28 : (.fieldLink RX8 18 (TX8 1).1 (TX8 1).2.1 (TX8 1).2.2.1 : Cond) ∈ GG := gg_1 (List.mem_of_getElem? (i := 223) (by decide +kernel)) (by decide +kernel)
theorem tw_29 : (.fieldLink RX8 25 (TX8 3).1 (TX8 3).2.1 (TX8 3).2.2.1 : Cond) ∈ GG := gg_1 (List.mem_of_getElem? (i := 225) (by decide +kernel)) (by decide +kernel)
theorem tw_30 : (.fieldLink RX8 22 (TX8 2).1 (TX8 2).2.1 (TX8 2).2.2.1 : Cond) ∈ GG := gg_1 (List.mem_of_getElem? (i := 224) (by decide +kernel)) (by decide +kernel)
theorem tw_31 : (.methodLink RX8 81 yX8_tellHouse : Cond) ∈ GG := gg_2 (List.mem_of_getElem? (i := 195) (by decide +kernel)) (by decide +kernel)
theorem tw_32 : (.code yX8_tellHouse cX8_tellHouse 3 none : Cond) ∈ GG := gg_2 (List.mem_of_getElem? (i := 198) (by decide +kernel)) (by decide +kernel)
theorem tw_33 : (.initialized yX8_tellHouse.cls : Cond) ∈ GG := gg_1 (List.mem_of_getElem? (i := 7) (by decide +kernel)) (by decide +kernel)
theorem tw_34 : (.instanceMethod yX8_tellHouse : Cond) ∈ GG := gg_2 (List.mem_of_getElem? (i := 197) (by decide +kernel)) (by decide +kernel)
theorem tw_35 : (.selects yX8_tellHouse.cls yX8_tellHouse yX8_tellHouse : Cond) ∈ GG := gg_s (q := (⟨"DogLeases$Street", "tellHouse", "([II)V"⟩, 5)) (List.mem_of_getElem? (i := 4) (by decide +kernel))
theorem tw_36 : (.fieldLink RX8 85 (TX2 8).1 (TX2 8).2.1 (TX2 8).2.2.1 : Cond) ∈ GG := gg_1 (List.mem_of_getElem? (i := 170) (by decide +kernel)) (by decide +kernel)
theorem tw_37 : (.methodLink RX8 89 yX4_isTold : Cond) ∈ GG := gg_2 (List.mem_of_getElem? (i := 199) (by decide +kernel)) (by decide +kernel)
theorem tw_38 : (.code yX4_isTold cX4_isTold 1 (some .boolean) : Cond) ∈ GG := gg_2 (List.mem_of_getElem? (i := 202) (by decide +kernel)) (by decide +kernel)
theorem tw_39 : (.initialized yX4_isTold.cls : Cond) ∈ GG := gg_1 (List.mem_of_getElem? (i := 5) (by decide +kernel)) (by decide +kernel)
theorem tw_40 : (.instanceMethod yX4_isTold : Cond) ∈ GG := gg_2 (List.mem_of_getElem? (i := 200) (by decide +kernel)) (by decide +kernel)
theorem tw_41 : (.selects yX4_isTold.cls yX4_isTold yX4_isTold : Cond) ∈ GG := gg_2 (List.mem_of_getElem? (i := 201) (by decide +kernel)) (by decide +kernel)
theorem tw_42 : (.methodLink RX8 95 yX4_value : Cond) ∈ GG := gg_2 (List.mem_of_getElem? (i := 203) (by decide +kernel)) (by decide +kernel)
theorem tw_43 : (.code yX4_value cX4_value 5 (some .int) : Cond) ∈ GG := gg_2 (List.mem_of_getElem? (i := 206) (by decide +kernel)) (by decide +kernel)
theorem tw_44 : (.initialized yX4_value.cls : Cond) ∈ GG := gg_1 (List.mem_of_getElem? (i := 5) (by decide +kernel)) (by decide +kernel)
theorem tw_45 : (.instanceMethod yX4_value : Cond) ∈ GG := gg_2 (List.mem_of_getElem? (i := 204) (by decide +kernel)) (by decide +kernel)
theorem tw_46 : (.selects yX4_value.cls yX4_value yX4_value : Cond) ∈ GG := gg_2 (List.mem_of_getElem? (i := 205) (by decide +kernel)) (by decide +kernel)
theorem tw_47 : (.fieldLink RX8 110 (TX2 7).1 (TX2 7).2.1 (TX2 7).2.2.1 : Cond) ∈ GG := gg_1 (List.mem_of_getElem? (i := 167) (by decide +kernel)) (by decide +kernel)
theorem tw_48 : (.methodLink RX8 116 Lib.Math.min.name : Cond) ∈ GG := gg_2 (List.mem_of_getElem? (i := 218) (by decide +kernel)) (by decide +kernel)
theorem tw_49 : (.fieldLink RX8 119 (TX2 6).1 (TX2 6).2.1 (TX2 6).2.2.1 : Cond) ∈ GG := gg_1 (List.mem_of_getElem? (i := 164) (by decide +kernel)) (by decide +kernel)
theorem tw_50 : (.methodLink RX8 113 yX8_tellTenant : Cond) ∈ GG := gg_2 (List.mem_of_getElem? (i := 214) (by decide +kernel)) (by decide +kernel)
theorem tw_51 : (.code yX8_tellTenant cX8_tellTenant 5 none : Cond) ∈ GG := gg_2 (List.mem_of_getElem? (i := 217) (by decide +kernel)) (by decide +kernel)
theorem tw_52 : (.initialized yX8_tellTenant.cls : Cond) ∈ GG := gg_1 (List.mem_of_getElem? (i := 7) (by decide +kernel)) (by decide +kernel)
theorem tw_53 : (.instanceMethod yX8_tellTenant : Cond) ∈ GG := gg_2 (List.mem_of_getElem? (i := 216) (by decide +kernel)) (by decide +kernel)
theorem tw_54 : (.selects yX8_tellTenant.cls yX8_tellTenant yX8_tellTenant : Cond) ∈ GG := gg_s (q := (⟨"DogLeases$Street", "tellTenant", "([III)V"⟩, 5)) (List.mem_of_getElem? (i := 6) (by decide +kernel))
theorem tw_55 : (.methodLink RX8 36 yX8_rememberOwners : Cond) ∈ GG := gg_2 (List.mem_of_getElem? (i := 171) (by decide +kernel)) (by decide +kernel)
theorem tw_56 : (.code yX8_rememberOwners cX8_rememberOwners 4 none : Cond) ∈ GG := gg_2 (List.mem_of_getElem? (i := 174) (by decide +kernel)) (by decide +kernel)
theorem tw_57 : (.initialized yX8_rememberOwners.cls : Cond) ∈ GG := gg_1 (List.mem_of_getElem? (i := 7) (by decide +kernel)) (by decide +kernel)
theorem tw_58 : (.instanceMethod yX8_rememberOwners : Cond) ∈ GG := gg_2 (List.mem_of_getElem? (i := 173) (by decide +kernel)) (by decide +kernel)
theorem tw_59 : (.selects yX8_rememberOwners.cls yX8_rememberOwners yX8_rememberOwners : Cond) ∈ GG := gg_s (q := (⟨"DogLeases$Street", "rememberOwners", "([I)V"⟩, 5)) (List.mem_of_getElem? (i := 0) (by decide +kernel))
theorem tw_60 : (.methodLink RX8 99 yX8_likingOf : Cond) ∈ GG := gg_2 (List.mem_of_getElem? (i := 210) (by decide +kernel)) (by decide +kernel)
theorem tw_61 : (.code yX8_likingOf cX8_likingOf 6 (some .int) : Cond) ∈ GG := gg_2 (List.mem_of_getElem? (i := 213) (by decide +kernel)) (by decide +kernel)
theorem tw_62 : (.initialized yX8_likingOf.cls : Cond) ∈ GG := gg_1 (List.mem_of_getElem? (i := 7) (by decide +kernel)) (by decide +kernel)
theorem tw_63 : (.instanceMethod yX8_likingOf : Cond) ∈ GG := gg_2 (List.mem_of_getElem? (i := 212) (by decide +kernel)) (by decide +kernel)
theorem tw_64 : (.selects yX8_likingOf.cls yX8_likingOf yX8_likingOf : Cond) ∈ GG := gg_s (q := (⟨"DogLeases$Street", "likingOf", "([III)I"⟩, 5)) (List.mem_of_getElem? (i := 5) (by decide +kernel))
theorem tw_65 : (.methodLink RX8 103 yX8_bury : Cond) ∈ GG := gg_2 (List.mem_of_getElem? (i := 183) (by decide +kernel)) (by decide +kernel)
theorem tw_66 : (.code yX8_bury cX8_bury 3 none : Cond) ∈ GG := gg_2 (List.mem_of_getElem? (i := 186) (by decide +kernel)) (by decide +kernel)
theorem tw_67 : (.initialized yX8_bury.cls : Cond) ∈ GG := gg_1 (List.mem_of_getElem? (i := 7) (by decide +kernel)) (by decide +kernel)
theorem tw_68 : (.instanceMethod yX8_bury : Cond) ∈ GG := gg_2 (List.mem_of_getElem? (i := 185) (by decide +kernel)) (by decide +kernel)
theorem tw_69 : (.selects yX8_bury.cls yX8_bury yX8_bury : Cond) ∈ GG := gg_s (q := (⟨"DogLeases$Street", "bury", "([II)V"⟩, 5)) (List.mem_of_getElem? (i := 2) (by decide +kernel))
theorem tw_70 : (.methodLink RX8 106 yX8_isAsleep : Cond) ∈ GG := gg_2 (List.mem_of_getElem? (i := 191) (by decide +kernel)) (by decide +kernel)
theorem tw_71 : (.code yX8_isAsleep cX8_isAsleep 3 (some .boolean) : Cond) ∈ GG := gg_2 (List.mem_of_getElem? (i := 194) (by decide +kernel)) (by decide +kernel)
theorem tw_72 : (.initialized yX8_isAsleep.cls : Cond) ∈ GG := gg_1 (List.mem_of_getElem? (i := 7) (by decide +kernel)) (by decide +kernel)
theorem tw_73 : (.instanceMethod yX8_isAsleep : Cond) ∈ GG := gg_2 (List.mem_of_getElem? (i := 192) (by decide +kernel)) (by decide +kernel)
theorem tw_74 : (.selects yX8_isAsleep.cls yX8_isAsleep yX8_isAsleep : Cond) ∈ GG := gg_2 (List.mem_of_getElem? (i := 193) (by decide +kernel)) (by decide +kernel)
theorem tw_75 : (.methodLink RX8 122 yX8_rentOf : Cond) ∈ GG := gg_2 (List.mem_of_getElem? (i := 232) (by decide +kernel)) (by decide +kernel)
theorem tw_76 : (.code yX8_rentOf cX8_rentOf 5 (some .int) : Cond) ∈ GG := gg_2 (List.mem_of_getElem? (i := 235) (by decide +kernel)) (by decide +kernel)
theorem tw_77 : (.initialized yX8_rentOf.cls : Cond) ∈ GG := gg_1 (List.mem_of_getElem? (i := 7) (by decide +kernel)) (by decide +kernel)
theorem tw_78 : (.instanceMethod yX8_rentOf : Cond) ∈ GG := gg_2 (List.mem_of_getElem? (i := 233) (by decide +kernel)) (by decide +kernel)
theorem tw_79 : (.selects yX8_rentOf.cls yX8_rentOf yX8_rentOf : Cond) ∈ GG := gg_2 (List.mem_of_getElem? (i := 234) (by decide +kernel)) (by decide +kernel)
theorem tw_80 : (.fieldLink RX8 125 (TX2 5).1 (TX2 5).2.1 (TX2 5).2.2.1 : Cond) ∈ GG := gg_1 (List.mem_of_getElem? (i := 160) (by decide +kernel)) (by decide +kernel)
theorem tw_81 : (.fieldLink RX8 28 (TX8 4).1 (TX8 4).2.1 (TX8 4).2.2.1 : Cond) ∈ GG := gg_1 (List.mem_of_getElem? (i := 226) (by decide +kernel)) (by decide +kernel)
theorem tw_82 : (.constant RX8 131 (1103515245) : Cond) ∈ GG := gg_5 (List.mem_of_getElem? (i := 203) (by decide +kernel)) (by decide +kernel)
theorem tw_83 : (.methodLink RX8 128 yX8_draw : Cond) ∈ GG := gg_5 (List.mem_of_getElem? (i := 199) (by decide +kernel)) (by decide +kernel)
theorem tw_84 : (.code yX8_draw cX8_draw 2 (some .int) : Cond) ∈ GG := gg_5 (List.mem_of_getElem? (i := 202) (by decide +kernel)) (by decide +kernel)
theorem tw_85 : (.initialized yX8_draw.cls : Cond) ∈ GG := gg_1 (List.mem_of_getElem? (i := 7) (by decide +kernel)) (by decide +kernel)
theorem tw_86 : (.instanceMethod yX8_draw : Cond) ∈ GG := gg_5 (List.mem_of_getElem? (i := 201) (by decide +kernel)) (by decide +kernel)
theorem tw_87 : (.selects yX8_draw.cls yX8_draw yX8_draw : Cond) ∈ GG := gg_s (q := (⟨"DogLeases$Street", "draw", "(I)I"⟩, 5)) (List.mem_of_getElem? (i := 48) (by decide +kernel))
theorem tw_88 : (.methodLink RX8 39 yX8_growOld : Cond) ∈ GG := gg_2 (List.mem_of_getElem? (i := 175) (by decide +kernel)) (by decide +kernel)
theorem tw_89 : (.code yX8_growOld cX8_growOld 3 none : Cond) ∈ GG := gg_2 (List.mem_of_getElem? (i := 178) (by decide +kernel)) (by decide +kernel)
theorem tw_90 : (.initialized yX8_growOld.cls : Cond) ∈ GG := gg_1 (List.mem_of_getElem? (i := 7) (by decide +kernel)) (by decide +kernel)
theorem tw_91 : (.instanceMethod yX8_growOld : Cond) ∈ GG := gg_2 (List.mem_of_getElem? (i := 177) (by decide +kernel)) (by decide +kernel)
theorem tw_92 : (.selects yX8_growOld.cls yX8_growOld yX8_growOld : Cond) ∈ GG := gg_s (q := (⟨"DogLeases$Street", "growOld", "([I)V"⟩, 5)) (List.mem_of_getElem? (i := 1) (by decide +kernel))
theorem tw_93 : (.methodLink RX8 53 yX8_pay : Cond) ∈ GG := gg_2 (List.mem_of_getElem? (i := 228) (by decide +kernel)) (by decide +kernel)
theorem tw_94 : (.code yX8_pay cX8_pay 3 none : Cond) ∈ GG := gg_2 (List.mem_of_getElem? (i := 231) (by decide +kernel)) (by decide +kernel)
theorem tw_95 : (.initialized yX8_pay.cls : Cond) ∈ GG := gg_1 (List.mem_of_getElem? (i := 7) (by decide +kernel)) (by decide +kernel)
theorem tw_96 : (.instanceMethod yX8_pay : Cond) ∈ GG := gg_2 (List.mem_of_getElem? (i := 230) (by decide +kernel)) (by decide +kernel)
theorem tw_97 : (.selects yX8_pay.cls yX8_pay yX8_pay : Cond) ∈ GG := gg_s (q := (⟨"DogLeases$Street", "pay", "([I)V"⟩, 5)) (List.mem_of_getElem? (i := 8) (by decide +kernel))
theorem tw_98 : (.methodLink RX8 45 yX8_sitsBy : Cond) ∈ GG := gg_2 (List.mem_of_getElem? (i := 187) (by decide +kernel)) (by decide +kernel)
theorem tw_99 : (.code yX8_sitsBy cX8_sitsBy 7 (some .int) : Cond) ∈ GG := gg_2 (List.mem_of_getElem? (i := 190) (by decide +kernel)) (by decide +kernel)
theorem tw_100 : (.initialized yX8_sitsBy.cls : Cond) ∈ GG := gg_1 (List.mem_of_getElem? (i := 7) (by decide +kernel)) (by decide +kernel)
theorem tw_101 : (.instanceMethod yX8_sitsBy : Cond) ∈ GG := gg_2 (List.mem_of_getElem? (i := 189) (by decide +kernel)) (by decide +kernel)
theorem tw_102 : (.selects yX8_sitsBy.cls yX8_sitsBy yX8_sitsBy : Cond) ∈ GG := gg_s (q := (⟨"DogLeases$Street", "sitsBy", "([II)I"⟩, 5)) (List.mem_of_getElem? (i := 3) (by decide +kernel))
theorem tw_103 : (.methodLink RX8 49 yX8_settle : Cond) ∈ GG := gg_2 (List.mem_of_getElem? (i := 224) (by decide +kernel)) (by decide +kernel)
theorem tw_104 : (.code yX8_settle cX8_settle 4 none : Cond) ∈ GG := gg_2 (List.mem_of_getElem? (i := 227) (by decide +kernel)) (by decide +kernel)
theorem tw_105 : (.initialized yX8_settle.cls : Cond) ∈ GG := gg_1 (List.mem_of_getElem? (i := 7) (by decide +kernel)) (by decide +kernel)
theorem tw_106 : (.instanceMethod yX8_settle : Cond) ∈ GG := gg_2 (List.mem_of_getElem? (i := 226) (by decide +kernel)) (by decide +kernel)
theorem tw_107 : (.selects yX8_settle.cls yX8_settle yX8_settle : Cond) ∈ GG := gg_s (q := (⟨"DogLeases$Street", "settle", "([III)V"⟩, 5)) (List.mem_of_getElem? (i := 7) (by decide +kernel))
theorem tw_108 : (.methodLink RX8 32 yX8_passQuarter : Cond) ∈ GG := gg_2 (List.mem_of_getElem? (i := 167) (by decide +kernel)) (by decide +kernel)
theorem tw_109 : (.code yX8_passQuarter cX8_passQuarter 3 none : Cond) ∈ GG := gg_2 (List.mem_of_getElem? (i := 170) (by decide +kernel)) (by decide +kernel)
theorem tw_110 : (.initialized yX8_passQuarter.cls : Cond) ∈ GG := gg_1 (List.mem_of_getElem? (i := 7) (by decide +kernel)) (by decide +kernel)
theorem tw_111 : (.instanceMethod yX8_passQuarter : Cond) ∈ GG := gg_2 (List.mem_of_getElem? (i := 168) (by decide +kernel)) (by decide +kernel)
theorem tw_112 : (.selects yX8_passQuarter.cls yX8_passQuarter yX8_passQuarter : Cond) ∈ GG := gg_2 (List.mem_of_getElem? (i := 169) (by decide +kernel)) (by decide +kernel)
theorem tw_113 : (.methodLink RX8 59 yX8_disturb : Cond) ∈ GG := gg_5 (List.mem_of_getElem? (i := 195) (by decide +kernel)) (by decide +kernel)
theorem tw_114 : (.code yX8_disturb cX8_disturb 4 none : Cond) ∈ GG := gg_5 (List.mem_of_getElem? (i := 198) (by decide +kernel)) (by decide +kernel)
theorem tw_115 : (.initialized yX8_disturb.cls : Cond) ∈ GG := gg_1 (List.mem_of_getElem? (i := 7) (by decide +kernel)) (by decide +kernel)
theorem tw_116 : (.instanceMethod yX8_disturb : Cond) ∈ GG := gg_5 (List.mem_of_getElem? (i := 197) (by decide +kernel)) (by decide +kernel)
theorem tw_117 : (.selects yX8_disturb.cls yX8_disturb yX8_disturb : Cond) ∈ GG := gg_s (q := (⟨"DogLeases$Street", "disturb", "([I)V"⟩, 5)) (List.mem_of_getElem? (i := 47) (by decide +kernel))
theorem tw_118 : (.constant RJ6 265 (1431655765) : Cond) ∈ GG := gg_5 (List.mem_of_getElem? (i := 0) (by decide +kernel)) (by decide +kernel)
theorem tw_119 : (.constant RJ6 266 (858993459) : Cond) ∈ GG := gg_5 (List.mem_of_getElem? (i := 1) (by decide +kernel)) (by decide +kernel)
theorem tw_120 : (.constant RJ6 267 (252645135) : Cond) ∈ GG := gg_5 (List.mem_of_getElem? (i := 2) (by decide +kernel)) (by decide +kernel)
theorem tw_121 : (.fieldLink RX7 25 (TX7 4).1 (TX7 4).2.1 (TX7 4).2.2.1 : Cond) ∈ GG := gg_2 (List.mem_of_getElem? (i := 8) (by decide +kernel)) (by decide +kernel)
theorem tw_122 : (.fieldLink RX7 21 (TX7 3).1 (TX7 3).2.1 (TX7 3).2.2.1 : Cond) ∈ GG := gg_2 (List.mem_of_getElem? (i := 7) (by decide +kernel)) (by decide +kernel)
theorem tw_123 : (.fieldLink RX7 28 (TX7 5).1 (TX7 5).2.1 (TX7 5).2.2.1 : Cond) ∈ GG := gg_2 (List.mem_of_getElem? (i := 9) (by decide +kernel)) (by decide +kernel)
theorem tw_124 : (.fieldLink RX7 9 (TX7 0).1 (TX7 0).2.1 (TX7 0).2.2.1 : Cond) ∈ GG := gg_2 (List.mem_of_getElem? (i := 4) (by decide +kernel)) (by decide +kernel)
theorem tw_125 : (.methodLink RX7 41 yJ6_bitCount_0f7a4 : Cond) ∈ GG := gg_5 (List.mem_of_getElem? (i := 77) (by decide +kernel)) (by decide +kernel)
theorem tw_126 : (.code yJ6_bitCount_0f7a4 cJ6_bitCount_0f7a4 1 (some .int) : Cond) ∈ GG := gg_4 (List.mem_of_getElem? (i := 239) (by decide +kernel)) (by decide +kernel)
theorem tw_127 : (.initialized yJ6_bitCount_0f7a4.cls : Cond) ∈ GG := gg_1 (List.mem_of_getElem? (i := 24) (by decide +kernel)) (by decide +kernel)
theorem tw_128 : (.static yJ6_bitCount_0f7a4 : Cond) ∈ GG := gg_4 (List.mem_of_getElem? (i := 238) (by decide +kernel)) (by decide +kernel)
theorem tw_129 : (.fieldLink RX7 15 (TX7 1).1 (TX7 1).2.1 (TX7 1).2.2.1 : Cond) ∈ GG := gg_2 (List.mem_of_getElem? (i := 5) (by decide +kernel)) (by decide +kernel)
theorem tw_130 : (.fieldLink RX7 18 (TX7 2).1 (TX7 2).2.1 (TX7 2).2.2.1 : Cond) ∈ GG := gg_2 (List.mem_of_getElem? (i := 6) (by decide +kernel)) (by decide +kernel)
theorem tw_131 : (.methodLink RX7 47 Lib.Math.max.name : Cond) ∈ GG := gg_5 (List.mem_of_getElem? (i := 82) (by decide +kernel)) (by decide +kernel)
theorem tw_132 : (.methodLink RX7 31 yX7_worthOf : Cond) ∈ GG := gg_5 (List.mem_of_getElem? (i := 73) (by decide +kernel)) (by decide +kernel)
theorem tw_133 : (.code yX7_worthOf cX7_worthOf 6 (some .int) : Cond) ∈ GG := gg_5 (List.mem_of_getElem? (i := 76) (by decide +kernel)) (by decide +kernel)
theorem tw_134 : (.initialized yX7_worthOf.cls : Cond) ∈ GG := gg_1 (List.mem_of_getElem? (i := 8) (by decide +kernel)) (by decide +kernel)
theorem tw_135 : (.instanceMethod yX7_worthOf : Cond) ∈ GG := gg_5 (List.mem_of_getElem? (i := 75) (by decide +kernel)) (by decide +kernel)
theorem tw_136 : (.selects yX7_worthOf.cls yX7_worthOf yX7_worthOf : Cond) ∈ GG := gg_s (q := (⟨"DogLeases$Shares", "worthOf", "(II)I"⟩, 6)) (List.mem_of_getElem? (i := 38) (by decide +kernel))
theorem tw_137 : (.methodLink RX7 35 yX7_bestOf : Cond) ∈ GG := gg_5 (List.mem_of_getElem? (i := 78) (by decide +kernel)) (by decide +kernel)
theorem tw_138 : (.code yX7_bestOf cX7_bestOf 7 (some .int) : Cond) ∈ GG := gg_5 (List.mem_of_getElem? (i := 81) (by decide +kernel)) (by decide +kernel)
theorem tw_139 : (.initialized yX7_bestOf.cls : Cond) ∈ GG := gg_1 (List.mem_of_getElem? (i := 8) (by decide +kernel)) (by decide +kernel)
theorem tw_140 : (.instanceMethod yX7_bestOf : Cond) ∈ GG := gg_5 (List.mem_of_getElem? (i := 80) (by decide +kernel)) (by decide +kernel)
theorem tw_141 : (.selects yX7_bestOf.cls yX7_bestOf yX7_bestOf : Cond) ∈ GG := gg_s (q := (⟨"DogLeases$Shares", "bestOf", "(II)I"⟩, 6)) (List.mem_of_getElem? (i := 39) (by decide +kernel))
theorem tw_142 : (.methodLink RX7 38 yX7_leastPart : Cond) ∈ GG := gg_5 (List.mem_of_getElem? (i := 91) (by decide +kernel)) (by decide +kernel)
theorem tw_143 : (.code yX7_leastPart cX7_leastPart 6 (some .int) : Cond) ∈ GG := gg_5 (List.mem_of_getElem? (i := 94) (by decide +kernel)) (by decide +kernel)
theorem tw_144 : (.initialized yX7_leastPart.cls : Cond) ∈ GG := gg_1 (List.mem_of_getElem? (i := 8) (by decide +kernel)) (by decide +kernel)
theorem tw_145 : (.instanceMethod yX7_leastPart : Cond) ∈ GG := gg_5 (List.mem_of_getElem? (i := 93) (by decide +kernel)) (by decide +kernel)
theorem tw_146 : (.selects yX7_leastPart.cls yX7_leastPart yX7_leastPart : Cond) ∈ GG := gg_s (q := (⟨"DogLeases$Shares", "leastPart", "(II)I"⟩, 6)) (List.mem_of_getElem? (i := 40) (by decide +kernel))
theorem tw_147 : (.fieldLink RX2 9 (TX2 0).1 (TX2 0).2.1 (TX2 0).2.2.1 : Cond) ∈ GG := gg_1 (List.mem_of_getElem? (i := 137) (by decide +kernel)) (by decide +kernel)
theorem tw_148 : (.fieldLink RX2 15 (TX2 1).1 (TX2 1).2.1 (TX2 1).2.2.1 : Cond) ∈ GG := gg_1 (List.mem_of_getElem? (i := 141) (by decide +kernel)) (by decide +kernel)
theorem tw_149 : (.fieldLink RX2 18 (TX2 2).1 (TX2 2).2.1 (TX2 2).2.2.1 : Cond) ∈ GG := gg_1 (List.mem_of_getElem? (i := 145) (by decide +kernel)) (by decide +kernel)
theorem tw_150 : (.fieldLink RX2 37 (TX2 7).1 (TX2 7).2.1 (TX2 7).2.2.1 : Cond) ∈ GG := gg_1 (List.mem_of_getElem? (i := 165) (by decide +kernel)) (by decide +kernel)
theorem tw_151 : (.methodLink RX2 47 yX4_clear : Cond) ∈ GG := gg_2 (List.mem_of_getElem? (i := 82) (by decide +kernel)) (by decide +kernel)
theorem tw_152 : (.code yX4_clear cX4_clear 1 none : Cond) ∈ GG := gg_2 (List.mem_of_getElem? (i := 85) (by decide +kernel)) (by decide +kernel)
theorem tw_153 : (.initialized yX4_clear.cls : Cond) ∈ GG := gg_1 (List.mem_of_getElem? (i := 5) (by decide +kernel)) (by decide +kernel)
theorem tw_154 : (.instanceMethod yX4_clear : Cond) ∈ GG := gg_2 (List.mem_of_getElem? (i := 83) (by decide +kernel)) (by decide +kernel)
theorem tw_155 : (.selects yX4_clear.cls yX4_clear yX4_clear : Cond) ∈ GG := gg_2 (List.mem_of_getElem? (i := 84) (by decide +kernel)) (by decide +kernel)
theorem tw_156 : (.fieldLink RX2 41 (TX2 8).1 (TX2 8).2.1 (TX2 8).2.2.1 : Cond) ∈ GG := gg_1 (List.mem_of_getElem? (i := 168) (by decide +kernel)) (by decide +kernel)
theorem tw_157 : (.fieldLink RX2 44 (TX2 9).1 (TX2 9).2.1 (TX2 9).2.2.1 : Cond) ∈ GG := gg_1 (List.mem_of_getElem? (i := 171) (by decide +kernel)) (by decide +kernel)
theorem tw_158 : (.fieldLink RX2 21 (TX2 3).1 (TX2 3).2.1 (TX2 3).2.2.1 : Cond) ∈ GG := gg_1 (List.mem_of_getElem? (i := 149) (by decide +kernel)) (by decide +kernel)
theorem tw_159 : (.methodLink RX2 50 arraycopyName : Cond) ∈ GG := gg_4 (List.mem_of_getElem? (i := 67) (by decide +kernel)) (by decide +kernel)
theorem tw_160 : (.fieldLink RX2 25 (TX2 4).1 (TX2 4).2.1 (TX2 4).2.2.1 : Cond) ∈ GG := gg_1 (List.mem_of_getElem? (i := 153) (by decide +kernel)) (by decide +kernel)
theorem tw_161 : (.fieldLink RX2 28 (TX2 5).1 (TX2 5).2.1 (TX2 5).2.2.1 : Cond) ∈ GG := gg_1 (List.mem_of_getElem? (i := 157) (by decide +kernel)) (by decide +kernel)
theorem tw_162 : (.fieldLink RX2 31 (TX2 6).1 (TX2 6).2.1 (TX2 6).2.2.1 : Cond) ∈ GG := gg_1 (List.mem_of_getElem? (i := 161) (by decide +kernel)) (by decide +kernel)
theorem tw_163 : (.methodLink RX2 56 yX4_copyFrom : Cond) ∈ GG := gg_4 (List.mem_of_getElem? (i := 68) (by decide +kernel)) (by decide +kernel)
theorem tw_164 : (.code yX4_copyFrom cX4_copyFrom 2 none : Cond) ∈ GG := gg_4 (List.mem_of_getElem? (i := 10) (by decide +kernel)) (by decide +kernel)
theorem tw_165 : (.initialized yX4_copyFrom.cls : Cond) ∈ GG := gg_1 (List.mem_of_getElem? (i := 5) (by decide +kernel)) (by decide +kernel)
theorem tw_166 : (.instanceMethod yX4_copyFrom : Cond) ∈ GG := gg_4 (List.mem_of_getElem? (i := 8) (by decide +kernel)) (by decide +kernel)
theorem tw_167 : (.selects yX4_copyFrom.cls yX4_copyFrom yX4_copyFrom : Cond) ∈ GG := gg_4 (List.mem_of_getElem? (i := 9) (by decide +kernel)) (by decide +kernel)
theorem tw_168 : (.fieldLink RX1 9 (TX1 0).1 (TX1 0).2.1 (TX1 0).2.2.1 : Cond) ∈ GG := gg_2 (List.mem_of_getElem? (i := 61) (by decide +kernel)) (by decide +kernel)
theorem tw_169 : (.methodLink RX1 32 arraycopyName : Cond) ∈ GG := gg_2 (List.mem_of_getElem? (i := 90) (by decide +kernel)) (by decide +kernel)
theorem tw_170 : (.fieldLink RX1 18 (TX1 1).1 (TX1 1).2.1 (TX1 1).2.2.1 : Cond) ∈ GG := gg_2 (List.mem_of_getElem? (i := 63) (by decide +kernel)) (by decide +kernel)
theorem tw_171 : (.methodLink RX1 38 yX0_clear : Cond) ∈ GG := gg_2 (List.mem_of_getElem? (i := 93) (by decide +kernel)) (by decide +kernel)
theorem tw_172 : (.code yX0_clear cX0_clear 1 none : Cond) ∈ GG := gg_2 (List.mem_of_getElem? (i := 96) (by decide +kernel)) (by decide +kernel)
theorem tw_173 : (.initialized yX0_clear.cls : Cond) ∈ GG := gg_1 (List.mem_of_getElem? (i := 10) (by decide +kernel)) (by decide +kernel)
theorem tw_174 : (.instanceMethod yX0_clear : Cond) ∈ GG := gg_2 (List.mem_of_getElem? (i := 94) (by decide +kernel)) (by decide +kernel)
theorem tw_175 : (.selects yX0_clear.cls yX0_clear yX0_clear : Cond) ∈ GG := gg_2 (List.mem_of_getElem? (i := 95) (by decide +kernel)) (by decide +kernel)
theorem tw_176 : (.fieldLink RX1 25 (TX1 2).1 (TX1 2).2.1 (TX1 2).2.2.1 : Cond) ∈ GG := gg_2 (List.mem_of_getElem? (i := 65) (by decide +kernel)) (by decide +kernel)
theorem tw_177 : (.fieldLink RX1 41 (TX6 1).1 (TX6 1).2.1 (TX6 1).2.2.1 : Cond) ∈ GG := gg_2 (List.mem_of_getElem? (i := 54) (by decide +kernel)) (by decide +kernel)
theorem tw_178 : (.fieldLink RX1 29 (TX1 3).1 (TX1 3).2.1 (TX1 3).2.2.1 : Cond) ∈ GG := gg_2 (List.mem_of_getElem? (i := 67) (by decide +kernel)) (by decide +kernel)
theorem tw_179 : (.methodLink RX1 45 yX0_add : Cond) ∈ GG := gg_2 (List.mem_of_getElem? (i := 158) (by decide +kernel)) (by decide +kernel)
theorem tw_180 : (.code yX0_add cX0_add 2 none : Cond) ∈ GG := gg_2 (List.mem_of_getElem? (i := 161) (by decide +kernel)) (by decide +kernel)
theorem tw_181 : (.initialized yX0_add.cls : Cond) ∈ GG := gg_1 (List.mem_of_getElem? (i := 10) (by decide +kernel)) (by decide +kernel)
theorem tw_182 : (.instanceMethod yX0_add : Cond) ∈ GG := gg_2 (List.mem_of_getElem? (i := 159) (by decide +kernel)) (by decide +kernel)
theorem tw_183 : (.selects yX0_add.cls yX0_add yX0_add : Cond) ∈ GG := gg_2 (List.mem_of_getElem? (i := 160) (by decide +kernel)) (by decide +kernel)
theorem tw_184 : (.methodLink RX1 49 yX1_beginAct : Cond) ∈ GG := gg_4 (List.mem_of_getElem? (i := 151) (by decide +kernel)) (by decide +kernel)
theorem tw_185 : (.code yX1_beginAct cX1_beginAct 1 none : Cond) ∈ GG := gg_2 (List.mem_of_getElem? (i := 157) (by decide +kernel)) (by decide +kernel)
theorem tw_186 : (.initialized yX1_beginAct.cls : Cond) ∈ GG := gg_1 (List.mem_of_getElem? (i := 9) (by decide +kernel)) (by decide +kernel)
theorem tw_187 : (.instanceMethod yX1_beginAct : Cond) ∈ GG := gg_2 (List.mem_of_getElem? (i := 155) (by decide +kernel)) (by decide +kernel)
theorem tw_188 : (.selects yX1_beginAct.cls yX1_beginAct yX1_beginAct : Cond) ∈ GG := gg_2 (List.mem_of_getElem? (i := 156) (by decide +kernel)) (by decide +kernel)
theorem tw_189 : (.methodLink RX1 52 yX0_copyFrom : Cond) ∈ GG := gg_3 (List.mem_of_getElem? (i := 16) (by decide +kernel)) (by decide +kernel)
theorem tw_190 : (.code yX0_copyFrom cX0_copyFrom 2 none : Cond) ∈ GG := gg_3 (List.mem_of_getElem? (i := 19) (by decide +kernel)) (by decide +kernel)
theorem tw_191 : (.initialized yX0_copyFrom.cls : Cond) ∈ GG := gg_1 (List.mem_of_getElem? (i := 10) (by decide +kernel)) (by decide +kernel)
theorem tw_192 : (.instanceMethod yX0_copyFrom : Cond) ∈ GG := gg_3 (List.mem_of_getElem? (i := 17) (by decide +kernel)) (by decide +kernel)
theorem tw_193 : (.selects yX0_copyFrom.cls yX0_copyFrom yX0_copyFrom : Cond) ∈ GG := gg_3 (List.mem_of_getElem? (i := 18) (by decide +kernel)) (by decide +kernel)
theorem tw_194 : (.methodLink RX1 56 yX6_copyFrom : Cond) ∈ GG := gg_3 (List.mem_of_getElem? (i := 20) (by decide +kernel)) (by decide +kernel)
theorem tw_195 : (.code yX6_copyFrom cX6_copyFrom 2 none : Cond) ∈ GG := gg_3 (List.mem_of_getElem? (i := 23) (by decide +kernel)) (by decide +kernel)
theorem tw_196 : (.initialized yX6_copyFrom.cls : Cond) ∈ GG := gg_1 (List.mem_of_getElem? (i := 11) (by decide +kernel)) (by decide +kernel)
theorem tw_197 : (.instanceMethod yX6_copyFrom : Cond) ∈ GG := gg_3 (List.mem_of_getElem? (i := 21) (by decide +kernel)) (by decide +kernel)
theorem tw_198 : (.selects yX6_copyFrom.cls yX6_copyFrom yX6_copyFrom : Cond) ∈ GG := gg_3 (List.mem_of_getElem? (i := 22) (by decide +kernel)) (by decide +kernel)
section RWC
variable {p : Program} {l : Launch} {e : Env} {R : Room} {s : State} {m : MethodId} {args : Array Value} {below : List Frame} {meth : Method} {c : Code} {H : Heap} {locs : List Loc} {cells slots : Nat} {Q : State → Prop} {cc : ByteArray} {pc : Nat} {ls : Array Slot} {rest : List Value} {nL : Nat} {A : Nat → Prop} {σ : Mem} {ret : Option FieldType}
theorem ialdC {E : CE} {own : String} (X : CX p s m meth c args cc nL own ret) (I : WI (vC E) A s H locs σ) {k n : Nat} (hk : KCaI E k n) {i : Int32} (hin : vp_in i n) (d : decode cc pc = .ok (.iaload, 1)) (kk : W p l e R s m args below meth c H locs cells slots Q (F0 m (pc + 1) ls (.int (σ k i.toNatClampNeg) :: rest))) : W p l e R s m args below meth c H locs cells slots Q (F0 m pc ls (.int i :: .ref (ca E k) :: rest)) := r_iald (V := (vC E)) (t0 := 0) X I hk.1 rfl (hk.2 _) hin d kk
theorem iastC {E : CE} {own : String} (X : CX p s m meth c args cc nL own ret) (I : WI (vC E) A s H locs σ) {k n : Nat} (hk : KCaI E k n) {i x : Int32} (hin : vp_in i n) (d : decode cc pc = .ok (.iastore, 1)) (kk : ∀ (H1 : Heap) (locs1 : List Loc), WI (vC E) A s H1 locs1 (ms σ k i.toNatClampNeg x) → W p l e R s m args below meth c H1 locs1 cells slots Q (F0 m (pc + 1) ls rest)) : W p l e R s m args below meth c H locs cells slots Q (F0 m pc ls (.int x :: .int i :: .ref (ca E k) :: rest)) := r_iast (V := (vC E)) (t0 := 0) X I hk.1 rfl hk.2 hin d kk
theorem alenIC {E : CE} {own : String} (X : CX p s m meth c args cc nL own ret) (I : WI (vC E) A s H locs σ) {k n : Nat} (hk : KCaI E k n) {v : Int32} (hv : Int32.ofNat n = v) (d : decode cc pc = .ok (.arraylength, 1)) (kk : W p l e R s m args below meth c H locs cells slots Q (F0 m (pc + 1) ls (.int v :: rest))) : W p l e R s m args below meth c H locs cells slots Q (F0 m pc ls (.ref (ca E k) :: rest)) := r_alen (V := (vC E)) (t0 := 0) X I hk.1 rfl (hk.2 _) hv d kk
theorem baldC {E : CE} {own : String} (X : CX p s m meth c args cc nL own ret) (I : WI (vC E) A s H locs σ) {k n : Nat} (hk : KCaB E k n) {i : Int32} (hin : vp_in i n) (d : decode cc pc = .ok (.baload, 1)) (kk : W p l e R s m args below meth c H locs cells slots Q (F0 m (pc + 1) ls (.int (σ k i.toNatClampNeg) :: rest))) : W p l e R s m args below meth c H locs cells slots Q (F0 m pc ls (.int i :: .ref (ca E k) :: rest)) := r_bald (V := (vC E)) (t0 := 1) X I hk.1 rfl (hk.2 _) hin d kk
theorem bastC {E : CE} {own : String} (X : CX p s m meth c args cc nL own ret) (I : WI (vC E) A s H locs σ) {k n : Nat} (hk : KCaB E k n) {i x : Int32} (hin : vp_in i n) (d : decode cc pc = .ok (.bastore, 1)) (kk : ∀ (H1 : Heap) (locs1 : List Loc), WI (vC E) A s H1 locs1 (ms σ k i.toNatClampNeg x.toInt8.toInt32) → W p l e R s m args below meth c H1 locs1 cells slots Q (F0 m (pc + 1) ls rest)) : W p l e R s m args below meth c H locs cells slots Q (F0 m pc ls (.int x :: .int i :: .ref (ca E k) :: rest)) := r_bast (V := (vC E)) (t0 := 1) X I hk.1 rfl hk.2 hin d kk
theorem alenBC {E : CE} {own : String} (X : CX p s m meth c args cc nL own ret) (I : WI (vC E) A s H locs σ) {k n : Nat} (hk : KCaB E k n) {v : Int32} (hv : Int32.ofNat n = v) (d : decode cc pc = .ok (.arraylength, 1)) (kk : W p l e R s m args below meth c H locs cells slots Q (F0 m (pc + 1) ls (.int v :: rest))) : W p l e R s m args below meth c H locs cells slots Q (F0 m pc ls (.ref (ca E k) :: rest)) := r_alen (V := (vC E)) (t0 := 1) X I hk.1 rfl (hk.2 _) hv d kk
theorem icpC {E : CE} {own : String} {lvs : List (Nat × Value)} {idx : Nat} (X : CX p s m meth c args cc nL own ret) (I : WI (vC E) A s H locs σ) (hl : lv_has ls nL lvs) (hw : Cond.methodLink own idx arraycopyName ∈ GG) {k0 k1 n0 n1 : Nat} (hk0 : KCaI E k0 n0) (hk1 : KCaI E k1 n1) {sp dp n : Int32} (hcp : ¬ sp < 0 ∧ ¬ dp < 0 ∧ ¬ n < 0 ∧ sp.toNatClampNeg + n.toNatClampNeg ≤ n0 ∧ dp.toNatClampNeg + n.toNatClampNeg ≤ n1) (hR : 1 ≤ R.frames ∧ (rest.map fun v => v.category).sum + (nativeFrameWords "java/lang/System" "arraycopy" 5 + 11) ≤ R.locals) (d : decode cc pc = .ok (.invokestatic idx, 3)) (kk : ∀ (H1 : Heap) (locs1 : List Loc), WI (vC E) A s H1 locs1 (mcp σ k0 k1 sp dp n) → W p l e R s m args below meth c H1 locs1 cells slots Q (F0 m (pc + 3) ls rest)) : W p l e R s m args below meth c H locs cells slots Q (F0 m pc ls (.int n :: .int dp :: .ref (ca E k1) :: .int sp :: .ref (ca E k0) :: rest)) := r_copy (V := (vC E)) (t0 := 0) X I hl hw hk0.1 hk1.1 rfl hk0.2 hk1.2 hcp hR d kk
theorem pfC_X0_15 {E : CE} (X : CX p s m meth c args cc nL RX0 ret) (I : WI (vC E) A s H locs σ) {k : Nat} (hk : KCo0 E k) {x : Int32} (d : decode cc pc = .ok (.putfield 15, 3)) (kk : ∀ (H1 : Heap) (locs1 : List Loc), WI (vC E) A s H1 locs1 (ms σ k 1 x) → W p l e R s m args below meth c H1 locs1 cells slots Q (F0 m (pc + 3) ls rest)) : W p l e R s m args below meth c H locs cells slots Q (F0 m pc ls (.int x :: .ref (ca E k) :: rest)) := r_put (V := (vC E)) X I hk.1 (hk.2 _) rfl inGX0 tyX0 tyX0_ok nmX0 1 (by decide) tw_0 rfl rfl rfl (Nat.le_of_ble_eq_true rfl) (hk.2 _) d kk
theorem pfC_X0_19 {E : CE} (X : CX p s m meth c args cc nL RX0 ret) (I : WI (vC E) A s H locs σ) {k : Nat} (hk : KCo0 E k) {x : Int32} (d : decode cc pc = .ok (.putfield 19, 3)) (kk : ∀ (H1 : Heap) (locs1 : List Loc), WI (vC E) A s H1 locs1 (ms σ k 2 x) → W p l e R s m args below meth c H1 locs1 cells slots Q (F0 m (pc + 3) ls rest)) : W p l e R s m args below meth c H locs cells slots Q (F0 m pc ls (.int x :: .ref (ca E k) :: rest)) := r_put (V := (vC E)) X I hk.1 (hk.2 _) rfl inGX0 tyX0 tyX0_ok nmX0 2 (by decide) tw_1 rfl rfl rfl (Nat.le_of_ble_eq_true rfl) (hk.2 _) d kk
theorem gfC_X0_9 {E : CE} (X : CX p s m meth c args cc nL RX0 ret) (I : WI (vC E) A s H locs σ) {k : Nat} (hk : KCo0 E k) {k' : Nat} (hk' : k + 1 = k') (d : decode cc pc = .ok (.getfield 9, 3)) (kk : W p l e R s m args below meth c H locs cells slots Q (F0 m (pc + 3) ls (.ref (ca E k') :: rest))) : W p l e R s m args below meth c H locs cells slots Q (F0 m pc ls (.ref (ca E k) :: rest)) := by subst hk'; exact r_get (V := (vC E)) X I hk.1 (hk.2 _) rfl inGX0 0 (by decide) tw_2 rfl d kk
theorem gfC_X0_15 {E : CE} (X : CX p s m meth c args cc nL RX0 ret) (I : WI (vC E) A s H locs σ) {k : Nat} (hk : KCo0 E k) (d : decode cc pc = .ok (.getfield 15, 3)) (kk : W p l e R s m args below meth c H locs cells slots Q (F0 m (pc + 3) ls (.int (σ k 1) :: rest))) : W p l e R s m args below meth c H locs cells slots Q (F0 m pc ls (.ref (ca E k) :: rest)) := r_get (V := (vC E)) X I hk.1 (hk.2 _) rfl inGX0 1 (by decide) tw_0 rfl d kk
theorem gfC_X0_19 {E : CE} (X : CX p s m meth c args cc nL RX0 ret) (I : WI (vC E) A s H locs σ) {k : Nat} (hk : KCo0 E k) (d : decode cc pc = .ok (.getfield 19, 3)) (kk : W p l e R s m args below meth c H locs cells slots Q (F0 m (pc + 3) ls (.int (σ k 2) :: rest))) : W p l e R s m args below meth c H locs cells slots Q (F0 m pc ls (.ref (ca E k) :: rest)) := r_get (V := (vC E)) X I hk.1 (hk.2 _) rfl inGX0 2 (by decide) tw_1 rfl d kk
theorem pfC_X4_18 {E : CE} (X : CX p s m meth c args cc nL RX4 ret) (I : WI (vC E) A s H locs σ) {k : Nat} (hk : KCo4 E k) {x : Int32} (d : decode cc pc = .ok (.putfield 18, 3)) (kk : ∀ (H1 : Heap) (locs1 : List Loc), WI (vC E) A s H1 locs1 (ms σ k 2 x) → W p l e R s m args below meth c H1 locs1 cells slots Q (F0 m (pc + 3) ls rest)) : W p l e R s m args below meth c H locs cells slots Q (F0 m pc ls (.int x :: .ref (ca E k) :: rest)) := r_put (V := (vC E)) X I hk.1 (hk.2 _) rfl inGX4 tyX4 tyX4_ok nmX4 2 (by decide) tw_4 rfl rfl rfl (Nat.le_of_ble_eq_true rfl) (hk.2 _) d kk
theorem gfC_X4_18 {E : CE} (X : CX p s m meth c args cc nL RX4 ret) (I : WI (vC E) A s H locs σ) {k : Nat} (hk : KCo4 E k) (d : decode cc pc = .ok (.getfield 18, 3)) (kk : W p l e R s m args below meth c H locs cells slots Q (F0 m (pc + 3) ls (.int (σ k 2) :: rest))) : W p l e R s m args below meth c H locs cells slots Q (F0 m pc ls (.ref (ca E k) :: rest)) := r_get (V := (vC E)) X I hk.1 (hk.2 _) rfl inGX4 2 (by decide) tw_4 rfl d kk
theorem gfC_X4_9 {E : CE} (X : CX p s m meth c args cc nL RX4 ret) (I : WI (vC E) A s H locs σ) {k : Nat} (hk : KCo4 E k) {k' : Nat} (hk' : k + 1 = k') (d : decode cc pc = .ok (.getfield 9, 3)) (kk : W p l e R s m args below meth c H locs cells slots Q (F0 m (pc + 3) ls (.ref (ca E k') :: rest))) : W p l e R s m args below meth c H locs cells slots Q (F0 m pc ls (.ref (ca E k) :: rest)) := by subst hk'; exact r_get (V := (vC E)) X I hk.1 (hk.2 _) rfl inGX4 0 (by decide) tw_5 rfl d kk
theorem gfC_X4_15 {E : CE} (X : CX p s m meth c args cc nL RX4 ret) (I : WI (vC E) A s H locs σ) {k : Nat} (hk : KCo4 E k) {k' : Nat} (hk' : k + 2 = k') (d : decode cc pc = .ok (.getfield 15, 3)) (kk : W p l e R s m args below meth c H locs cells slots Q (F0 m (pc + 3) ls (.ref (ca E k') :: rest))) : W p l e R s m args below meth c H locs cells slots Q (F0 m pc ls (.ref (ca E k) :: rest)) := by subst hk'; exact r_get (V := (vC E)) X I hk.1 (hk.2 _) rfl inGX4 1 (by decide) tw_7 rfl d kk
theorem ys_X4_join : YS yX4_join cX4_join 3 (some .int) 3 := ⟨tw_9, tw_10, tw_11, by decide +kernel, by decide +kernel, by decide +kernel⟩
theorem gfC_X6_15 {E : CE} (X : CX p s m meth c args cc nL RX6 ret) (I : WI (vC E) A s H locs σ) {k : Nat} (hk : KCo6 E k) (d : decode cc pc = .ok (.getfield 15, 3)) (kk : W p l e R s m args below meth c H locs cells slots Q (F0 m (pc + 3) ls (.int (σ k 1) :: rest))) : W p l e R s m args below meth c H locs cells slots Q (F0 m pc ls (.ref (ca E k) :: rest)) := r_get (V := (vC E)) X I hk.1 (hk.2 _) rfl inGX6 1 (by decide) tw_12 rfl d kk
theorem gfC_X6_11 {E : CE} (X : CX p s m meth c args cc nL RX6 ret) (I : WI (vC E) A s H locs σ) {k : Nat} (hk : KCo6 E k) {k' : Nat} (hk' : k + 1 = k') (d : decode cc pc = .ok (.getfield 11, 3)) (kk : W p l e R s m args below meth c H locs cells slots Q (F0 m (pc + 3) ls (.ref (ca E k') :: rest))) : W p l e R s m args below meth c H locs cells slots Q (F0 m pc ls (.ref (ca E k) :: rest)) := by subst hk'; exact r_get (V := (vC E)) X I hk.1 (hk.2 _) rfl inGX6 0 (by decide) tw_13 rfl d kk
theorem pfC_X6_15 {E : CE} (X : CX p s m meth c args cc nL RX6 ret) (I : WI (vC E) A s H locs σ) {k : Nat} (hk : KCo6 E k) {x : Int32} (d : decode cc pc = .ok (.putfield 15, 3)) (kk : ∀ (H1 : Heap) (locs1 : List Loc), WI (vC E) A s H1 locs1 (ms σ k 1 x) → W p l e R s m args below meth c H1 locs1 cells slots Q (F0 m (pc + 3) ls rest)) : W p l e R s m args below meth c H locs cells slots Q (F0 m pc ls (.int x :: .ref (ca E k) :: rest)) := r_put (V := (vC E)) X I hk.1 (hk.2 _) rfl inGX6 tyX6 tyX6_ok nmX6 1 (by decide) tw_12 rfl rfl rfl (Nat.le_of_ble_eq_true rfl) (hk.2 _) d kk
theorem gfC_X8_12 {E : CE} (X : CX p s m meth c args cc nL RX8 ret) (I : WI (vC E) A s H locs σ) {k : Nat} (hk : KCo8 E k) {k' : Nat} (hk' : k + 1 = k') (d : decode cc pc = .ok (.getfield 12, 3)) (kk : W p l e R s m args below meth c H locs cells slots Q (F0 m (pc + 3) ls (.ref (ca E k') :: rest))) : W p l e R s m args below meth c H locs cells slots Q (F0 m pc ls (.ref (ca E k) :: rest)) := by subst hk'; exact r_get (V := (vC E)) X I hk.1 (hk.2 _) rfl inGX8 0 (by decide) tw_16 rfl d kk
theorem gfC_X8_42 {E : CE} (X : CX p s m meth c args cc nL RX8 ret) (I : WI (vC E) A s H locs σ) {k : Nat} (hk : KCo2 E k) (d : decode cc pc = .ok (.getfield 42, 3)) (kk : W p l e R s m args below meth c H locs cells slots Q (F0 m (pc + 3) ls (.int (σ k 0) :: rest))) : W p l e R s m args below meth c H locs cells slots Q (F0 m pc ls (.ref (ca E k) :: rest)) := r_get (V := (vC E)) X I hk.1 (hk.2 _) rfl inGX2 0 (by decide) tw_17 rfl d kk
theorem gfC_X8_62 {E : CE} (X : CX p s m meth c args cc nL RX8 ret) (I : WI (vC E) A s H locs σ) {k : Nat} (hk : KCo2 E k) {k' : Nat} (hk' : k + 1 = k') (d : decode cc pc = .ok (.getfield 62, 3)) (kk : W p l e R s m args below meth c H locs cells slots Q (F0 m (pc + 3) ls (.ref (ca E k') :: rest))) : W p l e R s m args below meth c H locs cells slots Q (F0 m pc ls (.ref (ca E k) :: rest)) := by subst hk'; exact r_get (V := (vC E)) X I hk.1 (hk.2 _) rfl inGX2 3 (by decide) tw_18 rfl d kk
theorem gfC_X8_56 {E : CE} (X : CX p s m meth c args cc nL RX8 ret) (I : WI (vC E) A s H locs σ) {k : Nat} (hk : KCo2 E k) (d : decode cc pc = .ok (.getfield 56, 3)) (kk : W p l e R s m args below meth c H locs cells slots Q (F0 m (pc + 3) ls (.int (σ k 1) :: rest))) : W p l e R s m args below meth c H locs cells slots Q (F0 m pc ls (.ref (ca E k) :: rest)) := r_get (V := (vC E)) X I hk.1 (hk.2 _) rfl inGX2 1 (by decide) tw_19 rfl d kk
theorem gfC_X8_65 {E : CE} (X : CX p s m meth c args cc nL RX8 ret) (I : WI (vC E) A s H locs σ) {k : Nat} (hk : KCo2 E k) {k' : Nat} (hk' : k + 2 = k') (d : decode cc pc = .ok (.getfield 65, 3)) (kk : W p l e R s m args below meth c H locs cells slots Q (F0 m (pc + 3) ls (.ref (ca E k') :: rest))) : W p l e R s m args below meth c H locs cells slots Q (F0 m pc ls (.ref (ca E k) :: rest)) := by subst hk'; exact r_get (V := (vC E)) X I hk.1 (hk.2 _) rfl inGX2 4 (by decide) tw_20 rfl d kk
theorem gfC_X8_68 {E : CE} (X : CX p s m meth c args cc nL RX8 ret) (I : WI (vC E) A s H locs σ) {k : Nat} (hk : KCo2 E k) (d : decode cc pc = .ok (.getfield 68, 3)) (kk : W p l e R s m args below meth c H locs cells slots Q (F0 m (pc + 3) ls (.int (σ k 2) :: rest))) : W p l e R s m args below meth c H locs cells slots Q (F0 m pc ls (.ref (ca E k) :: rest)) := r_get (V := (vC E)) X I hk.1 (hk.2 _) rfl inGX2 2 (by decide) tw_21 rfl d kk
theorem yv_X8_lifeOf : YV yX8_lifeOf cX8_lifeOf 2 (some .int) 1 := ⟨tw_23, tw_24, tw_25, tw_26, by decide +kernel, by decide +kernel, by decide +kernel⟩
theorem gfC_X8_18 {E : CE} (X : CX p s m meth c args cc nL RX8 ret) (I : WI (vC E) A s H locs σ) {k : Nat} (hk : KCo8 E k) {k' : Nat} (hk' : k + 13 = k') (d : decode cc pc = .ok (.getfield 18, 3)) (kk : W p l e R s m args below meth c H locs cells slots Q (F0 m (pc + 3) ls (.ref (ca E k') :: rest))) : W p l e R s m args below meth c H locs cells slots Q (F0 m pc ls (.ref (ca E k) :: rest)) := by subst hk'; exact r_get (V := (vC E)) X I hk.1 (hk.2 _) rfl inGX8 1 (by decide) tw_28 rfl d kk
theorem gfC_X8_25 {E : CE} (X : CX p s m meth c args cc nL RX8 ret) (I : WI (vC E) A s H locs σ) {k : Nat} (hk : KCo8 E k) {k' : Nat} (hk' : k + 15 = k') (d : decode cc pc = .ok (.getfield 25, 3)) (kk : W p l e R s m args below meth c H locs cells slots Q (F0 m (pc + 3) ls (.ref (ca E k') :: rest))) : W p l e R s m args below meth c H locs cells slots Q (F0 m pc ls (.ref (ca E k) :: rest)) := by subst hk'; exact r_get (V := (vC E)) X I hk.1 (hk.2 _) rfl inGX8 3 (by decide) tw_29 rfl d kk
theorem gfC_X8_22 {E : CE} (X : CX p s m meth c args cc nL RX8 ret) (I : WI (vC E) A s H locs σ) {k : Nat} (hk : KCo8 E k) {k' : Nat} (hk' : k + 14 = k') (d : decode cc pc = .ok (.getfield 22, 3)) (kk : W p l e R s m args below meth c H locs cells slots Q (F0 m (pc + 3) ls (.ref (ca E k') :: rest))) : W p l e R s m args below meth c H locs cells slots Q (F0 m pc ls (.ref (ca E k) :: rest)) := by subst hk'; exact r_get (V := (vC E)) X I hk.1 (hk.2 _) rfl inGX8 2 (by decide) tw_30 rfl d kk
theorem yv_X8_tellHouse : YV yX8_tellHouse cX8_tellHouse 3 none 2 := ⟨tw_32, tw_33, tw_34, tw_35, by decide +kernel, by decide +kernel, by decide +kernel⟩
theorem gfC_X8_85 {E : CE} (X : CX p s m meth c args cc nL RX8 ret) (I : WI (vC E) A s H locs σ) {k : Nat} (hk : KCo2 E k) {k' : Nat} (hk' : k + 8 = k') (d : decode cc pc = .ok (.getfield 85, 3)) (kk : W p l e R s m args below meth c H locs cells slots Q (F0 m (pc + 3) ls (.ref (ca E k') :: rest))) : W p l e R s m args below meth c H locs cells slots Q (F0 m pc ls (.ref (ca E k) :: rest)) := by subst hk'; exact r_get (V := (vC E)) X I hk.1 (hk.2 _) rfl inGX2 8 (by decide) tw_36 rfl d kk
theorem yv_X4_isTold : YV yX4_isTold cX4_isTold 1 (some .boolean) 0 := ⟨tw_38, tw_39, tw_40, tw_41, by decide +kernel, by decide +kernel, by decide +kernel⟩
theorem yv_X4_value : YV yX4_value cX4_value 5 (some .int) 1 := ⟨tw_43, tw_44, tw_45, tw_46, by decide +kernel, by decide +kernel, by decide +kernel⟩
theorem gfC_X8_110 {E : CE} (X : CX p s m meth c args cc nL RX8 ret) (I : WI (vC E) A s H locs σ) {k : Nat} (hk : KCo2 E k) {k' : Nat} (hk' : k + 5 = k') (d : decode cc pc = .ok (.getfield 110, 3)) (kk : W p l e R s m args below meth c H locs cells slots Q (F0 m (pc + 3) ls (.ref (ca E k') :: rest))) : W p l e R s m args below meth c H locs cells slots Q (F0 m pc ls (.ref (ca E k) :: rest)) := by subst hk'; exact r_get (V := (vC E)) X I hk.1 (hk.2 _) rfl inGX2 7 (by decide) tw_47 rfl d kk
theorem gfC_X8_119 {E : CE} (X : CX p s m meth c args cc nL RX8 ret) (I : WI (vC E) A s H locs σ) {k : Nat} (hk : KCo2 E k) {k' : Nat} (hk' : k + 4 = k') (d : decode cc pc = .ok (.getfield 119, 3)) (kk : W p l e R s m args below meth c H locs cells slots Q (F0 m (pc + 3) ls (.ref (ca E k') :: rest))) : W p l e R s m args below meth c H locs cells slots Q (F0 m pc ls (.ref (ca E k) :: rest)) := by subst hk'; exact r_get (V := (vC E)) X I hk.1 (hk.2 _) rfl inGX2 6 (by decide) tw_49 rfl d kk
theorem yv_X8_tellTenant : YV yX8_tellTenant cX8_tellTenant 5 none 3 := ⟨tw_51, tw_52, tw_53, tw_54, by decide +kernel, by decide +kernel, by decide +kernel⟩
theorem yv_X8_rememberOwners : YV yX8_rememberOwners cX8_rememberOwners 4 none 1 := ⟨tw_56, tw_57, tw_58, tw_59, by decide +kernel, by decide +kernel, by decide +kernel⟩
theorem yv_X8_likingOf : YV yX8_likingOf cX8_likingOf 6 (some .int) 3 := ⟨tw_61, tw_62, tw_63, tw_64, by decide +kernel, by decide +kernel, by decide +kernel⟩
theorem yv_X8_bury : YV yX8_bury cX8_bury 3 none 2 := ⟨tw_66, tw_67, tw_68, tw_69, by decide +kernel, by decide +kernel, by decide +kernel⟩
theorem yv_X8_isAsleep : YV yX8_isAsleep cX8_isAsleep 3 (some .boolean) 2 := ⟨tw_71, tw_72, tw_73, tw_74, by decide +kernel, by decide +kernel, by decide +kernel⟩
theorem yv_X8_rentOf : YV yX8_rentOf cX8_rentOf 5 (some .int) 2 := ⟨tw_76, tw_77, tw_78, tw_79, by decide +kernel, by decide +kernel, by decide +kernel⟩
theorem gfC_X8_125 {E : CE} (X : CX p s m meth c args cc nL RX8 ret) (I : WI (vC E) A s H locs σ) {k : Nat} (hk : KCo2 E k) {k' : Nat} (hk' : k + 3 = k') (d : decode cc pc = .ok (.getfield 125, 3)) (kk : W p l e R s m args below meth c H locs cells slots Q (F0 m (pc + 3) ls (.ref (ca E k') :: rest))) : W p l e R s m args below meth c H locs cells slots Q (F0 m pc ls (.ref (ca E k) :: rest)) := by subst hk'; exact r_get (V := (vC E)) X I hk.1 (hk.2 _) rfl inGX2 5 (by decide) tw_80 rfl d kk
theorem gfC_X8_28 {E : CE} (X : CX p s m meth c args cc nL RX8 ret) (I : WI (vC E) A s H locs σ) {k : Nat} (hk : KCo8 E k) (d : decode cc pc = .ok (.getfield 28, 3)) (kk : W p l e R s m args below meth c H locs cells slots Q (F0 m (pc + 3) ls (.int (σ k 4) :: rest))) : W p l e R s m args below meth c H locs cells slots Q (F0 m pc ls (.ref (ca E k) :: rest)) := r_get (V := (vC E)) X I hk.1 (hk.2 _) rfl inGX8 4 (by decide) tw_81 rfl d kk
theorem pfC_X8_28 {E : CE} (X : CX p s m meth c args cc nL RX8 ret) (I : WI (vC E) A s H locs σ) {k : Nat} (hk : KCo8 E k) {x : Int32} (d : decode cc pc = .ok (.putfield 28, 3)) (kk : ∀ (H1 : Heap) (locs1 : List Loc), WI (vC E) A s H1 locs1 (ms σ k 4 x) → W p l e R s m args below meth c H1 locs1 cells slots Q (F0 m (pc + 3) ls rest)) : W p l e R s m args below meth c H locs cells slots Q (F0 m pc ls (.int x :: .ref (ca E k) :: rest)) := r_put (V := (vC E)) X I hk.1 (hk.2 _) rfl inGX8 tyX8 tyX8_ok nmX8 4 (by decide) tw_81 rfl rfl rfl (Nat.le_of_ble_eq_true rfl) (hk.2 _) d kk
theorem yv_X8_draw : YV yX8_draw cX8_draw 2 (some .int) 1 := ⟨tw_84, tw_85, tw_86, tw_87, by decide +kernel, by decide +kernel, by decide +kernel⟩
theorem yv_X8_growOld : YV yX8_growOld cX8_growOld 3 none 1 := ⟨tw_89, tw_90, tw_91, tw_92, by decide +kernel, by decide +kernel, by decide +kernel⟩
theorem yv_X8_pay : YV yX8_pay cX8_pay 3 none 1 := ⟨tw_94, tw_95, tw_96, tw_97, by decide +kernel, by decide +kernel, by decide +kernel⟩
theorem yv_X8_sitsBy : YV yX8_sitsBy cX8_sitsBy 7 (some .int) 2 := ⟨tw_99, tw_100, tw_101, tw_102, by decide +kernel, by decide +kernel, by decide +kernel⟩
theorem yv_X8_settle : YV yX8_settle cX8_settle 4 none 3 := ⟨tw_104, tw_105, tw_106, tw_107, by decide +kernel, by decide +kernel, by decide +kernel⟩
theorem yv_X8_passQuarter : YV yX8_passQuarter cX8_passQuarter 3 none 1 := ⟨tw_109, tw_110, tw_111, tw_112, by decide +kernel, by decide +kernel, by decide +kernel⟩
theorem yv_X8_disturb : YV yX8_disturb cX8_disturb 4 none 1 := ⟨tw_114, tw_115, tw_116, tw_117, by decide +kernel, by decide +kernel, by decide +kernel⟩
theorem pfC_X7_25 {E : CE} (X : CX p s m meth c args cc nL RX7 ret) (I : WI (vC E) A s H locs σ) {k : Nat} (hk : KCo7 E k) {x : Int32} (d : decode cc pc = .ok (.putfield 25, 3)) (kk : ∀ (H1 : Heap) (locs1 : List Loc), WI (vC E) A s H1 locs1 (ms σ k 4 x) → W p l e R s m args below meth c H1 locs1 cells slots Q (F0 m (pc + 3) ls rest)) : W p l e R s m args below meth c H locs cells slots Q (F0 m pc ls (.int x :: .ref (ca E k) :: rest)) := r_put (V := (vC E)) X I hk.1 (hk.2 _) rfl inGX7 tyX7 tyX7_ok nmX7 4 (by decide) tw_121 rfl rfl rfl (Nat.le_of_ble_eq_true rfl) (hk.2 _) d kk
theorem pfC_X7_21 {E : CE} (X : CX p s m meth c args cc nL RX7 ret) (I : WI (vC E) A s H locs σ) {k : Nat} (hk : KCo7 E k) {x : Int32} (d : decode cc pc = .ok (.putfield 21, 3)) (kk : ∀ (H1 : Heap) (locs1 : List Loc), WI (vC E) A s H1 locs1 (ms σ k 3 x) → W p l e R s m args below meth c H1 locs1 cells slots Q (F0 m (pc + 3) ls rest)) : W p l e R s m args below meth c H locs cells slots Q (F0 m pc ls (.int x :: .ref (ca E k) :: rest)) := r_put (V := (vC E)) X I hk.1 (hk.2 _) rfl inGX7 tyX7 tyX7_ok nmX7 3 (by decide) tw_122 rfl rfl rfl (Nat.le_of_ble_eq_true rfl) (hk.2 _) d kk
theorem pfC_X7_28 {E : CE} (X : CX p s m meth c args cc nL RX7 ret) (I : WI (vC E) A s H locs σ) {k : Nat} (hk : KCo7 E k) {x : Int32} (d : decode cc pc = .ok (.putfield 28, 3)) (kk : ∀ (H1 : Heap) (locs1 : List Loc), WI (vC E) A s H1 locs1 (ms σ k 5 x) → W p l e R s m args below meth c H1 locs1 cells slots Q (F0 m (pc + 3) ls rest)) : W p l e R s m args below meth c H locs cells slots Q (F0 m pc ls (.int x :: .ref (ca E k) :: rest)) := r_put (V := (vC E)) X I hk.1 (hk.2 _) rfl inGX7 tyX7 tyX7_ok nmX7 5 (by decide) tw_123 rfl rfl rfl (Nat.le_of_ble_eq_true rfl) (hk.2 _) d kk
theorem gfC_X7_9 {E : CE} (X : CX p s m meth c args cc nL RX7 ret) (I : WI (vC E) A s H locs σ) {k : Nat} (hk : KCo7 E k) {k' : Nat} (hk' : k + 1 = k') (d : decode cc pc = .ok (.getfield 9, 3)) (kk : W p l e R s m args below meth c H locs cells slots Q (F0 m (pc + 3) ls (.ref (ca E k') :: rest))) : W p l e R s m args below meth c H locs cells slots Q (F0 m pc ls (.ref (ca E k) :: rest)) := by subst hk'; exact r_get (V := (vC E)) X I hk.1 (hk.2 _) rfl inGX7 0 (by decide) tw_124 rfl d kk
theorem ys_J6_bitCount_0f7a4 : YS yJ6_bitCount_0f7a4 cJ6_bitCount_0f7a4 1 (some .int) 1 := ⟨tw_126, tw_127, tw_128, by decide +kernel, by decide +kernel, by decide +kernel⟩
theorem gfC_X7_28 {E : CE} (X : CX p s m meth c args cc nL RX7 ret) (I : WI (vC E) A s H locs σ) {k : Nat} (hk : KCo7 E k) (d : decode cc pc = .ok (.getfield 28, 3)) (kk : W p l e R s m args below meth c H locs cells slots Q (F0 m (pc + 3) ls (.int (σ k 5) :: rest))) : W p l e R s m args below meth c H locs cells slots Q (F0 m pc ls (.ref (ca E k) :: rest)) := r_get (V := (vC E)) X I hk.1 (hk.2 _) rfl inGX7 5 (by decide) tw_123 rfl d kk
theorem gfC_X7_15 {E : CE} (X : CX p s m meth c args cc nL RX7 ret) (I : WI (vC E) A s H locs σ) {k : Nat} (hk : KCo7 E k) {k' : Nat} (hk' : k + 2 = k') (d : decode cc pc = .ok (.getfield 15, 3)) (kk : W p l e R s m args below meth c H locs cells slots Q (F0 m (pc + 3) ls (.ref (ca E k') :: rest))) : W p l e R s m args below meth c H locs cells slots Q (F0 m pc ls (.ref (ca E k) :: rest)) := by subst hk'; exact r_get (V := (vC E)) X I hk.1 (hk.2 _) rfl inGX7 1 (by decide) tw_129 rfl d kk
theorem gfC_X7_18 {E : CE} (X : CX p s m meth c args cc nL RX7 ret) (I : WI (vC E) A s H locs σ) {k : Nat} (hk : KCo7 E k) {k' : Nat} (hk' : k + 3 = k') (d : decode cc pc = .ok (.getfield 18, 3)) (kk : W p l e R s m args below meth c H locs cells slots Q (F0 m (pc + 3) ls (.ref (ca E k') :: rest))) : W p l e R s m args below meth c H locs cells slots Q (F0 m pc ls (.ref (ca E k) :: rest)) := by subst hk'; exact r_get (V := (vC E)) X I hk.1 (hk.2 _) rfl inGX7 2 (by decide) tw_130 rfl d kk
theorem gfC_X7_25 {E : CE} (X : CX p s m meth c args cc nL RX7 ret) (I : WI (vC E) A s H locs σ) {k : Nat} (hk : KCo7 E k) (d : decode cc pc = .ok (.getfield 25, 3)) (kk : W p l e R s m args below meth c H locs cells slots Q (F0 m (pc + 3) ls (.int (σ k 4) :: rest))) : W p l e R s m args below meth c H locs cells slots Q (F0 m pc ls (.ref (ca E k) :: rest)) := r_get (V := (vC E)) X I hk.1 (hk.2 _) rfl inGX7 4 (by decide) tw_121 rfl d kk
theorem gfC_X7_21 {E : CE} (X : CX p s m meth c args cc nL RX7 ret) (I : WI (vC E) A s H locs σ) {k : Nat} (hk : KCo7 E k) (d : decode cc pc = .ok (.getfield 21, 3)) (kk : W p l e R s m args below meth c H locs cells slots Q (F0 m (pc + 3) ls (.int (σ k 3) :: rest))) : W p l e R s m args below meth c H locs cells slots Q (F0 m pc ls (.ref (ca E k) :: rest)) := r_get (V := (vC E)) X I hk.1 (hk.2 _) rfl inGX7 3 (by decide) tw_122 rfl d kk
theorem yv_X7_worthOf : YV yX7_worthOf cX7_worthOf 6 (some .int) 2 := ⟨tw_133, tw_134, tw_135, tw_136, by decide +kernel, by decide +kernel, by decide +kernel⟩
theorem yv_X7_bestOf : YV yX7_bestOf cX7_bestOf 7 (some .int) 2 := ⟨tw_138, tw_139, tw_140, tw_141, by decide +kernel, by decide +kernel, by decide +kernel⟩
theorem yv_X7_leastPart : YV yX7_leastPart cX7_leastPart 6 (some .int) 2 := ⟨tw_143, tw_144, tw_145, tw_146, by decide +kernel, by decide +kernel, by decide +kernel⟩
theorem pfC_X2_9 {E : CE} (X : CX p s m meth c args cc nL RX2 ret) (I : WI (vC E) A s H locs σ) {k : Nat} (hk : KCo2 E k) {x : Int32} (d : decode cc pc = .ok (.putfield 9, 3)) (kk : ∀ (H1 : Heap) (locs1 : List Loc), WI (vC E) A s H1 locs1 (ms σ k 0 x) → W p l e R s m args below meth c H1 locs1 cells slots Q (F0 m (pc + 3) ls rest)) : W p l e R s m args below meth c H locs cells slots Q (F0 m pc ls (.int x :: .ref (ca E k) :: rest)) := r_put (V := (vC E)) X I hk.1 (hk.2 _) rfl inGX2 tyX2 tyX2_ok nmX2 0 (by decide) tw_147 rfl rfl rfl (Nat.le_of_ble_eq_true rfl) (hk.2 _) d kk
theorem pfC_X2_15 {E : CE} (X : CX p s m meth c args cc nL RX2 ret) (I : WI (vC E) A s H locs σ) {k : Nat} (hk : KCo2 E k) {x : Int32} (d : decode cc pc = .ok (.putfield 15, 3)) (kk : ∀ (H1 : Heap) (locs1 : List Loc), WI (vC E) A s H1 locs1 (ms σ k 1 x) → W p l e R s m args below meth c H1 locs1 cells slots Q (F0 m (pc + 3) ls rest)) : W p l e R s m args below meth c H locs cells slots Q (F0 m pc ls (.int x :: .ref (ca E k) :: rest)) := r_put (V := (vC E)) X I hk.1 (hk.2 _) rfl inGX2 tyX2 tyX2_ok nmX2 1 (by decide) tw_148 rfl rfl rfl (Nat.le_of_ble_eq_true rfl) (hk.2 _) d kk
theorem pfC_X2_18 {E : CE} (X : CX p s m meth c args cc nL RX2 ret) (I : WI (vC E) A s H locs σ) {k : Nat} (hk : KCo2 E k) {x : Int32} (d : decode cc pc = .ok (.putfield 18, 3)) (kk : ∀ (H1 : Heap) (locs1 : List Loc), WI (vC E) A s H1 locs1 (ms σ k 2 x) → W p l e R s m args below meth c H1 locs1 cells slots Q (F0 m (pc + 3) ls rest)) : W p l e R s m args below meth c H locs cells slots Q (F0 m pc ls (.int x :: .ref (ca E k) :: rest)) := r_put (V := (vC E)) X I hk.1 (hk.2 _) rfl inGX2 tyX2 tyX2_ok nmX2 2 (by decide) tw_149 rfl rfl rfl (Nat.le_of_ble_eq_true rfl) (hk.2 _) d kk
theorem gfC_X2_37 {E : CE} (X : CX p s m meth c args cc nL RX2 ret) (I : WI (vC E) A s H locs σ) {k : Nat} (hk : KCo2 E k) {k' : Nat} (hk' : k + 5 = k') (d : decode cc pc = .ok (.getfield 37, 3)) (kk : W p l e R s m args below meth c H locs cells slots Q (F0 m (pc + 3) ls (.ref (ca E k') :: rest))) : W p l e R s m args below meth c H locs cells slots Q (F0 m pc ls (.ref (ca E k) :: rest)) := by subst hk'; exact r_get (V := (vC E)) X I hk.1 (hk.2 _) rfl inGX2 7 (by decide) tw_150 rfl d kk
theorem yv_X4_clear : YV yX4_clear cX4_clear 1 none 0 := ⟨tw_152, tw_153, tw_154, tw_155, by decide +kernel, by decide +kernel, by decide +kernel⟩
theorem gfC_X2_41 {E : CE} (X : CX p s m meth c args cc nL RX2 ret) (I : WI (vC E) A s H locs σ) {k : Nat} (hk : KCo2 E k) {k' : Nat} (hk' : k + 8 = k') (d : decode cc pc = .ok (.getfield 41, 3)) (kk : W p l e R s m args below meth c H locs cells slots Q (F0 m (pc + 3) ls (.ref (ca E k') :: rest))) : W p l e R s m args below meth c H locs cells slots Q (F0 m pc ls (.ref (ca E k) :: rest)) := by subst hk'; exact r_get (V := (vC E)) X I hk.1 (hk.2 _) rfl inGX2 8 (by decide) tw_156 rfl d kk
theorem gfC_X2_44 {E : CE} (X : CX p s m meth c args cc nL RX2 ret) (I : WI (vC E) A s H locs σ) {k : Nat} (hk : KCo2 E k) {k' : Nat} (hk' : k + 11 = k') (d : decode cc pc = .ok (.getfield 44, 3)) (kk : W p l e R s m args below meth c H locs cells slots Q (F0 m (pc + 3) ls (.ref (ca E k') :: rest))) : W p l e R s m args below meth c H locs cells slots Q (F0 m pc ls (.ref (ca E k) :: rest)) := by subst hk'; exact r_get (V := (vC E)) X I hk.1 (hk.2 _) rfl inGX2 9 (by decide) tw_157 rfl d kk
theorem gfC_X2_9 {E : CE} (X : CX p s m meth c args cc nL RX2 ret) (I : WI (vC E) A s H locs σ) {k : Nat} (hk : KCo2 E k) (d : decode cc pc = .ok (.getfield 9, 3)) (kk : W p l e R s m args below meth c H locs cells slots Q (F0 m (pc + 3) ls (.int (σ k 0) :: rest))) : W p l e R s m args below meth c H locs cells slots Q (F0 m pc ls (.ref (ca E k) :: rest)) := r_get (V := (vC E)) X I hk.1 (hk.2 _) rfl inGX2 0 (by decide) tw_147 rfl d kk
theorem gfC_X2_15 {E : CE} (X : CX p s m meth c args cc nL RX2 ret) (I : WI (vC E) A s H locs σ) {k : Nat} (hk : KCo2 E k) (d : decode cc pc = .ok (.getfield 15, 3)) (kk : W p l e R s m args below meth c H locs cells slots Q (F0 m (pc + 3) ls (.int (σ k 1) :: rest))) : W p l e R s m args below meth c H locs cells slots Q (F0 m pc ls (.ref (ca E k) :: rest)) := r_get (V := (vC E)) X I hk.1 (hk.2 _) rfl inGX2 1 (by decide) tw_148 rfl d kk
theorem gfC_X2_18 {E : CE} (X : CX p s m meth c args cc nL RX2 ret) (I : WI (vC E) A s H locs σ) {k : Nat} (hk : KCo2 E k) (d : decode cc pc = .ok (.getfield 18, 3)) (kk : W p l e R s m args below meth c H locs cells slots Q (F0 m (pc + 3) ls (.int (σ k 2) :: rest))) : W p l e R s m args below meth c H locs cells slots Q (F0 m pc ls (.ref (ca E k) :: rest)) := r_get (V := (vC E)) X I hk.1 (hk.2 _) rfl inGX2 2 (by decide) tw_149 rfl d kk
theorem gfC_X2_21 {E : CE} (X : CX p s m meth c args cc nL RX2 ret) (I : WI (vC E) A s H locs σ) {k : Nat} (hk : KCo2 E k) {k' : Nat} (hk' : k + 1 = k') (d : decode cc pc = .ok (.getfield 21, 3)) (kk : W p l e R s m args below meth c H locs cells slots Q (F0 m (pc + 3) ls (.ref (ca E k') :: rest))) : W p l e R s m args below meth c H locs cells slots Q (F0 m pc ls (.ref (ca E k) :: rest)) := by subst hk'; exact r_get (V := (vC E)) X I hk.1 (hk.2 _) rfl inGX2 3 (by decide) tw_158 rfl d kk
theorem gfC_X2_25 {E : CE} (X : CX p s m meth c args cc nL RX2 ret) (I : WI (vC E) A s H locs σ) {k : Nat} (hk : KCo2 E k) {k' : Nat} (hk' : k + 2 = k') (d : decode cc pc = .ok (.getfield 25, 3)) (kk : W p l e R s m args below meth c H locs cells slots Q (F0 m (pc + 3) ls (.ref (ca E k') :: rest))) : W p l e R s m args below meth c H locs cells slots Q (F0 m pc ls (.ref (ca E k) :: rest)) := by subst hk'; exact r_get (V := (vC E)) X I hk.1 (hk.2 _) rfl inGX2 4 (by decide) tw_160 rfl d kk
theorem gfC_X2_28 {E : CE} (X : CX p s m meth c args cc nL RX2 ret) (I : WI (vC E) A s H locs σ) {k : Nat} (hk : KCo2 E k) {k' : Nat} (hk' : k + 3 = k') (d : decode cc pc = .ok (.getfield 28, 3)) (kk : W p l e R s m args below meth c H locs cells slots Q (F0 m (pc + 3) ls (.ref (ca E k') :: rest))) : W p l e R s m args below meth c H locs cells slots Q (F0 m pc ls (.ref (ca E k) :: rest)) := by subst hk'; exact r_get (V := (vC E)) X I hk.1 (hk.2 _) rfl inGX2 5 (by decide) tw_161 rfl d kk
theorem gfC_X2_31 {E : CE} (X : CX p s m meth c args cc nL RX2 ret) (I : WI (vC E) A s H locs σ) {k : Nat} (hk : KCo2 E k) {k' : Nat} (hk' : k + 4 = k') (d : decode cc pc = .ok (.getfield 31, 3)) (kk : W p l e R s m args below meth c H locs cells slots Q (F0 m (pc + 3) ls (.ref (ca E k') :: rest))) : W p l e R s m args below meth c H locs cells slots Q (F0 m pc ls (.ref (ca E k) :: rest)) := by subst hk'; exact r_get (V := (vC E)) X I hk.1 (hk.2 _) rfl inGX2 6 (by decide) tw_162 rfl d kk
theorem yv_X4_copyFrom : YV yX4_copyFrom cX4_copyFrom 2 none 1 := ⟨tw_164, tw_165, tw_166, tw_167, by decide +kernel, by decide +kernel, by decide +kernel⟩
theorem gfC_X1_9 {E : CE} (X : CX p s m meth c args cc nL RX1 ret) (I : WI (vC E) A s H locs σ) {k : Nat} (hk : KCo1 E k) {k' : Nat} (hk' : k + 1 = k') (d : decode cc pc = .ok (.getfield 9, 3)) (kk : W p l e R s m args below meth c H locs cells slots Q (F0 m (pc + 3) ls (.ref (ca E k') :: rest))) : W p l e R s m args below meth c H locs cells slots Q (F0 m pc ls (.ref (ca E k) :: rest)) := by subst hk'; exact r_get (V := (vC E)) X I hk.1 (hk.2 _) rfl inGX1 0 (by decide) tw_168 rfl d kk
theorem gfC_X1_18 {E : CE} (X : CX p s m meth c args cc nL RX1 ret) (I : WI (vC E) A s H locs σ) {k : Nat} (hk : KCo1 E k) {k' : Nat} (hk' : k + 2 = k') (d : decode cc pc = .ok (.getfield 18, 3)) (kk : W p l e R s m args below meth c H locs cells slots Q (F0 m (pc + 3) ls (.ref (ca E k') :: rest))) : W p l e R s m args below meth c H locs cells slots Q (F0 m pc ls (.ref (ca E k) :: rest)) := by subst hk'; exact r_get (V := (vC E)) X I hk.1 (hk.2 _) rfl inGX1 1 (by decide) tw_170 rfl d kk
theorem yv_X0_clear : YV yX0_clear cX0_clear 1 none 0 := ⟨tw_172, tw_173, tw_174, tw_175, by decide +kernel, by decide +kernel, by decide +kernel⟩
theorem gfC_X1_25 {E : CE} (X : CX p s m meth c args cc nL RX1 ret) (I : WI (vC E) A s H locs σ) {k : Nat} (hk : KCo1 E k) {k' : Nat} (hk' : k + 4 = k') (d : decode cc pc = .ok (.getfield 25, 3)) (kk : W p l e R s m args below meth c H locs cells slots Q (F0 m (pc + 3) ls (.ref (ca E k') :: rest))) : W p l e R s m args below meth c H locs cells slots Q (F0 m pc ls (.ref (ca E k) :: rest)) := by subst hk'; exact r_get (V := (vC E)) X I hk.1 (hk.2 _) rfl inGX1 2 (by decide) tw_176 rfl d kk
theorem pfC_X1_41 {E : CE} (X : CX p s m meth c args cc nL RX1 ret) (I : WI (vC E) A s H locs σ) {k : Nat} (hk : KCo6 E k) {x : Int32} (d : decode cc pc = .ok (.putfield 41, 3)) (kk : ∀ (H1 : Heap) (locs1 : List Loc), WI (vC E) A s H1 locs1 (ms σ k 1 x) → W p l e R s m args below meth c H1 locs1 cells slots Q (F0 m (pc + 3) ls rest)) : W p l e R s m args below meth c H locs cells slots Q (F0 m pc ls (.int x :: .ref (ca E k) :: rest)) := r_put (V := (vC E)) X I hk.1 (hk.2 _) rfl inGX6 tyX6 tyX6_ok nmX6 1 (by decide) tw_177 rfl rfl rfl (Nat.le_of_ble_eq_true rfl) (hk.2 _) d kk
theorem gfC_X1_29 {E : CE} (X : CX p s m meth c args cc nL RX1 ret) (I : WI (vC E) A s H locs σ) {k : Nat} (hk : KCo1 E k) {k' : Nat} (hk' : k + 6 = k') (d : decode cc pc = .ok (.getfield 29, 3)) (kk : W p l e R s m args below meth c H locs cells slots Q (F0 m (pc + 3) ls (.ref (ca E k') :: rest))) : W p l e R s m args below meth c H locs cells slots Q (F0 m pc ls (.ref (ca E k) :: rest)) := by subst hk'; exact r_get (V := (vC E)) X I hk.1 (hk.2 _) rfl inGX1 3 (by decide) tw_178 rfl d kk
theorem yv_X0_add : YV yX0_add cX0_add 2 none 1 := ⟨tw_180, tw_181, tw_182, tw_183, by decide +kernel, by decide +kernel, by decide +kernel⟩
theorem yv_X1_beginAct : YV yX1_beginAct cX1_beginAct 1 none 0 := ⟨tw_185, tw_186, tw_187, tw_188, by decide +kernel, by decide +kernel, by decide +kernel⟩
theorem yv_X0_copyFrom : YV yX0_copyFrom cX0_copyFrom 2 none 1 := ⟨tw_190, tw_191, tw_192, tw_193, by decide +kernel, by decide +kernel, by decide +kernel⟩
theorem yv_X6_copyFrom : YV yX6_copyFrom cX6_copyFrom 2 none 1 := ⟨tw_195, tw_196, tw_197, tw_198, by decide +kernel, by decide +kernel, by decide +kernel⟩
end RWC

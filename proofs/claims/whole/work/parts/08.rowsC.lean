/-! the class' world: 59 cells -/
abbrev CE : Type := va_G × (Nat → Nat) × ClassId × ClassId
def ca (E : CE) (k : Nat) : Nat := E.2.1 k
def cellC (E : CE) (k : Nat) (r : Nat → Int32) : va_E := match k with
  | 0 => .inr (10, [.ref (ca E 1), .ref (ca E 3), .ref (ca E 22), .ref (ca E 23), .ref (ca E 38), .ref (ca E 42), .ref (ca E 49), .int (r 7), .int (r 8), .ref (ca E 56), .ref (ca E 57), .ref (ca E 58)])
  | 1 => .inr (3, [.ref (ca E 2), .ref (ca E 3), .ref (ca E 9), .ref (ca E 21), .int (r 4)])
  | 2 => .inr (5, [.ref (ca E 3), .ref (ca E 5), .ref (ca E 8), .int (r 3), .int (r 4), .int (r 5), .int (r 6), .int (r 7), .int (r 8), .int (r 9)])
  | 3 => .inr (9, [.ref (ca E 4), .int (r 1), .int (r 2), .int (r 3), .int (r 4), .int (r 5), .int (r 6)])
  | 4 => .inl (E.2.2.2, 700, .inl r)
  | 5 => .inr (4, [.ref (ca E 6), .ref (ca E 7), .int (r 2)])
  | 6 => .inl (E.2.2.1, 700, .inl r)
  | 7 => .inl (E.2.2.1, 64, .inl r)
  | 8 => .inl (E.2.2.1, 128, .inl r)
  | 9 => .inr (2, [.int (r 0), .int (r 1), .int (r 2), .ref (ca E 10), .ref (ca E 11), .ref (ca E 12), .ref (ca E 13), .ref (ca E 14), .ref (ca E 17), .ref (ca E 20)])
  | 10 => .inl (E.2.2.1, 8, .inl r)
  | 11 => .inl (E.2.2.1, 8, .inl r)
  | 12 => .inl (E.2.2.1, 7, .inl r)
  | 13 => .inl (E.2.2.1, 7, .inl r)
  | 14 => .inr (4, [.ref (ca E 15), .ref (ca E 16), .int (r 2)])
  | 15 => .inl (E.2.2.1, 700, .inl r)
  | 16 => .inl (E.2.2.1, 64, .inl r)
  | 17 => .inr (4, [.ref (ca E 18), .ref (ca E 19), .int (r 2)])
  | 18 => .inl (E.2.2.1, 700, .inl r)
  | 19 => .inl (E.2.2.1, 64, .inl r)
  | 20 => .inl (E.2.2.1, 64, .inl r)
  | 21 => .inl (E.2.2.1, 4, .inl r)
  | 22 => .inr (8, [.ref (ca E 23), .ref (ca E 35), .ref (ca E 36), .ref (ca E 37), .int (r 4)])
  | 23 => .inr (2, [.int (r 0), .int (r 1), .int (r 2), .ref (ca E 24), .ref (ca E 25), .ref (ca E 26), .ref (ca E 27), .ref (ca E 28), .ref (ca E 31), .ref (ca E 34)])
  | 24 => .inl (E.2.2.1, 8, .inl r)
  | 25 => .inl (E.2.2.1, 8, .inl r)
  | 26 => .inl (E.2.2.1, 7, .inl r)
  | 27 => .inl (E.2.2.1, 7, .inl r)
  | 28 => .inr (4, [.ref (ca E 29), .ref (ca E 30), .int (r 2)])
  | 29 => .inl (E.2.2.1, 700, .inl r)
  | 30 => .inl (E.2.2.1, 64, .inl r)
  | 31 => .inr (4, [.ref (ca E 32), .ref (ca E 33), .int (r 2)])
  | 32 => .inl (E.2.2.1, 700, .inl r)
  | 33 => .inl (E.2.2.1, 64, .inl r)
  | 34 => .inl (E.2.2.1, 64, .inl r)
  | 35 => .inl (E.2.2.1, 10, .inl r)
  | 36 => .inl (E.2.2.1, 8, .inl r)
  | 37 => .inl (E.2.2.1, 7, .inl r)
  | 38 => .inr (7, [.ref (ca E 39), .ref (ca E 40), .ref (ca E 41), .int (r 3), .int (r 4), .int (r 5)])
  | 39 => .inl (E.2.2.1, 56, .inl r)
  | 40 => .inl (E.2.2.1, 256, .inl r)
  | 41 => .inl (E.2.2.1, 2048, .inl r)
  | 42 => .inr (1, [.ref (ca E 43), .ref (ca E 44), .ref (ca E 46), .ref (ca E 48)])
  | 43 => .inl (E.2.2.1, 64, .inl r)
  | 44 => .inr (0, [.ref (ca E 45), .int (r 1), .int (r 2)])
  | 45 => .inl (E.2.2.1, 2560, .inl r)
  | 46 => .inr (6, [.ref (ca E 47), .int (r 1)])
  | 47 => .inl (E.2.2.1, 32, .inl r)
  | 48 => .inl (E.2.2.1, 3, .inl r)
  | 49 => .inr (1, [.ref (ca E 50), .ref (ca E 51), .ref (ca E 53), .ref (ca E 55)])
  | 50 => .inl (E.2.2.1, 64, .inl r)
  | 51 => .inr (0, [.ref (ca E 52), .int (r 1), .int (r 2)])
  | 52 => .inl (E.2.2.1, 2560, .inl r)
  | 53 => .inr (6, [.ref (ca E 54), .int (r 1)])
  | 54 => .inl (E.2.2.1, 32, .inl r)
  | 55 => .inl (E.2.2.1, 3, .inl r)
  | 56 => .inl (E.2.2.1, 64, .inl r)
  | 57 => .inl (E.2.2.1, 8, .inl r)
  | _ => .inl (E.2.2.1, 8, .inl r)
def vC (E : CE) : WV := (E.1, [(E.2.2.1, .int), (E.2.2.2, .byte)], cellC E, ca E, 59)
def KCo0 (E : CE) (k : Nat) : Prop := k < 59 ∧ ∀ r, cellC E k r = .inr (0, [.ref (ca E (k + 1)), .int (r 1), .int (r 2)])
def KCo1 (E : CE) (k : Nat) : Prop := k < 59 ∧ ∀ r, cellC E k r = .inr (1, [.ref (ca E (k + 1)), .ref (ca E (k + 2)), .ref (ca E (k + 4)), .ref (ca E (k + 6))])
def KCo2 (E : CE) (k : Nat) : Prop := k < 59 ∧ ∀ r, cellC E k r = .inr (2, [.int (r 0), .int (r 1), .int (r 2), .ref (ca E (k + 1)), .ref (ca E (k + 2)), .ref (ca E (k + 3)), .ref (ca E (k + 4)), .ref (ca E (k + 5)), .ref (ca E (k + 8)), .ref (ca E (k + 11))])
def KCo3 (E : CE) (k : Nat) : Prop := k < 59 ∧ ∀ r, cellC E k r = .inr (3, [.ref (ca E (k + 1)), .ref (ca E (k + 2)), .ref (ca E (k + 8)), .ref (ca E (k + 20)), .int (r 4)])
def KCo4 (E : CE) (k : Nat) : Prop := k < 59 ∧ ∀ r, cellC E k r = .inr (4, [.ref (ca E (k + 1)), .ref (ca E (k + 2)), .int (r 2)])
def KCo5 (E : CE) (k : Nat) : Prop := k < 59 ∧ ∀ r, cellC E k r = .inr (5, [.ref (ca E (k + 1)), .ref (ca E (k + 3)), .ref (ca E (k + 6)), .int (r 3), .int (r 4), .int (r 5), .int (r 6), .int (r 7), .int (r 8), .int (r 9)])
def KCo6 (E : CE) (k : Nat) : Prop := k < 59 ∧ ∀ r, cellC E k r = .inr (6, [.ref (ca E (k + 1)), .int (r 1)])
def KCo7 (E : CE) (k : Nat) : Prop := k < 59 ∧ ∀ r, cellC E k r = .inr (7, [.ref (ca E (k + 1)), .ref (ca E (k + 2)), .ref (ca E (k + 3)), .int (r 3), .int (r 4), .int (r 5)])
def KCo8 (E : CE) (k : Nat) : Prop := k < 59 ∧ ∀ r, cellC E k r = .inr (8, [.ref (ca E (k + 1)), .ref (ca E (k + 13)), .ref (ca E (k + 14)), .ref (ca E (k + 15)), .int (r 4)])
def KCo9 (E : CE) (k : Nat) : Prop := k < 59 ∧ ∀ r, cellC E k r = .inr (9, [.ref (ca E (k + 1)), .int (r 1), .int (r 2), .int (r 3), .int (r 4), .int (r 5), .int (r 6)])
def KCo10 (E : CE) (k : Nat) : Prop := k < 59 ∧ ∀ r, cellC E k r = .inr (10, [.ref (ca E (k + 1)), .ref (ca E (k + 3)), .ref (ca E (k + 22)), .ref (ca E (k + 23)), .ref (ca E (k + 38)), .ref (ca E (k + 42)), .ref (ca E (k + 49)), .int (r 7), .int (r 8), .ref (ca E (k + 56)), .ref (ca E (k + 57)), .ref (ca E (k + 58))])
def KCaI (E : CE) (k n : Nat) : Prop := k < 59 ∧ ∀ r, cellC E k r = .inl (E.2.2.1, n, .inl r)
def KCaB (E : CE) (k n : Nat) : Prop := k < 59 ∧ ∀ r, cellC E k r = .inl (E.2.2.2, n, .inl r)
theorem kC_0 (E : CE) : KCo10 E 0 := ⟨by decide, fun _ => rfl⟩
theorem kC_1 (E : CE) : KCo3 E 1 := ⟨by decide, fun _ => rfl⟩
theorem kC_2 (E : CE) : KCo5 E 2 := ⟨by decide, fun _ => rfl⟩
theorem kC_3 (E : CE) : KCo9 E 3 := ⟨by decide, fun _ => rfl⟩
theorem kC_4 (E : CE) : KCaB E 4 700 := ⟨by decide, fun _ => rfl⟩
theorem kC_5 (E : CE) : KCo4 E 5 := ⟨by decide, fun _ => rfl⟩
theorem kC_6 (E : CE) : KCaI E 6 700 := ⟨by decide, fun _ => rfl⟩
theorem kC_7 (E : CE) : KCaI E 7 64 := ⟨by decide, fun _ => rfl⟩
theorem kC_8 (E : CE) : KCaI E 8 128 := ⟨by decide, fun _ => rfl⟩
theorem kC_9 (E : CE) : KCo2 E 9 := ⟨by decide, fun _ => rfl⟩
theorem kC_10 (E : CE) : KCaI E 10 8 := ⟨by decide, fun _ => rfl⟩
theorem kC_11 (E : CE) : KCaI E 11 8 := ⟨by decide, fun _ => rfl⟩
theorem kC_12 (E : CE) : KCaI E 12 7 := ⟨by decide, fun _ => rfl⟩
theorem kC_13 (E : CE) : KCaI E 13 7 := ⟨by decide, fun _ => rfl⟩
theorem kC_14 (E : CE) : KCo4 E 14 := ⟨by decide, fun _ => rfl⟩
theorem kC_15 (E : CE) : KCaI E 15 700 := ⟨by decide, fun _ => rfl⟩
theorem kC_16 (E : CE) : KCaI E 16 64 := ⟨by decide, fun _ => rfl⟩
theorem kC_17 (E : CE) : KCo4 E 17 := ⟨by decide, fun _ => rfl⟩
theorem kC_18 (E : CE) : KCaI E 18 700 := ⟨by decide, fun _ => rfl⟩
theorem kC_19 (E : CE) : KCaI E 19 64 := ⟨by decide, fun _ => rfl⟩
theorem kC_20 (E : CE) : KCaI E 20 64 := ⟨by decide, fun _ => rfl⟩
theorem kC_21 (E : CE) : KCaI E 21 4 := ⟨by decide, fun _ => rfl⟩
theorem kC_22 (E : CE) : KCo8 E 22 := ⟨by decide, fun _ => rfl⟩
theorem kC_23 (E : CE) : KCo2 E 23 := ⟨by decide, fun _ => rfl⟩
theorem kC_24 (E : CE) : KCaI E 24 8 := ⟨by decide, fun _ => rfl⟩
theorem kC_25 (E : CE) : KCaI E 25 8 := ⟨by decide, fun _ => rfl⟩
theorem kC_26 (E : CE) : KCaI E 26 7 := ⟨by decide, fun _ => rfl⟩
theorem kC_27 (E : CE) : KCaI E 27 7 := ⟨by decide, fun _ => rfl⟩
theorem kC_28 (E : CE) : KCo4 E 28 := ⟨by decide, fun _ => rfl⟩
theorem kC_29 (E : CE) : KCaI E 29 700 := ⟨by decide, fun _ => rfl⟩
theorem kC_30 (E : CE) : KCaI E 30 64 := ⟨by decide, fun _ => rfl⟩
theorem kC_31 (E : CE) : KCo4 E 31 := ⟨by decide, fun _ => rfl⟩
theorem kC_32 (E : CE) : KCaI E 32 700 := ⟨by decide, fun _ => rfl⟩
theorem kC_33 (E : CE) : KCaI E 33 64 := ⟨by decide, fun _ => rfl⟩
theorem kC_34 (E : CE) : KCaI E 34 64 := ⟨by decide, fun _ => rfl⟩
theorem kC_35 (E : CE) : KCaI E 35 10 := ⟨by decide, fun _ => rfl⟩
theorem kC_36 (E : CE) : KCaI E 36 8 := ⟨by decide, fun _ => rfl⟩
theorem kC_37 (E : CE) : KCaI E 37 7 := ⟨by decide, fun _ => rfl⟩
theorem kC_38 (E : CE) : KCo7 E 38 := ⟨by decide, fun _ => rfl⟩
theorem kC_39 (E : CE) : KCaI E 39 56 := ⟨by decide, fun _ => rfl⟩
theorem kC_40 (E : CE) : KCaI E 40 256 := ⟨by decide, fun _ => rfl⟩
theorem kC_41 (E : CE) : KCaI E 41 2048 := ⟨by decide, fun _ => rfl⟩
theorem kC_42 (E : CE) : KCo1 E 42 := ⟨by decide, fun _ => rfl⟩
theorem kC_43 (E : CE) : KCaI E 43 64 := ⟨by decide, fun _ => rfl⟩
theorem kC_44 (E : CE) : KCo0 E 44 := ⟨by decide, fun _ => rfl⟩
theorem kC_45 (E : CE) : KCaI E 45 2560 := ⟨by decide, fun _ => rfl⟩
theorem kC_46 (E : CE) : KCo6 E 46 := ⟨by decide, fun _ => rfl⟩
theorem kC_47 (E : CE) : KCaI E 47 32 := ⟨by decide, fun _ => rfl⟩
theorem kC_48 (E : CE) : KCaI E 48 3 := ⟨by decide, fun _ => rfl⟩
theorem kC_49 (E : CE) : KCo1 E 49 := ⟨by decide, fun _ => rfl⟩
theorem kC_50 (E : CE) : KCaI E 50 64 := ⟨by decide, fun _ => rfl⟩
theorem kC_51 (E : CE) : KCo0 E 51 := ⟨by decide, fun _ => rfl⟩
theorem kC_52 (E : CE) : KCaI E 52 2560 := ⟨by decide, fun _ => rfl⟩
theorem kC_53 (E : CE) : KCo6 E 53 := ⟨by decide, fun _ => rfl⟩
theorem kC_54 (E : CE) : KCaI E 54 32 := ⟨by decide, fun _ => rfl⟩
theorem kC_55 (E : CE) : KCaI E 55 3 := ⟨by decide, fun _ => rfl⟩
theorem kC_56 (E : CE) : KCaI E 56 64 := ⟨by decide, fun _ => rfl⟩
theorem kC_57 (E : CE) : KCaI E 57 8 := ⟨by decide, fun _ => rfl⟩
theorem kC_58 (E : CE) : KCaI E 58 8 := ⟨by decide, fun _ => rfl⟩
theorem inGX0 : ∀ w ∈ u_ws RX0 TX0 3, w ∈ GG := gg_ps _ [383, 385, 387] (by decide +kernel) (by decide +kernel)
theorem inGX1 : ∀ w ∈ u_ws RX1 TX1 4, w ∈ GG := gg_ps _ [413, 415, 417, 419] (by decide +kernel) (by decide +kernel)
theorem inGX2 : ∀ w ∈ u_ws RX2 TX2 10, w ∈ GG := gg_ps _ [278, 280, 282, 284, 286, 288, 290, 292, 294, 296] (by decide +kernel) (by decide +kernel)
theorem inGX3 : ∀ w ∈ u_ws RX3 TX3 5, w ∈ GG := gg_ps _ [306, 308, 310, 312, 314] (by decide +kernel) (by decide +kernel)
theorem inGX4 : ∀ w ∈ u_ws RX4 TX4 3, w ∈ GG := gg_ps _ [193, 195, 197] (by decide +kernel) (by decide +kernel)
theorem inGX5 : ∀ w ∈ u_ws RX5 TX5 10, w ∈ GG := gg_ps _ [212, 214, 216, 218, 220, 222, 224, 226, 228, 230] (by decide +kernel) (by decide +kernel)
theorem inGX6 : ∀ w ∈ u_ws RX6 TX6 2, w ∈ GG := gg_ps _ [400, 402] (by decide +kernel) (by decide +kernel)
theorem inGX7 : ∀ w ∈ u_ws RX7 TX7 6, w ∈ GG := gg_ps _ [354, 356, 358, 360, 362, 364] (by decide +kernel) (by decide +kernel)
theorem inGX8 : ∀ w ∈ u_ws RX8 TX8 5, w ∈ GG := gg_ps _ [331, 333, 335, 337, 339] (by decide +kernel) (by decide +kernel)
theorem inGX9 : ∀ w ∈ u_ws RX9 TX9 7, w ∈ GG := gg_ps _ [168, 170, 172, 174, 176, 178, 180] (by decide +kernel) (by decide +kernel)
theorem inGX10 : ∀ w ∈ u_ws RX10 TX10 12, w ∈ GG := gg_ps _ [453, 455, 457, 459, 461, 463, 465, 467, 469, 471, 473, 475] (by decide +kernel) (by decide +kernel)
theorem tw_0 : (.fieldLink RX0 15 (TX0 1).1 (TX0 1).2.1 (TX0 1).2.2.1 : Cond) ∈ GG := gg_2 (List.mem_of_getElem? (i := 36) (by decide +kernel)) (by decide +kernel)
theorem tw_1 : (.fieldLink RX0 19 (TX0 2).1 (TX0 2).2.1 (TX0 2).2.2.1 : Cond) ∈ GG := gg_2 (List.mem_of_getElem? (i := 37) (by decide +kernel)) (by decide +kernel)
theorem tw_2 : (.fieldLink RX0 9 (TX0 0).1 (TX0 0).2.1 (TX0 0).2.2.1 : Cond) ∈ GG := gg_2 (List.mem_of_getElem? (i := 35) (by decide +kernel)) (by decide +kernel)
theorem tw_3 : (.methodLink RX0 22 arraycopyName : Cond) ∈ GG := gg_2 (List.mem_of_getElem? (i := 162) (by decide +kernel)) (by decide +kernel)
theorem tw_4 : (.fieldLink RX4 18 (TX4 2).1 (TX4 2).2.1 (TX4 2).2.2.1 : Cond) ∈ GG := gg_1 (List.mem_of_getElem? (i := 88) (by decide +kernel)) (by decide +kernel)
theorem tw_5 : (.fieldLink RX4 9 (TX4 0).1 (TX4 0).2.1 (TX4 0).2.2.1 : Cond) ∈ GG := gg_1 (List.mem_of_getElem? (i := 86) (by decide +kernel)) (by decide +kernel)
theorem tw_6 : (.methodLink RX4 22 arraycopyName : Cond) ∈ GG := gg_4 (List.mem_of_getElem? (i := 11) (by decide +kernel)) (by decide +kernel)
theorem tw_7 : (.fieldLink RX4 15 (TX4 1).1 (TX4 1).2.1 (TX4 1).2.2.1 : Cond) ∈ GG := gg_1 (List.mem_of_getElem? (i := 87) (by decide +kernel)) (by decide +kernel)
theorem tw_8 : (.methodLink RX4 28 yX4_join : Cond) ∈ GG := gg_2 (List.mem_of_getElem? (i := 207) (by decide +kernel)) (by decide +kernel)
theorem tw_9 : (.code yX4_join cX4_join 3 (some .int) : Cond) ∈ GG := gg_2 (List.mem_of_getElem? (i := 209) (by decide +kernel)) (by decide +kernel)
theorem tw_10 : (.initialized yX4_join.cls : Cond) ∈ GG := gg_1 (List.mem_of_getElem? (i := 5) (by decide +kernel)) (by decide +kernel)
theorem tw_11 : (.static yX4_join : Cond) ∈ GG := gg_2 (List.mem_of_getElem? (i := 208) (by decide +kernel)) (by decide +kernel)
theorem tw_12 : (.fieldLink RX6 15 (TX6 1).1 (TX6 1).2.1 (TX6 1).2.2.1 : Cond) ∈ GG := gg_2 (List.mem_of_getElem? (i := 53) (by decide +kernel)) (by decide +kernel)
theorem tw_13 : (.fieldLink RX6 11 (TX6 0).1 (TX6 0).2.1 (TX6 0).2.2.1 : Cond) ∈ GG := gg_2 (List.mem_of_getElem? (i := 52) (by decide +kernel)) (by decide +kernel)
theorem tw_14 : (.methodLink RX6 19 Lib.Math.max.name : Cond) ∈ GG := gg_5 (List.mem_of_getElem? (i := 142) (by decide +kernel)) (by decide +kernel)
theorem tw_15 : (.methodLink RX6 25 arraycopyName : Cond) ∈ GG := gg_3 (List.mem_of_getElem? (i := 24) (by decide +kernel)) (by decide +kernel)
theorem tw_16 : (.fieldLink RX8 12 (TX8 0).1 (TX8 0).2.1 (TX8 0).2.2.1 : Cond) ∈ GG := gg_1 (List.mem_of_getElem? (i := 221) (by decide +kernel)) (by decide +kernel)
theorem tw_17 : (.fieldLink RX8 42 (TX2 0).1 (TX2 0).2.1 (TX2 0).2.2.1 : Cond) ∈ GG := gg_1 (List.mem_of_getElem? (i := 138) (by decide +kernel)) (by decide +kernel)
theorem tw_18 : (.fieldLink RX8 62 (TX2 3).1 (TX2 3).2.1 (TX2 3).2.2.1 : Cond) ∈ GG := gg_1 (List.mem_of_getElem? (i := 151) (by decide +kernel)) (by decide +kernel)
theorem tw_19 : (.fieldLink RX8 56 (TX2 1).1 (TX2 1).2.1 (TX2 1).2.2.1 : Cond) ∈ GG := gg_1 (List.mem_of_getElem? (i := 142) (by decide +kernel)) (by decide +kernel)
theorem tw_20 : (.fieldLink RX8 65 (TX2 4).1 (TX2 4).2.1 (TX2 4).2.2.1 : Cond) ∈ GG := gg_1 (List.mem_of_getElem? (i := 156) (by decide +kernel)) (by decide +kernel)
theorem tw_21 : (.fieldLink RX8 68 (TX2 2).1 (TX2 2).2.1 (TX2 2).2.2.1 : Cond) ∈ GG := gg_1 (List.mem_of_getElem? (i := 148) (by decide +kernel)) (by decide +kernel)
theorem tw_22 : (.methodLink RX8 71 yX8_lifeOf : Cond) ∈ GG := gg_2 (List.mem_of_getElem? (i := 179) (by decide +kernel)) (by decide +kernel)
theorem tw_23 : (.code yX8_lifeOf cX8_lifeOf 2 (some .int) : Cond) ∈ GG := gg_2 (List.mem_of_getElem? (i := 182) (by decide +kernel)) (by decide +kernel)
theorem tw_24 : (.initialized yX8_lifeOf.cls : Cond) ∈ GG := gg_1 (List.mem_of_getElem? (i := 7) (by decide +kernel)) (by decide +kernel)
theorem tw_25 : (.instanceMethod yX8_lifeOf : Cond) ∈ GG := gg_2 (List.mem_of_getElem? (i := 180) (by decide +kernel)) (by decide +kernel)
theorem tw_26 : (.selects yX8_lifeOf.cls yX8_lifeOf yX8_lifeOf : Cond) ∈ GG := gg_2 (List.mem_of_getElem? (i := 181) (by decide +kernel)) (by decide +kernel)
theorem tw_27 : (.methodLink RX8 75 Lib.Math.max.name : Cond) ∈ GG := gg_2 (List.mem_of_getElem? (i := 221) (by decide +kernel)) (by decide +kernel)
section RWC
variable {p : Program} {l : Launch} {e : Env} {R : Room} {s : State} {m : MethodId} {args : Array Value} {below : List Frame} {meth : Method} {c : Code} {H : Heap} {locs : List Loc} {cells slots : Nat} {Q : State → Prop} {cc : ByteArray} {pc : Nat} {ls : Array Slot} {rest : List Value} {nL : Nat} {A : Nat → Prop} {σ : Mem} {ret : Option FieldType}
theorem ialdC {E : CE} {own : String} (X : CX p s m meth c args cc nL own ret) (I : WI (vC E) A s H locs σ) {k n : Nat} (hk : KCaI E k n) {i : Int32} (hin : vp_in i n) (d : decode cc pc = .ok (.iaload, 1)) (kk : W p l e R s m args below meth c H locs cells slots Q (F0 m (pc + 1) ls (.int (σ k i.toNatClampNeg) :: rest))) : W p l e R s m args below meth c H locs cells slots Q (F0 m pc ls (.int i :: .ref (ca E k) :: rest)) := r_iald (V := (vC E)) (t0 := 0) X I hk.1 rfl (hk.2 _) hin d kk
theorem iastC {E : CE} {own : String} (X : CX p s m meth c args cc nL own ret) (I : WI (vC E) A s H locs σ) {k n : Nat} (hk : KCaI E k n) {i x : Int32} (hin : vp_in i n) (d : decode cc pc = .ok (.iastore, 1)) (kk : ∀ (H1 : Heap) (locs1 : List Loc), WI (vC E) A s H1 locs1 (ms σ k i.toNatClampNeg x) → W p l e R s m args below meth c H1 locs1 cells slots Q (F0 m (pc + 1) ls rest)) : W p l e R s m args below meth c H locs cells slots Q (F0 m pc ls (.int x :: .int i :: .ref (ca E k) :: rest)) := r_iast (V := (vC E)) (t0 := 0) X I hk.1 rfl hk.2 hin d kk
theorem alenIC {E : CE} {own : String} (X : CX p s m meth c args cc nL own ret) (I : WI (vC E) A s H locs σ) {k n : Nat} (hk : KCaI E k n) {v : Int32} (hv : Int32.ofNat n = v) (d : decode cc pc = .ok (.arraylength, 1)) (kk : W p l e R s m args below meth c H locs cells slots Q (F0 m (pc + 1) ls (.int v :: rest))) : W p l e R s m args below meth c H locs cells slots Q (F0 m pc ls (.ref (ca E k) :: rest)) := r_alen (V := (vC E)) (t0 := 0) X I hk.1 rfl (hk.2 _) hv d kk
theorem baldC {E : CE} {own : String} (X : CX p s m meth c args cc nL own ret) (I : WI (vC E) A s H locs σ) {k n : Nat} (hk : KCaB E k n) {i : Int32} (hin : vp_in i n) (d : decode cc pc = .ok (.baload, 1)) (kk : W p l e R s m args below meth c H locs cells slots Q (F0 m (pc + 1) ls (.int (σ k i.toNatClampNeg) :: rest))) : W p l e R s m args below meth c H locs cells slots Q (F0 m pc ls (.int i :: .ref (ca E k) :: rest)) := r_bald (V := (vC E)) (t0 := 1) X I hk.1 rfl (hk.2 _) hin d kk
theorem bastC {E : CE} {own : String} (X : CX p s m meth c args cc nL own ret) (I : WI (vC E) A s H locs σ) {k n : Nat} (hk : KCaB E k n) {i x : Int32} (hin : vp_in i n) (d : decode cc pc = .ok (.bastore, 1)) (kk : ∀ (H1 : Heap) (locs1 : List Loc), WI (vC E) A s H1 locs1 (ms σ k i.toNatClampNeg x.toInt8.toInt32) → W p l e R s m args below meth c H1 locs1 cells slots Q (F0 m (pc + 1) ls rest)) : W p l e R s m args below meth c H locs cells slots Q (F0 m pc ls (.int x :: .int i :: .ref (ca E k) :: rest)) := r_bast (V := (vC E)) (t0 := 1) X I hk.1 rfl hk.2 hin d kk
theorem alenBC {E : CE} {own : String} (X : CX p s m meth c args cc nL own ret) (I : WI (vC E) A s H locs σ) {k n : Nat} (hk : KCaB E k n) {v : Int32} (hv : Int32.ofNat n = v) (d : decode cc pc = .ok (.arraylength, 1)) (kk : W p l e R s m args below meth c H locs cells slots Q (F0 m (pc + 1) ls (.int v :: rest))) : W p l e R s m args below meth c H locs cells slots Q (F0 m pc ls (.ref (ca E k) :: rest)) := r_alen (V := (vC E)) (t0 := 1) X I hk.1 rfl (hk.2 _) hv d kk
theorem icpC {E : CE} {own : String} {lvs : List (Nat × Value)} {idx : Nat} (X : CX p s m meth c args cc nL own ret) (I : WI (vC E) A s H locs σ) (hl : lv_has ls nL lvs) (hw : Cond.methodLink own idx arraycopyName ∈ GG) {k0 k1 n0 n1 : Nat} (hk0 : KCaI E k0 n0) (hk1 : KCaI E k1 n1) {sp dp n : Int32} (hcp : ¬ sp < 0 ∧ ¬ dp < 0 ∧ ¬ n < 0 ∧ sp.toNatClampNeg + n.toNatClampNeg ≤ n0 ∧ dp.toNatClampNeg + n.toNatClampNeg ≤ n1) (hR : 1 ≤ R.frames ∧ (rest.map fun v => v.category).sum + (nativeFrameWords "java/lang/System" "arraycopy" 5 + 11) ≤ R.locals) (d : decode cc pc = .ok (.invokestatic idx, 3)) (kk : ∀ (H1 : Heap) (locs1 : List Loc), WI (vC E) A s H1 locs1 (mcp σ k0 k1 sp dp n) → W p l e R s m args below meth c H1 locs1 cells slots Q (F0 m (pc + 3) ls rest)) : W p l e R s m args below meth c H locs cells slots Q (F0 m pc ls (.int n :: .int dp :: .ref (ca E k1) :: .int sp :: .ref (ca E k0) :: rest)) := r_copy (V := (vC E)) (t0 := 0) X I hl hw hk0.1 hk1.1 rfl hk0.2 hk1.2 hcp hR d kk
theorem pfC_X0_15 {E : CE} (X : CX p s m meth c args cc nL RX0 ret) (I : WI (vC E) A s H locs σ) {k : Nat} (hk : KCo0 E k) {x : Int32} (d : decode cc pc = .ok (.putfield 15, 3)) (kk : ∀ (H1 : Heap) (locs1 : List Loc), WI (vC E) A s H1 locs1 (ms σ k 1 x) → W p l e R s m args below meth c H1 locs1 cells slots Q (F0 m (pc + 3) ls rest)) : W p l e R s m args below meth c H locs cells slots Q (F0 m pc ls (.int x :: .ref (ca E k) :: rest)) := r_put (V := (vC E)) X I hk.1 (hk.2 _) rfl inGX0 tyX0 tyX0_ok nmX0 1 (by decide) tw_0 rfl rfl rfl (Nat.le_of_ble_eq_true rfl) (hk.2 _) d kk
theorem pfC_X0_19 {E : CE} (X : CX p s m meth c args cc nL RX0 ret) (I : WI (vC E) A s H locs σ) {k : Nat} (hk : KCo0 E k) {x : Int32} (d : decode cc pc = .ok (.putfield 19, 3)) (kk : ∀ (H1 : Heap) (locs1 : List Loc), WI (vC E) A s H1 locs1 (ms σ k 2 x) → W p l e R s m args below meth c H1 locs1 cells slots Q (F0 m (pc + 3) ls rest)) : W p l e R s m args below meth c H locs cells slots Q (F0 m pc ls (.int x :: .ref (ca E k) :: rest)) := r_put (V := (vC E)) X I hk.1 (hk.2 _) rfl inGX0 tyX0 tyX0_ok nmX0 2 (by decide) tw_1 rfl rfl rfl (Nat.le_of_ble_eq_true rfl) (hk.2 _) d kk
theorem gfC_X0_9 {E : CE} (X : CX p s m meth c args cc nL RX0 ret) (I : WI (vC E) A s H locs σ) {k : Nat} (hk : KCo0 E k) {k' : Nat} (hk' : k + 1 = k') (d : decode cc pc = .ok (.getfield 9, 3)) (kk : W p l e R s m args below meth c H locs cells slots Q (F0 m (pc + 3) ls (.ref (ca E k') :: rest))) : W p l e R s m args below meth c H locs cells slots Q (F0 m pc ls (.ref (ca E k) :: rest)) := by subst hk'; exact r_get (V := (vC E)) X I hk.1 (hk.2 _) rfl inGX0 0 (by decide) tw_2 rfl d kk
theorem gfC_X0_15 {E : CE} (X : CX p s m meth c args cc nL RX0 ret) (I : WI (vC E) A s H locs σ) {k : Nat} (hk : KCo0 E k) (d : decode cc pc = .ok (.getfield 15, 3)) (kk : W p l e R s m args below meth c H locs cells slots Q (F0 m (pc + 3) ls (.int (σ k 1) :: rest))) : W p l e R s m args below meth c H locs cells slots Q (F0 m pc ls (.ref (ca E k) :: rest)) := r_get (V := (vC E)) X I hk.1 (hk.2 _) rfl inGX0 1 (by decide) tw_0 rfl d kk
theorem gfC_X0_19 {E : CE} (X : CX p s m meth c args cc nL RX0 ret) (I : WI (vC E) A s H locs σ) {k : Nat} (hk : KCo0 E k) (d : decode cc pc = .ok (.getfield 19, 3)) (kk : W p l e R s m args below meth c H locs cells slots Q (F0 m (pc + 3) ls (.int (σ k 2) :: rest))) : W p l e R s m args below meth c H locs cells slots Q (F0 m pc ls (.ref (ca E k) :: rest)) := r_get (V := (vC E)) X I hk.1 (hk.2 _) rfl inGX0 2 (by decide) tw_1 rfl d kk
theorem pfC_X4_18 {E : CE} (X : CX p s m meth c args cc nL RX4 ret) (I : WI (vC E) A s H locs σ) {k : Nat} (hk : KCo4 E k) {x : Int32} (d : decode cc pc = .ok (.putfield 18, 3)) (kk : ∀ (H1 : Heap) (locs1 : List Loc), WI (vC E) A s H1 locs1 (ms σ k 2 x) → W p l e R s m args below meth c H1 locs1 cells slots Q (F0 m (pc + 3) ls rest)) : W p l e R s m args below meth c H locs cells slots Q (F0 m pc ls (.int x :: .ref (ca E k) :: rest)) := r_put (V := (vC E)) X I hk.1 (hk.2 _) rfl inGX4 tyX4 tyX4_ok nmX4 2 (by decide) tw_4 rfl rfl rfl (Nat.le_of_ble_eq_true rfl) (hk.2 _) d kk
theorem gfC_X4_18 {E : CE} (X : CX p s m meth c args cc nL RX4 ret) (I : WI (vC E) A s H locs σ) {k : Nat} (hk : KCo4 E k) (d : decode cc pc = .ok (.getfield 18, 3)) (kk : W p l e R s m args below meth c H locs cells slots Q (F0 m (pc + 3) ls (.int (σ k 2) :: rest))) : W p l e R s m args below meth c H locs cells slots Q (F0 m pc ls (.ref (ca E k) :: rest)) := r_get (V := (vC E)) X I hk.1 (hk.2 _) rfl inGX4 2 (by decide) tw_4 rfl d kk
theorem gfC_X4_9 {E : CE} (X : CX p s m meth c args cc nL RX4 ret) (I : WI (vC E) A s H locs σ) {k : Nat} (hk : KCo4 E k) {k' : Nat} (hk' : k + 1 = k') (d : decode cc pc = .ok (.getfield 9, 3)) (kk : W p l e R s m args below meth c H locs cells slots Q (F0 m (pc + 3) ls (.ref (ca E k') :: rest))) : W p l e R s m args below meth c H locs cells slots Q (F0 m pc ls (.ref (ca E k) :: rest)) := by subst hk'; exact r_get (V := (vC E)) X I hk.1 (hk.2 _) rfl inGX4 0 (by decide) tw_5 rfl d kk
theorem gfC_X4_15 {E : CE} (X : CX p s m meth c args cc nL RX4 ret) (I : WI (vC E) A s H locs σ) {k : Nat} (hk : KCo4 E k) {k' : Nat} (hk' : k + 2 = k') (d : decode cc pc = .ok (.getfield 15, 3)) (kk : W p l e R s m args below meth c H locs cells slots Q (F0 m (pc + 3) ls (.ref (ca E k') :: rest))) : W p l e R s m args below meth c H locs cells slots Q (F0 m pc ls (.ref (ca E k) :: rest)) := by subst hk'; exact r_get (V := (vC E)) X I hk.1 (hk.2 _) rfl inGX4 1 (by decide) tw_7 rfl d kk
theorem ys_X4_join : YS yX4_join cX4_join 3 (some .int) 3 := ⟨tw_9, tw_10, tw_11, by decide +kernel, by decide +kernel, by decide +kernel⟩
theorem gfC_X6_15 {E : CE} (X : CX p s m meth c args cc nL RX6 ret) (I : WI (vC E) A s H locs σ) {k : Nat} (hk : KCo6 E k) (d : decode cc pc = .ok (.getfield 15, 3)) (kk : W p l e R s m args below meth c H locs cells slots Q (F0 m (pc + 3) ls (.int (σ k 1) :: rest))) : W p l e R s m args below meth c H locs cells slots Q (F0 m pc ls (.ref (ca E k) :: rest)) := r_get (V := (vC E)) X I hk.1 (hk.2 _) rfl inGX6 1 (by decide) tw_12 rfl d kk
theorem gfC_X6_11 {E : CE} (X : CX p s m meth c args cc nL RX6 ret) (I : WI (vC E) A s H locs σ) {k : Nat} (hk : KCo6 E k) {k' : Nat} (hk' : k + 1 = k') (d : decode cc pc = .ok (.getfield 11, 3)) (kk : W p l e R s m args below meth c H locs cells slots Q (F0 m (pc + 3) ls (.ref (ca E k') :: rest))) : W p l e R s m args below meth c H locs cells slots Q (F0 m pc ls (.ref (ca E k) :: rest)) := by subst hk'; exact r_get (V := (vC E)) X I hk.1 (hk.2 _) rfl inGX6 0 (by decide) tw_13 rfl d kk
theorem pfC_X6_15 {E : CE} (X : CX p s m meth c args cc nL RX6 ret) (I : WI (vC E) A s H locs σ) {k : Nat} (hk : KCo6 E k) {x : Int32} (d : decode cc pc = .ok (.putfield 15, 3)) (kk : ∀ (H1 : Heap) (locs1 : List Loc), WI (vC E) A s H1 locs1 (ms σ k 1 x) → W p l e R s m args below meth c H1 locs1 cells slots Q (F0 m (pc + 3) ls rest)) : W p l e R s m args below meth c H locs cells slots Q (F0 m pc ls (.int x :: .ref (ca E k) :: rest)) := r_put (V := (vC E)) X I hk.1 (hk.2 _) rfl inGX6 tyX6 tyX6_ok nmX6 1 (by decide) tw_12 rfl rfl rfl (Nat.le_of_ble_eq_true rfl) (hk.2 _) d kk
theorem gfC_X8_12 {E : CE} (X : CX p s m meth c args cc nL RX8 ret) (I : WI (vC E) A s H locs σ) {k : Nat} (hk : KCo8 E k) {k' : Nat} (hk' : k + 1 = k') (d : decode cc pc = .ok (.getfield 12, 3)) (kk : W p l e R s m args below meth c H locs cells slots Q (F0 m (pc + 3) ls (.ref (ca E k') :: rest))) : W p l e R s m args below meth c H locs cells slots Q (F0 m pc ls (.ref (ca E k) :: rest)) := by subst hk'; exact r_get (V := (vC E)) X I hk.1 (hk.2 _) rfl inGX8 0 (by decide) tw_16 rfl d kk
theorem gfC_X8_42 {E : CE} (X : CX p s m meth c args cc nL RX8 ret) (I : WI (vC E) A s H locs σ) {k : Nat} (hk : KCo2 E k) (d : decode cc pc = .ok (.getfield 42, 3)) (kk : W p l e R s m args below meth c H locs cells slots Q (F0 m (pc + 3) ls (.int (σ k 0) :: rest))) : W p l e R s m args below meth c H locs cells slots Q (F0 m pc ls (.ref (ca E k) :: rest)) := r_get (V := (vC E)) X I hk.1 (hk.2 _) rfl inGX2 0 (by decide) tw_17 rfl d kk
theorem gfC_X8_62 {E : CE} (X : CX p s m meth c args cc nL RX8 ret) (I : WI (vC E) A s H locs σ) {k : Nat} (hk : KCo2 E k) {k' : Nat} (hk' : k + 1 = k') (d : decode cc pc = .ok (.getfield 62, 3)) (kk : W p l e R s m args below meth c H locs cells slots Q (F0 m (pc + 3) ls (.ref (ca E k') :: rest))) : W p l e R s m args below meth c H locs cells slots Q (F0 m pc ls (.ref (ca E k) :: rest)) := by subst hk'; exact r_get (V := (vC E)) X I hk.1 (hk.2 _) rfl inGX2 3 (by decide) tw_18 rfl d kk
theorem gfC_X8_56 {E : CE} (X : CX p s m meth c args cc nL RX8 ret) (I : WI (vC E) A s H locs σ) {k : Nat} (hk : KCo2 E k) (d : decode cc pc = .ok (.getfield 56, 3)) (kk : W p l e R s m args below meth c H locs cells slots Q (F0 m (pc + 3) ls (.int (σ k 1) :: rest))) : W p l e R s m args below meth c H locs cells slots Q (F0 m pc ls (.ref (ca E k) :: rest)) := r_get (V := (vC E)) X I hk.1 (hk.2 _) rfl inGX2 1 (by decide) tw_19 rfl d kk
theorem gfC_X8_65 {E : CE} (X : CX p s m meth c args cc nL RX8 ret) (I : WI (vC E) A s H locs σ) {k : Nat} (hk : KCo2 E k) {k' : Nat} (hk' : k + 2 = k') (d : decode cc pc = .ok (.getfield 65, 3)) (kk : W p l e R s m args below meth c H locs cells slots Q (F0 m (pc + 3) ls (.ref (ca E k') :: rest))) : W p l e R s m args below meth c H locs cells slots Q (F0 m pc ls (.ref (ca E k) :: rest)) := by subst hk'; exact r_get (V := (vC E)) X I hk.1 (hk.2 _) rfl inGX2 4 (by decide) tw_20 rfl d kk
theorem gfC_X8_68 {E : CE} (X : CX p s m meth c args cc nL RX8 ret) (I : WI (vC E) A s H locs σ) {k : Nat} (hk : KCo2 E k) (d : decode cc pc = .ok (.getfield 68, 3)) (kk : W p l e R s m args below meth c H locs cells slots Q (F0 m (pc + 3) ls (.int (σ k 2) :: rest))) : W p l e R s m args below meth c H locs cells slots Q (F0 m pc ls (.ref (ca E k) :: rest)) := r_get (V := (vC E)) X I hk.1 (hk.2 _) rfl inGX2 2 (by decide) tw_21 rfl d kk
theorem yv_X8_lifeOf : YV yX8_lifeOf cX8_lifeOf 2 (some .int) 1 := ⟨tw_23, tw_24, tw_25, tw_26, by decide +kernel, by decide +kernel, by decide +kernel⟩
end RWC

/-! the class' world: 60 cells -/
abbrev CE : Type := va_G × (Nat → Nat) × ClassId × ClassId × ClassId × XE × Nat
def ca (E : CE) (k : Nat) : Nat := E.2.1 k
def cellC (E : CE) (k : Nat) (r : Nat → Int32) : va_E := match k with
  | 0 => .inr (10, [.ref (ca E 1), .ref (ca E 3), .ref (ca E 22), .ref (ca E 23), .ref (ca E 38), .ref (ca E 42), .ref (ca E 49), .int (r 7), .int (r 8), .ref (ca E 56), .ref (ca E 57), .ref (ca E 58)])
  | 1 => .inr (3, [.ref (ca E 2), .ref (ca E 3), .ref (ca E 9), .ref (ca E 21), .int (r 4)])
  | 2 => .inr (5, [.ref (ca E 3), .ref (ca E 5), .ref (ca E 8), .int (r 3), .int (r 4), .int (r 5), .int (r 6), .int (r 7), .int (r 8), .int (r 9)])
  | 3 => .inr (9, [.ref (ca E 4), .int (r 1), .int (r 2), .int (r 3), .int (r 4), .int (r 5), .int (r 6)])
  | 4 => .inl (E.2.2.2.1, 700, .inl r)
  | 5 => .inr (4, [.ref (ca E 6), .ref (ca E 7), .int (r 2)])
  | 6 => .inl (E.2.2.1, 700, .inl r)
  | 7 => .inl (E.2.2.1, 64, .inl r)
  | 8 => .inl (E.2.2.1, 128, .inl r)
  | 9 => .inr (2, [.int (r 0), .int (r 1), .int (r 2), .ref (ca E 10), .ref (ca E 11), .ref (ca E 12), .ref (ca E 13), .ref (ca E 14), .ref (ca E 17), .ref (ca E 20)])
  | 10 => .inl (E.2.2.1, 8, .inl r)
  | 11 => .inl (E.2.2.1, 8, .inl r)
  | 12 => .inl (E.2.2.1, 7, .inl r)
  | 13 => .inl (E.2.2.1, 7, .inl r)
  | 14 => .inr (4, [.ref (ca E 15), .ref (ca E 16), .int (r 2)])
  | 15 => .inl (E.2.2.1, 700, .inl r)
  | 16 => .inl (E.2.2.1, 64, .inl r)
  | 17 => .inr (4, [.ref (ca E 18), .ref (ca E 19), .int (r 2)])
  | 18 => .inl (E.2.2.1, 700, .inl r)
  | 19 => .inl (E.2.2.1, 64, .inl r)
  | 20 => .inl (E.2.2.1, 64, .inl r)
  | 21 => .inl (E.2.2.1, 4, .inl r)
  | 22 => .inr (8, [.ref (ca E 23), .ref (ca E 35), .ref (ca E 36), .ref (ca E 37), .int (r 4)])
  | 23 => .inr (2, [.int (r 0), .int (r 1), .int (r 2), .ref (ca E 24), .ref (ca E 25), .ref (ca E 26), .ref (ca E 27), .ref (ca E 28), .ref (ca E 31), .ref (ca E 34)])
  | 24 => .inl (E.2.2.1, 8, .inl r)
  | 25 => .inl (E.2.2.1, 8, .inl r)
  | 26 => .inl (E.2.2.1, 7, .inl r)
  | 27 => .inl (E.2.2.1, 7, .inl r)
  | 28 => .inr (4, [.ref (ca E 29), .ref (ca E 30), .int (r 2)])
  | 29 => .inl (E.2.2.1, 700, .inl r)
  | 30 => .inl (E.2.2.1, 64, .inl r)
  | 31 => .inr (4, [.ref (ca E 32), .ref (ca E 33), .int (r 2)])
  | 32 => .inl (E.2.2.1, 700, .inl r)
  | 33 => .inl (E.2.2.1, 64, .inl r)
  | 34 => .inl (E.2.2.1, 64, .inl r)
  | 35 => .inl (E.2.2.1, 10, .inl r)
  | 36 => .inl (E.2.2.1, 8, .inl r)
  | 37 => .inl (E.2.2.1, 7, .inl r)
  | 38 => .inr (7, [.ref (ca E 39), .ref (ca E 40), .ref (ca E 41), .int (r 3), .int (r 4), .int (r 5)])
  | 39 => .inl (E.2.2.1, 56, .inl r)
  | 40 => .inl (E.2.2.1, 256, .inl r)
  | 41 => .inl (E.2.2.1, 2048, .inl r)
  | 42 => .inr (1, [.ref (ca E 43), .ref (ca E 44), .ref (ca E 46), .ref (ca E 48)])
  | 43 => .inl (E.2.2.1, 64, .inl r)
  | 44 => .inr (0, [.ref (ca E 45), .int (r 1), .int (r 2)])
  | 45 => .inl (E.2.2.1, 2560, .inl r)
  | 46 => .inr (6, [.ref (ca E 47), .int (r 1)])
  | 47 => .inl (E.2.2.1, 32, .inl r)
  | 48 => .inl (E.2.2.1, 3, .inl r)
  | 49 => .inr (1, [.ref (ca E 50), .ref (ca E 51), .ref (ca E 53), .ref (ca E 55)])
  | 50 => .inl (E.2.2.1, 64, .inl r)
  | 51 => .inr (0, [.ref (ca E 52), .int (r 1), .int (r 2)])
  | 52 => .inl (E.2.2.1, 2560, .inl r)
  | 53 => .inr (6, [.ref (ca E 54), .int (r 1)])
  | 54 => .inl (E.2.2.1, 32, .inl r)
  | 55 => .inl (E.2.2.1, 3, .inl r)
  | 56 => .inl (E.2.2.1, 64, .inl r)
  | 57 => .inl (E.2.2.1, 8, .inl r)
  | 58 => .inl (E.2.2.1, 8, .inl r)
  | _ => .inl (E.2.2.2.2.1, 1, .inr (.inl (fun j => Int32.toInt64 (r j))))
def vC (E : CE) : WV := (E.1, [(E.2.2.1, .int), (E.2.2.2.1, .byte), (E.2.2.2.2.1, .long)], cellC E, ca E, E.2.2.2.2.2.2 + 59, FF E.2.2.2.2.2.1)
def KCo0 (E : CE) (k : Nat) : Prop := k < E.2.2.2.2.2.2 + 59 ∧ ∀ r, cellC E k r = .inr (0, [.ref (ca E (k + 1)), .int (r 1), .int (r 2)])
def KCo1 (E : CE) (k : Nat) : Prop := k < E.2.2.2.2.2.2 + 59 ∧ ∀ r, cellC E k r = .inr (1, [.ref (ca E (k + 1)), .ref (ca E (k + 2)), .ref (ca E (k + 4)), .ref (ca E (k + 6))])
def KCo2 (E : CE) (k : Nat) : Prop := k < E.2.2.2.2.2.2 + 59 ∧ ∀ r, cellC E k r = .inr (2, [.int (r 0), .int (r 1), .int (r 2), .ref (ca E (k + 1)), .ref (ca E (k + 2)), .ref (ca E (k + 3)), .ref (ca E (k + 4)), .ref (ca E (k + 5)), .ref (ca E (k + 8)), .ref (ca E (k + 11))])
def KCo3 (E : CE) (k : Nat) : Prop := k < E.2.2.2.2.2.2 + 59 ∧ ∀ r, cellC E k r = .inr (3, [.ref (ca E (k + 1)), .ref (ca E (k + 2)), .ref (ca E (k + 8)), .ref (ca E (k + 20)), .int (r 4)])
def KCo4 (E : CE) (k : Nat) : Prop := k < E.2.2.2.2.2.2 + 59 ∧ ∀ r, cellC E k r = .inr (4, [.ref (ca E (k + 1)), .ref (ca E (k + 2)), .int (r 2)])
def KCo5 (E : CE) (k : Nat) : Prop := k < E.2.2.2.2.2.2 + 59 ∧ ∀ r, cellC E k r = .inr (5, [.ref (ca E (k + 1)), .ref (ca E (k + 3)), .ref (ca E (k + 6)), .int (r 3), .int (r 4), .int (r 5), .int (r 6), .int (r 7), .int (r 8), .int (r 9)])
def KCo6 (E : CE) (k : Nat) : Prop := k < E.2.2.2.2.2.2 + 59 ∧ ∀ r, cellC E k r = .inr (6, [.ref (ca E (k + 1)), .int (r 1)])
def KCo7 (E : CE) (k : Nat) : Prop := k < E.2.2.2.2.2.2 + 59 ∧ ∀ r, cellC E k r = .inr (7, [.ref (ca E (k + 1)), .ref (ca E (k + 2)), .ref (ca E (k + 3)), .int (r 3), .int (r 4), .int (r 5)])
def KCo8 (E : CE) (k : Nat) : Prop := k < E.2.2.2.2.2.2 + 59 ∧ ∀ r, cellC E k r = .inr (8, [.ref (ca E (k + 1)), .ref (ca E (k + 13)), .ref (ca E (k + 14)), .ref (ca E (k + 15)), .int (r 4)])
def KCo9 (E : CE) (k : Nat) : Prop := k < E.2.2.2.2.2.2 + 59 ∧ ∀ r, cellC E k r = .inr (9, [.ref (ca E (k + 1)), .int (r 1), .int (r 2), .int (r 3), .int (r 4), .int (r 5), .int (r 6)])
def KCo10 (E : CE) (k : Nat) : Prop := k < E.2.2.2.2.2.2 + 59 ∧ ∀ r, cellC E k r = .inr (10, [.ref (ca E (k + 1)), .ref (ca E (k + 3)), .ref (ca E (k + 22)), .ref (ca E (k + 23)), .ref (ca E (k + 38)), .ref (ca E (k + 42)), .ref (ca E (k + 49)), .int (r 7), .int (r 8), .ref (ca E (k + 56)), .ref (ca E (k + 57)), .ref (ca E (k + 58))])
def KCaI (E : CE) (k n : Nat) : Prop := k < E.2.2.2.2.2.2 + 59 ∧ ∀ r, cellC E k r = .inl (E.2.2.1, n, .inl r)
def KCaJ (E : CE) (k n : Nat) : Prop := k < E.2.2.2.2.2.2 + 59 ∧ ∀ r : Nat → Int32, cellC E k r = .inl (E.2.2.2.2.1, n, .inr (.inl (fun j => Int32.toInt64 (r j))))
def KCaB (E : CE) (k n : Nat) : Prop := k < E.2.2.2.2.2.2 + 59 ∧ ∀ r, cellC E k r = .inl (E.2.2.2.1, n, .inl r)
theorem kC_0 (E : CE) : KCo10 E 0 := ⟨Nat.le_trans (show 1 ≤ 59 by decide) (Nat.le_add_left 59 _), fun _ => rfl⟩
theorem kC_1 (E : CE) : KCo3 E 1 := ⟨Nat.le_trans (show 2 ≤ 59 by decide) (Nat.le_add_left 59 _), fun _ => rfl⟩
theorem kC_2 (E : CE) : KCo5 E 2 := ⟨Nat.le_trans (show 3 ≤ 59 by decide) (Nat.le_add_left 59 _), fun _ => rfl⟩
theorem kC_3 (E : CE) : KCo9 E 3 := ⟨Nat.le_trans (show 4 ≤ 59 by decide) (Nat.le_add_left 59 _), fun _ => rfl⟩
theorem kC_4 (E : CE) : KCaB E 4 700 := ⟨Nat.le_trans (show 5 ≤ 59 by decide) (Nat.le_add_left 59 _), fun _ => rfl⟩
theorem kC_5 (E : CE) : KCo4 E 5 := ⟨Nat.le_trans (show 6 ≤ 59 by decide) (Nat.le_add_left 59 _), fun _ => rfl⟩
theorem kC_6 (E : CE) : KCaI E 6 700 := ⟨Nat.le_trans (show 7 ≤ 59 by decide) (Nat.le_add_left 59 _), fun _ => rfl⟩
theorem kC_7 (E : CE) : KCaI E 7 64 := ⟨Nat.le_trans (show 8 ≤ 59 by decide) (Nat.le_add_left 59 _), fun _ => rfl⟩
theorem kC_8 (E : CE) : KCaI E 8 128 := ⟨Nat.le_trans (show 9 ≤ 59 by decide) (Nat.le_add_left 59 _), fun _ => rfl⟩
theorem kC_9 (E : CE) : KCo2 E 9 := ⟨Nat.le_trans (show 10 ≤ 59 by decide) (Nat.le_add_left 59 _), fun _ => rfl⟩
theorem kC_10 (E : CE) : KCaI E 10 8 := ⟨Nat.le_trans (show 11 ≤ 59 by decide) (Nat.le_add_left 59 _), fun _ => rfl⟩
theorem kC_11 (E : CE) : KCaI E 11 8 := ⟨Nat.le_trans (show 12 ≤ 59 by decide) (Nat.le_add_left 59 _), fun _ => rfl⟩
theorem kC_12 (E : CE) : KCaI E 12 7 := ⟨Nat.le_trans (show 13 ≤ 59 by decide) (Nat.le_add_left 59 _), fun _ => rfl⟩
theorem kC_13 (E : CE) : KCaI E 13 7 := ⟨Nat.le_trans (show 14 ≤ 59 by decide) (Nat.le_add_left 59 _), fun _ => rfl⟩
theorem kC_14 (E : CE) : KCo4 E 14 := ⟨Nat.le_trans (show 15 ≤ 59 by decide) (Nat.le_add_left 59 _), fun _ => rfl⟩
theorem kC_15 (E : CE) : KCaI E 15 700 := ⟨Nat.le_trans (show 16 ≤ 59 by decide) (Nat.le_add_left 59 _), fun _ => rfl⟩
theorem kC_16 (E : CE) : KCaI E 16 64 := ⟨Nat.le_trans (show 17 ≤ 59 by decide) (Nat.le_add_left 59 _), fun _ => rfl⟩
theorem kC_17 (E : CE) : KCo4 E 17 := ⟨Nat.le_trans (show 18 ≤ 59 by decide) (Nat.le_add_left 59 _), fun _ => rfl⟩
theorem kC_18 (E : CE) : KCaI E 18 700 := ⟨Nat.le_trans (show 19 ≤ 59 by decide) (Nat.le_add_left 59 _), fun _ => rfl⟩
theorem kC_19 (E : CE) : KCaI E 19 64 := ⟨Nat.le_trans (show 20 ≤ 59 by decide) (Nat.le_add_left 59 _), fun _ => rfl⟩
theorem kC_20 (E : CE) : KCaI E 20 64 := ⟨Nat.le_trans (show 21 ≤ 59 by decide) (Nat.le_add_left 59 _), fun _ => rfl⟩
theorem kC_21 (E : CE) : KCaI E 21 4 := ⟨Nat.le_trans (show 22 ≤ 59 by decide) (Nat.le_add_left 59 _), fun _ => rfl⟩
theorem kC_22 (E : CE) : KCo8 E 22 := ⟨Nat.le_trans (show 23 ≤ 59 by decide) (Nat.le_add_left 59 _), fun _ => rfl⟩
theorem kC_23 (E : CE) : KCo2 E 23 := ⟨Nat.le_trans (show 24 ≤ 59 by decide) (Nat.le_add_left 59 _), fun _ => rfl⟩
theorem kC_24 (E : CE) : KCaI E 24 8 := ⟨Nat.le_trans (show 25 ≤ 59 by decide) (Nat.le_add_left 59 _), fun _ => rfl⟩
theorem kC_25 (E : CE) : KCaI E 25 8 := ⟨Nat.le_trans (show 26 ≤ 59 by decide) (Nat.le_add_left 59 _), fun _ => rfl⟩
theorem kC_26 (E : CE) : KCaI E 26 7 := ⟨Nat.le_trans (show 27 ≤ 59 by decide) (Nat.le_add_left 59 _), fun _ => rfl⟩
theorem kC_27 (E : CE) : KCaI E 27 7 := ⟨Nat.le_trans (show 28 ≤ 59 by decide) (Nat.le_add_left 59 _), fun _ => rfl⟩
theorem kC_28 (E : CE) : KCo4 E 28 := ⟨Nat.le_trans (show 29 ≤ 59 by decide) (Nat.le_add_left 59 _), fun _ => rfl⟩
theorem kC_29 (E : CE) : KCaI E 29 700 := ⟨Nat.le_trans (show 30 ≤ 59 by decide) (Nat.le_add_left 59 _), fun _ => rfl⟩
theorem kC_30 (E : CE) : KCaI E 30 64 := ⟨Nat.le_trans (show 31 ≤ 59 by decide) (Nat.le_add_left 59 _), fun _ => rfl⟩
theorem kC_31 (E : CE) : KCo4 E 31 := ⟨Nat.le_trans (show 32 ≤ 59 by decide) (Nat.le_add_left 59 _), fun _ => rfl⟩
theorem kC_32 (E : CE) : KCaI E 32 700 := ⟨Nat.le_trans (show 33 ≤ 59 by decide) (Nat.le_add_left 59 _), fun _ => rfl⟩
theorem kC_33 (E : CE) : KCaI E 33 64 := ⟨Nat.le_trans (show 34 ≤ 59 by decide) (Nat.le_add_left 59 _), fun _ => rfl⟩
theorem kC_34 (E : CE) : KCaI E 34 64 := ⟨Nat.le_trans (show 35 ≤ 59 by decide) (Nat.le_add_left 59 _), fun _ => rfl⟩
theorem kC_35 (E : CE) : KCaI E 35 10 := ⟨Nat.le_trans (show 36 ≤ 59 by decide) (Nat.le_add_left 59 _), fun _ => rfl⟩
theorem kC_36 (E : CE) : KCaI E 36 8 := ⟨Nat.le_trans (show 37 ≤ 59 by decide) (Nat.le_add_left 59 _), fun _ => rfl⟩
theorem kC_37 (E : CE) : KCaI E 37 7 := ⟨Nat.le_trans (show 38 ≤ 59 by decide) (Nat.le_add_left 59 _), fun _ => rfl⟩
theorem kC_38 (E : CE) : KCo7 E 38 := ⟨Nat.le_trans (show 39 ≤ 59 by decide) (Nat.le_add_left 59 _), fun _ => rfl⟩
theorem kC_39 (E : CE) : KCaI E 39 56 := ⟨Nat.le_trans (show 40 ≤ 59 by decide) (Nat.le_add_left 59 _), fun _ => rfl⟩
theorem kC_40 (E : CE) : KCaI E 40 256 := ⟨Nat.le_trans (show 41 ≤ 59 by decide) (Nat.le_add_left 59 _), fun _ => rfl⟩
theorem kC_41 (E : CE) : KCaI E 41 2048 := ⟨Nat.le_trans (show 42 ≤ 59 by decide) (Nat.le_add_left 59 _), fun _ => rfl⟩
theorem kC_42 (E : CE) : KCo1 E 42 := ⟨Nat.le_trans (show 43 ≤ 59 by decide) (Nat.le_add_left 59 _), fun _ => rfl⟩
theorem kC_43 (E : CE) : KCaI E 43 64 := ⟨Nat.le_trans (show 44 ≤ 59 by decide) (Nat.le_add_left 59 _), fun _ => rfl⟩
theorem kC_44 (E : CE) : KCo0 E 44 := ⟨Nat.le_trans (show 45 ≤ 59 by decide) (Nat.le_add_left 59 _), fun _ => rfl⟩
theorem kC_45 (E : CE) : KCaI E 45 2560 := ⟨Nat.le_trans (show 46 ≤ 59 by decide) (Nat.le_add_left 59 _), fun _ => rfl⟩
theorem kC_46 (E : CE) : KCo6 E 46 := ⟨Nat.le_trans (show 47 ≤ 59 by decide) (Nat.le_add_left 59 _), fun _ => rfl⟩
theorem kC_47 (E : CE) : KCaI E 47 32 := ⟨Nat.le_trans (show 48 ≤ 59 by decide) (Nat.le_add_left 59 _), fun _ => rfl⟩
theorem kC_48 (E : CE) : KCaI E 48 3 := ⟨Nat.le_trans (show 49 ≤ 59 by decide) (Nat.le_add_left 59 _), fun _ => rfl⟩
theorem kC_49 (E : CE) : KCo1 E 49 := ⟨Nat.le_trans (show 50 ≤ 59 by decide) (Nat.le_add_left 59 _), fun _ => rfl⟩
theorem kC_50 (E : CE) : KCaI E 50 64 := ⟨Nat.le_trans (show 51 ≤ 59 by decide) (Nat.le_add_left 59 _), fun _ => rfl⟩
theorem kC_51 (E : CE) : KCo0 E 51 := ⟨Nat.le_trans (show 52 ≤ 59 by decide) (Nat.le_add_left 59 _), fun _ => rfl⟩
theorem kC_52 (E : CE) : KCaI E 52 2560 := ⟨Nat.le_trans (show 53 ≤ 59 by decide) (Nat.le_add_left 59 _), fun _ => rfl⟩
theorem kC_53 (E : CE) : KCo6 E 53 := ⟨Nat.le_trans (show 54 ≤ 59 by decide) (Nat.le_add_left 59 _), fun _ => rfl⟩
theorem kC_54 (E : CE) : KCaI E 54 32 := ⟨Nat.le_trans (show 55 ≤ 59 by decide) (Nat.le_add_left 59 _), fun _ => rfl⟩
theorem kC_55 (E : CE) : KCaI E 55 3 := ⟨Nat.le_trans (show 56 ≤ 59 by decide) (Nat.le_add_left 59 _), fun _ => rfl⟩
theorem kC_56 (E : CE) : KCaI E 56 64 := ⟨Nat.le_trans (show 57 ≤ 59 by decide) (Nat.le_add_left 59 _), fun _ => rfl⟩
theorem kC_57 (E : CE) : KCaI E 57 8 := ⟨Nat.le_trans (show 58 ≤ 59 by decide) (Nat.le_add_left 59 _), fun _ => rfl⟩
theorem kC_58 (E : CE) : KCaI E 58 8 := ⟨Nat.le_trans (show 59 ≤ 59 by decide) (Nat.le_add_left 59 _), fun _ => rfl⟩
theorem kC_59 (E : CE) (hn : 0 < E.2.2.2.2.2.2) : KCaJ E 59 1 := ⟨Nat.lt_add_of_pos_left hn, fun _ => rfl⟩
theorem inGX0 : ∀ w ∈ u_ws RX0 TX0 3, w ∈ GG := gg_ps _ [383, 385, 387] (by decide +kernel) (by decide +kernel)
theorem inGX1 : ∀ w ∈ u_ws RX1 TX1 4, w ∈ GG := gg_ps _ [413, 415, 417, 419] (by decide +kernel) (by decide +kernel)
theorem inGX2 : ∀ w ∈ u_ws RX2 TX2 10, w ∈ GG := gg_ps _ [278, 280, 282, 284, 286, 288, 290, 292, 294, 296] (by decide +kernel) (by decide +kernel)
theorem inGX3 : ∀ w ∈ u_ws RX3 TX3 5, w ∈ GG := gg_ps _ [306, 308, 310, 312, 314] (by decide +kernel) (by decide +kernel)
theorem inGX4 : ∀ w ∈ u_ws RX4 TX4 3, w ∈ GG := gg_ps _ [193, 195, 197] (by decide +kernel) (by decide +kernel)
theorem inGX5 : ∀ w ∈ u_ws RX5 TX5 10, w ∈ GG := gg_ps _ [212, 214, 216, 218, 220, 222, 224, 226, 228, 230] (by decide +kernel) (by decide +kernel)
theorem inGX6 : ∀ w ∈ u_ws RX6 TX6 2, w ∈ GG := gg_ps _ [400, 402] (by decide +kernel) (by decide +kernel)
theorem inGX7 : ∀ w ∈ u_ws RX7 TX7 6, w ∈ GG := gg_ps _ [354, 356, 358, 360, 362, 364] (by decide +kernel) (by decide +kernel)
theorem inGX8 : ∀ w ∈ u_ws RX8 TX8 5, w ∈ GG := gg_ps _ [331, 333, 335, 337, 339] (by decide +kernel) (by decide +kernel)
theorem inGX9 : ∀ w ∈ u_ws RX9 TX9 7, w ∈ GG := gg_ps _ [168, 170, 172, 174, 176, 178, 180] (by decide +kernel) (by decide +kernel)
theorem inGX10 : ∀ w ∈ u_ws RX10 TX10 12, w ∈ GG := gg_ps _ [453, 455, 457, 459, 461, 463, 465, 467, 469, 471, 473, 475] (by decide +kernel) (by decide +kernel)
theorem tw_0 : (.code yJ0_coder_7d493 cJ0_coder_7d493 1 (some .byte) : Cond) ∈ GG := gg_3 (List.mem_of_getElem? (i := 153) (by decide +kernel)) (by decide +kernel)
theorem tw_1 : (.initialized yJ0_coder_7d493.cls : Cond) ∈ GG := gg_1 (List.mem_of_getElem? (i := 19) (by decide +kernel)) (by decide +kernel)
theorem tw_2 : (.instanceMethod yJ0_coder_7d493 : Cond) ∈ GG := gg_3 (List.mem_of_getElem? (i := 151) (by decide +kernel)) (by decide +kernel)
theorem tw_3 : (.selects yJ0_coder_7d493.cls yJ0_coder_7d493 yJ0_coder_7d493 : Cond) ∈ GG := gg_3 (List.mem_of_getElem? (i := 152) (by decide +kernel)) (by decide +kernel)
theorem tw_4 : (.code yJ0_length_8abf5 cJ0_length_8abf5 1 (some .int) : Cond) ∈ GG := gg_3 (List.mem_of_getElem? (i := 149) (by decide +kernel)) (by decide +kernel)
theorem tw_5 : (.initialized yJ0_length_8abf5.cls : Cond) ∈ GG := gg_1 (List.mem_of_getElem? (i := 19) (by decide +kernel)) (by decide +kernel)
theorem tw_6 : (.instanceMethod yJ0_length_8abf5 : Cond) ∈ GG := gg_3 (List.mem_of_getElem? (i := 147) (by decide +kernel)) (by decide +kernel)
theorem tw_7 : (.selects yJ0_length_8abf5.cls yJ0_length_8abf5 yJ0_length_8abf5 : Cond) ∈ GG := gg_3 (List.mem_of_getElem? (i := 148) (by decide +kernel)) (by decide +kernel)
theorem tw_8 : (.code yJ0_isLatin1_aae02 cJ0_isLatin1_aae02 1 (some .boolean) : Cond) ∈ GG := gg_3 (List.mem_of_getElem? (i := 163) (by decide +kernel)) (by decide +kernel)
theorem tw_9 : (.initialized yJ0_isLatin1_aae02.cls : Cond) ∈ GG := gg_1 (List.mem_of_getElem? (i := 19) (by decide +kernel)) (by decide +kernel)
theorem tw_10 : (.instanceMethod yJ0_isLatin1_aae02 : Cond) ∈ GG := gg_3 (List.mem_of_getElem? (i := 161) (by decide +kernel)) (by decide +kernel)
theorem tw_11 : (.selects yJ0_isLatin1_aae02.cls yJ0_isLatin1_aae02 yJ0_isLatin1_aae02 : Cond) ∈ GG := gg_3 (List.mem_of_getElem? (i := 162) (by decide +kernel)) (by decide +kernel)
theorem tw_12 : (.code yJ3_checkIndex_8e157 cJ3_checkIndex_8e157 3 (some .int) : Cond) ∈ GG := gg_3 (List.mem_of_getElem? (i := 174) (by decide +kernel)) (by decide +kernel)
theorem tw_13 : (.initialized yJ3_checkIndex_8e157.cls : Cond) ∈ GG := gg_1 (List.mem_of_getElem? (i := 21) (by decide +kernel)) (by decide +kernel)
theorem tw_14 : (.static yJ3_checkIndex_8e157 : Cond) ∈ GG := gg_3 (List.mem_of_getElem? (i := 173) (by decide +kernel)) (by decide +kernel)
theorem tw_15 : (.code yJ0_checkIndex_df160 cJ0_checkIndex_df160 2 none : Cond) ∈ GG := gg_3 (List.mem_of_getElem? (i := 169) (by decide +kernel)) (by decide +kernel)
theorem tw_16 : (.initialized yJ0_checkIndex_df160.cls : Cond) ∈ GG := gg_1 (List.mem_of_getElem? (i := 19) (by decide +kernel)) (by decide +kernel)
theorem tw_17 : (.static yJ0_checkIndex_df160 : Cond) ∈ GG := gg_3 (List.mem_of_getElem? (i := 168) (by decide +kernel)) (by decide +kernel)
theorem tw_18 : (.code yJ1_charAt_3b067 cJ1_charAt_3b067 2 (some .char) : Cond) ∈ GG := gg_3 (List.mem_of_getElem? (i := 166) (by decide +kernel)) (by decide +kernel)
theorem tw_19 : (.initialized yJ1_charAt_3b067.cls : Cond) ∈ GG := gg_1 (List.mem_of_getElem? (i := 20) (by decide +kernel)) (by decide +kernel)
theorem tw_20 : (.static yJ1_charAt_3b067 : Cond) ∈ GG := gg_3 (List.mem_of_getElem? (i := 165) (by decide +kernel)) (by decide +kernel)
theorem tw_21 : (.code yJ0_charAt_5068e cJ0_charAt_5068e 2 (some .char) : Cond) ∈ GG := gg_3 (List.mem_of_getElem? (i := 159) (by decide +kernel)) (by decide +kernel)
theorem tw_22 : (.initialized yJ0_charAt_5068e.cls : Cond) ∈ GG := gg_1 (List.mem_of_getElem? (i := 19) (by decide +kernel)) (by decide +kernel)
theorem tw_23 : (.instanceMethod yJ0_charAt_5068e : Cond) ∈ GG := gg_3 (List.mem_of_getElem? (i := 157) (by decide +kernel)) (by decide +kernel)
theorem tw_24 : (.selects yJ0_charAt_5068e.cls yJ0_charAt_5068e yJ0_charAt_5068e : Cond) ∈ GG := gg_3 (List.mem_of_getElem? (i := 158) (by decide +kernel)) (by decide +kernel)
theorem tw_25 : (.fieldLink RJ0 38 "java/lang/String" "COMPACT_STRINGS" "Z" : Cond) ∈ GG := gg_3 (List.mem_of_getElem? (i := 154) (by decide +kernel)) (by decide +kernel)
theorem tw_26 : (.fieldLink RJ0 15 "java/lang/String" "coder" "B" : Cond) ∈ GG := gg_8 (List.mem_of_getElem? (i := 167) (by decide +kernel)) (by decide +kernel)
theorem tw_27 : (.fieldLink RJ0 9 "java/lang/String" "value" "[B" : Cond) ∈ GG := gg_8 (List.mem_of_getElem? (i := 166) (by decide +kernel)) (by decide +kernel)
theorem tw_28 : (.fieldLink RJ0 1053 "jdk/internal/util/Preconditions" "SIOOBE_FORMATTER" "Ljava/util/function/BiFunction;" : Cond) ∈ GG := gg_3 (List.mem_of_getElem? (i := 170) (by decide +kernel)) (by decide +kernel)
theorem tw_29 : (.methodLink RJ0 335 yJ0_coder_7d493 : Cond) ∈ GG := gg_3 (List.mem_of_getElem? (i := 150) (by decide +kernel)) (by decide +kernel)
theorem tw_30 : (.methodLink RJ0 1059 yJ3_checkIndex_8e157 : Cond) ∈ GG := gg_3 (List.mem_of_getElem? (i := 172) (by decide +kernel)) (by decide +kernel)
theorem tw_31 : (.methodLink RJ1 9 yJ0_checkIndex_df160 : Cond) ∈ GG := gg_3 (List.mem_of_getElem? (i := 167) (by decide +kernel)) (by decide +kernel)
theorem tw_32 : (.methodLink RJ0 492 yJ0_isLatin1_aae02 : Cond) ∈ GG := gg_3 (List.mem_of_getElem? (i := 160) (by decide +kernel)) (by decide +kernel)
theorem tw_33 : (.methodLink RJ0 495 yJ1_charAt_3b067 : Cond) ∈ GG := gg_3 (List.mem_of_getElem? (i := 164) (by decide +kernel)) (by decide +kernel)
theorem tw_34 : (.fieldLink RX0 15 (TX0 1).1 (TX0 1).2.1 (TX0 1).2.2.1 : Cond) ∈ GG := gg_2 (List.mem_of_getElem? (i := 36) (by decide +kernel)) (by decide +kernel)
theorem tw_35 : (.fieldLink RX0 19 (TX0 2).1 (TX0 2).2.1 (TX0 2).2.2.1 : Cond) ∈ GG := gg_2 (List.mem_of_getElem? (i := 37) (by decide +kernel)) (by decide +kernel)
theorem tw_36 : (.fieldLink RX0 9 (TX0 0).1 (TX0 0).2.1 (TX0 0).2.2.1 : Cond) ∈ GG := gg_2 (List.mem_of_getElem? (i := 35) (by decide +kernel)) (by decide +kernel)
theorem tw_37 : (.methodLink RX0 22 arraycopyName : Cond) ∈ GG := gg_2 (List.mem_of_getElem? (i := 162) (by decide +kernel)) (by decide +kernel)
theorem tw_38 : (.fieldLink RX4 18 (TX4 2).1 (TX4 2).2.1 (TX4 2).2.2.1 : Cond) ∈ GG := gg_1 (List.mem_of_getElem? (i := 88) (by decide +kernel)) (by decide +kernel)
theorem tw_39 : (.fieldLink RX4 9 (TX4 0).1 (TX4 0).2.1 (TX4 0).2.2.1 : Cond) ∈ GG := gg_1 (List.mem_of_getElem? (i := 86) (by decide +kernel)) (by decide +kernel)
theorem tw_40 : (.methodLink RX4 22 arraycopyName : Cond) ∈ GG := gg_4 (List.mem_of_getElem? (i := 11) (by decide +kernel)) (by decide +kernel)
theorem tw_41 : (.fieldLink RX4 15 (TX4 1).1 (TX4 1).2.1 (TX4 1).2.2.1 : Cond) ∈ GG := gg_1 (List.mem_of_getElem? (i := 87) (by decide +kernel)) (by decide +kernel)
theorem tw_42 : (.methodLink RX4 28 yX4_join : Cond) ∈ GG := gg_2 (List.mem_of_getElem? (i := 207) (by decide +kernel)) (by decide +kernel)
theorem tw_43 : (.code yX4_join cX4_join 3 (some .int) : Cond) ∈ GG := gg_2 (List.mem_of_getElem? (i := 209) (by decide +kernel)) (by decide +kernel)
theorem tw_44 : (.initialized yX4_join.cls : Cond) ∈ GG := gg_1 (List.mem_of_getElem? (i := 5) (by decide +kernel)) (by decide +kernel)
theorem tw_45 : (.static yX4_join : Cond) ∈ GG := gg_2 (List.mem_of_getElem? (i := 208) (by decide +kernel)) (by decide +kernel)
theorem tw_46 : (.fieldLink RX6 15 (TX6 1).1 (TX6 1).2.1 (TX6 1).2.2.1 : Cond) ∈ GG := gg_2 (List.mem_of_getElem? (i := 53) (by decide +kernel)) (by decide +kernel)
theorem tw_47 : (.fieldLink RX6 11 (TX6 0).1 (TX6 0).2.1 (TX6 0).2.2.1 : Cond) ∈ GG := gg_2 (List.mem_of_getElem? (i := 52) (by decide +kernel)) (by decide +kernel)
theorem tw_48 : (.methodLink RX6 19 Lib.Math.max.name : Cond) ∈ GG := gg_5 (List.mem_of_getElem? (i := 142) (by decide +kernel)) (by decide +kernel)
theorem tw_49 : (.methodLink RX6 25 arraycopyName : Cond) ∈ GG := gg_3 (List.mem_of_getElem? (i := 24) (by decide +kernel)) (by decide +kernel)
theorem tw_50 : (.fieldLink RX8 12 (TX8 0).1 (TX8 0).2.1 (TX8 0).2.2.1 : Cond) ∈ GG := gg_1 (List.mem_of_getElem? (i := 221) (by decide +kernel)) (by decide +kernel)
theorem tw_51 : (.fieldLink RX8 42 (TX2 0).1 (TX2 0).2.1 (TX2 0).2.2.1 : Cond) ∈ GG := gg_1 (List.mem_of_getElem? (i := 138) (by decide +kernel)) (by decide +kernel)
theorem tw_52 : (.fieldLink RX8 62 (TX2 3).1 (TX2 3).2.1 (TX2 3).2.2.1 : Cond) ∈ GG := gg_1 (List.mem_of_getElem? (i := 151) (by decide +kernel)) (by decide +kernel)
theorem tw_53 : (.fieldLink RX8 56 (TX2 1).1 (TX2 1).2.1 (TX2 1).2.2.1 : Cond) ∈ GG := gg_1 (List.mem_of_getElem? (i := 142) (by decide +kernel)) (by decide +kernel)
theorem tw_54 : (.fieldLink RX8 65 (TX2 4).1 (TX2 4).2.1 (TX2 4).2.2.1 : Cond) ∈ GG := gg_1 (List.mem_of_getElem? (i := 156) (by decide +kernel)) (by decide +kernel)
theorem tw_55 : (.fieldLink RX8 68 (TX2 2).1 (TX2 2).2.1 (TX2 2).2.2.1 : Cond) ∈ GG := gg_1 (List.mem_of_getElem? (i := 148) (by decide +kernel)) (by decide +kernel)
theorem tw_56 : (.methodLink RX8 71 yX8_lifeOf : Cond) ∈ GG := gg_2 (List.mem_of_getElem? (i := 179) (by decide +kernel)) (by decide +kernel)
theorem tw_57 : (.code yX8_lifeOf cX8_lifeOf 2 (some .int) : Cond) ∈ GG := gg_2 (List.mem_of_getElem? (i := 182) (by decide +kernel)) (by decide +kernel)
theorem tw_58 : (.initialized yX8_lifeOf.cls : Cond) ∈ GG := gg_1 (List.mem_of_getElem? (i := 7) (by decide +kernel)) (by decide +kernel)
theorem tw_59 : (.instanceMethod yX8_lifeOf : Cond) ∈ GG := gg_2 (List.mem_of_getElem? (i := 180) (by decide +kernel)) (by decide +kernel)
theorem tw_60 : (.selects yX8_lifeOf.cls yX8_lifeOf yX8_lifeOf : Cond) ∈ GG := gg_2 (List.mem_of_getElem? (i := 181) (by decide +kernel)) (by decide +kernel)
theorem tw_61 : (.methodLink RX8 75 Lib.Math.max.name : Cond) ∈ GG := gg_2 (List.mem_of_getElem? (i := 221) (by decide +kernel)) (by decide +kernel)
theorem tw_62 : (.fieldLink RX8 18 (TX8 1).1 (TX8 1).2.1 (TX8 1).2.2.1 : Cond) ∈ GG := gg_1 (List.mem_of_getElem? (i := 223) (by decide +kernel)) (by decide +kernel)
theorem tw_63 : (.fieldLink RX8 25 (TX8 3).1 (TX8 3).2.1 (TX8 3).2.2.1 : Cond) ∈ GG := gg_1 (List.mem_of_getElem? (i := 225) (by decide +kernel)) (by decide +kernel)
theorem tw_64 : (.fieldLink RX8 22 (TX8 2).1 (TX8 2).2.1 (TX8 2).2.2.1 : Cond) ∈ GG := gg_1 (List.mem_of_getElem? (i := 224) (by decide +kernel)) (by decide +kernel)
theorem tw_65 : (.methodLink RX8 81 yX8_tellHouse : Cond) ∈ GG := gg_2 (List.mem_of_getElem? (i := 195) (by decide +kernel)) (by decide +kernel)
theorem tw_66 : (.code yX8_tellHouse cX8_tellHouse 3 none : Cond) ∈ GG := gg_2 (List.mem_of_getElem? (i := 198) (by decide +kernel)) (by decide +kernel)
theorem tw_67 : (.initialized yX8_tellHouse.cls : Cond) ∈ GG := gg_1 (List.mem_of_getElem? (i := 7) (by decide +kernel)) (by decide +kernel)
theorem tw_68 : (.instanceMethod yX8_tellHouse : Cond) ∈ GG := gg_2 (List.mem_of_getElem? (i := 197) (by decide +kernel)) (by decide +kernel)
theorem tw_69 : (.selects yX8_tellHouse.cls yX8_tellHouse yX8_tellHouse : Cond) ∈ GG := gg_s (q := (⟨"DogLeases$Street", "tellHouse", "([II)V"⟩, 5)) (List.mem_of_getElem? (i := 4) (by decide +kernel))
theorem tw_70 : (.fieldLink RX8 85 (TX2 8).1 (TX2 8).2.1 (TX2 8).2.2.1 : Cond) ∈ GG := gg_1 (List.mem_of_getElem? (i := 170) (by decide +kernel)) (by decide +kernel)
theorem tw_71 : (.methodLink RX8 89 yX4_isTold : Cond) ∈ GG := gg_2 (List.mem_of_getElem? (i := 199) (by decide +kernel)) (by decide +kernel)
theorem tw_72 : (.code yX4_isTold cX4_isTold 1 (some .boolean) : Cond) ∈ GG := gg_2 (List.mem_of_getElem? (i := 202) (by decide +kernel)) (by decide +kernel)
theorem tw_73 : (.initialized yX4_isTold.cls : Cond) ∈ GG := gg_1 (List.mem_of_getElem? (i := 5) (by decide +kernel)) (by decide +kernel)
theorem tw_74 : (.instanceMethod yX4_isTold : Cond) ∈ GG := gg_2 (List.mem_of_getElem? (i := 200) (by decide +kernel)) (by decide +kernel)
theorem tw_75 : (.selects yX4_isTold.cls yX4_isTold yX4_isTold : Cond) ∈ GG := gg_2 (List.mem_of_getElem? (i := 201) (by decide +kernel)) (by decide +kernel)
theorem tw_76 : (.methodLink RX8 95 yX4_value : Cond) ∈ GG := gg_2 (List.mem_of_getElem? (i := 203) (by decide +kernel)) (by decide +kernel)
theorem tw_77 : (.code yX4_value cX4_value 5 (some .int) : Cond) ∈ GG := gg_2 (List.mem_of_getElem? (i := 206) (by decide +kernel)) (by decide +kernel)
theorem tw_78 : (.initialized yX4_value.cls : Cond) ∈ GG := gg_1 (List.mem_of_getElem? (i := 5) (by decide +kernel)) (by decide +kernel)
theorem tw_79 : (.instanceMethod yX4_value : Cond) ∈ GG := gg_2 (List.mem_of_getElem? (i := 204) (by decide +kernel)) (by decide +kernel)
theorem tw_80 : (.selects yX4_value.cls yX4_value yX4_value : Cond) ∈ GG := gg_2 (List.mem_of_getElem? (i := 205) (by decide +kernel)) (by decide +kernel)
theorem tw_81 : (.fieldLink RX8 110 (TX2 7).1 (TX2 7).2.1 (TX2 7).2.2.1 : Cond) ∈ GG := gg_1 (List.mem_of_getElem? (i := 167) (by decide +kernel)) (by decide +kernel)
theorem tw_82 : (.methodLink RX8 116 Lib.Math.min.name : Cond) ∈ GG := gg_2 (List.mem_of_getElem? (i := 218) (by decide +kernel)) (by decide +kernel)
theorem tw_83 : (.fieldLink RX8 119 (TX2 6).1 (TX2 6).2.1 (TX2 6).2.2.1 : Cond) ∈ GG := gg_1 (List.mem_of_getElem? (i := 164) (by decide +kernel)) (by decide +kernel)
theorem tw_84 : (.methodLink RX8 113 yX8_tellTenant : Cond) ∈ GG := gg_2 (List.mem_of_getElem? (i := 214) (by decide +kernel)) (by decide +kernel)
theorem tw_85 : (.code yX8_tellTenant cX8_tellTenant 5 none : Cond) ∈ GG := gg_2 (List.mem_of_getElem? (i := 217) (by decide +kernel)) (by decide +kernel)
theorem tw_86 : (.initialized yX8_tellTenant.cls : Cond) ∈ GG := gg_1 (List.mem_of_getElem? (i := 7) (by decide +kernel)) (by decide +kernel)
theorem tw_87 : (.instanceMethod yX8_tellTenant : Cond) ∈ GG := gg_2 (List.mem_of_getElem? (i := 216) (by decide +kernel)) (by decide +kernel)
theorem tw_88 : (.selects yX8_tellTenant.cls yX8_tellTenant yX8_tellTenant : Cond) ∈ GG := gg_s (q := (⟨"DogLeases$Street", "tellTenant", "([III)V"⟩, 5)) (List.mem_of_getElem? (i := 6) (by decide +kernel))
theorem tw_89 : (.methodLink RX8 36 yX8_rememberOwners : Cond) ∈ GG := gg_2 (List.mem_of_getElem? (i := 171) (by decide +kernel)) (by decide +kernel)
theorem tw_90 : (.code yX8_rememberOwners cX8_rememberOwners 4 none : Cond) ∈ GG := gg_2 (List.mem_of_getElem? (i := 174) (by decide +kernel)) (by decide +kernel)
theorem tw_91 : (.initialized yX8_rememberOwners.cls : Cond) ∈ GG := gg_1 (List.mem_of_getElem? (i := 7) (by decide +kernel)) (by decide +kernel)
theorem tw_92 : (.instanceMethod yX8_rememberOwners : Cond) ∈ GG := gg_2 (List.mem_of_getElem? (i := 173) (by decide +kernel)) (by decide +kernel)
theorem tw_93 : (.selects yX8_rememberOwners.cls yX8_rememberOwners yX8_rememberOwners : Cond) ∈ GG := gg_s (q := (⟨"DogLeases$Street", "rememberOwners", "([I)V"⟩, 5)) (List.mem_of_getElem? (i := 0) (by decide +kernel))
theorem tw_94 : (.methodLink RX8 99 yX8_likingOf : Cond) ∈ GG := gg_2 (List.mem_of_getElem? (i := 210) (by decide +kernel)) (by decide +kernel)
theorem tw_95 : (.code yX8_likingOf cX8_likingOf 6 (some .int) : Cond) ∈ GG := gg_2 (List.mem_of_getElem? (i := 213) (by decide +kernel)) (by decide +kernel)
theorem tw_96 : (.initialized yX8_likingOf.cls : Cond) ∈ GG := gg_1 (List.mem_of_getElem? (i := 7) (by decide +kernel)) (by decide +kernel)
theorem tw_97 : (.instanceMethod yX8_likingOf : Cond) ∈ GG := gg_2 (List.mem_of_getElem? (i := 212) (by decide +kernel)) (by decide +kernel)
theorem tw_98 : (.selects yX8_likingOf.cls yX8_likingOf yX8_likingOf : Cond) ∈ GG := gg_s (q := (⟨"DogLeases$Street", "likingOf", "([III)I"⟩, 5)) (List.mem_of_getElem? (i := 5) (by decide +kernel))
theorem tw_99 : (.methodLink RX8 103 yX8_bury : Cond) ∈ GG := gg_2 (List.mem_of_getElem? (i := 183) (by decide +kernel)) (by decide +kernel)
theorem tw_100 : (.code yX8_bury cX8_bury 3 none : Cond) ∈ GG := gg_2 (List.mem_of_getElem? (i := 186) (by decide +kernel)) (by decide +kernel)
theorem tw_101 : (.initialized yX8_bury.cls : Cond) ∈ GG := gg_1 (List.mem_of_getElem? (i := 7) (by decide +kernel)) (by decide +kernel)
theorem tw_102 : (.instanceMethod yX8_bury : Cond) ∈ GG := gg_2 (List.mem_of_getElem? (i := 185) (by decide +kernel)) (by decide +kernel)
theorem tw_103 : (.selects yX8_bury.cls yX8_bury yX8_bury : Cond) ∈ GG := gg_s (q := (⟨"DogLeases$Street", "bury", "([II)V"⟩, 5)) (List.mem_of_getElem? (i := 2) (by decide +kernel))
theorem tw_104 : (.methodLink RX8 106 yX8_isAsleep : Cond) ∈ GG := gg_2 (List.mem_of_getElem? (i := 191) (by decide +kernel)) (by decide +kernel)
theorem tw_105 : (.code yX8_isAsleep cX8_isAsleep 3 (some .boolean) : Cond) ∈ GG := gg_2 (List.mem_of_getElem? (i := 194) (by decide +kernel)) (by decide +kernel)
theorem tw_106 : (.initialized yX8_isAsleep.cls : Cond) ∈ GG := gg_1 (List.mem_of_getElem? (i := 7) (by decide +kernel)) (by decide +kernel)
theorem tw_107 : (.instanceMethod yX8_isAsleep : Cond) ∈ GG := gg_2 (List.mem_of_getElem? (i := 192) (by decide +kernel)) (by decide +kernel)
theorem tw_108 : (.selects yX8_isAsleep.cls yX8_isAsleep yX8_isAsleep : Cond) ∈ GG := gg_2 (List.mem_of_getElem? (i := 193) (by decide +kernel)) (by decide +kernel)
theorem tw_109 : (.methodLink RX8 122 yX8_rentOf : Cond) ∈ GG := gg_2 (List.mem_of_getElem? (i := 232) (by decide +kernel)) (by decide +kernel)
theorem tw_110 : (.code yX8_rentOf cX8_rentOf 5 (some .int) : Cond) ∈ GG := gg_2 (List.mem_of_getElem? (i := 235) (by decide +kernel)) (by decide +kernel)
theorem tw_111 : (.initialized yX8_rentOf.cls : Cond) ∈ GG := gg_1 (List.mem_of_getElem? (i := 7) (by decide +kernel)) (by decide +kernel)
theorem tw_112 : (.instanceMethod yX8_rentOf : Cond) ∈ GG := gg_2 (List.mem_of_getElem? (i := 233) (by decide +kernel)) (by decide +kernel)
theorem tw_113 : (.selects yX8_rentOf.cls yX8_rentOf yX8_rentOf : Cond) ∈ GG := gg_2 (List.mem_of_getElem? (i := 234) (by decide +kernel)) (by decide +kernel)
theorem tw_114 : (.fieldLink RX8 125 (TX2 5).1 (TX2 5).2.1 (TX2 5).2.2.1 : Cond) ∈ GG := gg_1 (List.mem_of_getElem? (i := 160) (by decide +kernel)) (by decide +kernel)
theorem tw_115 : (.fieldLink RX8 28 (TX8 4).1 (TX8 4).2.1 (TX8 4).2.2.1 : Cond) ∈ GG := gg_1 (List.mem_of_getElem? (i := 226) (by decide +kernel)) (by decide +kernel)
theorem tw_116 : (.constant RX8 131 (1103515245) : Cond) ∈ GG := gg_5 (List.mem_of_getElem? (i := 203) (by decide +kernel)) (by decide +kernel)
theorem tw_117 : (.methodLink RX8 128 yX8_draw : Cond) ∈ GG := gg_5 (List.mem_of_getElem? (i := 199) (by decide +kernel)) (by decide +kernel)
theorem tw_118 : (.code yX8_draw cX8_draw 2 (some .int) : Cond) ∈ GG := gg_5 (List.mem_of_getElem? (i := 202) (by decide +kernel)) (by decide +kernel)
theorem tw_119 : (.initialized yX8_draw.cls : Cond) ∈ GG := gg_1 (List.mem_of_getElem? (i := 7) (by decide +kernel)) (by decide +kernel)
theorem tw_120 : (.instanceMethod yX8_draw : Cond) ∈ GG := gg_5 (List.mem_of_getElem? (i := 201) (by decide +kernel)) (by decide +kernel)
theorem tw_121 : (.selects yX8_draw.cls yX8_draw yX8_draw : Cond) ∈ GG := gg_s (q := (⟨"DogLeases$Street", "draw", "(I)I"⟩, 5)) (List.mem_of_getElem? (i := 48) (by decide +kernel))
theorem tw_122 : (.methodLink RX8 39 yX8_growOld : Cond) ∈ GG := gg_2 (List.mem_of_getElem? (i := 175) (by decide +kernel)) (by decide +kernel)
theorem tw_123 : (.code yX8_growOld cX8_growOld 3 none : Cond) ∈ GG := gg_2 (List.mem_of_getElem? (i := 178) (by decide +kernel)) (by decide +kernel)
theorem tw_124 : (.initialized yX8_growOld.cls : Cond) ∈ GG := gg_1 (List.mem_of_getElem? (i := 7) (by decide +kernel)) (by decide +kernel)
theorem tw_125 : (.instanceMethod yX8_growOld : Cond) ∈ GG := gg_2 (List.mem_of_getElem? (i := 177) (by decide +kernel)) (by decide +kernel)
theorem tw_126 : (.selects yX8_growOld.cls yX8_growOld yX8_growOld : Cond) ∈ GG := gg_s (q := (⟨"DogLeases$Street", "growOld", "([I)V"⟩, 5)) (List.mem_of_getElem? (i := 1) (by decide +kernel))
theorem tw_127 : (.methodLink RX8 53 yX8_pay : Cond) ∈ GG := gg_2 (List.mem_of_getElem? (i := 228) (by decide +kernel)) (by decide +kernel)
theorem tw_128 : (.code yX8_pay cX8_pay 3 none : Cond) ∈ GG := gg_2 (List.mem_of_getElem? (i := 231) (by decide +kernel)) (by decide +kernel)
theorem tw_129 : (.initialized yX8_pay.cls : Cond) ∈ GG := gg_1 (List.mem_of_getElem? (i := 7) (by decide +kernel)) (by decide +kernel)
theorem tw_130 : (.instanceMethod yX8_pay : Cond) ∈ GG := gg_2 (List.mem_of_getElem? (i := 230) (by decide +kernel)) (by decide +kernel)
theorem tw_131 : (.selects yX8_pay.cls yX8_pay yX8_pay : Cond) ∈ GG := gg_s (q := (⟨"DogLeases$Street", "pay", "([I)V"⟩, 5)) (List.mem_of_getElem? (i := 8) (by decide +kernel))
theorem tw_132 : (.methodLink RX8 45 yX8_sitsBy : Cond) ∈ GG := gg_2 (List.mem_of_getElem? (i := 187) (by decide +kernel)) (by decide +kernel)
theorem tw_133 : (.code yX8_sitsBy cX8_sitsBy 7 (some .int) : Cond) ∈ GG := gg_2 (List.mem_of_getElem? (i := 190) (by decide +kernel)) (by decide +kernel)
theorem tw_134 : (.initialized yX8_sitsBy.cls : Cond) ∈ GG := gg_1 (List.mem_of_getElem? (i := 7) (by decide +kernel)) (by decide +kernel)
theorem tw_135 : (.instanceMethod yX8_sitsBy : Cond) ∈ GG := gg_2 (List.mem_of_getElem? (i := 189) (by decide +kernel)) (by decide +kernel)
theorem tw_136 : (.selects yX8_sitsBy.cls yX8_sitsBy yX8_sitsBy : Cond) ∈ GG := gg_s (q := (⟨"DogLeases$Street", "sitsBy", "([II)I"⟩, 5)) (List.mem_of_getElem? (i := 3) (by decide +kernel))
theorem tw_137 : (.methodLink RX8 49 yX8_settle : Cond) ∈ GG := gg_2 (List.mem_of_getElem? (i := 224) (by decide +kernel)) (by decide +kernel)
theorem tw_138 : (.code yX8_settle cX8_settle 4 none : Cond) ∈ GG := gg_2 (List.mem_of_getElem? (i := 227) (by decide +kernel)) (by decide +kernel)
theorem tw_139 : (.initialized yX8_settle.cls : Cond) ∈ GG := gg_1 (List.mem_of_getElem? (i := 7) (by decide +kernel)) (by decide +kernel)
theorem tw_140 : (.instanceMethod yX8_settle : Cond) ∈ GG := gg_2 (List.mem_of_getElem? (i := 226) (by decide +kernel)) (by decide +kernel)
theorem tw_141 : (.selects yX8_settle.cls yX8_settle yX8_settle : Cond) ∈ GG := gg_s (q := (⟨"DogLeases$Street", "settle", "([III)V"⟩, 5)) (List.mem_of_getElem? (i := 7) (by decide +kernel))
theorem tw_142 : (.methodLink RX8 32 yX8_passQuarter : Cond) ∈ GG := gg_2 (List.mem_of_getElem? (i := 167) (by decide +kernel)) (by decide +kernel)
theorem tw_143 : (.code yX8_passQuarter cX8_passQuarter 3 none : Cond) ∈ GG := gg_2 (List.mem_of_getElem? (i := 170) (by decide +kernel)) (by decide +kernel)
theorem tw_144 : (.initialized yX8_passQuarter.cls : Cond) ∈ GG := gg_1 (List.mem_of_getElem? (i := 7) (by decide +kernel)) (by decide +kernel)
theorem tw_145 : (.instanceMethod yX8_passQuarter : Cond) ∈ GG := gg_2 (List.mem_of_getElem? (i := 168) (by decide +kernel)) (by decide +kernel)
theorem tw_146 : (.selects yX8_passQuarter.cls yX8_passQuarter yX8_passQuarter : Cond) ∈ GG := gg_2 (List.mem_of_getElem? (i := 169) (by decide +kernel)) (by decide +kernel)
theorem tw_147 : (.methodLink RX8 59 yX8_disturb : Cond) ∈ GG := gg_5 (List.mem_of_getElem? (i := 195) (by decide +kernel)) (by decide +kernel)
theorem tw_148 : (.code yX8_disturb cX8_disturb 4 none : Cond) ∈ GG := gg_5 (List.mem_of_getElem? (i := 198) (by decide +kernel)) (by decide +kernel)
theorem tw_149 : (.initialized yX8_disturb.cls : Cond) ∈ GG := gg_1 (List.mem_of_getElem? (i := 7) (by decide +kernel)) (by decide +kernel)
theorem tw_150 : (.instanceMethod yX8_disturb : Cond) ∈ GG := gg_5 (List.mem_of_getElem? (i := 197) (by decide +kernel)) (by decide +kernel)
theorem tw_151 : (.selects yX8_disturb.cls yX8_disturb yX8_disturb : Cond) ∈ GG := gg_s (q := (⟨"DogLeases$Street", "disturb", "([I)V"⟩, 5)) (List.mem_of_getElem? (i := 47) (by decide +kernel))
theorem tw_152 : (.constant RJ6 265 (1431655765) : Cond) ∈ GG := gg_5 (List.mem_of_getElem? (i := 0) (by decide +kernel)) (by decide +kernel)
theorem tw_153 : (.constant RJ6 266 (858993459) : Cond) ∈ GG := gg_5 (List.mem_of_getElem? (i := 1) (by decide +kernel)) (by decide +kernel)
theorem tw_154 : (.constant RJ6 267 (252645135) : Cond) ∈ GG := gg_5 (List.mem_of_getElem? (i := 2) (by decide +kernel)) (by decide +kernel)
theorem tw_155 : (.fieldLink RX7 25 (TX7 4).1 (TX7 4).2.1 (TX7 4).2.2.1 : Cond) ∈ GG := gg_2 (List.mem_of_getElem? (i := 8) (by decide +kernel)) (by decide +kernel)
theorem tw_156 : (.fieldLink RX7 21 (TX7 3).1 (TX7 3).2.1 (TX7 3).2.2.1 : Cond) ∈ GG := gg_2 (List.mem_of_getElem? (i := 7) (by decide +kernel)) (by decide +kernel)
theorem tw_157 : (.fieldLink RX7 28 (TX7 5).1 (TX7 5).2.1 (TX7 5).2.2.1 : Cond) ∈ GG := gg_2 (List.mem_of_getElem? (i := 9) (by decide +kernel)) (by decide +kernel)
theorem tw_158 : (.fieldLink RX7 9 (TX7 0).1 (TX7 0).2.1 (TX7 0).2.2.1 : Cond) ∈ GG := gg_2 (List.mem_of_getElem? (i := 4) (by decide +kernel)) (by decide +kernel)
theorem tw_159 : (.methodLink RX7 41 yJ6_bitCount_0f7a4 : Cond) ∈ GG := gg_5 (List.mem_of_getElem? (i := 77) (by decide +kernel)) (by decide +kernel)
theorem tw_160 : (.code yJ6_bitCount_0f7a4 cJ6_bitCount_0f7a4 1 (some .int) : Cond) ∈ GG := gg_4 (List.mem_of_getElem? (i := 239) (by decide +kernel)) (by decide +kernel)
theorem tw_161 : (.initialized yJ6_bitCount_0f7a4.cls : Cond) ∈ GG := gg_1 (List.mem_of_getElem? (i := 24) (by decide +kernel)) (by decide +kernel)
theorem tw_162 : (.static yJ6_bitCount_0f7a4 : Cond) ∈ GG := gg_4 (List.mem_of_getElem? (i := 238) (by decide +kernel)) (by decide +kernel)
theorem tw_163 : (.fieldLink RX7 15 (TX7 1).1 (TX7 1).2.1 (TX7 1).2.2.1 : Cond) ∈ GG := gg_2 (List.mem_of_getElem? (i := 5) (by decide +kernel)) (by decide +kernel)
theorem tw_164 : (.fieldLink RX7 18 (TX7 2).1 (TX7 2).2.1 (TX7 2).2.2.1 : Cond) ∈ GG := gg_2 (List.mem_of_getElem? (i := 6) (by decide +kernel)) (by decide +kernel)
theorem tw_165 : (.methodLink RX7 47 Lib.Math.max.name : Cond) ∈ GG := gg_5 (List.mem_of_getElem? (i := 82) (by decide +kernel)) (by decide +kernel)
theorem tw_166 : (.methodLink RX7 31 yX7_worthOf : Cond) ∈ GG := gg_5 (List.mem_of_getElem? (i := 73) (by decide +kernel)) (by decide +kernel)
theorem tw_167 : (.code yX7_worthOf cX7_worthOf 6 (some .int) : Cond) ∈ GG := gg_5 (List.mem_of_getElem? (i := 76) (by decide +kernel)) (by decide +kernel)
theorem tw_168 : (.initialized yX7_worthOf.cls : Cond) ∈ GG := gg_1 (List.mem_of_getElem? (i := 8) (by decide +kernel)) (by decide +kernel)
theorem tw_169 : (.instanceMethod yX7_worthOf : Cond) ∈ GG := gg_5 (List.mem_of_getElem? (i := 75) (by decide +kernel)) (by decide +kernel)
theorem tw_170 : (.selects yX7_worthOf.cls yX7_worthOf yX7_worthOf : Cond) ∈ GG := gg_s (q := (⟨"DogLeases$Shares", "worthOf", "(II)I"⟩, 6)) (List.mem_of_getElem? (i := 38) (by decide +kernel))
theorem tw_171 : (.methodLink RX7 35 yX7_bestOf : Cond) ∈ GG := gg_5 (List.mem_of_getElem? (i := 78) (by decide +kernel)) (by decide +kernel)
theorem tw_172 : (.code yX7_bestOf cX7_bestOf 7 (some .int) : Cond) ∈ GG := gg_5 (List.mem_of_getElem? (i := 81) (by decide +kernel)) (by decide +kernel)
theorem tw_173 : (.initialized yX7_bestOf.cls : Cond) ∈ GG := gg_1 (List.mem_of_getElem? (i := 8) (by decide +kernel)) (by decide +kernel)
theorem tw_174 : (.instanceMethod yX7_bestOf : Cond) ∈ GG := gg_5 (List.mem_of_getElem? (i := 80) (by decide +kernel)) (by decide +kernel)
theorem tw_175 : (.selects yX7_bestOf.cls yX7_bestOf yX7_bestOf : Cond) ∈ GG := gg_s (q := (⟨"DogLeases$Shares", "bestOf", "(II)I"⟩, 6)) (List.mem_of_getElem? (i := 39) (by decide +kernel))
theorem tw_176 : (.methodLink RX7 38 yX7_leastPart : Cond) ∈ GG := gg_5 (List.mem_of_getElem? (i := 91) (by decide +kernel)) (by decide +kernel)
theorem tw_177 : (.code yX7_leastPart cX7_leastPart 6 (some .int) : Cond) ∈ GG := gg_5 (List.mem_of_getElem? (i := 94) (by decide +kernel)) (by decide +kernel)
theorem tw_178 : (.initialized yX7_leastPart.cls : Cond) ∈ GG := gg_1 (List.mem_of_getElem? (i := 8) (by decide +kernel)) (by decide +kernel)
theorem tw_179 : (.instanceMethod yX7_leastPart : Cond) ∈ GG := gg_5 (List.mem_of_getElem? (i := 93) (by decide +kernel)) (by decide +kernel)
theorem tw_180 : (.selects yX7_leastPart.cls yX7_leastPart yX7_leastPart : Cond) ∈ GG := gg_s (q := (⟨"DogLeases$Shares", "leastPart", "(II)I"⟩, 6)) (List.mem_of_getElem? (i := 40) (by decide +kernel))
theorem tw_181 : (.fieldLink RX2 9 (TX2 0).1 (TX2 0).2.1 (TX2 0).2.2.1 : Cond) ∈ GG := gg_1 (List.mem_of_getElem? (i := 137) (by decide +kernel)) (by decide +kernel)
theorem tw_182 : (.fieldLink RX2 15 (TX2 1).1 (TX2 1).2.1 (TX2 1).2.2.1 : Cond) ∈ GG := gg_1 (List.mem_of_getElem? (i := 141) (by decide +kernel)) (by decide +kernel)
theorem tw_183 : (.fieldLink RX2 18 (TX2 2).1 (TX2 2).2.1 (TX2 2).2.2.1 : Cond) ∈ GG := gg_1 (List.mem_of_getElem? (i := 145) (by decide +kernel)) (by decide +kernel)
theorem tw_184 : (.fieldLink RX2 37 (TX2 7).1 (TX2 7).2.1 (TX2 7).2.2.1 : Cond) ∈ GG := gg_1 (List.mem_of_getElem? (i := 165) (by decide +kernel)) (by decide +kernel)
theorem tw_185 : (.methodLink RX2 47 yX4_clear : Cond) ∈ GG := gg_2 (List.mem_of_getElem? (i := 82) (by decide +kernel)) (by decide +kernel)
theorem tw_186 : (.code yX4_clear cX4_clear 1 none : Cond) ∈ GG := gg_2 (List.mem_of_getElem? (i := 85) (by decide +kernel)) (by decide +kernel)
theorem tw_187 : (.initialized yX4_clear.cls : Cond) ∈ GG := gg_1 (List.mem_of_getElem? (i := 5) (by decide +kernel)) (by decide +kernel)
theorem tw_188 : (.instanceMethod yX4_clear : Cond) ∈ GG := gg_2 (List.mem_of_getElem? (i := 83) (by decide +kernel)) (by decide +kernel)
theorem tw_189 : (.selects yX4_clear.cls yX4_clear yX4_clear : Cond) ∈ GG := gg_2 (List.mem_of_getElem? (i := 84) (by decide +kernel)) (by decide +kernel)
theorem tw_190 : (.fieldLink RX2 41 (TX2 8).1 (TX2 8).2.1 (TX2 8).2.2.1 : Cond) ∈ GG := gg_1 (List.mem_of_getElem? (i := 168) (by decide +kernel)) (by decide +kernel)
theorem tw_191 : (.fieldLink RX2 44 (TX2 9).1 (TX2 9).2.1 (TX2 9).2.2.1 : Cond) ∈ GG := gg_1 (List.mem_of_getElem? (i := 171) (by decide +kernel)) (by decide +kernel)
theorem tw_192 : (.fieldLink RX2 21 (TX2 3).1 (TX2 3).2.1 (TX2 3).2.2.1 : Cond) ∈ GG := gg_1 (List.mem_of_getElem? (i := 149) (by decide +kernel)) (by decide +kernel)
theorem tw_193 : (.methodLink RX2 50 arraycopyName : Cond) ∈ GG := gg_4 (List.mem_of_getElem? (i := 67) (by decide +kernel)) (by decide +kernel)
theorem tw_194 : (.fieldLink RX2 25 (TX2 4).1 (TX2 4).2.1 (TX2 4).2.2.1 : Cond) ∈ GG := gg_1 (List.mem_of_getElem? (i := 153) (by decide +kernel)) (by decide +kernel)
theorem tw_195 : (.fieldLink RX2 28 (TX2 5).1 (TX2 5).2.1 (TX2 5).2.2.1 : Cond) ∈ GG := gg_1 (List.mem_of_getElem? (i := 157) (by decide +kernel)) (by decide +kernel)
theorem tw_196 : (.fieldLink RX2 31 (TX2 6).1 (TX2 6).2.1 (TX2 6).2.2.1 : Cond) ∈ GG := gg_1 (List.mem_of_getElem? (i := 161) (by decide +kernel)) (by decide +kernel)
theorem tw_197 : (.methodLink RX2 56 yX4_copyFrom : Cond) ∈ GG := gg_4 (List.mem_of_getElem? (i := 68) (by decide +kernel)) (by decide +kernel)
theorem tw_198 : (.code yX4_copyFrom cX4_copyFrom 2 none : Cond) ∈ GG := gg_4 (List.mem_of_getElem? (i := 10) (by decide +kernel)) (by decide +kernel)
theorem tw_199 : (.initialized yX4_copyFrom.cls : Cond) ∈ GG := gg_1 (List.mem_of_getElem? (i := 5) (by decide +kernel)) (by decide +kernel)
theorem tw_200 : (.instanceMethod yX4_copyFrom : Cond) ∈ GG := gg_4 (List.mem_of_getElem? (i := 8) (by decide +kernel)) (by decide +kernel)
theorem tw_201 : (.selects yX4_copyFrom.cls yX4_copyFrom yX4_copyFrom : Cond) ∈ GG := gg_4 (List.mem_of_getElem? (i := 9) (by decide +kernel)) (by decide +kernel)
theorem tw_202 : (.fieldLink RX1 9 (TX1 0).1 (TX1 0).2.1 (TX1 0).2.2.1 : Cond) ∈ GG := gg_2 (List.mem_of_getElem? (i := 61) (by decide +kernel)) (by decide +kernel)
theorem tw_203 : (.methodLink RX1 32 arraycopyName : Cond) ∈ GG := gg_2 (List.mem_of_getElem? (i := 90) (by decide +kernel)) (by decide +kernel)
theorem tw_204 : (.fieldLink RX1 18 (TX1 1).1 (TX1 1).2.1 (TX1 1).2.2.1 : Cond) ∈ GG := gg_2 (List.mem_of_getElem? (i := 63) (by decide +kernel)) (by decide +kernel)
theorem tw_205 : (.methodLink RX1 38 yX0_clear : Cond) ∈ GG := gg_2 (List.mem_of_getElem? (i := 93) (by decide +kernel)) (by decide +kernel)
theorem tw_206 : (.code yX0_clear cX0_clear 1 none : Cond) ∈ GG := gg_2 (List.mem_of_getElem? (i := 96) (by decide +kernel)) (by decide +kernel)
theorem tw_207 : (.initialized yX0_clear.cls : Cond) ∈ GG := gg_1 (List.mem_of_getElem? (i := 10) (by decide +kernel)) (by decide +kernel)
theorem tw_208 : (.instanceMethod yX0_clear : Cond) ∈ GG := gg_2 (List.mem_of_getElem? (i := 94) (by decide +kernel)) (by decide +kernel)
theorem tw_209 : (.selects yX0_clear.cls yX0_clear yX0_clear : Cond) ∈ GG := gg_2 (List.mem_of_getElem? (i := 95) (by decide +kernel)) (by decide +kernel)
theorem tw_210 : (.fieldLink RX1 25 (TX1 2).1 (TX1 2).2.1 (TX1 2).2.2.1 : Cond) ∈ GG := gg_2 (List.mem_of_getElem? (i := 65) (by decide +kernel)) (by decide +kernel)
theorem tw_211 : (.fieldLink RX1 41 (TX6 1).1 (TX6 1).2.1 (TX6 1).2.2.1 : Cond) ∈ GG := gg_2 (List.mem_of_getElem? (i := 54) (by decide +kernel)) (by decide +kernel)
theorem tw_212 : (.fieldLink RX1 29 (TX1 3).1 (TX1 3).2.1 (TX1 3).2.2.1 : Cond) ∈ GG := gg_2 (List.mem_of_getElem? (i := 67) (by decide +kernel)) (by decide +kernel)
theorem tw_213 : (.methodLink RX1 45 yX0_add : Cond) ∈ GG := gg_2 (List.mem_of_getElem? (i := 158) (by decide +kernel)) (by decide +kernel)
theorem tw_214 : (.code yX0_add cX0_add 2 none : Cond) ∈ GG := gg_2 (List.mem_of_getElem? (i := 161) (by decide +kernel)) (by decide +kernel)
theorem tw_215 : (.initialized yX0_add.cls : Cond) ∈ GG := gg_1 (List.mem_of_getElem? (i := 10) (by decide +kernel)) (by decide +kernel)
theorem tw_216 : (.instanceMethod yX0_add : Cond) ∈ GG := gg_2 (List.mem_of_getElem? (i := 159) (by decide +kernel)) (by decide +kernel)
theorem tw_217 : (.selects yX0_add.cls yX0_add yX0_add : Cond) ∈ GG := gg_2 (List.mem_of_getElem? (i := 160) (by decide +kernel)) (by decide +kernel)
theorem tw_218 : (.methodLink RX1 49 yX1_beginAct : Cond) ∈ GG := gg_4 (List.mem_of_getElem? (i := 151) (by decide +kernel)) (by decide +kernel)
theorem tw_219 : (.code yX1_beginAct cX1_beginAct 1 none : Cond) ∈ GG := gg_2 (List.mem_of_getElem? (i := 157) (by decide +kernel)) (by decide +kernel)
theorem tw_220 : (.initialized yX1_beginAct.cls : Cond) ∈ GG := gg_1 (List.mem_of_getElem? (i := 9) (by decide +kernel)) (by decide +kernel)
theorem tw_221 : (.instanceMethod yX1_beginAct : Cond) ∈ GG := gg_2 (List.mem_of_getElem? (i := 155) (by decide +kernel)) (by decide +kernel)
theorem tw_222 : (.selects yX1_beginAct.cls yX1_beginAct yX1_beginAct : Cond) ∈ GG := gg_2 (List.mem_of_getElem? (i := 156) (by decide +kernel)) (by decide +kernel)
theorem tw_223 : (.methodLink RX1 52 yX0_copyFrom : Cond) ∈ GG := gg_3 (List.mem_of_getElem? (i := 16) (by decide +kernel)) (by decide +kernel)
theorem tw_224 : (.code yX0_copyFrom cX0_copyFrom 2 none : Cond) ∈ GG := gg_3 (List.mem_of_getElem? (i := 19) (by decide +kernel)) (by decide +kernel)
theorem tw_225 : (.initialized yX0_copyFrom.cls : Cond) ∈ GG := gg_1 (List.mem_of_getElem? (i := 10) (by decide +kernel)) (by decide +kernel)
theorem tw_226 : (.instanceMethod yX0_copyFrom : Cond) ∈ GG := gg_3 (List.mem_of_getElem? (i := 17) (by decide +kernel)) (by decide +kernel)
theorem tw_227 : (.selects yX0_copyFrom.cls yX0_copyFrom yX0_copyFrom : Cond) ∈ GG := gg_3 (List.mem_of_getElem? (i := 18) (by decide +kernel)) (by decide +kernel)
theorem tw_228 : (.methodLink RX1 56 yX6_copyFrom : Cond) ∈ GG := gg_3 (List.mem_of_getElem? (i := 20) (by decide +kernel)) (by decide +kernel)
theorem tw_229 : (.code yX6_copyFrom cX6_copyFrom 2 none : Cond) ∈ GG := gg_3 (List.mem_of_getElem? (i := 23) (by decide +kernel)) (by decide +kernel)
theorem tw_230 : (.initialized yX6_copyFrom.cls : Cond) ∈ GG := gg_1 (List.mem_of_getElem? (i := 11) (by decide +kernel)) (by decide +kernel)
theorem tw_231 : (.instanceMethod yX6_copyFrom : Cond) ∈ GG := gg_3 (List.mem_of_getElem? (i := 21) (by decide +kernel)) (by decide +kernel)
theorem tw_232 : (.selects yX6_copyFrom.cls yX6_copyFrom yX6_copyFrom : Cond) ∈ GG := gg_3 (List.mem_of_getElem? (i := 22) (by decide +kernel)) (by decide +kernel)
theorem tw_233 : (.fieldLink RX9 28 (TX9 5).1 (TX9 5).2.1 (TX9 5).2.2.1 : Cond) ∈ GG := gg_1 (List.mem_of_getElem? (i := 58) (by decide +kernel)) (by decide +kernel)
theorem tw_234 : (.fieldLink RX9 25 (TX9 4).1 (TX9 4).2.1 (TX9 4).2.2.1 : Cond) ∈ GG := gg_1 (List.mem_of_getElem? (i := 57) (by decide +kernel)) (by decide +kernel)
theorem tw_235 : (.fieldLink RX9 19 (TX9 2).1 (TX9 2).2.1 (TX9 2).2.2.1 : Cond) ∈ GG := gg_1 (List.mem_of_getElem? (i := 54) (by decide +kernel)) (by decide +kernel)
theorem tw_236 : (.fieldLink RX9 9 (TX9 0).1 (TX9 0).2.1 (TX9 0).2.2.1 : Cond) ∈ GG := gg_1 (List.mem_of_getElem? (i := 51) (by decide +kernel)) (by decide +kernel)
theorem tw_237 : (.methodLink RX9 44 yX9_isLetter : Cond) ∈ GG := gg_3 (List.mem_of_getElem? (i := 120) (by decide +kernel)) (by decide +kernel)
theorem tw_238 : (.code yX9_isLetter cX9_isLetter 1 (some .boolean) : Cond) ∈ GG := gg_3 (List.mem_of_getElem? (i := 122) (by decide +kernel)) (by decide +kernel)
theorem tw_239 : (.initialized yX9_isLetter.cls : Cond) ∈ GG := gg_1 (List.mem_of_getElem? (i := 4) (by decide +kernel)) (by decide +kernel)
theorem tw_240 : (.static yX9_isLetter : Cond) ∈ GG := gg_3 (List.mem_of_getElem? (i := 121) (by decide +kernel)) (by decide +kernel)
theorem tw_241 : (.fieldLink RX9 31 (TX9 6).1 (TX9 6).2.1 (TX9 6).2.2.1 : Cond) ∈ GG := gg_1 (List.mem_of_getElem? (i := 61) (by decide +kernel)) (by decide +kernel)
theorem tw_242 : (.fieldLink RX9 22 (TX9 3).1 (TX9 3).2.1 (TX9 3).2.2.1 : Cond) ∈ GG := gg_1 (List.mem_of_getElem? (i := 55) (by decide +kernel)) (by decide +kernel)
theorem tw_243 : (.methodLink RX9 50 yX9_isDigit : Cond) ∈ GG := gg_3 (List.mem_of_getElem? (i := 127) (by decide +kernel)) (by decide +kernel)
theorem tw_244 : (.code yX9_isDigit cX9_isDigit 1 (some .boolean) : Cond) ∈ GG := gg_3 (List.mem_of_getElem? (i := 129) (by decide +kernel)) (by decide +kernel)
theorem tw_245 : (.initialized yX9_isDigit.cls : Cond) ∈ GG := gg_1 (List.mem_of_getElem? (i := 4) (by decide +kernel)) (by decide +kernel)
theorem tw_246 : (.static yX9_isDigit : Cond) ∈ GG := gg_3 (List.mem_of_getElem? (i := 128) (by decide +kernel)) (by decide +kernel)
theorem tw_247 : (.methodLink RX9 56 yX9_isSign : Cond) ∈ GG := gg_3 (List.mem_of_getElem? (i := 134) (by decide +kernel)) (by decide +kernel)
theorem tw_248 : (.code yX9_isSign cX9_isSign 1 (some .boolean) : Cond) ∈ GG := gg_3 (List.mem_of_getElem? (i := 136) (by decide +kernel)) (by decide +kernel)
theorem tw_249 : (.initialized yX9_isSign.cls : Cond) ∈ GG := gg_1 (List.mem_of_getElem? (i := 4) (by decide +kernel)) (by decide +kernel)
theorem tw_250 : (.static yX9_isSign : Cond) ∈ GG := gg_3 (List.mem_of_getElem? (i := 135) (by decide +kernel)) (by decide +kernel)
theorem tw_251 : (.methodLink RX9 53 yX9_readNumber : Cond) ∈ GG := gg_3 (List.mem_of_getElem? (i := 130) (by decide +kernel)) (by decide +kernel)
theorem tw_252 : (.code yX9_readNumber cX9_readNumber 1 none : Cond) ∈ GG := gg_3 (List.mem_of_getElem? (i := 133) (by decide +kernel)) (by decide +kernel)
theorem tw_253 : (.initialized yX9_readNumber.cls : Cond) ∈ GG := gg_1 (List.mem_of_getElem? (i := 4) (by decide +kernel)) (by decide +kernel)
theorem tw_254 : (.instanceMethod yX9_readNumber : Cond) ∈ GG := gg_3 (List.mem_of_getElem? (i := 132) (by decide +kernel)) (by decide +kernel)
theorem tw_255 : (.selects yX9_readNumber.cls yX9_readNumber yX9_readNumber : Cond) ∈ GG := gg_s (q := (⟨"DogLeases$Tape", "readNumber", "()V"⟩, 7)) (List.mem_of_getElem? (i := 11) (by decide +kernel))
theorem tw_256 : (.methodLink RX9 47 yX9_readWord : Cond) ∈ GG := gg_3 (List.mem_of_getElem? (i := 123) (by decide +kernel)) (by decide +kernel)
theorem tw_257 : (.code yX9_readWord cX9_readWord 1 none : Cond) ∈ GG := gg_3 (List.mem_of_getElem? (i := 126) (by decide +kernel)) (by decide +kernel)
theorem tw_258 : (.initialized yX9_readWord.cls : Cond) ∈ GG := gg_1 (List.mem_of_getElem? (i := 4) (by decide +kernel)) (by decide +kernel)
theorem tw_259 : (.instanceMethod yX9_readWord : Cond) ∈ GG := gg_3 (List.mem_of_getElem? (i := 125) (by decide +kernel)) (by decide +kernel)
theorem tw_260 : (.selects yX9_readWord.cls yX9_readWord yX9_readWord : Cond) ∈ GG := gg_s (q := (⟨"DogLeases$Tape", "readWord", "()V"⟩, 7)) (List.mem_of_getElem? (i := 10) (by decide +kernel))
theorem tw_261 : (.methodLink RX9 40 yX9_isBlank : Cond) ∈ GG := gg_3 (List.mem_of_getElem? (i := 117) (by decide +kernel)) (by decide +kernel)
theorem tw_262 : (.code yX9_isBlank cX9_isBlank 1 (some .boolean) : Cond) ∈ GG := gg_3 (List.mem_of_getElem? (i := 119) (by decide +kernel)) (by decide +kernel)
theorem tw_263 : (.initialized yX9_isBlank.cls : Cond) ∈ GG := gg_1 (List.mem_of_getElem? (i := 4) (by decide +kernel)) (by decide +kernel)
theorem tw_264 : (.static yX9_isBlank : Cond) ∈ GG := gg_3 (List.mem_of_getElem? (i := 118) (by decide +kernel)) (by decide +kernel)
theorem tw_265 : (.fieldLink RX9 15 (TX9 1).1 (TX9 1).2.1 (TX9 1).2.2.1 : Cond) ∈ GG := gg_1 (List.mem_of_getElem? (i := 52) (by decide +kernel)) (by decide +kernel)
theorem tw_266 : (.methodLink RX9 34 Lib.Math.min.name : Cond) ∈ GG := gg_3 (List.mem_of_getElem? (i := 107) (by decide +kernel)) (by decide +kernel)
theorem tw_267 : (.methodLink RX9 59 yJ0_length_8abf5 : Cond) ∈ GG := gg_3 (List.mem_of_getElem? (i := 146) (by decide +kernel)) (by decide +kernel)
theorem tw_268 : (.methodLink RX9 65 yJ0_charAt_5068e : Cond) ∈ GG := gg_3 (List.mem_of_getElem? (i := 156) (by decide +kernel)) (by decide +kernel)
theorem tw_269 : (.fieldLink RX5 37 (TX5 5).1 (TX5 5).2.1 (TX5 5).2.2.1 : Cond) ∈ GG := gg_1 (List.mem_of_getElem? (i := 103) (by decide +kernel)) (by decide +kernel)
theorem tw_270 : (.fieldLink RX5 40 (TX5 6).1 (TX5 6).2.1 (TX5 6).2.2.1 : Cond) ∈ GG := gg_1 (List.mem_of_getElem? (i := 104) (by decide +kernel)) (by decide +kernel)
theorem tw_271 : (.fieldLink RX5 43 (TX5 7).1 (TX5 7).2.1 (TX5 7).2.2.1 : Cond) ∈ GG := gg_1 (List.mem_of_getElem? (i := 105) (by decide +kernel)) (by decide +kernel)
theorem tw_272 : (.fieldLink RX5 21 (TX5 1).1 (TX5 1).2.1 (TX5 1).2.2.1 : Cond) ∈ GG := gg_1 (List.mem_of_getElem? (i := 99) (by decide +kernel)) (by decide +kernel)
theorem tw_273 : (.methodLink RX5 81 yX4_clear : Cond) ∈ GG := gg_3 (List.mem_of_getElem? (i := 230) (by decide +kernel)) (by decide +kernel)
theorem tw_274 : (.fieldLink RX5 33 (TX5 4).1 (TX5 4).2.1 (TX5 4).2.2.1 : Cond) ∈ GG := gg_1 (List.mem_of_getElem? (i := 102) (by decide +kernel)) (by decide +kernel)
theorem tw_275 : (.fieldLink RX5 29 (TX5 3).1 (TX5 3).2.1 (TX5 3).2.2.1 : Cond) ∈ GG := gg_1 (List.mem_of_getElem? (i := 101) (by decide +kernel)) (by decide +kernel)
theorem tw_276 : (.fieldLink RX5 46 (TX5 8).1 (TX5 8).2.1 (TX5 8).2.2.1 : Cond) ∈ GG := gg_1 (List.mem_of_getElem? (i := 106) (by decide +kernel)) (by decide +kernel)
theorem tw_277 : (.fieldLink RX5 49 (TX5 9).1 (TX5 9).2.1 (TX5 9).2.2.1 : Cond) ∈ GG := gg_1 (List.mem_of_getElem? (i := 107) (by decide +kernel)) (by decide +kernel)
theorem tw_278 : (.methodLink RX5 84 yX5_beginNot : Cond) ∈ GG := gg_3 (List.mem_of_getElem? (i := 231) (by decide +kernel)) (by decide +kernel)
theorem tw_279 : (.code yX5_beginNot cX5_beginNot 1 none : Cond) ∈ GG := gg_3 (List.mem_of_getElem? (i := 234) (by decide +kernel)) (by decide +kernel)
theorem tw_280 : (.initialized yX5_beginNot.cls : Cond) ∈ GG := gg_1 (List.mem_of_getElem? (i := 3) (by decide +kernel)) (by decide +kernel)
theorem tw_281 : (.instanceMethod yX5_beginNot : Cond) ∈ GG := gg_3 (List.mem_of_getElem? (i := 233) (by decide +kernel)) (by decide +kernel)
theorem tw_282 : (.selects yX5_beginNot.cls yX5_beginNot yX5_beginNot : Cond) ∈ GG := gg_s (q := (⟨"DogLeases$RuleReader", "beginNot", "()V"⟩, 10)) (List.mem_of_getElem? (i := 18) (by decide +kernel))
theorem tw_283 : (.fieldLink RX5 25 (TX5 2).1 (TX5 2).2.1 (TX5 2).2.2.1 : Cond) ∈ GG := gg_1 (List.mem_of_getElem? (i := 100) (by decide +kernel)) (by decide +kernel)
theorem tw_284 : (.methodLink RX5 121 yX5_binding : Cond) ∈ GG := gg_4 (List.mem_of_getElem? (i := 0) (by decide +kernel)) (by decide +kernel)
theorem tw_285 : (.code yX5_binding cX5_binding 1 (some .int) : Cond) ∈ GG := gg_4 (List.mem_of_getElem? (i := 2) (by decide +kernel)) (by decide +kernel)
theorem tw_286 : (.initialized yX5_binding.cls : Cond) ∈ GG := gg_1 (List.mem_of_getElem? (i := 3) (by decide +kernel)) (by decide +kernel)
theorem tw_287 : (.static yX5_binding : Cond) ∈ GG := gg_4 (List.mem_of_getElem? (i := 1) (by decide +kernel)) (by decide +kernel)
theorem tw_288 : (.methodLink RX5 112 yX4_add : Cond) ∈ GG := gg_4 (List.mem_of_getElem? (i := 3) (by decide +kernel)) (by decide +kernel)
theorem tw_289 : (.code yX4_add cX4_add 2 none : Cond) ∈ GG := gg_4 (List.mem_of_getElem? (i := 6) (by decide +kernel)) (by decide +kernel)
theorem tw_290 : (.initialized yX4_add.cls : Cond) ∈ GG := gg_1 (List.mem_of_getElem? (i := 5) (by decide +kernel)) (by decide +kernel)
theorem tw_291 : (.instanceMethod yX4_add : Cond) ∈ GG := gg_4 (List.mem_of_getElem? (i := 4) (by decide +kernel)) (by decide +kernel)
theorem tw_292 : (.selects yX4_add.cls yX4_add yX4_add : Cond) ∈ GG := gg_4 (List.mem_of_getElem? (i := 5) (by decide +kernel)) (by decide +kernel)
theorem tw_293 : (.methodLink RX5 109 yX5_hold : Cond) ∈ GG := gg_4 (List.mem_of_getElem? (i := 20) (by decide +kernel)) (by decide +kernel)
theorem tw_294 : (.code yX5_hold cX5_hold 2 none : Cond) ∈ GG := gg_4 (List.mem_of_getElem? (i := 23) (by decide +kernel)) (by decide +kernel)
theorem tw_295 : (.initialized yX5_hold.cls : Cond) ∈ GG := gg_1 (List.mem_of_getElem? (i := 3) (by decide +kernel)) (by decide +kernel)
theorem tw_296 : (.instanceMethod yX5_hold : Cond) ∈ GG := gg_4 (List.mem_of_getElem? (i := 22) (by decide +kernel)) (by decide +kernel)
theorem tw_297 : (.selects yX5_hold.cls yX5_hold yX5_hold : Cond) ∈ GG := gg_s (q := (⟨"DogLeases$RuleReader", "hold", "(I)V"⟩, 10)) (List.mem_of_getElem? (i := 22) (by decide +kernel))
theorem tw_298 : (.fieldLink RX5 12 (TX5 0).1 (TX5 0).2.1 (TX5 0).2.2.1 : Cond) ∈ GG := gg_1 (List.mem_of_getElem? (i := 97) (by decide +kernel)) (by decide +kernel)
theorem tw_299 : (.fieldLink RX5 63 (TX9 5).1 (TX9 5).2.1 (TX9 5).2.2.1 : Cond) ∈ GG := gg_1 (List.mem_of_getElem? (i := 60) (by decide +kernel)) (by decide +kernel)
theorem tw_300 : (.methodLink RX5 99 yX9_isWord : Cond) ∈ GG := gg_4 (List.mem_of_getElem? (i := 29) (by decide +kernel)) (by decide +kernel)
theorem tw_301 : (.code yX9_isWord cX9_isWord 3 (some .boolean) : Cond) ∈ GG := gg_3 (List.mem_of_getElem? (i := 145) (by decide +kernel)) (by decide +kernel)
theorem tw_302 : (.initialized yX9_isWord.cls : Cond) ∈ GG := gg_1 (List.mem_of_getElem? (i := 4) (by decide +kernel)) (by decide +kernel)
theorem tw_303 : (.instanceMethod yX9_isWord : Cond) ∈ GG := gg_3 (List.mem_of_getElem? (i := 143) (by decide +kernel)) (by decide +kernel)
theorem tw_304 : (.selects yX9_isWord.cls yX9_isWord yX9_isWord : Cond) ∈ GG := gg_3 (List.mem_of_getElem? (i := 144) (by decide +kernel)) (by decide +kernel)
theorem tw_305 : (.methodLink RX5 106 yX5_valueOf : Cond) ∈ GG := gg_4 (List.mem_of_getElem? (i := 34) (by decide +kernel)) (by decide +kernel)
theorem tw_306 : (.code yX5_valueOf cX5_valueOf 2 (some .int) : Cond) ∈ GG := gg_4 (List.mem_of_getElem? (i := 37) (by decide +kernel)) (by decide +kernel)
theorem tw_307 : (.initialized yX5_valueOf.cls : Cond) ∈ GG := gg_1 (List.mem_of_getElem? (i := 3) (by decide +kernel)) (by decide +kernel)
theorem tw_308 : (.instanceMethod yX5_valueOf : Cond) ∈ GG := gg_4 (List.mem_of_getElem? (i := 36) (by decide +kernel)) (by decide +kernel)
theorem tw_309 : (.selects yX5_valueOf.cls yX5_valueOf yX5_valueOf : Cond) ∈ GG := gg_s (q := (⟨"DogLeases$RuleReader", "valueOf", "()I"⟩, 10)) (List.mem_of_getElem? (i := 25) (by decide +kernel))
theorem tw_310 : (.methodLink RX5 93 yX5_endPart : Cond) ∈ GG := gg_4 (List.mem_of_getElem? (i := 24) (by decide +kernel)) (by decide +kernel)
theorem tw_311 : (.code yX5_endPart cX5_endPart 2 (some .int) : Cond) ∈ GG := gg_4 (List.mem_of_getElem? (i := 27) (by decide +kernel)) (by decide +kernel)
theorem tw_312 : (.initialized yX5_endPart.cls : Cond) ∈ GG := gg_1 (List.mem_of_getElem? (i := 3) (by decide +kernel)) (by decide +kernel)
theorem tw_313 : (.instanceMethod yX5_endPart : Cond) ∈ GG := gg_4 (List.mem_of_getElem? (i := 26) (by decide +kernel)) (by decide +kernel)
theorem tw_314 : (.selects yX5_endPart.cls yX5_endPart yX5_endPart : Cond) ∈ GG := gg_s (q := (⟨"DogLeases$RuleReader", "endPart", "(I)I"⟩, 10)) (List.mem_of_getElem? (i := 23) (by decide +kernel))
theorem tw_315 : (.methodLink RX5 103 yX5_takeNot : Cond) ∈ GG := gg_4 (List.mem_of_getElem? (i := 30) (by decide +kernel)) (by decide +kernel)
theorem tw_316 : (.code yX5_takeNot cX5_takeNot 1 (some .int) : Cond) ∈ GG := gg_4 (List.mem_of_getElem? (i := 33) (by decide +kernel)) (by decide +kernel)
theorem tw_317 : (.initialized yX5_takeNot.cls : Cond) ∈ GG := gg_1 (List.mem_of_getElem? (i := 3) (by decide +kernel)) (by decide +kernel)
theorem tw_318 : (.instanceMethod yX5_takeNot : Cond) ∈ GG := gg_4 (List.mem_of_getElem? (i := 32) (by decide +kernel)) (by decide +kernel)
theorem tw_319 : (.selects yX5_takeNot.cls yX5_takeNot yX5_takeNot : Cond) ∈ GG := gg_s (q := (⟨"DogLeases$RuleReader", "takeNot", "()I"⟩, 10)) (List.mem_of_getElem? (i := 24) (by decide +kernel))
theorem tw_320 : (.fieldLink RX5 90 (TX9 6).1 (TX9 6).2.1 (TX9 6).2.2.1 : Cond) ∈ GG := gg_1 (List.mem_of_getElem? (i := 62) (by decide +kernel)) (by decide +kernel)
theorem tw_321 : (.methodLink RX5 87 yX5_takeOpening : Cond) ∈ GG := gg_4 (List.mem_of_getElem? (i := 16) (by decide +kernel)) (by decide +kernel)
theorem tw_322 : (.code yX5_takeOpening cX5_takeOpening 1 (some .int) : Cond) ∈ GG := gg_4 (List.mem_of_getElem? (i := 19) (by decide +kernel)) (by decide +kernel)
theorem tw_323 : (.initialized yX5_takeOpening.cls : Cond) ∈ GG := gg_1 (List.mem_of_getElem? (i := 3) (by decide +kernel)) (by decide +kernel)
theorem tw_324 : (.instanceMethod yX5_takeOpening : Cond) ∈ GG := gg_4 (List.mem_of_getElem? (i := 18) (by decide +kernel)) (by decide +kernel)
theorem tw_325 : (.selects yX5_takeOpening.cls yX5_takeOpening yX5_takeOpening : Cond) ∈ GG := gg_s (q := (⟨"DogLeases$RuleReader", "takeOpening", "()I"⟩, 10)) (List.mem_of_getElem? (i := 21) (by decide +kernel))
theorem tw_326 : (.methodLink RX5 66 yX5_release : Cond) ∈ GG := gg_3 (List.mem_of_getElem? (i := 236) (by decide +kernel)) (by decide +kernel)
theorem tw_327 : (.code yX5_release cX5_release 2 none : Cond) ∈ GG := gg_3 (List.mem_of_getElem? (i := 239) (by decide +kernel)) (by decide +kernel)
theorem tw_328 : (.initialized yX5_release.cls : Cond) ∈ GG := gg_1 (List.mem_of_getElem? (i := 3) (by decide +kernel)) (by decide +kernel)
theorem tw_329 : (.instanceMethod yX5_release : Cond) ∈ GG := gg_3 (List.mem_of_getElem? (i := 238) (by decide +kernel)) (by decide +kernel)
theorem tw_330 : (.selects yX5_release.cls yX5_release yX5_release : Cond) ∈ GG := gg_s (q := (⟨"DogLeases$RuleReader", "release", "(I)V"⟩, 10)) (List.mem_of_getElem? (i := 19) (by decide +kernel))
theorem tw_331 : (.methodLink RX5 118 yX5_operatorOf : Cond) ∈ GG := gg_4 (List.mem_of_getElem? (i := 56) (by decide +kernel)) (by decide +kernel)
theorem tw_332 : (.code yX5_operatorOf cX5_operatorOf 1 (some .int) : Cond) ∈ GG := gg_4 (List.mem_of_getElem? (i := 59) (by decide +kernel)) (by decide +kernel)
theorem tw_333 : (.initialized yX5_operatorOf.cls : Cond) ∈ GG := gg_1 (List.mem_of_getElem? (i := 3) (by decide +kernel)) (by decide +kernel)
theorem tw_334 : (.instanceMethod yX5_operatorOf : Cond) ∈ GG := gg_4 (List.mem_of_getElem? (i := 58) (by decide +kernel)) (by decide +kernel)
theorem tw_335 : (.selects yX5_operatorOf.cls yX5_operatorOf yX5_operatorOf : Cond) ∈ GG := gg_s (q := (⟨"DogLeases$RuleReader", "operatorOf", "()I"⟩, 10)) (List.mem_of_getElem? (i := 28) (by decide +kernel))
theorem tw_336 : (.methodLink RX5 115 yX5_takeClosing : Cond) ∈ GG := gg_4 (List.mem_of_getElem? (i := 52) (by decide +kernel)) (by decide +kernel)
theorem tw_337 : (.code yX5_takeClosing cX5_takeClosing 1 (some .int) : Cond) ∈ GG := gg_4 (List.mem_of_getElem? (i := 55) (by decide +kernel)) (by decide +kernel)
theorem tw_338 : (.initialized yX5_takeClosing.cls : Cond) ∈ GG := gg_1 (List.mem_of_getElem? (i := 3) (by decide +kernel)) (by decide +kernel)
theorem tw_339 : (.instanceMethod yX5_takeClosing : Cond) ∈ GG := gg_4 (List.mem_of_getElem? (i := 54) (by decide +kernel)) (by decide +kernel)
theorem tw_340 : (.selects yX5_takeClosing.cls yX5_takeClosing yX5_takeClosing : Cond) ∈ GG := gg_s (q := (⟨"DogLeases$RuleReader", "takeClosing", "()I"⟩, 10)) (List.mem_of_getElem? (i := 27) (by decide +kernel))
theorem tw_341 : (.methodLink RX5 52 yX4_isTold : Cond) ∈ GG := gg_3 (List.mem_of_getElem? (i := 225) (by decide +kernel)) (by decide +kernel)
theorem tw_342 : (.methodLink RX5 56 yX5_begin : Cond) ∈ GG := gg_3 (List.mem_of_getElem? (i := 226) (by decide +kernel)) (by decide +kernel)
theorem tw_343 : (.code yX5_begin cX5_begin 2 none : Cond) ∈ GG := gg_3 (List.mem_of_getElem? (i := 229) (by decide +kernel)) (by decide +kernel)
theorem tw_344 : (.initialized yX5_begin.cls : Cond) ∈ GG := gg_1 (List.mem_of_getElem? (i := 3) (by decide +kernel)) (by decide +kernel)
theorem tw_345 : (.instanceMethod yX5_begin : Cond) ∈ GG := gg_3 (List.mem_of_getElem? (i := 228) (by decide +kernel)) (by decide +kernel)
theorem tw_346 : (.selects yX5_begin.cls yX5_begin yX5_begin : Cond) ∈ GG := gg_s (q := (⟨"DogLeases$RuleReader", "begin", "(Z)V"⟩, 10)) (List.mem_of_getElem? (i := 17) (by decide +kernel))
theorem tw_347 : (.methodLink RX5 60 yX9_next : Cond) ∈ GG := gg_3 (List.mem_of_getElem? (i := 235) (by decide +kernel)) (by decide +kernel)
theorem tw_348 : (.code yX9_next cX9_next 1 none : Cond) ∈ GG := gg_3 (List.mem_of_getElem? (i := 116) (by decide +kernel)) (by decide +kernel)
theorem tw_349 : (.initialized yX9_next.cls : Cond) ∈ GG := gg_1 (List.mem_of_getElem? (i := 4) (by decide +kernel)) (by decide +kernel)
theorem tw_350 : (.instanceMethod yX9_next : Cond) ∈ GG := gg_3 (List.mem_of_getElem? (i := 114) (by decide +kernel)) (by decide +kernel)
theorem tw_351 : (.selects yX9_next.cls yX9_next yX9_next : Cond) ∈ GG := gg_3 (List.mem_of_getElem? (i := 115) (by decide +kernel)) (by decide +kernel)
theorem tw_352 : (.methodLink RX5 78 yX5_takeOperator : Cond) ∈ GG := gg_4 (List.mem_of_getElem? (i := 48) (by decide +kernel)) (by decide +kernel)
theorem tw_353 : (.code yX5_takeOperator cX5_takeOperator 3 (some .int) : Cond) ∈ GG := gg_4 (List.mem_of_getElem? (i := 51) (by decide +kernel)) (by decide +kernel)
theorem tw_354 : (.initialized yX5_takeOperator.cls : Cond) ∈ GG := gg_1 (List.mem_of_getElem? (i := 3) (by decide +kernel)) (by decide +kernel)
theorem tw_355 : (.instanceMethod yX5_takeOperator : Cond) ∈ GG := gg_4 (List.mem_of_getElem? (i := 50) (by decide +kernel)) (by decide +kernel)
theorem tw_356 : (.selects yX5_takeOperator.cls yX5_takeOperator yX5_takeOperator : Cond) ∈ GG := gg_s (q := (⟨"DogLeases$RuleReader", "takeOperator", "()I"⟩, 10)) (List.mem_of_getElem? (i := 26) (by decide +kernel))
theorem tw_357 : (.methodLink RX5 74 yX5_takePart : Cond) ∈ GG := gg_4 (List.mem_of_getElem? (i := 12) (by decide +kernel)) (by decide +kernel)
theorem tw_358 : (.code yX5_takePart cX5_takePart 2 (some .int) : Cond) ∈ GG := gg_4 (List.mem_of_getElem? (i := 15) (by decide +kernel)) (by decide +kernel)
theorem tw_359 : (.initialized yX5_takePart.cls : Cond) ∈ GG := gg_1 (List.mem_of_getElem? (i := 3) (by decide +kernel)) (by decide +kernel)
theorem tw_360 : (.instanceMethod yX5_takePart : Cond) ∈ GG := gg_4 (List.mem_of_getElem? (i := 14) (by decide +kernel)) (by decide +kernel)
theorem tw_361 : (.selects yX5_takePart.cls yX5_takePart yX5_takePart : Cond) ∈ GG := gg_s (q := (⟨"DogLeases$RuleReader", "takePart", "()I"⟩, 10)) (List.mem_of_getElem? (i := 20) (by decide +kernel))
theorem tw_362 : (.methodLink RX5 70 yX4_copyFrom : Cond) ∈ GG := gg_4 (List.mem_of_getElem? (i := 7) (by decide +kernel)) (by decide +kernel)
theorem tw_363 : (.fieldLink RX3 22 (TX3 1).1 (TX3 1).2.1 (TX3 1).2.2.1 : Cond) ∈ GG := gg_1 (List.mem_of_getElem? (i := 197) (by decide +kernel)) (by decide +kernel)
theorem tw_364 : (.methodLink RX3 41 yX9_next : Cond) ∈ GG := gg_3 (List.mem_of_getElem? (i := 113) (by decide +kernel)) (by decide +kernel)
theorem tw_365 : (.fieldLink RX3 30 (TX3 3).1 (TX3 3).2.1 (TX3 3).2.2.1 : Cond) ∈ GG := gg_1 (List.mem_of_getElem? (i := 200) (by decide +kernel)) (by decide +kernel)
theorem tw_366 : (.fieldLink RX3 46 (TX9 5).1 (TX9 5).2.1 (TX9 5).2.2.1 : Cond) ∈ GG := gg_1 (List.mem_of_getElem? (i := 59) (by decide +kernel)) (by decide +kernel)
theorem tw_367 : (.fieldLink RX3 124 (TX9 6).1 (TX9 6).2.1 (TX9 6).2.2.1 : Cond) ∈ GG := gg_1 (List.mem_of_getElem? (i := 63) (by decide +kernel)) (by decide +kernel)
theorem tw_368 : (.fieldLink RX3 26 (TX3 2).1 (TX3 2).2.1 (TX3 2).2.2.1 : Cond) ∈ GG := gg_1 (List.mem_of_getElem? (i := 198) (by decide +kernel)) (by decide +kernel)
theorem tw_369 : (.fieldLink RX3 90 (TX2 0).1 (TX2 0).2.1 (TX2 0).2.2.1 : Cond) ∈ GG := gg_1 (List.mem_of_getElem? (i := 139) (by decide +kernel)) (by decide +kernel)
theorem tw_370 : (.fieldLink RX3 93 (TX2 4).1 (TX2 4).2.1 (TX2 4).2.2.1 : Cond) ∈ GG := gg_1 (List.mem_of_getElem? (i := 154) (by decide +kernel)) (by decide +kernel)
theorem tw_371 : (.methodLink RX3 56 yX9_isWord : Cond) ∈ GG := gg_3 (List.mem_of_getElem? (i := 142) (by decide +kernel)) (by decide +kernel)
theorem tw_372 : (.fieldLink RX3 95 "DogLeases$PlanReader" "HOUSE_LIMITS" "[I" : Cond) ∈ GG := gg_3 (List.mem_of_getElem? (i := 199) (by decide +kernel)) (by decide +kernel)
theorem tw_373 : (.methodLink RX3 98 yX3_readNumbers : Cond) ∈ GG := gg_3 (List.mem_of_getElem? (i := 201) (by decide +kernel)) (by decide +kernel)
theorem tw_374 : (.code yX3_readNumbers cX3_readNumbers 4 (some .int) : Cond) ∈ GG := gg_3 (List.mem_of_getElem? (i := 204) (by decide +kernel)) (by decide +kernel)
theorem tw_375 : (.initialized yX3_readNumbers.cls : Cond) ∈ GG := gg_1 (List.mem_of_getElem? (i := 2) (by decide +kernel)) (by decide +kernel)
theorem tw_376 : (.instanceMethod yX3_readNumbers : Cond) ∈ GG := gg_3 (List.mem_of_getElem? (i := 203) (by decide +kernel)) (by decide +kernel)
theorem tw_377 : (.selects yX3_readNumbers.cls yX3_readNumbers yX3_readNumbers : Cond) ∈ GG := gg_s (q := (⟨"DogLeases$PlanReader", "readNumbers", "(I[I)I"⟩, 5)) (List.mem_of_getElem? (i := 14) (by decide +kernel))
theorem tw_378 : (.fieldLink RX3 102 (TX2 3).1 (TX2 3).2.1 (TX2 3).2.2.1 : Cond) ∈ GG := gg_1 (List.mem_of_getElem? (i := 150) (by decide +kernel)) (by decide +kernel)
theorem tw_379 : (.fieldLink RX3 105 (TX2 9).1 (TX2 9).2.1 (TX2 9).2.2.1 : Cond) ∈ GG := gg_1 (List.mem_of_getElem? (i := 173) (by decide +kernel)) (by decide +kernel)
theorem tw_380 : (.fieldLink RX3 108 (TX2 1).1 (TX2 1).2.1 (TX2 1).2.2.1 : Cond) ∈ GG := gg_1 (List.mem_of_getElem? (i := 143) (by decide +kernel)) (by decide +kernel)
theorem tw_381 : (.fieldLink RX3 111 (TX2 6).1 (TX2 6).2.1 (TX2 6).2.2.1 : Cond) ∈ GG := gg_1 (List.mem_of_getElem? (i := 162) (by decide +kernel)) (by decide +kernel)
theorem tw_382 : (.fieldLink RX3 113 "DogLeases$PlanReader" "TENANT_LIMITS" "[I" : Cond) ∈ GG := gg_3 (List.mem_of_getElem? (i := 211) (by decide +kernel)) (by decide +kernel)
theorem tw_383 : (.fieldLink RX3 116 (TX2 5).1 (TX2 5).2.1 (TX2 5).2.2.1 : Cond) ∈ GG := gg_1 (List.mem_of_getElem? (i := 158) (by decide +kernel)) (by decide +kernel)
theorem tw_384 : (.fieldLink RX3 34 (TX3 4).1 (TX3 4).2.1 (TX3 4).2.2.1 : Cond) ∈ GG := gg_1 (List.mem_of_getElem? (i := 201) (by decide +kernel)) (by decide +kernel)
theorem tw_385 : (.fieldLink RX3 119 "DogLeases$PlanReader" "LIFE_LIMITS" "[I" : Cond) ∈ GG := gg_3 (List.mem_of_getElem? (i := 218) (by decide +kernel)) (by decide +kernel)
theorem tw_386 : (.fieldLink RX3 122 (TX2 2).1 (TX2 2).2.1 (TX2 2).2.2.1 : Cond) ∈ GG := gg_1 (List.mem_of_getElem? (i := 147) (by decide +kernel)) (by decide +kernel)
theorem tw_387 : (.methodLink RX3 62 yX3_readHouse : Cond) ∈ GG := gg_3 (List.mem_of_getElem? (i := 195) (by decide +kernel)) (by decide +kernel)
theorem tw_388 : (.code yX3_readHouse cX3_readHouse 3 (some .int) : Cond) ∈ GG := gg_3 (List.mem_of_getElem? (i := 198) (by decide +kernel)) (by decide +kernel)
theorem tw_389 : (.initialized yX3_readHouse.cls : Cond) ∈ GG := gg_1 (List.mem_of_getElem? (i := 2) (by decide +kernel)) (by decide +kernel)
theorem tw_390 : (.instanceMethod yX3_readHouse : Cond) ∈ GG := gg_3 (List.mem_of_getElem? (i := 197) (by decide +kernel)) (by decide +kernel)
theorem tw_391 : (.selects yX3_readHouse.cls yX3_readHouse yX3_readHouse : Cond) ∈ GG := gg_s (q := (⟨"DogLeases$PlanReader", "readHouse", "()I"⟩, 5)) (List.mem_of_getElem? (i := 13) (by decide +kernel))
theorem tw_392 : (.methodLink RX3 69 yX3_readTenant : Cond) ∈ GG := gg_3 (List.mem_of_getElem? (i := 207) (by decide +kernel)) (by decide +kernel)
theorem tw_393 : (.code yX3_readTenant cX3_readTenant 3 (some .int) : Cond) ∈ GG := gg_3 (List.mem_of_getElem? (i := 210) (by decide +kernel)) (by decide +kernel)
theorem tw_394 : (.initialized yX3_readTenant.cls : Cond) ∈ GG := gg_1 (List.mem_of_getElem? (i := 2) (by decide +kernel)) (by decide +kernel)
theorem tw_395 : (.instanceMethod yX3_readTenant : Cond) ∈ GG := gg_3 (List.mem_of_getElem? (i := 209) (by decide +kernel)) (by decide +kernel)
theorem tw_396 : (.selects yX3_readTenant.cls yX3_readTenant yX3_readTenant : Cond) ∈ GG := gg_s (q := (⟨"DogLeases$PlanReader", "readTenant", "()I"⟩, 5)) (List.mem_of_getElem? (i := 15) (by decide +kernel))
theorem tw_397 : (.fieldLink RX3 12 (TX3 0).1 (TX3 0).2.1 (TX3 0).2.2.1 : Cond) ∈ GG := gg_1 (List.mem_of_getElem? (i := 195) (by decide +kernel)) (by decide +kernel)
theorem tw_398 : (.fieldLink RX3 88 (TX2 8).1 (TX2 8).2.1 (TX2 8).2.2.1 : Cond) ∈ GG := gg_1 (List.mem_of_getElem? (i := 169) (by decide +kernel)) (by decide +kernel)
theorem tw_399 : (.methodLink RX3 82 yX5_read : Cond) ∈ GG := gg_3 (List.mem_of_getElem? (i := 221) (by decide +kernel)) (by decide +kernel)
theorem tw_400 : (.code yX5_read cX5_read 5 (some .int) : Cond) ∈ GG := gg_3 (List.mem_of_getElem? (i := 224) (by decide +kernel)) (by decide +kernel)
theorem tw_401 : (.initialized yX5_read.cls : Cond) ∈ GG := gg_1 (List.mem_of_getElem? (i := 3) (by decide +kernel)) (by decide +kernel)
theorem tw_402 : (.instanceMethod yX5_read : Cond) ∈ GG := gg_3 (List.mem_of_getElem? (i := 222) (by decide +kernel)) (by decide +kernel)
theorem tw_403 : (.selects yX5_read.cls yX5_read yX5_read : Cond) ∈ GG := gg_3 (List.mem_of_getElem? (i := 223) (by decide +kernel)) (by decide +kernel)
theorem tw_404 : (.fieldLink RX3 79 (TX2 7).1 (TX2 7).2.1 (TX2 7).2.2.1 : Cond) ∈ GG := gg_1 (List.mem_of_getElem? (i := 166) (by decide +kernel)) (by decide +kernel)
theorem tw_405 : (.methodLink RX3 74 yX3_readLife : Cond) ∈ GG := gg_3 (List.mem_of_getElem? (i := 214) (by decide +kernel)) (by decide +kernel)
theorem tw_406 : (.code yX3_readLife cX3_readLife 2 (some .int) : Cond) ∈ GG := gg_3 (List.mem_of_getElem? (i := 217) (by decide +kernel)) (by decide +kernel)
theorem tw_407 : (.initialized yX3_readLife.cls : Cond) ∈ GG := gg_1 (List.mem_of_getElem? (i := 2) (by decide +kernel)) (by decide +kernel)
theorem tw_408 : (.instanceMethod yX3_readLife : Cond) ∈ GG := gg_3 (List.mem_of_getElem? (i := 216) (by decide +kernel)) (by decide +kernel)
theorem tw_409 : (.selects yX3_readLife.cls yX3_readLife yX3_readLife : Cond) ∈ GG := gg_s (q := (⟨"DogLeases$PlanReader", "readLife", "()I"⟩, 5)) (List.mem_of_getElem? (i := 16) (by decide +kernel))
theorem tw_410 : (.methodLink RX3 38 yX2_clear : Cond) ∈ GG := gg_3 (List.mem_of_getElem? (i := 112) (by decide +kernel)) (by decide +kernel)
theorem tw_411 : (.code yX2_clear cX2_clear 2 none : Cond) ∈ GG := gg_2 (List.mem_of_getElem? (i := 81) (by decide +kernel)) (by decide +kernel)
theorem tw_412 : (.initialized yX2_clear.cls : Cond) ∈ GG := gg_1 (List.mem_of_getElem? (i := 6) (by decide +kernel)) (by decide +kernel)
theorem tw_413 : (.instanceMethod yX2_clear : Cond) ∈ GG := gg_2 (List.mem_of_getElem? (i := 79) (by decide +kernel)) (by decide +kernel)
theorem tw_414 : (.selects yX2_clear.cls yX2_clear yX2_clear : Cond) ∈ GG := gg_2 (List.mem_of_getElem? (i := 80) (by decide +kernel)) (by decide +kernel)
theorem tw_415 : (.methodLink RX3 50 yX3_readLine : Cond) ∈ GG := gg_3 (List.mem_of_getElem? (i := 137) (by decide +kernel)) (by decide +kernel)
theorem tw_416 : (.code yX3_readLine cX3_readLine 1 (some .int) : Cond) ∈ GG := gg_3 (List.mem_of_getElem? (i := 140) (by decide +kernel)) (by decide +kernel)
theorem tw_417 : (.initialized yX3_readLine.cls : Cond) ∈ GG := gg_1 (List.mem_of_getElem? (i := 2) (by decide +kernel)) (by decide +kernel)
theorem tw_418 : (.instanceMethod yX3_readLine : Cond) ∈ GG := gg_3 (List.mem_of_getElem? (i := 139) (by decide +kernel)) (by decide +kernel)
theorem tw_419 : (.selects yX3_readLine.cls yX3_readLine yX3_readLine : Cond) ∈ GG := gg_s (q := (⟨"DogLeases$PlanReader", "readLine", "()I"⟩, 5)) (List.mem_of_getElem? (i := 12) (by decide +kernel))
theorem tw_420 : (.fieldLink RX10 54 (TX10 8).1 (TX10 8).2.1 (TX10 8).2.2.1 : Cond) ∈ GG := gg_2 (List.mem_of_getElem? (i := 105) (by decide +kernel)) (by decide +kernel)
theorem tw_421 : (.fieldLink RX10 43 (TX10 5).1 (TX10 5).2.1 (TX10 5).2.2.1 : Cond) ∈ GG := gg_2 (List.mem_of_getElem? (i := 102) (by decide +kernel)) (by decide +kernel)
theorem tw_422 : (.fieldLink RX10 122 (TX1 0).1 (TX1 0).2.1 (TX1 0).2.2.1 : Cond) ∈ GG := gg_2 (List.mem_of_getElem? (i := 62) (by decide +kernel)) (by decide +kernel)
theorem tw_423 : (.fieldLink RX10 58 (TX10 9).1 (TX10 9).2.1 (TX10 9).2.2.1 : Cond) ∈ GG := gg_2 (List.mem_of_getElem? (i := 106) (by decide +kernel)) (by decide +kernel)
theorem tw_424 : (.methodLink RX10 287 arraycopyName : Cond) ∈ GG := gg_4 (List.mem_of_getElem? (i := 186) (by decide +kernel)) (by decide +kernel)
theorem tw_425 : (.methodLink RX10 270 yX10_copyToTrial : Cond) ∈ GG := gg_4 (List.mem_of_getElem? (i := 182) (by decide +kernel)) (by decide +kernel)
theorem tw_426 : (.code yX10_copyToTrial cX10_copyToTrial 1 none : Cond) ∈ GG := gg_4 (List.mem_of_getElem? (i := 185) (by decide +kernel)) (by decide +kernel)
theorem tw_427 : (.initialized yX10_copyToTrial.cls : Cond) ∈ GG := gg_1 (List.mem_of_getElem? (i := 1) (by decide +kernel)) (by decide +kernel)
theorem tw_428 : (.instanceMethod yX10_copyToTrial : Cond) ∈ GG := gg_4 (List.mem_of_getElem? (i := 184) (by decide +kernel)) (by decide +kernel)
theorem tw_429 : (.selects yX10_copyToTrial.cls yX10_copyToTrial yX10_copyToTrial : Cond) ∈ GG := gg_s (q := (⟨"DogLeases", "copyToTrial", "()V"⟩, 12)) (List.mem_of_getElem? (i := 34) (by decide +kernel))
theorem tw_430 : (.fieldLink RX10 24 (TX10 2).1 (TX10 2).2.1 (TX10 2).2.2.1 : Cond) ∈ GG := gg_2 (List.mem_of_getElem? (i := 99) (by decide +kernel)) (by decide +kernel)
theorem tw_431 : (.methodLink RX10 190 yX8_passQuarters : Cond) ∈ GG := gg_2 (List.mem_of_getElem? (i := 163) (by decide +kernel)) (by decide +kernel)
theorem tw_432 : (.code yX8_passQuarters cX8_passQuarters 4 none : Cond) ∈ GG := gg_2 (List.mem_of_getElem? (i := 166) (by decide +kernel)) (by decide +kernel)
theorem tw_433 : (.initialized yX8_passQuarters.cls : Cond) ∈ GG := gg_1 (List.mem_of_getElem? (i := 7) (by decide +kernel)) (by decide +kernel)
theorem tw_434 : (.instanceMethod yX8_passQuarters : Cond) ∈ GG := gg_2 (List.mem_of_getElem? (i := 164) (by decide +kernel)) (by decide +kernel)
theorem tw_435 : (.selects yX8_passQuarters.cls yX8_passQuarters yX8_passQuarters : Cond) ∈ GG := gg_2 (List.mem_of_getElem? (i := 165) (by decide +kernel)) (by decide +kernel)
theorem tw_436 : (.methodLink RX10 293 yX8_passQuarter : Cond) ∈ GG := gg_4 (List.mem_of_getElem? (i := 222) (by decide +kernel)) (by decide +kernel)
theorem tw_437 : (.fieldLink RX10 142 (TX1 2).1 (TX1 2).2.1 (TX1 2).2.2.1 : Cond) ∈ GG := gg_2 (List.mem_of_getElem? (i := 66) (by decide +kernel)) (by decide +kernel)
theorem tw_438 : (.methodLink RX10 296 yX6_lastQuarter : Cond) ∈ GG := gg_5 (List.mem_of_getElem? (i := 138) (by decide +kernel)) (by decide +kernel)
theorem tw_439 : (.code yX6_lastQuarter cX6_lastQuarter 3 (some .int) : Cond) ∈ GG := gg_5 (List.mem_of_getElem? (i := 141) (by decide +kernel)) (by decide +kernel)
theorem tw_440 : (.initialized yX6_lastQuarter.cls : Cond) ∈ GG := gg_1 (List.mem_of_getElem? (i := 11) (by decide +kernel)) (by decide +kernel)
theorem tw_441 : (.instanceMethod yX6_lastQuarter : Cond) ∈ GG := gg_5 (List.mem_of_getElem? (i := 139) (by decide +kernel)) (by decide +kernel)
theorem tw_442 : (.selects yX6_lastQuarter.cls yX6_lastQuarter yX6_lastQuarter : Cond) ∈ GG := gg_5 (List.mem_of_getElem? (i := 140) (by decide +kernel)) (by decide +kernel)
theorem tw_443 : (.methodLink RX10 299 yX6_agrees : Cond) ∈ GG := gg_5 (List.mem_of_getElem? (i := 143) (by decide +kernel)) (by decide +kernel)
theorem tw_444 : (.code yX6_agrees cX6_agrees 6 (some .boolean) : Cond) ∈ GG := gg_5 (List.mem_of_getElem? (i := 146) (by decide +kernel)) (by decide +kernel)
theorem tw_445 : (.initialized yX6_agrees.cls : Cond) ∈ GG := gg_1 (List.mem_of_getElem? (i := 11) (by decide +kernel)) (by decide +kernel)
theorem tw_446 : (.instanceMethod yX6_agrees : Cond) ∈ GG := gg_5 (List.mem_of_getElem? (i := 144) (by decide +kernel)) (by decide +kernel)
theorem tw_447 : (.selects yX6_agrees.cls yX6_agrees yX6_agrees : Cond) ∈ GG := gg_5 (List.mem_of_getElem? (i := 145) (by decide +kernel)) (by decide +kernel)
theorem tw_448 : (.fieldLink RX10 32 (TX10 3).1 (TX10 3).2.1 (TX10 3).2.2.1 : Cond) ∈ GG := gg_2 (List.mem_of_getElem? (i := 100) (by decide +kernel)) (by decide +kernel)
theorem tw_449 : (.fieldLink RX10 113 (TX2 0).1 (TX2 0).2.1 (TX2 0).2.2.1 : Cond) ∈ GG := gg_1 (List.mem_of_getElem? (i := 140) (by decide +kernel)) (by decide +kernel)
theorem tw_450 : (.fieldLink RX10 62 (TX10 10).1 (TX10 10).2.1 (TX10 10).2.2.1 : Cond) ∈ GG := gg_2 (List.mem_of_getElem? (i := 107) (by decide +kernel)) (by decide +kernel)
theorem tw_451 : (.fieldLink RX10 116 (TX2 1).1 (TX2 1).2.1 (TX2 1).2.2.1 : Cond) ∈ GG := gg_1 (List.mem_of_getElem? (i := 144) (by decide +kernel)) (by decide +kernel)
theorem tw_452 : (.methodLink RX10 258 yX10_isAsSeen : Cond) ∈ GG := gg_5 (List.mem_of_getElem? (i := 134) (by decide +kernel)) (by decide +kernel)
theorem tw_453 : (.code yX10_isAsSeen cX10_isAsSeen 5 (some .boolean) : Cond) ∈ GG := gg_5 (List.mem_of_getElem? (i := 137) (by decide +kernel)) (by decide +kernel)
theorem tw_454 : (.initialized yX10_isAsSeen.cls : Cond) ∈ GG := gg_1 (List.mem_of_getElem? (i := 1) (by decide +kernel)) (by decide +kernel)
theorem tw_455 : (.instanceMethod yX10_isAsSeen : Cond) ∈ GG := gg_5 (List.mem_of_getElem? (i := 136) (by decide +kernel)) (by decide +kernel)
theorem tw_456 : (.selects yX10_isAsSeen.cls yX10_isAsSeen yX10_isAsSeen : Cond) ∈ GG := gg_s (q := (⟨"DogLeases", "isAsSeen", "(II)Z"⟩, 12)) (List.mem_of_getElem? (i := 41) (by decide +kernel))
theorem tw_457 : (.methodLink RX10 235 yX10_tryQuarterWith : Cond) ∈ GG := gg_5 (List.mem_of_getElem? (i := 35) (by decide +kernel)) (by decide +kernel)
theorem tw_458 : (.code yX10_tryQuarterWith cX10_tryQuarterWith 3 none : Cond) ∈ GG := gg_5 (List.mem_of_getElem? (i := 38) (by decide +kernel)) (by decide +kernel)
theorem tw_459 : (.initialized yX10_tryQuarterWith.cls : Cond) ∈ GG := gg_1 (List.mem_of_getElem? (i := 1) (by decide +kernel)) (by decide +kernel)
theorem tw_460 : (.instanceMethod yX10_tryQuarterWith : Cond) ∈ GG := gg_5 (List.mem_of_getElem? (i := 37) (by decide +kernel)) (by decide +kernel)
theorem tw_461 : (.selects yX10_tryQuarterWith.cls yX10_tryQuarterWith yX10_tryQuarterWith : Cond) ∈ GG := gg_s (q := (⟨"DogLeases", "tryQuarterWith", "(II)V"⟩, 12)) (List.mem_of_getElem? (i := 37) (by decide +kernel))
theorem tw_462 : (.methodLink RX10 302 yX10_meetOwnersOfTrial : Cond) ∈ GG := gg_5 (List.mem_of_getElem? (i := 158) (by decide +kernel)) (by decide +kernel)
theorem tw_463 : (.code yX10_meetOwnersOfTrial cX10_meetOwnersOfTrial 2 none : Cond) ∈ GG := gg_5 (List.mem_of_getElem? (i := 161) (by decide +kernel)) (by decide +kernel)
theorem tw_464 : (.initialized yX10_meetOwnersOfTrial.cls : Cond) ∈ GG := gg_1 (List.mem_of_getElem? (i := 1) (by decide +kernel)) (by decide +kernel)
theorem tw_465 : (.instanceMethod yX10_meetOwnersOfTrial : Cond) ∈ GG := gg_5 (List.mem_of_getElem? (i := 160) (by decide +kernel)) (by decide +kernel)
theorem tw_466 : (.selects yX10_meetOwnersOfTrial.cls yX10_meetOwnersOfTrial yX10_meetOwnersOfTrial : Cond) ∈ GG := gg_s (q := (⟨"DogLeases", "meetOwnersOfTrial", "()V"⟩, 12)) (List.mem_of_getElem? (i := 43) (by decide +kernel))
theorem tw_467 : (.methodLink RX10 311 Lib.Math.max.name : Cond) ∈ GG := gg_5 (List.mem_of_getElem? (i := 178) (by decide +kernel)) (by decide +kernel)
theorem tw_468 : (.methodLink RX10 194 Lib.Math.min.name : Cond) ∈ GG := gg_4 (List.mem_of_getElem? (i := 139) (by decide +kernel)) (by decide +kernel)
theorem tw_469 : (.methodLink RX10 314 yX8_rentOf : Cond) ∈ GG := gg_5 (List.mem_of_getElem? (i := 183) (by decide +kernel)) (by decide +kernel)
theorem tw_470 : (.methodLink RX10 305 yX10_choose : Cond) ∈ GG := gg_5 (List.mem_of_getElem? (i := 174) (by decide +kernel)) (by decide +kernel)
theorem tw_471 : (.code yX10_choose cX10_choose 3 none : Cond) ∈ GG := gg_5 (List.mem_of_getElem? (i := 177) (by decide +kernel)) (by decide +kernel)
theorem tw_472 : (.initialized yX10_choose.cls : Cond) ∈ GG := gg_1 (List.mem_of_getElem? (i := 1) (by decide +kernel)) (by decide +kernel)
theorem tw_473 : (.instanceMethod yX10_choose : Cond) ∈ GG := gg_5 (List.mem_of_getElem? (i := 176) (by decide +kernel)) (by decide +kernel)
theorem tw_474 : (.selects yX10_choose.cls yX10_choose yX10_choose : Cond) ∈ GG := gg_s (q := (⟨"DogLeases", "choose", "(II)V"⟩, 12)) (List.mem_of_getElem? (i := 45) (by decide +kernel))
theorem tw_475 : (.fieldLink RX10 65 (TX10 11).1 (TX10 11).2.1 (TX10 11).2.2.1 : Cond) ∈ GG := gg_2 (List.mem_of_getElem? (i := 108) (by decide +kernel)) (by decide +kernel)
theorem tw_476 : (.methodLink RX10 308 yX10_gainOf : Cond) ∈ GG := gg_5 (List.mem_of_getElem? (i := 179) (by decide +kernel)) (by decide +kernel)
theorem tw_477 : (.code yX10_gainOf cX10_gainOf 4 (some .int) : Cond) ∈ GG := gg_5 (List.mem_of_getElem? (i := 182) (by decide +kernel)) (by decide +kernel)
theorem tw_478 : (.initialized yX10_gainOf.cls : Cond) ∈ GG := gg_1 (List.mem_of_getElem? (i := 1) (by decide +kernel)) (by decide +kernel)
theorem tw_479 : (.instanceMethod yX10_gainOf : Cond) ∈ GG := gg_5 (List.mem_of_getElem? (i := 181) (by decide +kernel)) (by decide +kernel)
theorem tw_480 : (.selects yX10_gainOf.cls yX10_gainOf yX10_gainOf : Cond) ∈ GG := gg_s (q := (⟨"DogLeases", "gainOf", "(II)I"⟩, 12)) (List.mem_of_getElem? (i := 46) (by decide +kernel))
theorem tw_481 : (.fieldLink RX10 20 (TX10 1).1 (TX10 1).2.1 (TX10 1).2.2.1 : Cond) ∈ GG := gg_2 (List.mem_of_getElem? (i := 98) (by decide +kernel)) (by decide +kernel)
theorem tw_482 : (.fieldLink RX10 80 (TX9 1).1 (TX9 1).2.1 (TX9 1).2.2.1 : Cond) ∈ GG := gg_1 (List.mem_of_getElem? (i := 53) (by decide +kernel)) (by decide +kernel)
theorem tw_483 : (.methodLink RX10 85 yX9_add : Cond) ∈ GG := gg_2 (List.mem_of_getElem? (i := 138) (by decide +kernel)) (by decide +kernel)
theorem tw_484 : (.code yX9_add cX9_add 3 none : Cond) ∈ GG := gg_2 (List.mem_of_getElem? (i := 141) (by decide +kernel)) (by decide +kernel)
theorem tw_485 : (.initialized yX9_add.cls : Cond) ∈ GG := gg_1 (List.mem_of_getElem? (i := 4) (by decide +kernel)) (by decide +kernel)
theorem tw_486 : (.instanceMethod yX9_add : Cond) ∈ GG := gg_2 (List.mem_of_getElem? (i := 139) (by decide +kernel)) (by decide +kernel)
theorem tw_487 : (.selects yX9_add.cls yX9_add yX9_add : Cond) ∈ GG := gg_2 (List.mem_of_getElem? (i := 140) (by decide +kernel)) (by decide +kernel)
theorem tw_488 : (.methodLink RX10 104 yX1_refuse : Cond) ∈ GG := gg_2 (List.mem_of_getElem? (i := 150) (by decide +kernel)) (by decide +kernel)
theorem tw_489 : (.code yX1_refuse cX1_refuse 2 (some .int) : Cond) ∈ GG := gg_2 (List.mem_of_getElem? (i := 153) (by decide +kernel)) (by decide +kernel)
theorem tw_490 : (.initialized yX1_refuse.cls : Cond) ∈ GG := gg_1 (List.mem_of_getElem? (i := 9) (by decide +kernel)) (by decide +kernel)
theorem tw_491 : (.instanceMethod yX1_refuse : Cond) ∈ GG := gg_2 (List.mem_of_getElem? (i := 151) (by decide +kernel)) (by decide +kernel)
theorem tw_492 : (.selects yX1_refuse.cls yX1_refuse yX1_refuse : Cond) ∈ GG := gg_2 (List.mem_of_getElem? (i := 152) (by decide +kernel)) (by decide +kernel)
theorem tw_493 : (.methodLink RX10 187 yX1_beginAct : Cond) ∈ GG := gg_2 (List.mem_of_getElem? (i := 154) (by decide +kernel)) (by decide +kernel)
theorem tw_494 : (.fieldLink RX10 133 (TX1 1).1 (TX1 1).2.1 (TX1 1).2.2.1 : Cond) ∈ GG := gg_2 (List.mem_of_getElem? (i := 64) (by decide +kernel)) (by decide +kernel)
theorem tw_495 : (.methodLink RX10 203 yX0_takeBack : Cond) ∈ GG := gg_3 (List.mem_of_getElem? (i := 0) (by decide +kernel)) (by decide +kernel)
theorem tw_496 : (.code yX0_takeBack cX0_takeBack 2 (some .int) : Cond) ∈ GG := gg_3 (List.mem_of_getElem? (i := 3) (by decide +kernel)) (by decide +kernel)
theorem tw_497 : (.initialized yX0_takeBack.cls : Cond) ∈ GG := gg_1 (List.mem_of_getElem? (i := 10) (by decide +kernel)) (by decide +kernel)
theorem tw_498 : (.instanceMethod yX0_takeBack : Cond) ∈ GG := gg_3 (List.mem_of_getElem? (i := 1) (by decide +kernel)) (by decide +kernel)
theorem tw_499 : (.selects yX0_takeBack.cls yX0_takeBack yX0_takeBack : Cond) ∈ GG := gg_3 (List.mem_of_getElem? (i := 2) (by decide +kernel)) (by decide +kernel)
theorem tw_500 : (.fieldLink RX10 146 (TX6 1).1 (TX6 1).2.1 (TX6 1).2.2.1 : Cond) ∈ GG := gg_2 (List.mem_of_getElem? (i := 55) (by decide +kernel)) (by decide +kernel)
theorem tw_501 : (.fieldLink RX10 47 (TX10 6).1 (TX10 6).2.1 (TX10 6).2.2.1 : Cond) ∈ GG := gg_2 (List.mem_of_getElem? (i := 103) (by decide +kernel)) (by decide +kernel)
theorem tw_502 : (.methodLink RX10 276 yX1_copyFrom : Cond) ∈ GG := gg_3 (List.mem_of_getElem? (i := 12) (by decide +kernel)) (by decide +kernel)
theorem tw_503 : (.code yX1_copyFrom cX1_copyFrom 2 none : Cond) ∈ GG := gg_3 (List.mem_of_getElem? (i := 15) (by decide +kernel)) (by decide +kernel)
theorem tw_504 : (.initialized yX1_copyFrom.cls : Cond) ∈ GG := gg_1 (List.mem_of_getElem? (i := 9) (by decide +kernel)) (by decide +kernel)
theorem tw_505 : (.instanceMethod yX1_copyFrom : Cond) ∈ GG := gg_3 (List.mem_of_getElem? (i := 13) (by decide +kernel)) (by decide +kernel)
theorem tw_506 : (.selects yX1_copyFrom.cls yX1_copyFrom yX1_copyFrom : Cond) ∈ GG := gg_3 (List.mem_of_getElem? (i := 14) (by decide +kernel)) (by decide +kernel)
theorem tw_507 : (.fieldLink RX10 50 (TX10 7).1 (TX10 7).2.1 (TX10 7).2.2.1 : Cond) ∈ GG := gg_2 (List.mem_of_getElem? (i := 104) (by decide +kernel)) (by decide +kernel)
theorem tw_508 : (.methodLink RX10 96 yX9_begin : Cond) ∈ GG := gg_3 (List.mem_of_getElem? (i := 103) (by decide +kernel)) (by decide +kernel)
theorem tw_509 : (.code yX9_begin cX9_begin 2 none : Cond) ∈ GG := gg_3 (List.mem_of_getElem? (i := 106) (by decide +kernel)) (by decide +kernel)
theorem tw_510 : (.initialized yX9_begin.cls : Cond) ∈ GG := gg_1 (List.mem_of_getElem? (i := 4) (by decide +kernel)) (by decide +kernel)
theorem tw_511 : (.instanceMethod yX9_begin : Cond) ∈ GG := gg_3 (List.mem_of_getElem? (i := 104) (by decide +kernel)) (by decide +kernel)
theorem tw_512 : (.selects yX9_begin.cls yX9_begin yX9_begin : Cond) ∈ GG := gg_3 (List.mem_of_getElem? (i := 105) (by decide +kernel)) (by decide +kernel)
theorem tw_513 : (.fieldLink RX10 10 (TX10 0).1 (TX10 0).2.1 (TX10 0).2.2.1 : Cond) ∈ GG := gg_2 (List.mem_of_getElem? (i := 97) (by decide +kernel)) (by decide +kernel)
theorem tw_514 : (.methodLink RX10 98 yX3_read : Cond) ∈ GG := gg_3 (List.mem_of_getElem? (i := 108) (by decide +kernel)) (by decide +kernel)
theorem tw_515 : (.code yX3_read cX3_read 3 (some .int) : Cond) ∈ GG := gg_3 (List.mem_of_getElem? (i := 111) (by decide +kernel)) (by decide +kernel)
theorem tw_516 : (.initialized yX3_read.cls : Cond) ∈ GG := gg_1 (List.mem_of_getElem? (i := 2) (by decide +kernel)) (by decide +kernel)
theorem tw_517 : (.instanceMethod yX3_read : Cond) ∈ GG := gg_3 (List.mem_of_getElem? (i := 109) (by decide +kernel)) (by decide +kernel)
theorem tw_518 : (.selects yX3_read.cls yX3_read yX3_read : Cond) ∈ GG := gg_3 (List.mem_of_getElem? (i := 110) (by decide +kernel)) (by decide +kernel)
theorem tw_519 : (.fieldLink RX10 108 (TX3 2).1 (TX3 2).2.1 (TX3 2).2.2.1 : Cond) ∈ GG := gg_1 (List.mem_of_getElem? (i := 199) (by decide +kernel)) (by decide +kernel)
theorem tw_520 : (.methodLink RX10 109 yX2_copyFrom : Cond) ∈ GG := gg_4 (List.mem_of_getElem? (i := 63) (by decide +kernel)) (by decide +kernel)
theorem tw_521 : (.code yX2_copyFrom cX2_copyFrom 2 none : Cond) ∈ GG := gg_4 (List.mem_of_getElem? (i := 66) (by decide +kernel)) (by decide +kernel)
theorem tw_522 : (.initialized yX2_copyFrom.cls : Cond) ∈ GG := gg_1 (List.mem_of_getElem? (i := 6) (by decide +kernel)) (by decide +kernel)
theorem tw_523 : (.instanceMethod yX2_copyFrom : Cond) ∈ GG := gg_4 (List.mem_of_getElem? (i := 64) (by decide +kernel)) (by decide +kernel)
theorem tw_524 : (.selects yX2_copyFrom.cls yX2_copyFrom yX2_copyFrom : Cond) ∈ GG := gg_4 (List.mem_of_getElem? (i := 65) (by decide +kernel)) (by decide +kernel)
theorem tw_525 : (.fieldLink RX10 73 (TX2 9).1 (TX2 9).2.1 (TX2 9).2.2.1 : Cond) ∈ GG := gg_1 (List.mem_of_getElem? (i := 172) (by decide +kernel)) (by decide +kernel)
theorem tw_526 : (.methodLink RX10 76 yX1_begin : Cond) ∈ GG := gg_2 (List.mem_of_getElem? (i := 86) (by decide +kernel)) (by decide +kernel)
theorem tw_527 : (.code yX1_begin cX1_begin 2 none : Cond) ∈ GG := gg_2 (List.mem_of_getElem? (i := 89) (by decide +kernel)) (by decide +kernel)
theorem tw_528 : (.initialized yX1_begin.cls : Cond) ∈ GG := gg_1 (List.mem_of_getElem? (i := 9) (by decide +kernel)) (by decide +kernel)
theorem tw_529 : (.instanceMethod yX1_begin : Cond) ∈ GG := gg_2 (List.mem_of_getElem? (i := 87) (by decide +kernel)) (by decide +kernel)
theorem tw_530 : (.selects yX1_begin.cls yX1_begin yX1_begin : Cond) ∈ GG := gg_2 (List.mem_of_getElem? (i := 88) (by decide +kernel)) (by decide +kernel)
theorem tw_531 : (.fieldLink RX10 102 (TX9 3).1 (TX9 3).2.1 (TX9 3).2.2.1 : Cond) ∈ GG := gg_1 (List.mem_of_getElem? (i := 56) (by decide +kernel)) (by decide +kernel)
theorem tw_532 : (.fieldLink RX10 119 (TX2 2).1 (TX2 2).2.1 (TX2 2).2.2.1 : Cond) ∈ GG := gg_1 (List.mem_of_getElem? (i := 146) (by decide +kernel)) (by decide +kernel)
theorem tw_533 : (.methodLink RX10 125 yX8_housesOf : Cond) ∈ GG := gg_4 (List.mem_of_getElem? (i := 77) (by decide +kernel)) (by decide +kernel)
theorem tw_534 : (.code yX8_housesOf cX8_housesOf 5 (some .int) : Cond) ∈ GG := gg_4 (List.mem_of_getElem? (i := 80) (by decide +kernel)) (by decide +kernel)
theorem tw_535 : (.initialized yX8_housesOf.cls : Cond) ∈ GG := gg_1 (List.mem_of_getElem? (i := 7) (by decide +kernel)) (by decide +kernel)
theorem tw_536 : (.instanceMethod yX8_housesOf : Cond) ∈ GG := gg_4 (List.mem_of_getElem? (i := 78) (by decide +kernel)) (by decide +kernel)
theorem tw_537 : (.selects yX8_housesOf.cls yX8_housesOf yX8_housesOf : Cond) ∈ GG := gg_4 (List.mem_of_getElem? (i := 79) (by decide +kernel)) (by decide +kernel)
theorem tw_538 : (.methodLink RX10 129 yX8_coinsOfAll : Cond) ∈ GG := gg_4 (List.mem_of_getElem? (i := 81) (by decide +kernel)) (by decide +kernel)
theorem tw_539 : (.code yX8_coinsOfAll cX8_coinsOfAll 4 (some .int) : Cond) ∈ GG := gg_4 (List.mem_of_getElem? (i := 84) (by decide +kernel)) (by decide +kernel)
theorem tw_540 : (.initialized yX8_coinsOfAll.cls : Cond) ∈ GG := gg_1 (List.mem_of_getElem? (i := 7) (by decide +kernel)) (by decide +kernel)
theorem tw_541 : (.instanceMethod yX8_coinsOfAll : Cond) ∈ GG := gg_4 (List.mem_of_getElem? (i := 82) (by decide +kernel)) (by decide +kernel)
theorem tw_542 : (.selects yX8_coinsOfAll.cls yX8_coinsOfAll yX8_coinsOfAll : Cond) ∈ GG := gg_4 (List.mem_of_getElem? (i := 83) (by decide +kernel)) (by decide +kernel)
theorem tw_543 : (.fieldLink RX10 137 (TX0 2).1 (TX0 2).2.1 (TX0 2).2.2.1 : Cond) ∈ GG := gg_2 (List.mem_of_getElem? (i := 38) (by decide +kernel)) (by decide +kernel)
theorem tw_544 : (.fieldLink RX10 149 (TX1 3).1 (TX1 3).2.1 (TX1 3).2.2.1 : Cond) ∈ GG := gg_2 (List.mem_of_getElem? (i := 68) (by decide +kernel)) (by decide +kernel)
theorem tw_545 : (.methodLink RX10 157 yX10_needHouse : Cond) ∈ GG := gg_4 (List.mem_of_getElem? (i := 108) (by decide +kernel)) (by decide +kernel)
theorem tw_546 : (.code yX10_needHouse cX10_needHouse 2 none : Cond) ∈ GG := gg_4 (List.mem_of_getElem? (i := 111) (by decide +kernel)) (by decide +kernel)
theorem tw_547 : (.initialized yX10_needHouse.cls : Cond) ∈ GG := gg_1 (List.mem_of_getElem? (i := 1) (by decide +kernel)) (by decide +kernel)
theorem tw_548 : (.instanceMethod yX10_needHouse : Cond) ∈ GG := gg_4 (List.mem_of_getElem? (i := 110) (by decide +kernel)) (by decide +kernel)
theorem tw_549 : (.selects yX10_needHouse.cls yX10_needHouse yX10_needHouse : Cond) ∈ GG := gg_s (q := (⟨"DogLeases", "needHouse", "(I)V"⟩, 12)) (List.mem_of_getElem? (i := 29) (by decide +kernel))
theorem tw_550 : (.fieldLink RX10 160 (TX2 3).1 (TX2 3).2.1 (TX2 3).2.2.1 : Cond) ∈ GG := gg_1 (List.mem_of_getElem? (i := 152) (by decide +kernel)) (by decide +kernel)
theorem tw_551 : (.fieldLink RX10 163 (TX2 4).1 (TX2 4).2.1 (TX2 4).2.2.1 : Cond) ∈ GG := gg_1 (List.mem_of_getElem? (i := 155) (by decide +kernel)) (by decide +kernel)
theorem tw_552 : (.methodLink RX10 166 yX10_isSealedNow : Cond) ∈ GG := gg_4 (List.mem_of_getElem? (i := 113) (by decide +kernel)) (by decide +kernel)
theorem tw_553 : (.code yX10_isSealedNow cX10_isSealedNow 2 (some .boolean) : Cond) ∈ GG := gg_4 (List.mem_of_getElem? (i := 116) (by decide +kernel)) (by decide +kernel)
theorem tw_554 : (.initialized yX10_isSealedNow.cls : Cond) ∈ GG := gg_1 (List.mem_of_getElem? (i := 1) (by decide +kernel)) (by decide +kernel)
theorem tw_555 : (.instanceMethod yX10_isSealedNow : Cond) ∈ GG := gg_4 (List.mem_of_getElem? (i := 115) (by decide +kernel)) (by decide +kernel)
theorem tw_556 : (.selects yX10_isSealedNow.cls yX10_isSealedNow yX10_isSealedNow : Cond) ∈ GG := gg_s (q := (⟨"DogLeases", "isSealedNow", "(I)Z"⟩, 12)) (List.mem_of_getElem? (i := 30) (by decide +kernel))
theorem tw_557 : (.methodLink RX10 170 yX8_isAsleep : Cond) ∈ GG := gg_4 (List.mem_of_getElem? (i := 117) (by decide +kernel)) (by decide +kernel)
theorem tw_558 : (.methodLink RX10 176 yX10_needTenant : Cond) ∈ GG := gg_4 (List.mem_of_getElem? (i := 126) (by decide +kernel)) (by decide +kernel)
theorem tw_559 : (.code yX10_needTenant cX10_needTenant 2 none : Cond) ∈ GG := gg_4 (List.mem_of_getElem? (i := 129) (by decide +kernel)) (by decide +kernel)
theorem tw_560 : (.initialized yX10_needTenant.cls : Cond) ∈ GG := gg_1 (List.mem_of_getElem? (i := 1) (by decide +kernel)) (by decide +kernel)
theorem tw_561 : (.instanceMethod yX10_needTenant : Cond) ∈ GG := gg_4 (List.mem_of_getElem? (i := 128) (by decide +kernel)) (by decide +kernel)
theorem tw_562 : (.selects yX10_needTenant.cls yX10_needTenant yX10_needTenant : Cond) ∈ GG := gg_s (q := (⟨"DogLeases", "needTenant", "(I)V"⟩, 12)) (List.mem_of_getElem? (i := 31) (by decide +kernel))
theorem tw_563 : (.fieldLink RX10 179 (TX2 5).1 (TX2 5).2.1 (TX2 5).2.2.1 : Cond) ∈ GG := gg_1 (List.mem_of_getElem? (i := 159) (by decide +kernel)) (by decide +kernel)
theorem tw_564 : (.fieldLink RX10 182 (TX2 6).1 (TX2 6).2.1 (TX2 6).2.2.1 : Cond) ∈ GG := gg_1 (List.mem_of_getElem? (i := 163) (by decide +kernel)) (by decide +kernel)
theorem tw_565 : (.methodLink RX10 200 yX1_actTo : Cond) ∈ GG := gg_4 (List.mem_of_getElem? (i := 147) (by decide +kernel)) (by decide +kernel)
theorem tw_566 : (.code yX1_actTo cX1_actTo 4 (some .int) : Cond) ∈ GG := gg_4 (List.mem_of_getElem? (i := 150) (by decide +kernel)) (by decide +kernel)
theorem tw_567 : (.initialized yX1_actTo.cls : Cond) ∈ GG := gg_1 (List.mem_of_getElem? (i := 9) (by decide +kernel)) (by decide +kernel)
theorem tw_568 : (.instanceMethod yX1_actTo : Cond) ∈ GG := gg_4 (List.mem_of_getElem? (i := 148) (by decide +kernel)) (by decide +kernel)
theorem tw_569 : (.selects yX1_actTo.cls yX1_actTo yX1_actTo : Cond) ∈ GG := gg_4 (List.mem_of_getElem? (i := 149) (by decide +kernel)) (by decide +kernel)
theorem tw_570 : (.methodLink RX10 206 yX10_needAhead : Cond) ∈ GG := gg_4 (List.mem_of_getElem? (i := 173) (by decide +kernel)) (by decide +kernel)
theorem tw_571 : (.code yX10_needAhead cX10_needAhead 2 none : Cond) ∈ GG := gg_4 (List.mem_of_getElem? (i := 176) (by decide +kernel)) (by decide +kernel)
theorem tw_572 : (.initialized yX10_needAhead.cls : Cond) ∈ GG := gg_1 (List.mem_of_getElem? (i := 1) (by decide +kernel)) (by decide +kernel)
theorem tw_573 : (.instanceMethod yX10_needAhead : Cond) ∈ GG := gg_4 (List.mem_of_getElem? (i := 175) (by decide +kernel)) (by decide +kernel)
theorem tw_574 : (.selects yX10_needAhead.cls yX10_needAhead yX10_needAhead : Cond) ∈ GG := gg_s (q := (⟨"DogLeases", "needAhead", "(I)V"⟩, 12)) (List.mem_of_getElem? (i := 32) (by decide +kernel))
theorem tw_575 : (.methodLink RX10 209 yX10_tryAhead : Cond) ∈ GG := gg_4 (List.mem_of_getElem? (i := 178) (by decide +kernel)) (by decide +kernel)
theorem tw_576 : (.code yX10_tryAhead cX10_tryAhead 2 none : Cond) ∈ GG := gg_4 (List.mem_of_getElem? (i := 181) (by decide +kernel)) (by decide +kernel)
theorem tw_577 : (.initialized yX10_tryAhead.cls : Cond) ∈ GG := gg_1 (List.mem_of_getElem? (i := 1) (by decide +kernel)) (by decide +kernel)
theorem tw_578 : (.instanceMethod yX10_tryAhead : Cond) ∈ GG := gg_4 (List.mem_of_getElem? (i := 180) (by decide +kernel)) (by decide +kernel)
theorem tw_579 : (.selects yX10_tryAhead.cls yX10_tryAhead yX10_tryAhead : Cond) ∈ GG := gg_s (q := (⟨"DogLeases", "tryAhead", "(I)V"⟩, 12)) (List.mem_of_getElem? (i := 33) (by decide +kernel))
theorem tw_580 : (.methodLink RX10 212 yX10_needWhat : Cond) ∈ GG := gg_4 (List.mem_of_getElem? (i := 194) (by decide +kernel)) (by decide +kernel)
theorem tw_581 : (.code yX10_needWhat cX10_needWhat 3 none : Cond) ∈ GG := gg_4 (List.mem_of_getElem? (i := 197) (by decide +kernel)) (by decide +kernel)
theorem tw_582 : (.initialized yX10_needWhat.cls : Cond) ∈ GG := gg_1 (List.mem_of_getElem? (i := 1) (by decide +kernel)) (by decide +kernel)
theorem tw_583 : (.instanceMethod yX10_needWhat : Cond) ∈ GG := gg_4 (List.mem_of_getElem? (i := 196) (by decide +kernel)) (by decide +kernel)
theorem tw_584 : (.selects yX10_needWhat.cls yX10_needWhat yX10_needWhat : Cond) ∈ GG := gg_s (q := (⟨"DogLeases", "needWhat", "(II)V"⟩, 12)) (List.mem_of_getElem? (i := 35) (by decide +kernel))
theorem tw_585 : (.methodLink RX10 216 yX8_buriedIn : Cond) ∈ GG := gg_4 (List.mem_of_getElem? (i := 206) (by decide +kernel)) (by decide +kernel)
theorem tw_586 : (.code yX8_buriedIn cX8_buriedIn 3 (some .int) : Cond) ∈ GG := gg_4 (List.mem_of_getElem? (i := 209) (by decide +kernel)) (by decide +kernel)
theorem tw_587 : (.initialized yX8_buriedIn.cls : Cond) ∈ GG := gg_1 (List.mem_of_getElem? (i := 7) (by decide +kernel)) (by decide +kernel)
theorem tw_588 : (.instanceMethod yX8_buriedIn : Cond) ∈ GG := gg_4 (List.mem_of_getElem? (i := 207) (by decide +kernel)) (by decide +kernel)
theorem tw_589 : (.selects yX8_buriedIn.cls yX8_buriedIn yX8_buriedIn : Cond) ∈ GG := gg_4 (List.mem_of_getElem? (i := 208) (by decide +kernel)) (by decide +kernel)
theorem tw_590 : (.methodLink RX10 219 yX8_lifeOf : Cond) ∈ GG := gg_4 (List.mem_of_getElem? (i := 210) (by decide +kernel)) (by decide +kernel)
theorem tw_591 : (.methodLink RX10 222 yX10_firstWhen : Cond) ∈ GG := gg_4 (List.mem_of_getElem? (i := 218) (by decide +kernel)) (by decide +kernel)
theorem tw_592 : (.code yX10_firstWhen cX10_firstWhen 5 (some .int) : Cond) ∈ GG := gg_4 (List.mem_of_getElem? (i := 221) (by decide +kernel)) (by decide +kernel)
theorem tw_593 : (.initialized yX10_firstWhen.cls : Cond) ∈ GG := gg_1 (List.mem_of_getElem? (i := 1) (by decide +kernel)) (by decide +kernel)
theorem tw_594 : (.instanceMethod yX10_firstWhen : Cond) ∈ GG := gg_4 (List.mem_of_getElem? (i := 220) (by decide +kernel)) (by decide +kernel)
theorem tw_595 : (.selects yX10_firstWhen.cls yX10_firstWhen yX10_firstWhen : Cond) ∈ GG := gg_s (q := (⟨"DogLeases", "firstWhen", "(IIZ)I"⟩, 12)) (List.mem_of_getElem? (i := 36) (by decide +kernel))
theorem tw_596 : (.methodLink RX10 226 yJ6_bitCount_0f7a4 : Cond) ∈ GG := gg_4 (List.mem_of_getElem? (i := 237) (by decide +kernel)) (by decide +kernel)
theorem tw_597 : (.methodLink RX10 231 yX8_likingNow : Cond) ∈ GG := gg_5 (List.mem_of_getElem? (i := 24) (by decide +kernel)) (by decide +kernel)
theorem tw_598 : (.code yX8_likingNow cX8_likingNow 4 (some .int) : Cond) ∈ GG := gg_5 (List.mem_of_getElem? (i := 27) (by decide +kernel)) (by decide +kernel)
theorem tw_599 : (.initialized yX8_likingNow.cls : Cond) ∈ GG := gg_1 (List.mem_of_getElem? (i := 7) (by decide +kernel)) (by decide +kernel)
theorem tw_600 : (.instanceMethod yX8_likingNow : Cond) ∈ GG := gg_5 (List.mem_of_getElem? (i := 25) (by decide +kernel)) (by decide +kernel)
theorem tw_601 : (.selects yX8_likingNow.cls yX8_likingNow yX8_likingNow : Cond) ∈ GG := gg_5 (List.mem_of_getElem? (i := 26) (by decide +kernel)) (by decide +kernel)
theorem tw_602 : (.fieldLink RX10 36 (TX10 4).1 (TX10 4).2.1 (TX10 4).2.2.1 : Cond) ∈ GG := gg_2 (List.mem_of_getElem? (i := 101) (by decide +kernel)) (by decide +kernel)
theorem tw_603 : (.methodLink RX10 240 yX7_begin : Cond) ∈ GG := gg_5 (List.mem_of_getElem? (i := 61) (by decide +kernel)) (by decide +kernel)
theorem tw_604 : (.code yX7_begin cX7_begin 4 none : Cond) ∈ GG := gg_5 (List.mem_of_getElem? (i := 64) (by decide +kernel)) (by decide +kernel)
theorem tw_605 : (.initialized yX7_begin.cls : Cond) ∈ GG := gg_1 (List.mem_of_getElem? (i := 8) (by decide +kernel)) (by decide +kernel)
theorem tw_606 : (.instanceMethod yX7_begin : Cond) ∈ GG := gg_5 (List.mem_of_getElem? (i := 62) (by decide +kernel)) (by decide +kernel)
theorem tw_607 : (.selects yX7_begin.cls yX7_begin yX7_begin : Cond) ∈ GG := gg_5 (List.mem_of_getElem? (i := 63) (by decide +kernel)) (by decide +kernel)
theorem tw_608 : (.methodLink RX10 246 yX7_weigh : Cond) ∈ GG := gg_5 (List.mem_of_getElem? (i := 69) (by decide +kernel)) (by decide +kernel)
theorem tw_609 : (.code yX7_weigh cX7_weigh 3 none : Cond) ∈ GG := gg_5 (List.mem_of_getElem? (i := 72) (by decide +kernel)) (by decide +kernel)
theorem tw_610 : (.initialized yX7_weigh.cls : Cond) ∈ GG := gg_1 (List.mem_of_getElem? (i := 8) (by decide +kernel)) (by decide +kernel)
theorem tw_611 : (.instanceMethod yX7_weigh : Cond) ∈ GG := gg_5 (List.mem_of_getElem? (i := 70) (by decide +kernel)) (by decide +kernel)
theorem tw_612 : (.selects yX7_weigh.cls yX7_weigh yX7_weigh : Cond) ∈ GG := gg_5 (List.mem_of_getElem? (i := 71) (by decide +kernel)) (by decide +kernel)
theorem tw_613 : (.methodLink RX10 252 yX7_whoHas : Cond) ∈ GG := gg_5 (List.mem_of_getElem? (i := 87) (by decide +kernel)) (by decide +kernel)
theorem tw_614 : (.code yX7_whoHas cX7_whoHas 5 (some .int) : Cond) ∈ GG := gg_5 (List.mem_of_getElem? (i := 90) (by decide +kernel)) (by decide +kernel)
theorem tw_615 : (.initialized yX7_whoHas.cls : Cond) ∈ GG := gg_1 (List.mem_of_getElem? (i := 8) (by decide +kernel)) (by decide +kernel)
theorem tw_616 : (.instanceMethod yX7_whoHas : Cond) ∈ GG := gg_5 (List.mem_of_getElem? (i := 88) (by decide +kernel)) (by decide +kernel)
theorem tw_617 : (.selects yX7_whoHas.cls yX7_whoHas yX7_whoHas : Cond) ∈ GG := gg_5 (List.mem_of_getElem? (i := 89) (by decide +kernel)) (by decide +kernel)
theorem tw_618 : (.methodLink RX10 249 yX7_howMuch : Cond) ∈ GG := gg_5 (List.mem_of_getElem? (i := 83) (by decide +kernel)) (by decide +kernel)
theorem tw_619 : (.code yX7_howMuch cX7_howMuch 1 (some .int) : Cond) ∈ GG := gg_5 (List.mem_of_getElem? (i := 86) (by decide +kernel)) (by decide +kernel)
theorem tw_620 : (.initialized yX7_howMuch.cls : Cond) ∈ GG := gg_1 (List.mem_of_getElem? (i := 8) (by decide +kernel)) (by decide +kernel)
theorem tw_621 : (.instanceMethod yX7_howMuch : Cond) ∈ GG := gg_5 (List.mem_of_getElem? (i := 84) (by decide +kernel)) (by decide +kernel)
theorem tw_622 : (.selects yX7_howMuch.cls yX7_howMuch yX7_howMuch : Cond) ∈ GG := gg_5 (List.mem_of_getElem? (i := 85) (by decide +kernel)) (by decide +kernel)
theorem tw_623 : (.methodLink RX10 243 yX7_tell : Cond) ∈ GG := gg_5 (List.mem_of_getElem? (i := 65) (by decide +kernel)) (by decide +kernel)
theorem tw_624 : (.code yX7_tell cX7_tell 4 none : Cond) ∈ GG := gg_5 (List.mem_of_getElem? (i := 68) (by decide +kernel)) (by decide +kernel)
theorem tw_625 : (.initialized yX7_tell.cls : Cond) ∈ GG := gg_1 (List.mem_of_getElem? (i := 8) (by decide +kernel)) (by decide +kernel)
theorem tw_626 : (.instanceMethod yX7_tell : Cond) ∈ GG := gg_5 (List.mem_of_getElem? (i := 66) (by decide +kernel)) (by decide +kernel)
theorem tw_627 : (.selects yX7_tell.cls yX7_tell yX7_tell : Cond) ∈ GG := gg_5 (List.mem_of_getElem? (i := 67) (by decide +kernel)) (by decide +kernel)
theorem tw_628 : (.methodLink RX10 255 yX6_add : Cond) ∈ GG := gg_5 (List.mem_of_getElem? (i := 123) (by decide +kernel)) (by decide +kernel)
theorem tw_629 : (.code yX6_add cX6_add 6 none : Cond) ∈ GG := gg_5 (List.mem_of_getElem? (i := 126) (by decide +kernel)) (by decide +kernel)
theorem tw_630 : (.initialized yX6_add.cls : Cond) ∈ GG := gg_1 (List.mem_of_getElem? (i := 11) (by decide +kernel)) (by decide +kernel)
theorem tw_631 : (.instanceMethod yX6_add : Cond) ∈ GG := gg_5 (List.mem_of_getElem? (i := 124) (by decide +kernel)) (by decide +kernel)
theorem tw_632 : (.selects yX6_add.cls yX6_add yX6_add : Cond) ∈ GG := gg_5 (List.mem_of_getElem? (i := 125) (by decide +kernel)) (by decide +kernel)
theorem tw_633 : (.methodLink RX10 262 yX10_meetOwners : Cond) ∈ GG := gg_5 (List.mem_of_getElem? (i := 154) (by decide +kernel)) (by decide +kernel)
theorem tw_634 : (.code yX10_meetOwners cX10_meetOwners 3 none : Cond) ∈ GG := gg_5 (List.mem_of_getElem? (i := 157) (by decide +kernel)) (by decide +kernel)
theorem tw_635 : (.initialized yX10_meetOwners.cls : Cond) ∈ GG := gg_1 (List.mem_of_getElem? (i := 1) (by decide +kernel)) (by decide +kernel)
theorem tw_636 : (.instanceMethod yX10_meetOwners : Cond) ∈ GG := gg_5 (List.mem_of_getElem? (i := 156) (by decide +kernel)) (by decide +kernel)
theorem tw_637 : (.selects yX10_meetOwners.cls yX10_meetOwners yX10_meetOwners : Cond) ∈ GG := gg_s (q := (⟨"DogLeases", "meetOwners", "()V"⟩, 12)) (List.mem_of_getElem? (i := 42) (by decide +kernel))
theorem tw_638 : (.methodLink RX10 267 yX10_playCouple : Cond) ∈ GG := gg_5 (List.mem_of_getElem? (i := 170) (by decide +kernel)) (by decide +kernel)
theorem tw_639 : (.code yX10_playCouple cX10_playCouple 4 none : Cond) ∈ GG := gg_5 (List.mem_of_getElem? (i := 173) (by decide +kernel)) (by decide +kernel)
theorem tw_640 : (.initialized yX10_playCouple.cls : Cond) ∈ GG := gg_1 (List.mem_of_getElem? (i := 1) (by decide +kernel)) (by decide +kernel)
theorem tw_641 : (.instanceMethod yX10_playCouple : Cond) ∈ GG := gg_5 (List.mem_of_getElem? (i := 172) (by decide +kernel)) (by decide +kernel)
theorem tw_642 : (.selects yX10_playCouple.cls yX10_playCouple yX10_playCouple : Cond) ∈ GG := gg_s (q := (⟨"DogLeases", "playCouple", "(III)V"⟩, 12)) (List.mem_of_getElem? (i := 44) (by decide +kernel))
theorem tw_643 : (.methodLink RX10 273 yX8_passYears : Cond) ∈ GG := gg_5 (List.mem_of_getElem? (i := 191) (by decide +kernel)) (by decide +kernel)
theorem tw_644 : (.code yX8_passYears cX8_passYears 7 (some .int) : Cond) ∈ GG := gg_5 (List.mem_of_getElem? (i := 194) (by decide +kernel)) (by decide +kernel)
theorem tw_645 : (.initialized yX8_passYears.cls : Cond) ∈ GG := gg_1 (List.mem_of_getElem? (i := 7) (by decide +kernel)) (by decide +kernel)
theorem tw_646 : (.instanceMethod yX8_passYears : Cond) ∈ GG := gg_5 (List.mem_of_getElem? (i := 192) (by decide +kernel)) (by decide +kernel)
theorem tw_647 : (.selects yX8_passYears.cls yX8_passYears yX8_passYears : Cond) ∈ GG := gg_5 (List.mem_of_getElem? (i := 193) (by decide +kernel)) (by decide +kernel)
theorem tw_648 : (.methodLink RL 7 yX10_terrace : Cond) ∈ GG := gg_3 (List.mem_of_getElem? (i := 33) (by decide +kernel)) (by decide +kernel)
theorem tw_649 : (.code yX10_terrace cX10_terrace 3 (some .int) : Cond) ∈ GG := gg_3 (List.mem_of_getElem? (i := 36) (by decide +kernel)) (by decide +kernel)
theorem tw_650 : (.initialized yX10_terrace.cls : Cond) ∈ GG := gg_1 (List.mem_of_getElem? (i := 1) (by decide +kernel)) (by decide +kernel)
theorem tw_651 : (.instanceMethod yX10_terrace : Cond) ∈ GG := gg_3 (List.mem_of_getElem? (i := 34) (by decide +kernel)) (by decide +kernel)
theorem tw_652 : (.selects yX10_terrace.cls yX10_terrace yX10_terrace : Cond) ∈ GG := gg_3 (List.mem_of_getElem? (i := 35) (by decide +kernel)) (by decide +kernel)
theorem tw_653 : (.classLink RL 13 (exNm 1) : Cond) ∈ GG := gg_3 (List.mem_of_getElem? (i := 32) (by decide +kernel)) (by decide +kernel)
theorem tw_654 : (.methodLink RL 15 yX10_count : Cond) ∈ GG := gg_4 (List.mem_of_getElem? (i := 73) (by decide +kernel)) (by decide +kernel)
theorem tw_655 : (.code yX10_count cX10_count 2 (some .int) : Cond) ∈ GG := gg_4 (List.mem_of_getElem? (i := 76) (by decide +kernel)) (by decide +kernel)
theorem tw_656 : (.initialized yX10_count.cls : Cond) ∈ GG := gg_1 (List.mem_of_getElem? (i := 1) (by decide +kernel)) (by decide +kernel)
theorem tw_657 : (.instanceMethod yX10_count : Cond) ∈ GG := gg_4 (List.mem_of_getElem? (i := 74) (by decide +kernel)) (by decide +kernel)
theorem tw_658 : (.selects yX10_count.cls yX10_count yX10_count : Cond) ∈ GG := gg_4 (List.mem_of_getElem? (i := 75) (by decide +kernel)) (by decide +kernel)
theorem tw_659 : (.classLink RL 18 (exNm 0) : Cond) ∈ GG := gg_4 (List.mem_of_getElem? (i := 72) (by decide +kernel)) (by decide +kernel)
theorem tw_660 : (.methodLink RL 20 yX10_house : Cond) ∈ GG := gg_4 (List.mem_of_getElem? (i := 104) (by decide +kernel)) (by decide +kernel)
theorem tw_661 : (.code yX10_house cX10_house 3 (some .int) : Cond) ∈ GG := gg_4 (List.mem_of_getElem? (i := 107) (by decide +kernel)) (by decide +kernel)
theorem tw_662 : (.initialized yX10_house.cls : Cond) ∈ GG := gg_1 (List.mem_of_getElem? (i := 1) (by decide +kernel)) (by decide +kernel)
theorem tw_663 : (.instanceMethod yX10_house : Cond) ∈ GG := gg_4 (List.mem_of_getElem? (i := 105) (by decide +kernel)) (by decide +kernel)
theorem tw_664 : (.selects yX10_house.cls yX10_house yX10_house : Cond) ∈ GG := gg_4 (List.mem_of_getElem? (i := 106) (by decide +kernel)) (by decide +kernel)
theorem tw_665 : (.methodLink RL 24 yX10_tenant : Cond) ∈ GG := gg_4 (List.mem_of_getElem? (i := 122) (by decide +kernel)) (by decide +kernel)
theorem tw_666 : (.code yX10_tenant cX10_tenant 3 (some .int) : Cond) ∈ GG := gg_4 (List.mem_of_getElem? (i := 125) (by decide +kernel)) (by decide +kernel)
theorem tw_667 : (.initialized yX10_tenant.cls : Cond) ∈ GG := gg_1 (List.mem_of_getElem? (i := 1) (by decide +kernel)) (by decide +kernel)
theorem tw_668 : (.instanceMethod yX10_tenant : Cond) ∈ GG := gg_4 (List.mem_of_getElem? (i := 123) (by decide +kernel)) (by decide +kernel)
theorem tw_669 : (.selects yX10_tenant.cls yX10_tenant yX10_tenant : Cond) ∈ GG := gg_4 (List.mem_of_getElem? (i := 124) (by decide +kernel)) (by decide +kernel)
theorem tw_670 : (.methodLink RL 27 yX10_buy : Cond) ∈ GG := gg_4 (List.mem_of_getElem? (i := 135) (by decide +kernel)) (by decide +kernel)
theorem tw_671 : (.code yX10_buy cX10_buy 3 (some .int) : Cond) ∈ GG := gg_4 (List.mem_of_getElem? (i := 138) (by decide +kernel)) (by decide +kernel)
theorem tw_672 : (.initialized yX10_buy.cls : Cond) ∈ GG := gg_1 (List.mem_of_getElem? (i := 1) (by decide +kernel)) (by decide +kernel)
theorem tw_673 : (.instanceMethod yX10_buy : Cond) ∈ GG := gg_4 (List.mem_of_getElem? (i := 136) (by decide +kernel)) (by decide +kernel)
theorem tw_674 : (.selects yX10_buy.cls yX10_buy yX10_buy : Cond) ∈ GG := gg_4 (List.mem_of_getElem? (i := 137) (by decide +kernel)) (by decide +kernel)
theorem tw_675 : (.methodLink RL 30 yX10_cats : Cond) ∈ GG := gg_4 (List.mem_of_getElem? (i := 143) (by decide +kernel)) (by decide +kernel)
theorem tw_676 : (.code yX10_cats cX10_cats 3 (some .int) : Cond) ∈ GG := gg_4 (List.mem_of_getElem? (i := 146) (by decide +kernel)) (by decide +kernel)
theorem tw_677 : (.initialized yX10_cats.cls : Cond) ∈ GG := gg_1 (List.mem_of_getElem? (i := 1) (by decide +kernel)) (by decide +kernel)
theorem tw_678 : (.instanceMethod yX10_cats : Cond) ∈ GG := gg_4 (List.mem_of_getElem? (i := 144) (by decide +kernel)) (by decide +kernel)
theorem tw_679 : (.selects yX10_cats.cls yX10_cats yX10_cats : Cond) ∈ GG := gg_4 (List.mem_of_getElem? (i := 145) (by decide +kernel)) (by decide +kernel)
theorem tw_680 : (.methodLink RL 33 yX10_lead : Cond) ∈ GG := gg_4 (List.mem_of_getElem? (i := 155) (by decide +kernel)) (by decide +kernel)
theorem tw_681 : (.code yX10_lead cX10_lead 5 (some .boolean) : Cond) ∈ GG := gg_4 (List.mem_of_getElem? (i := 158) (by decide +kernel)) (by decide +kernel)
theorem tw_682 : (.initialized yX10_lead.cls : Cond) ∈ GG := gg_1 (List.mem_of_getElem? (i := 1) (by decide +kernel)) (by decide +kernel)
theorem tw_683 : (.instanceMethod yX10_lead : Cond) ∈ GG := gg_4 (List.mem_of_getElem? (i := 156) (by decide +kernel)) (by decide +kernel)
theorem tw_684 : (.selects yX10_lead.cls yX10_lead yX10_lead : Cond) ∈ GG := gg_4 (List.mem_of_getElem? (i := 157) (by decide +kernel)) (by decide +kernel)
theorem tw_685 : (.methodLink RL 37 yX10_temper : Cond) ∈ GG := gg_4 (List.mem_of_getElem? (i := 162) (by decide +kernel)) (by decide +kernel)
theorem tw_686 : (.code yX10_temper cX10_temper 3 (some .int) : Cond) ∈ GG := gg_4 (List.mem_of_getElem? (i := 165) (by decide +kernel)) (by decide +kernel)
theorem tw_687 : (.initialized yX10_temper.cls : Cond) ∈ GG := gg_1 (List.mem_of_getElem? (i := 1) (by decide +kernel)) (by decide +kernel)
theorem tw_688 : (.instanceMethod yX10_temper : Cond) ∈ GG := gg_4 (List.mem_of_getElem? (i := 163) (by decide +kernel)) (by decide +kernel)
theorem tw_689 : (.selects yX10_temper.cls yX10_temper yX10_temper : Cond) ∈ GG := gg_4 (List.mem_of_getElem? (i := 164) (by decide +kernel)) (by decide +kernel)
theorem tw_690 : (.methodLink RL 40 yX10_then : Cond) ∈ GG := gg_4 (List.mem_of_getElem? (i := 169) (by decide +kernel)) (by decide +kernel)
theorem tw_691 : (.code yX10_then cX10_then 3 (some .int) : Cond) ∈ GG := gg_4 (List.mem_of_getElem? (i := 172) (by decide +kernel)) (by decide +kernel)
theorem tw_692 : (.initialized yX10_then.cls : Cond) ∈ GG := gg_1 (List.mem_of_getElem? (i := 1) (by decide +kernel)) (by decide +kernel)
theorem tw_693 : (.instanceMethod yX10_then : Cond) ∈ GG := gg_4 (List.mem_of_getElem? (i := 170) (by decide +kernel)) (by decide +kernel)
theorem tw_694 : (.selects yX10_then.cls yX10_then yX10_then : Cond) ∈ GG := gg_4 (List.mem_of_getElem? (i := 171) (by decide +kernel)) (by decide +kernel)
theorem tw_695 : (.methodLink RL 43 yX10_purse : Cond) ∈ GG := gg_4 (List.mem_of_getElem? (i := 190) (by decide +kernel)) (by decide +kernel)
theorem tw_696 : (.code yX10_purse cX10_purse 4 (some .int) : Cond) ∈ GG := gg_4 (List.mem_of_getElem? (i := 193) (by decide +kernel)) (by decide +kernel)
theorem tw_697 : (.initialized yX10_purse.cls : Cond) ∈ GG := gg_1 (List.mem_of_getElem? (i := 1) (by decide +kernel)) (by decide +kernel)
theorem tw_698 : (.instanceMethod yX10_purse : Cond) ∈ GG := gg_4 (List.mem_of_getElem? (i := 191) (by decide +kernel)) (by decide +kernel)
theorem tw_699 : (.selects yX10_purse.cls yX10_purse yX10_purse : Cond) ∈ GG := gg_4 (List.mem_of_getElem? (i := 192) (by decide +kernel)) (by decide +kernel)
theorem tw_700 : (.methodLink RL 47 yX10_sealed : Cond) ∈ GG := gg_4 (List.mem_of_getElem? (i := 202) (by decide +kernel)) (by decide +kernel)
theorem tw_701 : (.code yX10_sealed cX10_sealed 3 (some .int) : Cond) ∈ GG := gg_4 (List.mem_of_getElem? (i := 205) (by decide +kernel)) (by decide +kernel)
theorem tw_702 : (.initialized yX10_sealed.cls : Cond) ∈ GG := gg_1 (List.mem_of_getElem? (i := 1) (by decide +kernel)) (by decide +kernel)
theorem tw_703 : (.instanceMethod yX10_sealed : Cond) ∈ GG := gg_4 (List.mem_of_getElem? (i := 203) (by decide +kernel)) (by decide +kernel)
theorem tw_704 : (.selects yX10_sealed.cls yX10_sealed yX10_sealed : Cond) ∈ GG := gg_4 (List.mem_of_getElem? (i := 204) (by decide +kernel)) (by decide +kernel)
theorem tw_705 : (.methodLink RL 50 yX10_gets : Cond) ∈ GG := gg_4 (List.mem_of_getElem? (i := 214) (by decide +kernel)) (by decide +kernel)
theorem tw_706 : (.code yX10_gets cX10_gets 3 (some .int) : Cond) ∈ GG := gg_4 (List.mem_of_getElem? (i := 217) (by decide +kernel)) (by decide +kernel)
theorem tw_707 : (.initialized yX10_gets.cls : Cond) ∈ GG := gg_1 (List.mem_of_getElem? (i := 1) (by decide +kernel)) (by decide +kernel)
theorem tw_708 : (.instanceMethod yX10_gets : Cond) ∈ GG := gg_4 (List.mem_of_getElem? (i := 215) (by decide +kernel)) (by decide +kernel)
theorem tw_709 : (.selects yX10_gets.cls yX10_gets yX10_gets : Cond) ∈ GG := gg_4 (List.mem_of_getElem? (i := 216) (by decide +kernel)) (by decide +kernel)
theorem tw_710 : (.methodLink RL 53 yX10_loses : Cond) ∈ GG := gg_4 (List.mem_of_getElem? (i := 226) (by decide +kernel)) (by decide +kernel)
theorem tw_711 : (.code yX10_loses cX10_loses 3 (some .int) : Cond) ∈ GG := gg_4 (List.mem_of_getElem? (i := 229) (by decide +kernel)) (by decide +kernel)
theorem tw_712 : (.initialized yX10_loses.cls : Cond) ∈ GG := gg_1 (List.mem_of_getElem? (i := 1) (by decide +kernel)) (by decide +kernel)
theorem tw_713 : (.instanceMethod yX10_loses : Cond) ∈ GG := gg_4 (List.mem_of_getElem? (i := 227) (by decide +kernel)) (by decide +kernel)
theorem tw_714 : (.selects yX10_loses.cls yX10_loses yX10_loses : Cond) ∈ GG := gg_4 (List.mem_of_getElem? (i := 228) (by decide +kernel)) (by decide +kernel)
theorem tw_715 : (.methodLink RL 56 yX10_most : Cond) ∈ GG := gg_4 (List.mem_of_getElem? (i := 233) (by decide +kernel)) (by decide +kernel)
theorem tw_716 : (.code yX10_most cX10_most 6 (some .int) : Cond) ∈ GG := gg_4 (List.mem_of_getElem? (i := 236) (by decide +kernel)) (by decide +kernel)
theorem tw_717 : (.initialized yX10_most.cls : Cond) ∈ GG := gg_1 (List.mem_of_getElem? (i := 1) (by decide +kernel)) (by decide +kernel)
theorem tw_718 : (.instanceMethod yX10_most : Cond) ∈ GG := gg_4 (List.mem_of_getElem? (i := 234) (by decide +kernel)) (by decide +kernel)
theorem tw_719 : (.selects yX10_most.cls yX10_most yX10_most : Cond) ∈ GG := gg_4 (List.mem_of_getElem? (i := 235) (by decide +kernel)) (by decide +kernel)
theorem tw_720 : (.methodLink RL 59 yX10_row : Cond) ∈ GG := gg_5 (List.mem_of_getElem? (i := 6) (by decide +kernel)) (by decide +kernel)
theorem tw_721 : (.code yX10_row cX10_row 7 (some .int) : Cond) ∈ GG := gg_5 (List.mem_of_getElem? (i := 9) (by decide +kernel)) (by decide +kernel)
theorem tw_722 : (.initialized yX10_row.cls : Cond) ∈ GG := gg_1 (List.mem_of_getElem? (i := 1) (by decide +kernel)) (by decide +kernel)
theorem tw_723 : (.instanceMethod yX10_row : Cond) ∈ GG := gg_5 (List.mem_of_getElem? (i := 7) (by decide +kernel)) (by decide +kernel)
theorem tw_724 : (.selects yX10_row.cls yX10_row yX10_row : Cond) ∈ GG := gg_5 (List.mem_of_getElem? (i := 8) (by decide +kernel)) (by decide +kernel)
theorem tw_725 : (.methodLink RL 62 yX10_empty : Cond) ∈ GG := gg_5 (List.mem_of_getElem? (i := 13) (by decide +kernel)) (by decide +kernel)
theorem tw_726 : (.code yX10_empty cX10_empty 2 (some .int) : Cond) ∈ GG := gg_5 (List.mem_of_getElem? (i := 16) (by decide +kernel)) (by decide +kernel)
theorem tw_727 : (.initialized yX10_empty.cls : Cond) ∈ GG := gg_1 (List.mem_of_getElem? (i := 1) (by decide +kernel)) (by decide +kernel)
theorem tw_728 : (.instanceMethod yX10_empty : Cond) ∈ GG := gg_5 (List.mem_of_getElem? (i := 14) (by decide +kernel)) (by decide +kernel)
theorem tw_729 : (.selects yX10_empty.cls yX10_empty yX10_empty : Cond) ∈ GG := gg_5 (List.mem_of_getElem? (i := 15) (by decide +kernel)) (by decide +kernel)
theorem tw_730 : (.methodLink RL 65 yX10_liking : Cond) ∈ GG := gg_5 (List.mem_of_getElem? (i := 20) (by decide +kernel)) (by decide +kernel)
theorem tw_731 : (.code yX10_liking cX10_liking 3 (some .int) : Cond) ∈ GG := gg_5 (List.mem_of_getElem? (i := 23) (by decide +kernel)) (by decide +kernel)
theorem tw_732 : (.initialized yX10_liking.cls : Cond) ∈ GG := gg_1 (List.mem_of_getElem? (i := 1) (by decide +kernel)) (by decide +kernel)
theorem tw_733 : (.instanceMethod yX10_liking : Cond) ∈ GG := gg_5 (List.mem_of_getElem? (i := 21) (by decide +kernel)) (by decide +kernel)
theorem tw_734 : (.selects yX10_liking.cls yX10_liking yX10_liking : Cond) ∈ GG := gg_5 (List.mem_of_getElem? (i := 22) (by decide +kernel)) (by decide +kernel)
theorem tw_735 : (.methodLink RL 68 yX10_leastChops : Cond) ∈ GG := gg_5 (List.mem_of_getElem? (i := 31) (by decide +kernel)) (by decide +kernel)
theorem tw_736 : (.code yX10_leastChops cX10_leastChops 4 (some .int) : Cond) ∈ GG := gg_5 (List.mem_of_getElem? (i := 34) (by decide +kernel)) (by decide +kernel)
theorem tw_737 : (.initialized yX10_leastChops.cls : Cond) ∈ GG := gg_1 (List.mem_of_getElem? (i := 1) (by decide +kernel)) (by decide +kernel)
theorem tw_738 : (.instanceMethod yX10_leastChops : Cond) ∈ GG := gg_5 (List.mem_of_getElem? (i := 32) (by decide +kernel)) (by decide +kernel)
theorem tw_739 : (.selects yX10_leastChops.cls yX10_leastChops yX10_leastChops : Cond) ∈ GG := gg_5 (List.mem_of_getElem? (i := 33) (by decide +kernel)) (by decide +kernel)
theorem tw_740 : (.methodLink RL 71 yX10_toWin : Cond) ∈ GG := gg_5 (List.mem_of_getElem? (i := 42) (by decide +kernel)) (by decide +kernel)
theorem tw_741 : (.code yX10_toWin cX10_toWin 7 (some .int) : Cond) ∈ GG := gg_5 (List.mem_of_getElem? (i := 45) (by decide +kernel)) (by decide +kernel)
theorem tw_742 : (.initialized yX10_toWin.cls : Cond) ∈ GG := gg_1 (List.mem_of_getElem? (i := 1) (by decide +kernel)) (by decide +kernel)
theorem tw_743 : (.instanceMethod yX10_toWin : Cond) ∈ GG := gg_5 (List.mem_of_getElem? (i := 43) (by decide +kernel)) (by decide +kernel)
theorem tw_744 : (.selects yX10_toWin.cls yX10_toWin yX10_toWin : Cond) ∈ GG := gg_5 (List.mem_of_getElem? (i := 44) (by decide +kernel)) (by decide +kernel)
theorem tw_745 : (.methodLink RL 74 yX10_ruin : Cond) ∈ GG := gg_5 (List.mem_of_getElem? (i := 49) (by decide +kernel)) (by decide +kernel)
theorem tw_746 : (.code yX10_ruin cX10_ruin 6 (some .int) : Cond) ∈ GG := gg_5 (List.mem_of_getElem? (i := 52) (by decide +kernel)) (by decide +kernel)
theorem tw_747 : (.initialized yX10_ruin.cls : Cond) ∈ GG := gg_1 (List.mem_of_getElem? (i := 1) (by decide +kernel)) (by decide +kernel)
theorem tw_748 : (.instanceMethod yX10_ruin : Cond) ∈ GG := gg_5 (List.mem_of_getElem? (i := 50) (by decide +kernel)) (by decide +kernel)
theorem tw_749 : (.selects yX10_ruin.cls yX10_ruin yX10_ruin : Cond) ∈ GG := gg_5 (List.mem_of_getElem? (i := 51) (by decide +kernel)) (by decide +kernel)
theorem tw_750 : (.methodLink RL 77 yX10_share : Cond) ∈ GG := gg_5 (List.mem_of_getElem? (i := 56) (by decide +kernel)) (by decide +kernel)
theorem tw_751 : (.code yX10_share cX10_share 5 (some .int) : Cond) ∈ GG := gg_5 (List.mem_of_getElem? (i := 59) (by decide +kernel)) (by decide +kernel)
theorem tw_752 : (.initialized yX10_share.cls : Cond) ∈ GG := gg_1 (List.mem_of_getElem? (i := 1) (by decide +kernel)) (by decide +kernel)
theorem tw_753 : (.instanceMethod yX10_share : Cond) ∈ GG := gg_5 (List.mem_of_getElem? (i := 57) (by decide +kernel)) (by decide +kernel)
theorem tw_754 : (.selects yX10_share.cls yX10_share yX10_share : Cond) ∈ GG := gg_5 (List.mem_of_getElem? (i := 58) (by decide +kernel)) (by decide +kernel)
theorem tw_755 : (.methodLink RL 80 yX10_beside : Cond) ∈ GG := gg_5 (List.mem_of_getElem? (i := 98) (by decide +kernel)) (by decide +kernel)
theorem tw_756 : (.code yX10_beside cX10_beside 4 (some .int) : Cond) ∈ GG := gg_5 (List.mem_of_getElem? (i := 101) (by decide +kernel)) (by decide +kernel)
theorem tw_757 : (.initialized yX10_beside.cls : Cond) ∈ GG := gg_1 (List.mem_of_getElem? (i := 1) (by decide +kernel)) (by decide +kernel)
theorem tw_758 : (.instanceMethod yX10_beside : Cond) ∈ GG := gg_5 (List.mem_of_getElem? (i := 99) (by decide +kernel)) (by decide +kernel)
theorem tw_759 : (.selects yX10_beside.cls yX10_beside yX10_beside : Cond) ∈ GG := gg_5 (List.mem_of_getElem? (i := 100) (by decide +kernel)) (by decide +kernel)
theorem tw_760 : (.methodLink RL 83 yX10_oldest : Cond) ∈ GG := gg_5 (List.mem_of_getElem? (i := 105) (by decide +kernel)) (by decide +kernel)
theorem tw_761 : (.code yX10_oldest cX10_oldest 6 (some .int) : Cond) ∈ GG := gg_5 (List.mem_of_getElem? (i := 108) (by decide +kernel)) (by decide +kernel)
theorem tw_762 : (.initialized yX10_oldest.cls : Cond) ∈ GG := gg_1 (List.mem_of_getElem? (i := 1) (by decide +kernel)) (by decide +kernel)
theorem tw_763 : (.instanceMethod yX10_oldest : Cond) ∈ GG := gg_5 (List.mem_of_getElem? (i := 106) (by decide +kernel)) (by decide +kernel)
theorem tw_764 : (.selects yX10_oldest.cls yX10_oldest yX10_oldest : Cond) ∈ GG := gg_5 (List.mem_of_getElem? (i := 107) (by decide +kernel)) (by decide +kernel)
theorem tw_765 : (.methodLink RL 86 yX10_envy : Cond) ∈ GG := gg_5 (List.mem_of_getElem? (i := 112) (by decide +kernel)) (by decide +kernel)
theorem tw_766 : (.code yX10_envy cX10_envy 5 (some .int) : Cond) ∈ GG := gg_5 (List.mem_of_getElem? (i := 115) (by decide +kernel)) (by decide +kernel)
theorem tw_767 : (.initialized yX10_envy.cls : Cond) ∈ GG := gg_1 (List.mem_of_getElem? (i := 1) (by decide +kernel)) (by decide +kernel)
theorem tw_768 : (.instanceMethod yX10_envy : Cond) ∈ GG := gg_5 (List.mem_of_getElem? (i := 113) (by decide +kernel)) (by decide +kernel)
theorem tw_769 : (.selects yX10_envy.cls yX10_envy yX10_envy : Cond) ∈ GG := gg_5 (List.mem_of_getElem? (i := 114) (by decide +kernel)) (by decide +kernel)
theorem tw_770 : (.methodLink RL 89 yX10_see : Cond) ∈ GG := gg_5 (List.mem_of_getElem? (i := 119) (by decide +kernel)) (by decide +kernel)
theorem tw_771 : (.code yX10_see cX10_see 5 (some .int) : Cond) ∈ GG := gg_5 (List.mem_of_getElem? (i := 122) (by decide +kernel)) (by decide +kernel)
theorem tw_772 : (.initialized yX10_see.cls : Cond) ∈ GG := gg_1 (List.mem_of_getElem? (i := 1) (by decide +kernel)) (by decide +kernel)
theorem tw_773 : (.instanceMethod yX10_see : Cond) ∈ GG := gg_5 (List.mem_of_getElem? (i := 120) (by decide +kernel)) (by decide +kernel)
theorem tw_774 : (.selects yX10_see.cls yX10_see yX10_see : Cond) ∈ GG := gg_5 (List.mem_of_getElem? (i := 121) (by decide +kernel)) (by decide +kernel)
theorem tw_775 : (.methodLink RL 93 yX10_pockets : Cond) ∈ GG := gg_5 (List.mem_of_getElem? (i := 130) (by decide +kernel)) (by decide +kernel)
theorem tw_776 : (.code yX10_pockets cX10_pockets 6 (some .int) : Cond) ∈ GG := gg_5 (List.mem_of_getElem? (i := 133) (by decide +kernel)) (by decide +kernel)
theorem tw_777 : (.initialized yX10_pockets.cls : Cond) ∈ GG := gg_1 (List.mem_of_getElem? (i := 1) (by decide +kernel)) (by decide +kernel)
theorem tw_778 : (.instanceMethod yX10_pockets : Cond) ∈ GG := gg_5 (List.mem_of_getElem? (i := 131) (by decide +kernel)) (by decide +kernel)
theorem tw_779 : (.selects yX10_pockets.cls yX10_pockets yX10_pockets : Cond) ∈ GG := gg_5 (List.mem_of_getElem? (i := 132) (by decide +kernel)) (by decide +kernel)
theorem tw_780 : (.methodLink RL 96 yX10_look : Cond) ∈ GG := gg_5 (List.mem_of_getElem? (i := 150) (by decide +kernel)) (by decide +kernel)
theorem tw_781 : (.code yX10_look cX10_look 6 (some .int) : Cond) ∈ GG := gg_5 (List.mem_of_getElem? (i := 153) (by decide +kernel)) (by decide +kernel)
theorem tw_782 : (.initialized yX10_look.cls : Cond) ∈ GG := gg_1 (List.mem_of_getElem? (i := 1) (by decide +kernel)) (by decide +kernel)
theorem tw_783 : (.instanceMethod yX10_look : Cond) ∈ GG := gg_5 (List.mem_of_getElem? (i := 151) (by decide +kernel)) (by decide +kernel)
theorem tw_784 : (.selects yX10_look.cls yX10_look yX10_look : Cond) ∈ GG := gg_5 (List.mem_of_getElem? (i := 152) (by decide +kernel)) (by decide +kernel)
theorem tw_785 : (.methodLink RL 99 yX10_game : Cond) ∈ GG := gg_5 (List.mem_of_getElem? (i := 165) (by decide +kernel)) (by decide +kernel)
theorem tw_786 : (.code yX10_game cX10_game 8 (some .int) : Cond) ∈ GG := gg_5 (List.mem_of_getElem? (i := 168) (by decide +kernel)) (by decide +kernel)
theorem tw_787 : (.initialized yX10_game.cls : Cond) ∈ GG := gg_1 (List.mem_of_getElem? (i := 1) (by decide +kernel)) (by decide +kernel)
theorem tw_788 : (.instanceMethod yX10_game : Cond) ∈ GG := gg_5 (List.mem_of_getElem? (i := 166) (by decide +kernel)) (by decide +kernel)
theorem tw_789 : (.selects yX10_game.cls yX10_game yX10_game : Cond) ∈ GG := gg_5 (List.mem_of_getElem? (i := 167) (by decide +kernel)) (by decide +kernel)
theorem tw_790 : (.methodLink RL 102 yX10_years : Cond) ∈ GG := gg_5 (List.mem_of_getElem? (i := 187) (by decide +kernel)) (by decide +kernel)
theorem tw_791 : (.code yX10_years cX10_years 5 (some .int) : Cond) ∈ GG := gg_5 (List.mem_of_getElem? (i := 190) (by decide +kernel)) (by decide +kernel)
theorem tw_792 : (.initialized yX10_years.cls : Cond) ∈ GG := gg_1 (List.mem_of_getElem? (i := 1) (by decide +kernel)) (by decide +kernel)
theorem tw_793 : (.instanceMethod yX10_years : Cond) ∈ GG := gg_5 (List.mem_of_getElem? (i := 188) (by decide +kernel)) (by decide +kernel)
theorem tw_794 : (.selects yX10_years.cls yX10_years yX10_years : Cond) ∈ GG := gg_5 (List.mem_of_getElem? (i := 189) (by decide +kernel)) (by decide +kernel)
section RWC
variable {p : Program} {l : Launch} {e : Env} {R : Room} {s : State} {m : MethodId} {args : Array Value} {below : List Frame} {meth : Method} {c : Code} {H : Heap} {locs : List Loc} {cells slots : Nat} {Q : State → Prop} {cc : ByteArray} {pc : Nat} {ls : Array Slot} {rest : List Value} {nL : Nat} {A : Nat → Prop} {σ : Mem} {ret : Option FieldType}
theorem ialdC {E : CE} {own : String} (X : CX p s m meth c args cc nL own ret) (I : WI (vC E) A s H locs σ) {k n : Nat} (hk : KCaI E k n) {i : Int32} (hin : vp_in i n) (d : decode cc pc = .ok (.iaload, 1)) (kk : W p l e R s m args below meth c H locs cells slots Q (F0 m (pc + 1) ls (.int (σ k i.toNatClampNeg) :: rest))) : W p l e R s m args below meth c H locs cells slots Q (F0 m pc ls (.int i :: .ref (ca E k) :: rest)) := r_iald (V := (vC E)) (t0 := 0) X I hk.1 rfl (hk.2 _) hin d kk
theorem iastC {E : CE} {own : String} (X : CX p s m meth c args cc nL own ret) (I : WI (vC E) A s H locs σ) {k n : Nat} (hk : KCaI E k n) {i x : Int32} (hin : vp_in i n) (d : decode cc pc = .ok (.iastore, 1)) (kk : ∀ (H1 : Heap) (locs1 : List Loc), WI (vC E) A s H1 locs1 (ms σ k i.toNatClampNeg x) → W p l e R s m args below meth c H1 locs1 cells slots Q (F0 m (pc + 1) ls rest)) : W p l e R s m args below meth c H locs cells slots Q (F0 m pc ls (.int x :: .int i :: .ref (ca E k) :: rest)) := r_iast (V := (vC E)) (t0 := 0) X I hk.1 rfl hk.2 hin d kk
theorem alenIC {E : CE} {own : String} (X : CX p s m meth c args cc nL own ret) (I : WI (vC E) A s H locs σ) {k n : Nat} (hk : KCaI E k n) {v : Int32} (hv : Int32.ofNat n = v) (d : decode cc pc = .ok (.arraylength, 1)) (kk : W p l e R s m args below meth c H locs cells slots Q (F0 m (pc + 1) ls (.int v :: rest))) : W p l e R s m args below meth c H locs cells slots Q (F0 m pc ls (.ref (ca E k) :: rest)) := r_alen (V := (vC E)) (t0 := 0) X I hk.1 rfl (hk.2 _) hv d kk
theorem baldC {E : CE} {own : String} (X : CX p s m meth c args cc nL own ret) (I : WI (vC E) A s H locs σ) {k n : Nat} (hk : KCaB E k n) {i : Int32} (hin : vp_in i n) (d : decode cc pc = .ok (.baload, 1)) (kk : W p l e R s m args below meth c H locs cells slots Q (F0 m (pc + 1) ls (.int (σ k i.toNatClampNeg) :: rest))) : W p l e R s m args below meth c H locs cells slots Q (F0 m pc ls (.int i :: .ref (ca E k) :: rest)) := r_bald (V := (vC E)) (t0 := 1) X I hk.1 rfl (hk.2 _) hin d kk
theorem bastC {E : CE} {own : String} (X : CX p s m meth c args cc nL own ret) (I : WI (vC E) A s H locs σ) {k n : Nat} (hk : KCaB E k n) {i x : Int32} (hin : vp_in i n) (d : decode cc pc = .ok (.bastore, 1)) (kk : ∀ (H1 : Heap) (locs1 : List Loc), WI (vC E) A s H1 locs1 (ms σ k i.toNatClampNeg x.toInt8.toInt32) → W p l e R s m args below meth c H1 locs1 cells slots Q (F0 m (pc + 1) ls rest)) : W p l e R s m args below meth c H locs cells slots Q (F0 m pc ls (.int x :: .int i :: .ref (ca E k) :: rest)) := r_bast (V := (vC E)) (t0 := 1) X I hk.1 rfl hk.2 hin d kk
theorem alenBC {E : CE} {own : String} (X : CX p s m meth c args cc nL own ret) (I : WI (vC E) A s H locs σ) {k n : Nat} (hk : KCaB E k n) {v : Int32} (hv : Int32.ofNat n = v) (d : decode cc pc = .ok (.arraylength, 1)) (kk : W p l e R s m args below meth c H locs cells slots Q (F0 m (pc + 1) ls (.int v :: rest))) : W p l e R s m args below meth c H locs cells slots Q (F0 m pc ls (.ref (ca E k) :: rest)) := r_alen (V := (vC E)) (t0 := 1) X I hk.1 rfl (hk.2 _) hv d kk
theorem jaldC {E : CE} {own : String} (X : CX p s m meth c args cc nL own ret) (I : WI (vC E) A s H locs σ) {k n : Nat} (hk : KCaJ E k n) {i : Int32} (hin : vp_in i n) (d : decode cc pc = .ok (.laload, 1)) (kk : W p l e R s m args below meth c H locs cells slots Q (F0 m (pc + 1) ls (.long (Int32.toInt64 (σ k i.toNatClampNeg)) :: rest))) : W p l e R s m args below meth c H locs cells slots Q (F0 m pc ls (.int i :: .ref (ca E k) :: rest)) := r_lald (V := (vC E)) (t0 := 2) X I hk.1 rfl (hk.2 _) hin d kk
theorem jastC {E : CE} {own : String} (X : CX p s m meth c args cc nL own ret) (I : WI (vC E) A s H locs σ) {k n : Nat} (hk : KCaJ E k n) {i x : Int32} {v : Int64} (hv : v = Int32.toInt64 x) (hin : vp_in i n) (d : decode cc pc = .ok (.lastore, 1)) (kk : ∀ (H1 : Heap) (locs1 : List Loc), WI (vC E) A s H1 locs1 (ms σ k i.toNatClampNeg x) → W p l e R s m args below meth c H1 locs1 cells slots Q (F0 m (pc + 1) ls rest)) : W p l e R s m args below meth c H locs cells slots Q (F0 m pc ls (.long v :: .int i :: .ref (ca E k) :: rest)) := r_last (V := (vC E)) (t0 := 2) X I hk.1 rfl hk.2 hv hin d kk
theorem icpC {E : CE} {own : String} {lvs : List (Nat × Value)} {idx : Nat} (X : CX p s m meth c args cc nL own ret) (I : WI (vC E) A s H locs σ) (hl : lv_has ls nL lvs) (hw : Cond.methodLink own idx arraycopyName ∈ GG) {k0 k1 n0 n1 : Nat} (hk0 : KCaI E k0 n0) (hk1 : KCaI E k1 n1) {sp dp n : Int32} (hcp : ¬ sp < 0 ∧ ¬ dp < 0 ∧ ¬ n < 0 ∧ sp.toNatClampNeg + n.toNatClampNeg ≤ n0 ∧ dp.toNatClampNeg + n.toNatClampNeg ≤ n1) (hR : 1 ≤ R.frames ∧ (rest.map fun v => v.category).sum + (nativeFrameWords "java/lang/System" "arraycopy" 5 + 11) ≤ R.locals) (d : decode cc pc = .ok (.invokestatic idx, 3)) (kk : ∀ (H1 : Heap) (locs1 : List Loc), WI (vC E) A s H1 locs1 (mcp σ k0 k1 sp dp n) → W p l e R s m args below meth c H1 locs1 cells slots Q (F0 m (pc + 3) ls rest)) : W p l e R s m args below meth c H locs cells slots Q (F0 m pc ls (.int n :: .int dp :: .ref (ca E k1) :: .int sp :: .ref (ca E k0) :: rest)) := r_copy (V := (vC E)) (t0 := 0) X I hl hw hk0.1 hk1.1 rfl hk0.2 hk1.2 hcp hR d kk
theorem yv_J0_coder_7d493 : YV yJ0_coder_7d493 cJ0_coder_7d493 1 (some .byte) 0 := ⟨tw_0, tw_1, tw_2, tw_3, by decide +kernel, by decide +kernel, by decide +kernel⟩
theorem yv_J0_length_8abf5 : YV yJ0_length_8abf5 cJ0_length_8abf5 1 (some .int) 0 := ⟨tw_4, tw_5, tw_6, tw_7, by decide +kernel, by decide +kernel, by decide +kernel⟩
theorem yv_J0_isLatin1_aae02 : YV yJ0_isLatin1_aae02 cJ0_isLatin1_aae02 1 (some .boolean) 0 := ⟨tw_8, tw_9, tw_10, tw_11, by decide +kernel, by decide +kernel, by decide +kernel⟩
theorem ys_J3_checkIndex_8e157 : YS yJ3_checkIndex_8e157 cJ3_checkIndex_8e157 3 (some .int) 3 := ⟨tw_12, tw_13, tw_14, by decide +kernel, by decide +kernel, by decide +kernel⟩
theorem ys_J0_checkIndex_df160 : YS yJ0_checkIndex_df160 cJ0_checkIndex_df160 2 none 2 := ⟨tw_15, tw_16, tw_17, by decide +kernel, by decide +kernel, by decide +kernel⟩
theorem ys_J1_charAt_3b067 : YS yJ1_charAt_3b067 cJ1_charAt_3b067 2 (some .char) 2 := ⟨tw_18, tw_19, tw_20, by decide +kernel, by decide +kernel, by decide +kernel⟩
theorem yv_J0_charAt_5068e : YV yJ0_charAt_5068e cJ0_charAt_5068e 2 (some .char) 1 := ⟨tw_21, tw_22, tw_23, tw_24, by decide +kernel, by decide +kernel, by decide +kernel⟩
theorem pfC_X0_15 {E : CE} (X : CX p s m meth c args cc nL RX0 ret) (I : WI (vC E) A s H locs σ) {k : Nat} (hk : KCo0 E k) {x : Int32} (d : decode cc pc = .ok (.putfield 15, 3)) (kk : ∀ (H1 : Heap) (locs1 : List Loc), WI (vC E) A s H1 locs1 (ms σ k 1 x) → W p l e R s m args below meth c H1 locs1 cells slots Q (F0 m (pc + 3) ls rest)) : W p l e R s m args below meth c H locs cells slots Q (F0 m pc ls (.int x :: .ref (ca E k) :: rest)) := r_put (V := (vC E)) X I hk.1 (hk.2 _) rfl inGX0 tyX0 tyX0_ok nmX0 1 (by decide) tw_34 rfl rfl rfl (Nat.le_of_ble_eq_true rfl) (hk.2 _) d kk
theorem pfC_X0_19 {E : CE} (X : CX p s m meth c args cc nL RX0 ret) (I : WI (vC E) A s H locs σ) {k : Nat} (hk : KCo0 E k) {x : Int32} (d : decode cc pc = .ok (.putfield 19, 3)) (kk : ∀ (H1 : Heap) (locs1 : List Loc), WI (vC E) A s H1 locs1 (ms σ k 2 x) → W p l e R s m args below meth c H1 locs1 cells slots Q (F0 m (pc + 3) ls rest)) : W p l e R s m args below meth c H locs cells slots Q (F0 m pc ls (.int x :: .ref (ca E k) :: rest)) := r_put (V := (vC E)) X I hk.1 (hk.2 _) rfl inGX0 tyX0 tyX0_ok nmX0 2 (by decide) tw_35 rfl rfl rfl (Nat.le_of_ble_eq_true rfl) (hk.2 _) d kk
theorem gfC_X0_9 {E : CE} (X : CX p s m meth c args cc nL RX0 ret) (I : WI (vC E) A s H locs σ) {k : Nat} (hk : KCo0 E k) {k' : Nat} (hk' : k + 1 = k') (d : decode cc pc = .ok (.getfield 9, 3)) (kk : W p l e R s m args below meth c H locs cells slots Q (F0 m (pc + 3) ls (.ref (ca E k') :: rest))) : W p l e R s m args below meth c H locs cells slots Q (F0 m pc ls (.ref (ca E k) :: rest)) := by subst hk'; exact r_get (V := (vC E)) X I hk.1 (hk.2 _) rfl inGX0 0 (by decide) tw_36 rfl d kk
theorem gfC_X0_15 {E : CE} (X : CX p s m meth c args cc nL RX0 ret) (I : WI (vC E) A s H locs σ) {k : Nat} (hk : KCo0 E k) (d : decode cc pc = .ok (.getfield 15, 3)) (kk : W p l e R s m args below meth c H locs cells slots Q (F0 m (pc + 3) ls (.int (σ k 1) :: rest))) : W p l e R s m args below meth c H locs cells slots Q (F0 m pc ls (.ref (ca E k) :: rest)) := r_get (V := (vC E)) X I hk.1 (hk.2 _) rfl inGX0 1 (by decide) tw_34 rfl d kk
theorem gfC_X0_19 {E : CE} (X : CX p s m meth c args cc nL RX0 ret) (I : WI (vC E) A s H locs σ) {k : Nat} (hk : KCo0 E k) (d : decode cc pc = .ok (.getfield 19, 3)) (kk : W p l e R s m args below meth c H locs cells slots Q (F0 m (pc + 3) ls (.int (σ k 2) :: rest))) : W p l e R s m args below meth c H locs cells slots Q (F0 m pc ls (.ref (ca E k) :: rest)) := r_get (V := (vC E)) X I hk.1 (hk.2 _) rfl inGX0 2 (by decide) tw_35 rfl d kk
theorem pfC_X4_18 {E : CE} (X : CX p s m meth c args cc nL RX4 ret) (I : WI (vC E) A s H locs σ) {k : Nat} (hk : KCo4 E k) {x : Int32} (d : decode cc pc = .ok (.putfield 18, 3)) (kk : ∀ (H1 : Heap) (locs1 : List Loc), WI (vC E) A s H1 locs1 (ms σ k 2 x) → W p l e R s m args below meth c H1 locs1 cells slots Q (F0 m (pc + 3) ls rest)) : W p l e R s m args below meth c H locs cells slots Q (F0 m pc ls (.int x :: .ref (ca E k) :: rest)) := r_put (V := (vC E)) X I hk.1 (hk.2 _) rfl inGX4 tyX4 tyX4_ok nmX4 2 (by decide) tw_38 rfl rfl rfl (Nat.le_of_ble_eq_true rfl) (hk.2 _) d kk
theorem gfC_X4_18 {E : CE} (X : CX p s m meth c args cc nL RX4 ret) (I : WI (vC E) A s H locs σ) {k : Nat} (hk : KCo4 E k) (d : decode cc pc = .ok (.getfield 18, 3)) (kk : W p l e R s m args below meth c H locs cells slots Q (F0 m (pc + 3) ls (.int (σ k 2) :: rest))) : W p l e R s m args below meth c H locs cells slots Q (F0 m pc ls (.ref (ca E k) :: rest)) := r_get (V := (vC E)) X I hk.1 (hk.2 _) rfl inGX4 2 (by decide) tw_38 rfl d kk
theorem gfC_X4_9 {E : CE} (X : CX p s m meth c args cc nL RX4 ret) (I : WI (vC E) A s H locs σ) {k : Nat} (hk : KCo4 E k) {k' : Nat} (hk' : k + 1 = k') (d : decode cc pc = .ok (.getfield 9, 3)) (kk : W p l e R s m args below meth c H locs cells slots Q (F0 m (pc + 3) ls (.ref (ca E k') :: rest))) : W p l e R s m args below meth c H locs cells slots Q (F0 m pc ls (.ref (ca E k) :: rest)) := by subst hk'; exact r_get (V := (vC E)) X I hk.1 (hk.2 _) rfl inGX4 0 (by decide) tw_39 rfl d kk
theorem gfC_X4_15 {E : CE} (X : CX p s m meth c args cc nL RX4 ret) (I : WI (vC E) A s H locs σ) {k : Nat} (hk : KCo4 E k) {k' : Nat} (hk' : k + 2 = k') (d : decode cc pc = .ok (.getfield 15, 3)) (kk : W p l e R s m args below meth c H locs cells slots Q (F0 m (pc + 3) ls (.ref (ca E k') :: rest))) : W p l e R s m args below meth c H locs cells slots Q (F0 m pc ls (.ref (ca E k) :: rest)) := by subst hk'; exact r_get (V := (vC E)) X I hk.1 (hk.2 _) rfl inGX4 1 (by decide) tw_41 rfl d kk
theorem ys_X4_join : YS yX4_join cX4_join 3 (some .int) 3 := ⟨tw_43, tw_44, tw_45, by decide +kernel, by decide +kernel, by decide +kernel⟩
theorem gfC_X6_15 {E : CE} (X : CX p s m meth c args cc nL RX6 ret) (I : WI (vC E) A s H locs σ) {k : Nat} (hk : KCo6 E k) (d : decode cc pc = .ok (.getfield 15, 3)) (kk : W p l e R s m args below meth c H locs cells slots Q (F0 m (pc + 3) ls (.int (σ k 1) :: rest))) : W p l e R s m args below meth c H locs cells slots Q (F0 m pc ls (.ref (ca E k) :: rest)) := r_get (V := (vC E)) X I hk.1 (hk.2 _) rfl inGX6 1 (by decide) tw_46 rfl d kk
theorem gfC_X6_11 {E : CE} (X : CX p s m meth c args cc nL RX6 ret) (I : WI (vC E) A s H locs σ) {k : Nat} (hk : KCo6 E k) {k' : Nat} (hk' : k + 1 = k') (d : decode cc pc = .ok (.getfield 11, 3)) (kk : W p l e R s m args below meth c H locs cells slots Q (F0 m (pc + 3) ls (.ref (ca E k') :: rest))) : W p l e R s m args below meth c H locs cells slots Q (F0 m pc ls (.ref (ca E k) :: rest)) := by subst hk'; exact r_get (V := (vC E)) X I hk.1 (hk.2 _) rfl inGX6 0 (by decide) tw_47 rfl d kk
theorem pfC_X6_15 {E : CE} (X : CX p s m meth c args cc nL RX6 ret) (I : WI (vC E) A s H locs σ) {k : Nat} (hk : KCo6 E k) {x : Int32} (d : decode cc pc = .ok (.putfield 15, 3)) (kk : ∀ (H1 : Heap) (locs1 : List Loc), WI (vC E) A s H1 locs1 (ms σ k 1 x) → W p l e R s m args below meth c H1 locs1 cells slots Q (F0 m (pc + 3) ls rest)) : W p l e R s m args below meth c H locs cells slots Q (F0 m pc ls (.int x :: .ref (ca E k) :: rest)) := r_put (V := (vC E)) X I hk.1 (hk.2 _) rfl inGX6 tyX6 tyX6_ok nmX6 1 (by decide) tw_46 rfl rfl rfl (Nat.le_of_ble_eq_true rfl) (hk.2 _) d kk
theorem gfC_X8_12 {E : CE} (X : CX p s m meth c args cc nL RX8 ret) (I : WI (vC E) A s H locs σ) {k : Nat} (hk : KCo8 E k) {k' : Nat} (hk' : k + 1 = k') (d : decode cc pc = .ok (.getfield 12, 3)) (kk : W p l e R s m args below meth c H locs cells slots Q (F0 m (pc + 3) ls (.ref (ca E k') :: rest))) : W p l e R s m args below meth c H locs cells slots Q (F0 m pc ls (.ref (ca E k) :: rest)) := by subst hk'; exact r_get (V := (vC E)) X I hk.1 (hk.2 _) rfl inGX8 0 (by decide) tw_50 rfl d kk
theorem gfC_X8_42 {E : CE} (X : CX p s m meth c args cc nL RX8 ret) (I : WI (vC E) A s H locs σ) {k : Nat} (hk : KCo2 E k) (d : decode cc pc = .ok (.getfield 42, 3)) (kk : W p l e R s m args below meth c H locs cells slots Q (F0 m (pc + 3) ls (.int (σ k 0) :: rest))) : W p l e R s m args below meth c H locs cells slots Q (F0 m pc ls (.ref (ca E k) :: rest)) := r_get (V := (vC E)) X I hk.1 (hk.2 _) rfl inGX2 0 (by decide) tw_51 rfl d kk
theorem gfC_X8_62 {E : CE} (X : CX p s m meth c args cc nL RX8 ret) (I : WI (vC E) A s H locs σ) {k : Nat} (hk : KCo2 E k) {k' : Nat} (hk' : k + 1 = k') (d : decode cc pc = .ok (.getfield 62, 3)) (kk : W p l e R s m args below meth c H locs cells slots Q (F0 m (pc + 3) ls (.ref (ca E k') :: rest))) : W p l e R s m args below meth c H locs cells slots Q (F0 m pc ls (.ref (ca E k) :: rest)) := by subst hk'; exact r_get (V := (vC E)) X I hk.1 (hk.2 _) rfl inGX2 3 (by decide) tw_52 rfl d kk
theorem gfC_X8_56 {E : CE} (X : CX p s m meth c args cc nL RX8 ret) (I : WI (vC E) A s H locs σ) {k : Nat} (hk : KCo2 E k) (d : decode cc pc = .ok (.getfield 56, 3)) (kk : W p l e R s m args below meth c H locs cells slots Q (F0 m (pc + 3) ls (.int (σ k 1) :: rest))) : W p l e R s m args below meth c H locs cells slots Q (F0 m pc ls (.ref (ca E k) :: rest)) := r_get (V := (vC E)) X I hk.1 (hk.2 _) rfl inGX2 1 (by decide) tw_53 rfl d kk
theorem gfC_X8_65 {E : CE} (X : CX p s m meth c args cc nL RX8 ret) (I : WI (vC E) A s H locs σ) {k : Nat} (hk : KCo2 E k) {k' : Nat} (hk' : k + 2 = k') (d : decode cc pc = .ok (.getfield 65, 3)) (kk : W p l e R s m args below meth c H locs cells slots Q (F0 m (pc + 3) ls (.ref (ca E k') :: rest))) : W p l e R s m args below meth c H locs cells slots Q (F0 m pc ls (.ref (ca E k) :: rest)) := by subst hk'; exact r_get (V := (vC E)) X I hk.1 (hk.2 _) rfl inGX2 4 (by decide) tw_54 rfl d kk
theorem gfC_X8_68 {E : CE} (X : CX p s m meth c args cc nL RX8 ret) (I : WI (vC E) A s H locs σ) {k : Nat} (hk : KCo2 E k) (d : decode cc pc = .ok (.getfield 68, 3)) (kk : W p l e R s m args below meth c H locs cells slots Q (F0 m (pc + 3) ls (.int (σ k 2) :: rest))) : W p l e R s m args below meth c H locs cells slots Q (F0 m pc ls (.ref (ca E k) :: rest)) := r_get (V := (vC E)) X I hk.1 (hk.2 _) rfl inGX2 2 (by decide) tw_55 rfl d kk
theorem yv_X8_lifeOf : YV yX8_lifeOf cX8_lifeOf 2 (some .int) 1 := ⟨tw_57, tw_58, tw_59, tw_60, by decide +kernel, by decide +kernel, by decide +kernel⟩
theorem gfC_X8_18 {E : CE} (X : CX p s m meth c args cc nL RX8 ret) (I : WI (vC E) A s H locs σ) {k : Nat} (hk : KCo8 E k) {k' : Nat} (hk' : k + 13 = k') (d : decode cc pc = .ok (.getfield 18, 3)) (kk : W p l e R s m args below meth c H locs cells slots Q (F0 m (pc + 3) ls (.ref (ca E k') :: rest))) : W p l e R s m args below meth c H locs cells slots Q (F0 m pc ls (.ref (ca E k) :: rest)) := by subst hk'; exact r_get (V := (vC E)) X I hk.1 (hk.2 _) rfl inGX8 1 (by decide) tw_62 rfl d kk
theorem gfC_X8_25 {E : CE} (X : CX p s m meth c args cc nL RX8 ret) (I : WI (vC E) A s H locs σ) {k : Nat} (hk : KCo8 E k) {k' : Nat} (hk' : k + 15 = k') (d : decode cc pc = .ok (.getfield 25, 3)) (kk : W p l e R s m args below meth c H locs cells slots Q (F0 m (pc + 3) ls (.ref (ca E k') :: rest))) : W p l e R s m args below meth c H locs cells slots Q (F0 m pc ls (.ref (ca E k) :: rest)) := by subst hk'; exact r_get (V := (vC E)) X I hk.1 (hk.2 _) rfl inGX8 3 (by decide) tw_63 rfl d kk
theorem gfC_X8_22 {E : CE} (X : CX p s m meth c args cc nL RX8 ret) (I : WI (vC E) A s H locs σ) {k : Nat} (hk : KCo8 E k) {k' : Nat} (hk' : k + 14 = k') (d : decode cc pc = .ok (.getfield 22, 3)) (kk : W p l e R s m args below meth c H locs cells slots Q (F0 m (pc + 3) ls (.ref (ca E k') :: rest))) : W p l e R s m args below meth c H locs cells slots Q (F0 m pc ls (.ref (ca E k) :: rest)) := by subst hk'; exact r_get (V := (vC E)) X I hk.1 (hk.2 _) rfl inGX8 2 (by decide) tw_64 rfl d kk
theorem yv_X8_tellHouse : YV yX8_tellHouse cX8_tellHouse 3 none 2 := ⟨tw_66, tw_67, tw_68, tw_69, by decide +kernel, by decide +kernel, by decide +kernel⟩
theorem gfC_X8_85 {E : CE} (X : CX p s m meth c args cc nL RX8 ret) (I : WI (vC E) A s H locs σ) {k : Nat} (hk : KCo2 E k) {k' : Nat} (hk' : k + 8 = k') (d : decode cc pc = .ok (.getfield 85, 3)) (kk : W p l e R s m args below meth c H locs cells slots Q (F0 m (pc + 3) ls (.ref (ca E k') :: rest))) : W p l e R s m args below meth c H locs cells slots Q (F0 m pc ls (.ref (ca E k) :: rest)) := by subst hk'; exact r_get (V := (vC E)) X I hk.1 (hk.2 _) rfl inGX2 8 (by decide) tw_70 rfl d kk
theorem yv_X4_isTold : YV yX4_isTold cX4_isTold 1 (some .boolean) 0 := ⟨tw_72, tw_73, tw_74, tw_75, by decide +kernel, by decide +kernel, by decide +kernel⟩
theorem yv_X4_value : YV yX4_value cX4_value 5 (some .int) 1 := ⟨tw_77, tw_78, tw_79, tw_80, by decide +kernel, by decide +kernel, by decide +kernel⟩
theorem gfC_X8_110 {E : CE} (X : CX p s m meth c args cc nL RX8 ret) (I : WI (vC E) A s H locs σ) {k : Nat} (hk : KCo2 E k) {k' : Nat} (hk' : k + 5 = k') (d : decode cc pc = .ok (.getfield 110, 3)) (kk : W p l e R s m args below meth c H locs cells slots Q (F0 m (pc + 3) ls (.ref (ca E k') :: rest))) : W p l e R s m args below meth c H locs cells slots Q (F0 m pc ls (.ref (ca E k) :: rest)) := by subst hk'; exact r_get (V := (vC E)) X I hk.1 (hk.2 _) rfl inGX2 7 (by decide) tw_81 rfl d kk
theorem gfC_X8_119 {E : CE} (X : CX p s m meth c args cc nL RX8 ret) (I : WI (vC E) A s H locs σ) {k : Nat} (hk : KCo2 E k) {k' : Nat} (hk' : k + 4 = k') (d : decode cc pc = .ok (.getfield 119, 3)) (kk : W p l e R s m args below meth c H locs cells slots Q (F0 m (pc + 3) ls (.ref (ca E k') :: rest))) : W p l e R s m args below meth c H locs cells slots Q (F0 m pc ls (.ref (ca E k) :: rest)) := by subst hk'; exact r_get (V := (vC E)) X I hk.1 (hk.2 _) rfl inGX2 6 (by decide) tw_83 rfl d kk
theorem yv_X8_tellTenant : YV yX8_tellTenant cX8_tellTenant 5 none 3 := ⟨tw_85, tw_86, tw_87, tw_88, by decide +kernel, by decide +kernel, by decide +kernel⟩
theorem yv_X8_rememberOwners : YV yX8_rememberOwners cX8_rememberOwners 4 none 1 := ⟨tw_90, tw_91, tw_92, tw_93, by decide +kernel, by decide +kernel, by decide +kernel⟩
theorem yv_X8_likingOf : YV yX8_likingOf cX8_likingOf 6 (some .int) 3 := ⟨tw_95, tw_96, tw_97, tw_98, by decide +kernel, by decide +kernel, by decide +kernel⟩
theorem yv_X8_bury : YV yX8_bury cX8_bury 3 none 2 := ⟨tw_100, tw_101, tw_102, tw_103, by decide +kernel, by decide +kernel, by decide +kernel⟩
theorem yv_X8_isAsleep : YV yX8_isAsleep cX8_isAsleep 3 (some .boolean) 2 := ⟨tw_105, tw_106, tw_107, tw_108, by decide +kernel, by decide +kernel, by decide +kernel⟩
theorem yv_X8_rentOf : YV yX8_rentOf cX8_rentOf 5 (some .int) 2 := ⟨tw_110, tw_111, tw_112, tw_113, by decide +kernel, by decide +kernel, by decide +kernel⟩
theorem gfC_X8_125 {E : CE} (X : CX p s m meth c args cc nL RX8 ret) (I : WI (vC E) A s H locs σ) {k : Nat} (hk : KCo2 E k) {k' : Nat} (hk' : k + 3 = k') (d : decode cc pc = .ok (.getfield 125, 3)) (kk : W p l e R s m args below meth c H locs cells slots Q (F0 m (pc + 3) ls (.ref (ca E k') :: rest))) : W p l e R s m args below meth c H locs cells slots Q (F0 m pc ls (.ref (ca E k) :: rest)) := by subst hk'; exact r_get (V := (vC E)) X I hk.1 (hk.2 _) rfl inGX2 5 (by decide) tw_114 rfl d kk
theorem gfC_X8_28 {E : CE} (X : CX p s m meth c args cc nL RX8 ret) (I : WI (vC E) A s H locs σ) {k : Nat} (hk : KCo8 E k) (d : decode cc pc = .ok (.getfield 28, 3)) (kk : W p l e R s m args below meth c H locs cells slots Q (F0 m (pc + 3) ls (.int (σ k 4) :: rest))) : W p l e R s m args below meth c H locs cells slots Q (F0 m pc ls (.ref (ca E k) :: rest)) := r_get (V := (vC E)) X I hk.1 (hk.2 _) rfl inGX8 4 (by decide) tw_115 rfl d kk
theorem pfC_X8_28 {E : CE} (X : CX p s m meth c args cc nL RX8 ret) (I : WI (vC E) A s H locs σ) {k : Nat} (hk : KCo8 E k) {x : Int32} (d : decode cc pc = .ok (.putfield 28, 3)) (kk : ∀ (H1 : Heap) (locs1 : List Loc), WI (vC E) A s H1 locs1 (ms σ k 4 x) → W p l e R s m args below meth c H1 locs1 cells slots Q (F0 m (pc + 3) ls rest)) : W p l e R s m args below meth c H locs cells slots Q (F0 m pc ls (.int x :: .ref (ca E k) :: rest)) := r_put (V := (vC E)) X I hk.1 (hk.2 _) rfl inGX8 tyX8 tyX8_ok nmX8 4 (by decide) tw_115 rfl rfl rfl (Nat.le_of_ble_eq_true rfl) (hk.2 _) d kk
theorem yv_X8_draw : YV yX8_draw cX8_draw 2 (some .int) 1 := ⟨tw_118, tw_119, tw_120, tw_121, by decide +kernel, by decide +kernel, by decide +kernel⟩
theorem yv_X8_growOld : YV yX8_growOld cX8_growOld 3 none 1 := ⟨tw_123, tw_124, tw_125, tw_126, by decide +kernel, by decide +kernel, by decide +kernel⟩
theorem yv_X8_pay : YV yX8_pay cX8_pay 3 none 1 := ⟨tw_128, tw_129, tw_130, tw_131, by decide +kernel, by decide +kernel, by decide +kernel⟩
theorem yv_X8_sitsBy : YV yX8_sitsBy cX8_sitsBy 7 (some .int) 2 := ⟨tw_133, tw_134, tw_135, tw_136, by decide +kernel, by decide +kernel, by decide +kernel⟩
theorem yv_X8_settle : YV yX8_settle cX8_settle 4 none 3 := ⟨tw_138, tw_139, tw_140, tw_141, by decide +kernel, by decide +kernel, by decide +kernel⟩
theorem yv_X8_passQuarter : YV yX8_passQuarter cX8_passQuarter 3 none 1 := ⟨tw_143, tw_144, tw_145, tw_146, by decide +kernel, by decide +kernel, by decide +kernel⟩
theorem yv_X8_disturb : YV yX8_disturb cX8_disturb 4 none 1 := ⟨tw_148, tw_149, tw_150, tw_151, by decide +kernel, by decide +kernel, by decide +kernel⟩
theorem pfC_X7_25 {E : CE} (X : CX p s m meth c args cc nL RX7 ret) (I : WI (vC E) A s H locs σ) {k : Nat} (hk : KCo7 E k) {x : Int32} (d : decode cc pc = .ok (.putfield 25, 3)) (kk : ∀ (H1 : Heap) (locs1 : List Loc), WI (vC E) A s H1 locs1 (ms σ k 4 x) → W p l e R s m args below meth c H1 locs1 cells slots Q (F0 m (pc + 3) ls rest)) : W p l e R s m args below meth c H locs cells slots Q (F0 m pc ls (.int x :: .ref (ca E k) :: rest)) := r_put (V := (vC E)) X I hk.1 (hk.2 _) rfl inGX7 tyX7 tyX7_ok nmX7 4 (by decide) tw_155 rfl rfl rfl (Nat.le_of_ble_eq_true rfl) (hk.2 _) d kk
theorem pfC_X7_21 {E : CE} (X : CX p s m meth c args cc nL RX7 ret) (I : WI (vC E) A s H locs σ) {k : Nat} (hk : KCo7 E k) {x : Int32} (d : decode cc pc = .ok (.putfield 21, 3)) (kk : ∀ (H1 : Heap) (locs1 : List Loc), WI (vC E) A s H1 locs1 (ms σ k 3 x) → W p l e R s m args below meth c H1 locs1 cells slots Q (F0 m (pc + 3) ls rest)) : W p l e R s m args below meth c H locs cells slots Q (F0 m pc ls (.int x :: .ref (ca E k) :: rest)) := r_put (V := (vC E)) X I hk.1 (hk.2 _) rfl inGX7 tyX7 tyX7_ok nmX7 3 (by decide) tw_156 rfl rfl rfl (Nat.le_of_ble_eq_true rfl) (hk.2 _) d kk
theorem pfC_X7_28 {E : CE} (X : CX p s m meth c args cc nL RX7 ret) (I : WI (vC E) A s H locs σ) {k : Nat} (hk : KCo7 E k) {x : Int32} (d : decode cc pc = .ok (.putfield 28, 3)) (kk : ∀ (H1 : Heap) (locs1 : List Loc), WI (vC E) A s H1 locs1 (ms σ k 5 x) → W p l e R s m args below meth c H1 locs1 cells slots Q (F0 m (pc + 3) ls rest)) : W p l e R s m args below meth c H locs cells slots Q (F0 m pc ls (.int x :: .ref (ca E k) :: rest)) := r_put (V := (vC E)) X I hk.1 (hk.2 _) rfl inGX7 tyX7 tyX7_ok nmX7 5 (by decide) tw_157 rfl rfl rfl (Nat.le_of_ble_eq_true rfl) (hk.2 _) d kk
theorem gfC_X7_9 {E : CE} (X : CX p s m meth c args cc nL RX7 ret) (I : WI (vC E) A s H locs σ) {k : Nat} (hk : KCo7 E k) {k' : Nat} (hk' : k + 1 = k') (d : decode cc pc = .ok (.getfield 9, 3)) (kk : W p l e R s m args below meth c H locs cells slots Q (F0 m (pc + 3) ls (.ref (ca E k') :: rest))) : W p l e R s m args below meth c H locs cells slots Q (F0 m pc ls (.ref (ca E k) :: rest)) := by subst hk'; exact r_get (V := (vC E)) X I hk.1 (hk.2 _) rfl inGX7 0 (by decide) tw_158 rfl d kk
theorem ys_J6_bitCount_0f7a4 : YS yJ6_bitCount_0f7a4 cJ6_bitCount_0f7a4 1 (some .int) 1 := ⟨tw_160, tw_161, tw_162, by decide +kernel, by decide +kernel, by decide +kernel⟩
theorem gfC_X7_28 {E : CE} (X : CX p s m meth c args cc nL RX7 ret) (I : WI (vC E) A s H locs σ) {k : Nat} (hk : KCo7 E k) (d : decode cc pc = .ok (.getfield 28, 3)) (kk : W p l e R s m args below meth c H locs cells slots Q (F0 m (pc + 3) ls (.int (σ k 5) :: rest))) : W p l e R s m args below meth c H locs cells slots Q (F0 m pc ls (.ref (ca E k) :: rest)) := r_get (V := (vC E)) X I hk.1 (hk.2 _) rfl inGX7 5 (by decide) tw_157 rfl d kk
theorem gfC_X7_15 {E : CE} (X : CX p s m meth c args cc nL RX7 ret) (I : WI (vC E) A s H locs σ) {k : Nat} (hk : KCo7 E k) {k' : Nat} (hk' : k + 2 = k') (d : decode cc pc = .ok (.getfield 15, 3)) (kk : W p l e R s m args below meth c H locs cells slots Q (F0 m (pc + 3) ls (.ref (ca E k') :: rest))) : W p l e R s m args below meth c H locs cells slots Q (F0 m pc ls (.ref (ca E k) :: rest)) := by subst hk'; exact r_get (V := (vC E)) X I hk.1 (hk.2 _) rfl inGX7 1 (by decide) tw_163 rfl d kk
theorem gfC_X7_18 {E : CE} (X : CX p s m meth c args cc nL RX7 ret) (I : WI (vC E) A s H locs σ) {k : Nat} (hk : KCo7 E k) {k' : Nat} (hk' : k + 3 = k') (d : decode cc pc = .ok (.getfield 18, 3)) (kk : W p l e R s m args below meth c H locs cells slots Q (F0 m (pc + 3) ls (.ref (ca E k') :: rest))) : W p l e R s m args below meth c H locs cells slots Q (F0 m pc ls (.ref (ca E k) :: rest)) := by subst hk'; exact r_get (V := (vC E)) X I hk.1 (hk.2 _) rfl inGX7 2 (by decide) tw_164 rfl d kk
theorem gfC_X7_25 {E : CE} (X : CX p s m meth c args cc nL RX7 ret) (I : WI (vC E) A s H locs σ) {k : Nat} (hk : KCo7 E k) (d : decode cc pc = .ok (.getfield 25, 3)) (kk : W p l e R s m args below meth c H locs cells slots Q (F0 m (pc + 3) ls (.int (σ k 4) :: rest))) : W p l e R s m args below meth c H locs cells slots Q (F0 m pc ls (.ref (ca E k) :: rest)) := r_get (V := (vC E)) X I hk.1 (hk.2 _) rfl inGX7 4 (by decide) tw_155 rfl d kk
theorem gfC_X7_21 {E : CE} (X : CX p s m meth c args cc nL RX7 ret) (I : WI (vC E) A s H locs σ) {k : Nat} (hk : KCo7 E k) (d : decode cc pc = .ok (.getfield 21, 3)) (kk : W p l e R s m args below meth c H locs cells slots Q (F0 m (pc + 3) ls (.int (σ k 3) :: rest))) : W p l e R s m args below meth c H locs cells slots Q (F0 m pc ls (.ref (ca E k) :: rest)) := r_get (V := (vC E)) X I hk.1 (hk.2 _) rfl inGX7 3 (by decide) tw_156 rfl d kk
theorem yv_X7_worthOf : YV yX7_worthOf cX7_worthOf 6 (some .int) 2 := ⟨tw_167, tw_168, tw_169, tw_170, by decide +kernel, by decide +kernel, by decide +kernel⟩
theorem yv_X7_bestOf : YV yX7_bestOf cX7_bestOf 7 (some .int) 2 := ⟨tw_172, tw_173, tw_174, tw_175, by decide +kernel, by decide +kernel, by decide +kernel⟩
theorem yv_X7_leastPart : YV yX7_leastPart cX7_leastPart 6 (some .int) 2 := ⟨tw_177, tw_178, tw_179, tw_180, by decide +kernel, by decide +kernel, by decide +kernel⟩
theorem pfC_X2_9 {E : CE} (X : CX p s m meth c args cc nL RX2 ret) (I : WI (vC E) A s H locs σ) {k : Nat} (hk : KCo2 E k) {x : Int32} (d : decode cc pc = .ok (.putfield 9, 3)) (kk : ∀ (H1 : Heap) (locs1 : List Loc), WI (vC E) A s H1 locs1 (ms σ k 0 x) → W p l e R s m args below meth c H1 locs1 cells slots Q (F0 m (pc + 3) ls rest)) : W p l e R s m args below meth c H locs cells slots Q (F0 m pc ls (.int x :: .ref (ca E k) :: rest)) := r_put (V := (vC E)) X I hk.1 (hk.2 _) rfl inGX2 tyX2 tyX2_ok nmX2 0 (by decide) tw_181 rfl rfl rfl (Nat.le_of_ble_eq_true rfl) (hk.2 _) d kk
theorem pfC_X2_15 {E : CE} (X : CX p s m meth c args cc nL RX2 ret) (I : WI (vC E) A s H locs σ) {k : Nat} (hk : KCo2 E k) {x : Int32} (d : decode cc pc = .ok (.putfield 15, 3)) (kk : ∀ (H1 : Heap) (locs1 : List Loc), WI (vC E) A s H1 locs1 (ms σ k 1 x) → W p l e R s m args below meth c H1 locs1 cells slots Q (F0 m (pc + 3) ls rest)) : W p l e R s m args below meth c H locs cells slots Q (F0 m pc ls (.int x :: .ref (ca E k) :: rest)) := r_put (V := (vC E)) X I hk.1 (hk.2 _) rfl inGX2 tyX2 tyX2_ok nmX2 1 (by decide) tw_182 rfl rfl rfl (Nat.le_of_ble_eq_true rfl) (hk.2 _) d kk
theorem pfC_X2_18 {E : CE} (X : CX p s m meth c args cc nL RX2 ret) (I : WI (vC E) A s H locs σ) {k : Nat} (hk : KCo2 E k) {x : Int32} (d : decode cc pc = .ok (.putfield 18, 3)) (kk : ∀ (H1 : Heap) (locs1 : List Loc), WI (vC E) A s H1 locs1 (ms σ k 2 x) → W p l e R s m args below meth c H1 locs1 cells slots Q (F0 m (pc + 3) ls rest)) : W p l e R s m args below meth c H locs cells slots Q (F0 m pc ls (.int x :: .ref (ca E k) :: rest)) := r_put (V := (vC E)) X I hk.1 (hk.2 _) rfl inGX2 tyX2 tyX2_ok nmX2 2 (by decide) tw_183 rfl rfl rfl (Nat.le_of_ble_eq_true rfl) (hk.2 _) d kk
theorem gfC_X2_37 {E : CE} (X : CX p s m meth c args cc nL RX2 ret) (I : WI (vC E) A s H locs σ) {k : Nat} (hk : KCo2 E k) {k' : Nat} (hk' : k + 5 = k') (d : decode cc pc = .ok (.getfield 37, 3)) (kk : W p l e R s m args below meth c H locs cells slots Q (F0 m (pc + 3) ls (.ref (ca E k') :: rest))) : W p l e R s m args below meth c H locs cells slots Q (F0 m pc ls (.ref (ca E k) :: rest)) := by subst hk'; exact r_get (V := (vC E)) X I hk.1 (hk.2 _) rfl inGX2 7 (by decide) tw_184 rfl d kk
theorem yv_X4_clear : YV yX4_clear cX4_clear 1 none 0 := ⟨tw_186, tw_187, tw_188, tw_189, by decide +kernel, by decide +kernel, by decide +kernel⟩
theorem gfC_X2_41 {E : CE} (X : CX p s m meth c args cc nL RX2 ret) (I : WI (vC E) A s H locs σ) {k : Nat} (hk : KCo2 E k) {k' : Nat} (hk' : k + 8 = k') (d : decode cc pc = .ok (.getfield 41, 3)) (kk : W p l e R s m args below meth c H locs cells slots Q (F0 m (pc + 3) ls (.ref (ca E k') :: rest))) : W p l e R s m args below meth c H locs cells slots Q (F0 m pc ls (.ref (ca E k) :: rest)) := by subst hk'; exact r_get (V := (vC E)) X I hk.1 (hk.2 _) rfl inGX2 8 (by decide) tw_190 rfl d kk
theorem gfC_X2_44 {E : CE} (X : CX p s m meth c args cc nL RX2 ret) (I : WI (vC E) A s H locs σ) {k : Nat} (hk : KCo2 E k) {k' : Nat} (hk' : k + 11 = k') (d : decode cc pc = .ok (.getfield 44, 3)) (kk : W p l e R s m args below meth c H locs cells slots Q (F0 m (pc + 3) ls (.ref (ca E k') :: rest))) : W p l e R s m args below meth c H locs cells slots Q (F0 m pc ls (.ref (ca E k) :: rest)) := by subst hk'; exact r_get (V := (vC E)) X I hk.1 (hk.2 _) rfl inGX2 9 (by decide) tw_191 rfl d kk
theorem gfC_X2_9 {E : CE} (X : CX p s m meth c args cc nL RX2 ret) (I : WI (vC E) A s H locs σ) {k : Nat} (hk : KCo2 E k) (d : decode cc pc = .ok (.getfield 9, 3)) (kk : W p l e R s m args below meth c H locs cells slots Q (F0 m (pc + 3) ls (.int (σ k 0) :: rest))) : W p l e R s m args below meth c H locs cells slots Q (F0 m pc ls (.ref (ca E k) :: rest)) := r_get (V := (vC E)) X I hk.1 (hk.2 _) rfl inGX2 0 (by decide) tw_181 rfl d kk
theorem gfC_X2_15 {E : CE} (X : CX p s m meth c args cc nL RX2 ret) (I : WI (vC E) A s H locs σ) {k : Nat} (hk : KCo2 E k) (d : decode cc pc = .ok (.getfield 15, 3)) (kk : W p l e R s m args below meth c H locs cells slots Q (F0 m (pc + 3) ls (.int (σ k 1) :: rest))) : W p l e R s m args below meth c H locs cells slots Q (F0 m pc ls (.ref (ca E k) :: rest)) := r_get (V := (vC E)) X I hk.1 (hk.2 _) rfl inGX2 1 (by decide) tw_182 rfl d kk
theorem gfC_X2_18 {E : CE} (X : CX p s m meth c args cc nL RX2 ret) (I : WI (vC E) A s H locs σ) {k : Nat} (hk : KCo2 E k) (d : decode cc pc = .ok (.getfield 18, 3)) (kk : W p l e R s m args below meth c H locs cells slots Q (F0 m (pc + 3) ls (.int (σ k 2) :: rest))) : W p l e R s m args below meth c H locs cells slots Q (F0 m pc ls (.ref (ca E k) :: rest)) := r_get (V := (vC E)) X I hk.1 (hk.2 _) rfl inGX2 2 (by decide) tw_183 rfl d kk
theorem gfC_X2_21 {E : CE} (X : CX p s m meth c args cc nL RX2 ret) (I : WI (vC E) A s H locs σ) {k : Nat} (hk : KCo2 E k) {k' : Nat} (hk' : k + 1 = k') (d : decode cc pc = .ok (.getfield 21, 3)) (kk : W p l e R s m args below meth c H locs cells slots Q (F0 m (pc + 3) ls (.ref (ca E k') :: rest))) : W p l e R s m args below meth c H locs cells slots Q (F0 m pc ls (.ref (ca E k) :: rest)) := by subst hk'; exact r_get (V := (vC E)) X I hk.1 (hk.2 _) rfl inGX2 3 (by decide) tw_192 rfl d kk
theorem gfC_X2_25 {E : CE} (X : CX p s m meth c args cc nL RX2 ret) (I : WI (vC E) A s H locs σ) {k : Nat} (hk : KCo2 E k) {k' : Nat} (hk' : k + 2 = k') (d : decode cc pc = .ok (.getfield 25, 3)) (kk : W p l e R s m args below meth c H locs cells slots Q (F0 m (pc + 3) ls (.ref (ca E k') :: rest))) : W p l e R s m args below meth c H locs cells slots Q (F0 m pc ls (.ref (ca E k) :: rest)) := by subst hk'; exact r_get (V := (vC E)) X I hk.1 (hk.2 _) rfl inGX2 4 (by decide) tw_194 rfl d kk
theorem gfC_X2_28 {E : CE} (X : CX p s m meth c args cc nL RX2 ret) (I : WI (vC E) A s H locs σ) {k : Nat} (hk : KCo2 E k) {k' : Nat} (hk' : k + 3 = k') (d : decode cc pc = .ok (.getfield 28, 3)) (kk : W p l e R s m args below meth c H locs cells slots Q (F0 m (pc + 3) ls (.ref (ca E k') :: rest))) : W p l e R s m args below meth c H locs cells slots Q (F0 m pc ls (.ref (ca E k) :: rest)) := by subst hk'; exact r_get (V := (vC E)) X I hk.1 (hk.2 _) rfl inGX2 5 (by decide) tw_195 rfl d kk
theorem gfC_X2_31 {E : CE} (X : CX p s m meth c args cc nL RX2 ret) (I : WI (vC E) A s H locs σ) {k : Nat} (hk : KCo2 E k) {k' : Nat} (hk' : k + 4 = k') (d : decode cc pc = .ok (.getfield 31, 3)) (kk : W p l e R s m args below meth c H locs cells slots Q (F0 m (pc + 3) ls (.ref (ca E k') :: rest))) : W p l e R s m args below meth c H locs cells slots Q (F0 m pc ls (.ref (ca E k) :: rest)) := by subst hk'; exact r_get (V := (vC E)) X I hk.1 (hk.2 _) rfl inGX2 6 (by decide) tw_196 rfl d kk
theorem yv_X4_copyFrom : YV yX4_copyFrom cX4_copyFrom 2 none 1 := ⟨tw_198, tw_199, tw_200, tw_201, by decide +kernel, by decide +kernel, by decide +kernel⟩
theorem gfC_X1_9 {E : CE} (X : CX p s m meth c args cc nL RX1 ret) (I : WI (vC E) A s H locs σ) {k : Nat} (hk : KCo1 E k) {k' : Nat} (hk' : k + 1 = k') (d : decode cc pc = .ok (.getfield 9, 3)) (kk : W p l e R s m args below meth c H locs cells slots Q (F0 m (pc + 3) ls (.ref (ca E k') :: rest))) : W p l e R s m args below meth c H locs cells slots Q (F0 m pc ls (.ref (ca E k) :: rest)) := by subst hk'; exact r_get (V := (vC E)) X I hk.1 (hk.2 _) rfl inGX1 0 (by decide) tw_202 rfl d kk
theorem gfC_X1_18 {E : CE} (X : CX p s m meth c args cc nL RX1 ret) (I : WI (vC E) A s H locs σ) {k : Nat} (hk : KCo1 E k) {k' : Nat} (hk' : k + 2 = k') (d : decode cc pc = .ok (.getfield 18, 3)) (kk : W p l e R s m args below meth c H locs cells slots Q (F0 m (pc + 3) ls (.ref (ca E k') :: rest))) : W p l e R s m args below meth c H locs cells slots Q (F0 m pc ls (.ref (ca E k) :: rest)) := by subst hk'; exact r_get (V := (vC E)) X I hk.1 (hk.2 _) rfl inGX1 1 (by decide) tw_204 rfl d kk
theorem yv_X0_clear : YV yX0_clear cX0_clear 1 none 0 := ⟨tw_206, tw_207, tw_208, tw_209, by decide +kernel, by decide +kernel, by decide +kernel⟩
theorem gfC_X1_25 {E : CE} (X : CX p s m meth c args cc nL RX1 ret) (I : WI (vC E) A s H locs σ) {k : Nat} (hk : KCo1 E k) {k' : Nat} (hk' : k + 4 = k') (d : decode cc pc = .ok (.getfield 25, 3)) (kk : W p l e R s m args below meth c H locs cells slots Q (F0 m (pc + 3) ls (.ref (ca E k') :: rest))) : W p l e R s m args below meth c H locs cells slots Q (F0 m pc ls (.ref (ca E k) :: rest)) := by subst hk'; exact r_get (V := (vC E)) X I hk.1 (hk.2 _) rfl inGX1 2 (by decide) tw_210 rfl d kk
theorem pfC_X1_41 {E : CE} (X : CX p s m meth c args cc nL RX1 ret) (I : WI (vC E) A s H locs σ) {k : Nat} (hk : KCo6 E k) {x : Int32} (d : decode cc pc = .ok (.putfield 41, 3)) (kk : ∀ (H1 : Heap) (locs1 : List Loc), WI (vC E) A s H1 locs1 (ms σ k 1 x) → W p l e R s m args below meth c H1 locs1 cells slots Q (F0 m (pc + 3) ls rest)) : W p l e R s m args below meth c H locs cells slots Q (F0 m pc ls (.int x :: .ref (ca E k) :: rest)) := r_put (V := (vC E)) X I hk.1 (hk.2 _) rfl inGX6 tyX6 tyX6_ok nmX6 1 (by decide) tw_211 rfl rfl rfl (Nat.le_of_ble_eq_true rfl) (hk.2 _) d kk
theorem gfC_X1_29 {E : CE} (X : CX p s m meth c args cc nL RX1 ret) (I : WI (vC E) A s H locs σ) {k : Nat} (hk : KCo1 E k) {k' : Nat} (hk' : k + 6 = k') (d : decode cc pc = .ok (.getfield 29, 3)) (kk : W p l e R s m args below meth c H locs cells slots Q (F0 m (pc + 3) ls (.ref (ca E k') :: rest))) : W p l e R s m args below meth c H locs cells slots Q (F0 m pc ls (.ref (ca E k) :: rest)) := by subst hk'; exact r_get (V := (vC E)) X I hk.1 (hk.2 _) rfl inGX1 3 (by decide) tw_212 rfl d kk
theorem yv_X0_add : YV yX0_add cX0_add 2 none 1 := ⟨tw_214, tw_215, tw_216, tw_217, by decide +kernel, by decide +kernel, by decide +kernel⟩
theorem yv_X1_beginAct : YV yX1_beginAct cX1_beginAct 1 none 0 := ⟨tw_219, tw_220, tw_221, tw_222, by decide +kernel, by decide +kernel, by decide +kernel⟩
theorem yv_X0_copyFrom : YV yX0_copyFrom cX0_copyFrom 2 none 1 := ⟨tw_224, tw_225, tw_226, tw_227, by decide +kernel, by decide +kernel, by decide +kernel⟩
theorem yv_X6_copyFrom : YV yX6_copyFrom cX6_copyFrom 2 none 1 := ⟨tw_229, tw_230, tw_231, tw_232, by decide +kernel, by decide +kernel, by decide +kernel⟩
theorem pfC_X9_28 {E : CE} (X : CX p s m meth c args cc nL RX9 ret) (I : WI (vC E) A s H locs σ) {k : Nat} (hk : KCo9 E k) {x : Int32} (d : decode cc pc = .ok (.putfield 28, 3)) (kk : ∀ (H1 : Heap) (locs1 : List Loc), WI (vC E) A s H1 locs1 (ms σ k 5 x) → W p l e R s m args below meth c H1 locs1 cells slots Q (F0 m (pc + 3) ls rest)) : W p l e R s m args below meth c H locs cells slots Q (F0 m pc ls (.int x :: .ref (ca E k) :: rest)) := r_put (V := (vC E)) X I hk.1 (hk.2 _) rfl inGX9 tyX9 tyX9_ok nmX9 5 (by decide) tw_233 rfl rfl rfl (Nat.le_of_ble_eq_true rfl) (hk.2 _) d kk
theorem gfC_X9_25 {E : CE} (X : CX p s m meth c args cc nL RX9 ret) (I : WI (vC E) A s H locs σ) {k : Nat} (hk : KCo9 E k) (d : decode cc pc = .ok (.getfield 25, 3)) (kk : W p l e R s m args below meth c H locs cells slots Q (F0 m (pc + 3) ls (.int (σ k 4) :: rest))) : W p l e R s m args below meth c H locs cells slots Q (F0 m pc ls (.ref (ca E k) :: rest)) := r_get (V := (vC E)) X I hk.1 (hk.2 _) rfl inGX9 4 (by decide) tw_234 rfl d kk
theorem gfC_X9_19 {E : CE} (X : CX p s m meth c args cc nL RX9 ret) (I : WI (vC E) A s H locs σ) {k : Nat} (hk : KCo9 E k) (d : decode cc pc = .ok (.getfield 19, 3)) (kk : W p l e R s m args below meth c H locs cells slots Q (F0 m (pc + 3) ls (.int (σ k 2) :: rest))) : W p l e R s m args below meth c H locs cells slots Q (F0 m pc ls (.ref (ca E k) :: rest)) := r_get (V := (vC E)) X I hk.1 (hk.2 _) rfl inGX9 2 (by decide) tw_235 rfl d kk
theorem gfC_X9_9 {E : CE} (X : CX p s m meth c args cc nL RX9 ret) (I : WI (vC E) A s H locs σ) {k : Nat} (hk : KCo9 E k) {k' : Nat} (hk' : k + 1 = k') (d : decode cc pc = .ok (.getfield 9, 3)) (kk : W p l e R s m args below meth c H locs cells slots Q (F0 m (pc + 3) ls (.ref (ca E k') :: rest))) : W p l e R s m args below meth c H locs cells slots Q (F0 m pc ls (.ref (ca E k) :: rest)) := by subst hk'; exact r_get (V := (vC E)) X I hk.1 (hk.2 _) rfl inGX9 0 (by decide) tw_236 rfl d kk
theorem ys_X9_isLetter : YS yX9_isLetter cX9_isLetter 1 (some .boolean) 1 := ⟨tw_238, tw_239, tw_240, by decide +kernel, by decide +kernel, by decide +kernel⟩
theorem pfC_X9_25 {E : CE} (X : CX p s m meth c args cc nL RX9 ret) (I : WI (vC E) A s H locs σ) {k : Nat} (hk : KCo9 E k) {x : Int32} (d : decode cc pc = .ok (.putfield 25, 3)) (kk : ∀ (H1 : Heap) (locs1 : List Loc), WI (vC E) A s H1 locs1 (ms σ k 4 x) → W p l e R s m args below meth c H1 locs1 cells slots Q (F0 m (pc + 3) ls rest)) : W p l e R s m args below meth c H locs cells slots Q (F0 m pc ls (.int x :: .ref (ca E k) :: rest)) := r_put (V := (vC E)) X I hk.1 (hk.2 _) rfl inGX9 tyX9 tyX9_ok nmX9 4 (by decide) tw_234 rfl rfl rfl (Nat.le_of_ble_eq_true rfl) (hk.2 _) d kk
theorem pfC_X9_31 {E : CE} (X : CX p s m meth c args cc nL RX9 ret) (I : WI (vC E) A s H locs σ) {k : Nat} (hk : KCo9 E k) {x : Int32} (d : decode cc pc = .ok (.putfield 31, 3)) (kk : ∀ (H1 : Heap) (locs1 : List Loc), WI (vC E) A s H1 locs1 (ms σ k 6 x) → W p l e R s m args below meth c H1 locs1 cells slots Q (F0 m (pc + 3) ls rest)) : W p l e R s m args below meth c H locs cells slots Q (F0 m pc ls (.int x :: .ref (ca E k) :: rest)) := r_put (V := (vC E)) X I hk.1 (hk.2 _) rfl inGX9 tyX9 tyX9_ok nmX9 6 (by decide) tw_241 rfl rfl rfl (Nat.le_of_ble_eq_true rfl) (hk.2 _) d kk
theorem gfC_X9_22 {E : CE} (X : CX p s m meth c args cc nL RX9 ret) (I : WI (vC E) A s H locs σ) {k : Nat} (hk : KCo9 E k) (d : decode cc pc = .ok (.getfield 22, 3)) (kk : W p l e R s m args below meth c H locs cells slots Q (F0 m (pc + 3) ls (.int (σ k 3) :: rest))) : W p l e R s m args below meth c H locs cells slots Q (F0 m pc ls (.ref (ca E k) :: rest)) := r_get (V := (vC E)) X I hk.1 (hk.2 _) rfl inGX9 3 (by decide) tw_242 rfl d kk
theorem ys_X9_isDigit : YS yX9_isDigit cX9_isDigit 1 (some .boolean) 1 := ⟨tw_244, tw_245, tw_246, by decide +kernel, by decide +kernel, by decide +kernel⟩
theorem gfC_X9_31 {E : CE} (X : CX p s m meth c args cc nL RX9 ret) (I : WI (vC E) A s H locs σ) {k : Nat} (hk : KCo9 E k) (d : decode cc pc = .ok (.getfield 31, 3)) (kk : W p l e R s m args below meth c H locs cells slots Q (F0 m (pc + 3) ls (.int (σ k 6) :: rest))) : W p l e R s m args below meth c H locs cells slots Q (F0 m pc ls (.ref (ca E k) :: rest)) := r_get (V := (vC E)) X I hk.1 (hk.2 _) rfl inGX9 6 (by decide) tw_241 rfl d kk
theorem pfC_X9_22 {E : CE} (X : CX p s m meth c args cc nL RX9 ret) (I : WI (vC E) A s H locs σ) {k : Nat} (hk : KCo9 E k) {x : Int32} (d : decode cc pc = .ok (.putfield 22, 3)) (kk : ∀ (H1 : Heap) (locs1 : List Loc), WI (vC E) A s H1 locs1 (ms σ k 3 x) → W p l e R s m args below meth c H1 locs1 cells slots Q (F0 m (pc + 3) ls rest)) : W p l e R s m args below meth c H locs cells slots Q (F0 m pc ls (.int x :: .ref (ca E k) :: rest)) := r_put (V := (vC E)) X I hk.1 (hk.2 _) rfl inGX9 tyX9 tyX9_ok nmX9 3 (by decide) tw_242 rfl rfl rfl (Nat.le_of_ble_eq_true rfl) (hk.2 _) d kk
theorem ys_X9_isSign : YS yX9_isSign cX9_isSign 1 (some .boolean) 1 := ⟨tw_248, tw_249, tw_250, by decide +kernel, by decide +kernel, by decide +kernel⟩
theorem yv_X9_readNumber : YV yX9_readNumber cX9_readNumber 1 none 0 := ⟨tw_252, tw_253, tw_254, tw_255, by decide +kernel, by decide +kernel, by decide +kernel⟩
theorem yv_X9_readWord : YV yX9_readWord cX9_readWord 1 none 0 := ⟨tw_257, tw_258, tw_259, tw_260, by decide +kernel, by decide +kernel, by decide +kernel⟩
theorem ys_X9_isBlank : YS yX9_isBlank cX9_isBlank 1 (some .boolean) 1 := ⟨tw_262, tw_263, tw_264, by decide +kernel, by decide +kernel, by decide +kernel⟩
theorem gfC_X9_15 {E : CE} (X : CX p s m meth c args cc nL RX9 ret) (I : WI (vC E) A s H locs σ) {k : Nat} (hk : KCo9 E k) (d : decode cc pc = .ok (.getfield 15, 3)) (kk : W p l e R s m args below meth c H locs cells slots Q (F0 m (pc + 3) ls (.int (σ k 1) :: rest))) : W p l e R s m args below meth c H locs cells slots Q (F0 m pc ls (.ref (ca E k) :: rest)) := r_get (V := (vC E)) X I hk.1 (hk.2 _) rfl inGX9 1 (by decide) tw_265 rfl d kk
theorem pfC_X9_15 {E : CE} (X : CX p s m meth c args cc nL RX9 ret) (I : WI (vC E) A s H locs σ) {k : Nat} (hk : KCo9 E k) {x : Int32} (d : decode cc pc = .ok (.putfield 15, 3)) (kk : ∀ (H1 : Heap) (locs1 : List Loc), WI (vC E) A s H1 locs1 (ms σ k 1 x) → W p l e R s m args below meth c H1 locs1 cells slots Q (F0 m (pc + 3) ls rest)) : W p l e R s m args below meth c H locs cells slots Q (F0 m pc ls (.int x :: .ref (ca E k) :: rest)) := r_put (V := (vC E)) X I hk.1 (hk.2 _) rfl inGX9 tyX9 tyX9_ok nmX9 1 (by decide) tw_265 rfl rfl rfl (Nat.le_of_ble_eq_true rfl) (hk.2 _) d kk
theorem pfC_X9_19 {E : CE} (X : CX p s m meth c args cc nL RX9 ret) (I : WI (vC E) A s H locs σ) {k : Nat} (hk : KCo9 E k) {x : Int32} (d : decode cc pc = .ok (.putfield 19, 3)) (kk : ∀ (H1 : Heap) (locs1 : List Loc), WI (vC E) A s H1 locs1 (ms σ k 2 x) → W p l e R s m args below meth c H1 locs1 cells slots Q (F0 m (pc + 3) ls rest)) : W p l e R s m args below meth c H locs cells slots Q (F0 m pc ls (.int x :: .ref (ca E k) :: rest)) := r_put (V := (vC E)) X I hk.1 (hk.2 _) rfl inGX9 tyX9 tyX9_ok nmX9 2 (by decide) tw_235 rfl rfl rfl (Nat.le_of_ble_eq_true rfl) (hk.2 _) d kk
theorem gfC_X9_28 {E : CE} (X : CX p s m meth c args cc nL RX9 ret) (I : WI (vC E) A s H locs σ) {k : Nat} (hk : KCo9 E k) (d : decode cc pc = .ok (.getfield 28, 3)) (kk : W p l e R s m args below meth c H locs cells slots Q (F0 m (pc + 3) ls (.int (σ k 5) :: rest))) : W p l e R s m args below meth c H locs cells slots Q (F0 m pc ls (.ref (ca E k) :: rest)) := r_get (V := (vC E)) X I hk.1 (hk.2 _) rfl inGX9 5 (by decide) tw_233 rfl d kk
theorem pfC_X5_37 {E : CE} (X : CX p s m meth c args cc nL RX5 ret) (I : WI (vC E) A s H locs σ) {k : Nat} (hk : KCo5 E k) {x : Int32} (hz : narrow .boolean (.int x) = .int x ∧ fits .boolean (.int x) = true) (d : decode cc pc = .ok (.putfield 37, 3)) (kk : ∀ (H1 : Heap) (locs1 : List Loc), WI (vC E) A s H1 locs1 (ms σ k 5 x) → W p l e R s m args below meth c H1 locs1 cells slots Q (F0 m (pc + 3) ls rest)) : W p l e R s m args below meth c H locs cells slots Q (F0 m pc ls (.int x :: .ref (ca E k) :: rest)) := r_put (V := (vC E)) X I hk.1 (hk.2 _) rfl inGX5 tyX5 tyX5_ok nmX5 5 (by decide) tw_269 rfl hz.1 hz.2 (Nat.le_of_ble_eq_true rfl) (hk.2 _) d kk
theorem pfC_X5_40 {E : CE} (X : CX p s m meth c args cc nL RX5 ret) (I : WI (vC E) A s H locs σ) {k : Nat} (hk : KCo5 E k) {x : Int32} (hz : narrow .boolean (.int x) = .int x ∧ fits .boolean (.int x) = true) (d : decode cc pc = .ok (.putfield 40, 3)) (kk : ∀ (H1 : Heap) (locs1 : List Loc), WI (vC E) A s H1 locs1 (ms σ k 6 x) → W p l e R s m args below meth c H1 locs1 cells slots Q (F0 m (pc + 3) ls rest)) : W p l e R s m args below meth c H locs cells slots Q (F0 m pc ls (.int x :: .ref (ca E k) :: rest)) := r_put (V := (vC E)) X I hk.1 (hk.2 _) rfl inGX5 tyX5 tyX5_ok nmX5 6 (by decide) tw_270 rfl hz.1 hz.2 (Nat.le_of_ble_eq_true rfl) (hk.2 _) d kk
theorem pfC_X5_43 {E : CE} (X : CX p s m meth c args cc nL RX5 ret) (I : WI (vC E) A s H locs σ) {k : Nat} (hk : KCo5 E k) {x : Int32} (hz : narrow .boolean (.int x) = .int x ∧ fits .boolean (.int x) = true) (d : decode cc pc = .ok (.putfield 43, 3)) (kk : ∀ (H1 : Heap) (locs1 : List Loc), WI (vC E) A s H1 locs1 (ms σ k 7 x) → W p l e R s m args below meth c H1 locs1 cells slots Q (F0 m (pc + 3) ls rest)) : W p l e R s m args below meth c H locs cells slots Q (F0 m pc ls (.int x :: .ref (ca E k) :: rest)) := r_put (V := (vC E)) X I hk.1 (hk.2 _) rfl inGX5 tyX5 tyX5_ok nmX5 7 (by decide) tw_271 rfl hz.1 hz.2 (Nat.le_of_ble_eq_true rfl) (hk.2 _) d kk
theorem gfC_X5_21 {E : CE} (X : CX p s m meth c args cc nL RX5 ret) (I : WI (vC E) A s H locs σ) {k : Nat} (hk : KCo5 E k) {k' : Nat} (hk' : k + 3 = k') (d : decode cc pc = .ok (.getfield 21, 3)) (kk : W p l e R s m args below meth c H locs cells slots Q (F0 m (pc + 3) ls (.ref (ca E k') :: rest))) : W p l e R s m args below meth c H locs cells slots Q (F0 m pc ls (.ref (ca E k) :: rest)) := by subst hk'; exact r_get (V := (vC E)) X I hk.1 (hk.2 _) rfl inGX5 1 (by decide) tw_272 rfl d kk
theorem pfC_X5_33 {E : CE} (X : CX p s m meth c args cc nL RX5 ret) (I : WI (vC E) A s H locs σ) {k : Nat} (hk : KCo5 E k) {x : Int32} (hz : narrow .boolean (.int x) = .int x ∧ fits .boolean (.int x) = true) (d : decode cc pc = .ok (.putfield 33, 3)) (kk : ∀ (H1 : Heap) (locs1 : List Loc), WI (vC E) A s H1 locs1 (ms σ k 4 x) → W p l e R s m args below meth c H1 locs1 cells slots Q (F0 m (pc + 3) ls rest)) : W p l e R s m args below meth c H locs cells slots Q (F0 m pc ls (.int x :: .ref (ca E k) :: rest)) := r_put (V := (vC E)) X I hk.1 (hk.2 _) rfl inGX5 tyX5 tyX5_ok nmX5 4 (by decide) tw_274 rfl hz.1 hz.2 (Nat.le_of_ble_eq_true rfl) (hk.2 _) d kk
theorem pfC_X5_29 {E : CE} (X : CX p s m meth c args cc nL RX5 ret) (I : WI (vC E) A s H locs σ) {k : Nat} (hk : KCo5 E k) {x : Int32} (d : decode cc pc = .ok (.putfield 29, 3)) (kk : ∀ (H1 : Heap) (locs1 : List Loc), WI (vC E) A s H1 locs1 (ms σ k 3 x) → W p l e R s m args below meth c H1 locs1 cells slots Q (F0 m (pc + 3) ls rest)) : W p l e R s m args below meth c H locs cells slots Q (F0 m pc ls (.int x :: .ref (ca E k) :: rest)) := r_put (V := (vC E)) X I hk.1 (hk.2 _) rfl inGX5 tyX5 tyX5_ok nmX5 3 (by decide) tw_275 rfl rfl rfl (Nat.le_of_ble_eq_true rfl) (hk.2 _) d kk
theorem pfC_X5_46 {E : CE} (X : CX p s m meth c args cc nL RX5 ret) (I : WI (vC E) A s H locs σ) {k : Nat} (hk : KCo5 E k) {x : Int32} (d : decode cc pc = .ok (.putfield 46, 3)) (kk : ∀ (H1 : Heap) (locs1 : List Loc), WI (vC E) A s H1 locs1 (ms σ k 8 x) → W p l e R s m args below meth c H1 locs1 cells slots Q (F0 m (pc + 3) ls rest)) : W p l e R s m args below meth c H locs cells slots Q (F0 m pc ls (.int x :: .ref (ca E k) :: rest)) := r_put (V := (vC E)) X I hk.1 (hk.2 _) rfl inGX5 tyX5 tyX5_ok nmX5 8 (by decide) tw_276 rfl rfl rfl (Nat.le_of_ble_eq_true rfl) (hk.2 _) d kk
theorem pfC_X5_49 {E : CE} (X : CX p s m meth c args cc nL RX5 ret) (I : WI (vC E) A s H locs σ) {k : Nat} (hk : KCo5 E k) {x : Int32} (d : decode cc pc = .ok (.putfield 49, 3)) (kk : ∀ (H1 : Heap) (locs1 : List Loc), WI (vC E) A s H1 locs1 (ms σ k 9 x) → W p l e R s m args below meth c H1 locs1 cells slots Q (F0 m (pc + 3) ls rest)) : W p l e R s m args below meth c H locs cells slots Q (F0 m pc ls (.int x :: .ref (ca E k) :: rest)) := r_put (V := (vC E)) X I hk.1 (hk.2 _) rfl inGX5 tyX5 tyX5_ok nmX5 9 (by decide) tw_277 rfl rfl rfl (Nat.le_of_ble_eq_true rfl) (hk.2 _) d kk
theorem yv_X5_beginNot : YV yX5_beginNot cX5_beginNot 1 none 0 := ⟨tw_279, tw_280, tw_281, tw_282, by decide +kernel, by decide +kernel, by decide +kernel⟩
theorem gfC_X5_29 {E : CE} (X : CX p s m meth c args cc nL RX5 ret) (I : WI (vC E) A s H locs σ) {k : Nat} (hk : KCo5 E k) (d : decode cc pc = .ok (.getfield 29, 3)) (kk : W p l e R s m args below meth c H locs cells slots Q (F0 m (pc + 3) ls (.int (σ k 3) :: rest))) : W p l e R s m args below meth c H locs cells slots Q (F0 m pc ls (.ref (ca E k) :: rest)) := r_get (V := (vC E)) X I hk.1 (hk.2 _) rfl inGX5 3 (by decide) tw_275 rfl d kk
theorem gfC_X5_25 {E : CE} (X : CX p s m meth c args cc nL RX5 ret) (I : WI (vC E) A s H locs σ) {k : Nat} (hk : KCo5 E k) {k' : Nat} (hk' : k + 6 = k') (d : decode cc pc = .ok (.getfield 25, 3)) (kk : W p l e R s m args below meth c H locs cells slots Q (F0 m (pc + 3) ls (.ref (ca E k') :: rest))) : W p l e R s m args below meth c H locs cells slots Q (F0 m pc ls (.ref (ca E k) :: rest)) := by subst hk'; exact r_get (V := (vC E)) X I hk.1 (hk.2 _) rfl inGX5 2 (by decide) tw_283 rfl d kk
theorem ys_X5_binding : YS yX5_binding cX5_binding 1 (some .int) 1 := ⟨tw_285, tw_286, tw_287, by decide +kernel, by decide +kernel, by decide +kernel⟩
theorem yv_X4_add : YV yX4_add cX4_add 2 none 1 := ⟨tw_289, tw_290, tw_291, tw_292, by decide +kernel, by decide +kernel, by decide +kernel⟩
theorem gfC_X5_49 {E : CE} (X : CX p s m meth c args cc nL RX5 ret) (I : WI (vC E) A s H locs σ) {k : Nat} (hk : KCo5 E k) (d : decode cc pc = .ok (.getfield 49, 3)) (kk : W p l e R s m args below meth c H locs cells slots Q (F0 m (pc + 3) ls (.int (σ k 9) :: rest))) : W p l e R s m args below meth c H locs cells slots Q (F0 m pc ls (.ref (ca E k) :: rest)) := r_get (V := (vC E)) X I hk.1 (hk.2 _) rfl inGX5 9 (by decide) tw_277 rfl d kk
theorem yv_X5_hold : YV yX5_hold cX5_hold 2 none 1 := ⟨tw_294, tw_295, tw_296, tw_297, by decide +kernel, by decide +kernel, by decide +kernel⟩
theorem gfC_X5_43 {E : CE} (X : CX p s m meth c args cc nL RX5 ret) (I : WI (vC E) A s H locs σ) {k : Nat} (hk : KCo5 E k) (d : decode cc pc = .ok (.getfield 43, 3)) (kk : W p l e R s m args below meth c H locs cells slots Q (F0 m (pc + 3) ls (.int (σ k 7) :: rest))) : W p l e R s m args below meth c H locs cells slots Q (F0 m pc ls (.ref (ca E k) :: rest)) := r_get (V := (vC E)) X I hk.1 (hk.2 _) rfl inGX5 7 (by decide) tw_271 rfl d kk
theorem gfC_X5_46 {E : CE} (X : CX p s m meth c args cc nL RX5 ret) (I : WI (vC E) A s H locs σ) {k : Nat} (hk : KCo5 E k) (d : decode cc pc = .ok (.getfield 46, 3)) (kk : W p l e R s m args below meth c H locs cells slots Q (F0 m (pc + 3) ls (.int (σ k 8) :: rest))) : W p l e R s m args below meth c H locs cells slots Q (F0 m pc ls (.ref (ca E k) :: rest)) := r_get (V := (vC E)) X I hk.1 (hk.2 _) rfl inGX5 8 (by decide) tw_276 rfl d kk
theorem gfC_X5_12 {E : CE} (X : CX p s m meth c args cc nL RX5 ret) (I : WI (vC E) A s H locs σ) {k : Nat} (hk : KCo5 E k) {k' : Nat} (hk' : k + 1 = k') (d : decode cc pc = .ok (.getfield 12, 3)) (kk : W p l e R s m args below meth c H locs cells slots Q (F0 m (pc + 3) ls (.ref (ca E k') :: rest))) : W p l e R s m args below meth c H locs cells slots Q (F0 m pc ls (.ref (ca E k) :: rest)) := by subst hk'; exact r_get (V := (vC E)) X I hk.1 (hk.2 _) rfl inGX5 0 (by decide) tw_298 rfl d kk
theorem gfC_X5_63 {E : CE} (X : CX p s m meth c args cc nL RX5 ret) (I : WI (vC E) A s H locs σ) {k : Nat} (hk : KCo9 E k) (d : decode cc pc = .ok (.getfield 63, 3)) (kk : W p l e R s m args below meth c H locs cells slots Q (F0 m (pc + 3) ls (.int (σ k 5) :: rest))) : W p l e R s m args below meth c H locs cells slots Q (F0 m pc ls (.ref (ca E k) :: rest)) := r_get (V := (vC E)) X I hk.1 (hk.2 _) rfl inGX9 5 (by decide) tw_299 rfl d kk
theorem yv_X9_isWord : YV yX9_isWord cX9_isWord 3 (some .boolean) 1 := ⟨tw_301, tw_302, tw_303, tw_304, by decide +kernel, by decide +kernel, by decide +kernel⟩
theorem gfC_X5_33 {E : CE} (X : CX p s m meth c args cc nL RX5 ret) (I : WI (vC E) A s H locs σ) {k : Nat} (hk : KCo5 E k) (d : decode cc pc = .ok (.getfield 33, 3)) (kk : W p l e R s m args below meth c H locs cells slots Q (F0 m (pc + 3) ls (.int (σ k 4) :: rest))) : W p l e R s m args below meth c H locs cells slots Q (F0 m pc ls (.ref (ca E k) :: rest)) := r_get (V := (vC E)) X I hk.1 (hk.2 _) rfl inGX5 4 (by decide) tw_274 rfl d kk
theorem gfC_X5_40 {E : CE} (X : CX p s m meth c args cc nL RX5 ret) (I : WI (vC E) A s H locs σ) {k : Nat} (hk : KCo5 E k) (d : decode cc pc = .ok (.getfield 40, 3)) (kk : W p l e R s m args below meth c H locs cells slots Q (F0 m (pc + 3) ls (.int (σ k 6) :: rest))) : W p l e R s m args below meth c H locs cells slots Q (F0 m pc ls (.ref (ca E k) :: rest)) := r_get (V := (vC E)) X I hk.1 (hk.2 _) rfl inGX5 6 (by decide) tw_270 rfl d kk
theorem yv_X5_valueOf : YV yX5_valueOf cX5_valueOf 2 (some .int) 0 := ⟨tw_306, tw_307, tw_308, tw_309, by decide +kernel, by decide +kernel, by decide +kernel⟩
theorem yv_X5_endPart : YV yX5_endPart cX5_endPart 2 (some .int) 1 := ⟨tw_311, tw_312, tw_313, tw_314, by decide +kernel, by decide +kernel, by decide +kernel⟩
theorem yv_X5_takeNot : YV yX5_takeNot cX5_takeNot 1 (some .int) 0 := ⟨tw_316, tw_317, tw_318, tw_319, by decide +kernel, by decide +kernel, by decide +kernel⟩
theorem gfC_X5_90 {E : CE} (X : CX p s m meth c args cc nL RX5 ret) (I : WI (vC E) A s H locs σ) {k : Nat} (hk : KCo9 E k) (d : decode cc pc = .ok (.getfield 90, 3)) (kk : W p l e R s m args below meth c H locs cells slots Q (F0 m (pc + 3) ls (.int (σ k 6) :: rest))) : W p l e R s m args below meth c H locs cells slots Q (F0 m pc ls (.ref (ca E k) :: rest)) := r_get (V := (vC E)) X I hk.1 (hk.2 _) rfl inGX9 6 (by decide) tw_320 rfl d kk
theorem yv_X5_takeOpening : YV yX5_takeOpening cX5_takeOpening 1 (some .int) 0 := ⟨tw_322, tw_323, tw_324, tw_325, by decide +kernel, by decide +kernel, by decide +kernel⟩
theorem yv_X5_release : YV yX5_release cX5_release 2 none 1 := ⟨tw_327, tw_328, tw_329, tw_330, by decide +kernel, by decide +kernel, by decide +kernel⟩
theorem yv_X5_operatorOf : YV yX5_operatorOf cX5_operatorOf 1 (some .int) 0 := ⟨tw_332, tw_333, tw_334, tw_335, by decide +kernel, by decide +kernel, by decide +kernel⟩
theorem yv_X5_takeClosing : YV yX5_takeClosing cX5_takeClosing 1 (some .int) 0 := ⟨tw_337, tw_338, tw_339, tw_340, by decide +kernel, by decide +kernel, by decide +kernel⟩
theorem yv_X5_begin : YV yX5_begin cX5_begin 2 none 1 := ⟨tw_343, tw_344, tw_345, tw_346, by decide +kernel, by decide +kernel, by decide +kernel⟩
theorem yv_X9_next : YV yX9_next cX9_next 1 none 0 := ⟨tw_348, tw_349, tw_350, tw_351, by decide +kernel, by decide +kernel, by decide +kernel⟩
theorem gfC_X5_37 {E : CE} (X : CX p s m meth c args cc nL RX5 ret) (I : WI (vC E) A s H locs σ) {k : Nat} (hk : KCo5 E k) (d : decode cc pc = .ok (.getfield 37, 3)) (kk : W p l e R s m args below meth c H locs cells slots Q (F0 m (pc + 3) ls (.int (σ k 5) :: rest))) : W p l e R s m args below meth c H locs cells slots Q (F0 m pc ls (.ref (ca E k) :: rest)) := r_get (V := (vC E)) X I hk.1 (hk.2 _) rfl inGX5 5 (by decide) tw_269 rfl d kk
theorem yv_X5_takeOperator : YV yX5_takeOperator cX5_takeOperator 3 (some .int) 0 := ⟨tw_353, tw_354, tw_355, tw_356, by decide +kernel, by decide +kernel, by decide +kernel⟩
theorem yv_X5_takePart : YV yX5_takePart cX5_takePart 2 (some .int) 0 := ⟨tw_358, tw_359, tw_360, tw_361, by decide +kernel, by decide +kernel, by decide +kernel⟩
theorem gfC_X3_22 {E : CE} (X : CX p s m meth c args cc nL RX3 ret) (I : WI (vC E) A s H locs σ) {k : Nat} (hk : KCo3 E k) {k' : Nat} (hk' : k + 2 = k') (d : decode cc pc = .ok (.getfield 22, 3)) (kk : W p l e R s m args below meth c H locs cells slots Q (F0 m (pc + 3) ls (.ref (ca E k') :: rest))) : W p l e R s m args below meth c H locs cells slots Q (F0 m pc ls (.ref (ca E k) :: rest)) := by subst hk'; exact r_get (V := (vC E)) X I hk.1 (hk.2 _) rfl inGX3 1 (by decide) tw_363 rfl d kk
theorem gfC_X3_30 {E : CE} (X : CX p s m meth c args cc nL RX3 ret) (I : WI (vC E) A s H locs σ) {k : Nat} (hk : KCo3 E k) {k' : Nat} (hk' : k + 20 = k') (d : decode cc pc = .ok (.getfield 30, 3)) (kk : W p l e R s m args below meth c H locs cells slots Q (F0 m (pc + 3) ls (.ref (ca E k') :: rest))) : W p l e R s m args below meth c H locs cells slots Q (F0 m pc ls (.ref (ca E k) :: rest)) := by subst hk'; exact r_get (V := (vC E)) X I hk.1 (hk.2 _) rfl inGX3 3 (by decide) tw_365 rfl d kk
theorem gfC_X3_46 {E : CE} (X : CX p s m meth c args cc nL RX3 ret) (I : WI (vC E) A s H locs σ) {k : Nat} (hk : KCo9 E k) (d : decode cc pc = .ok (.getfield 46, 3)) (kk : W p l e R s m args below meth c H locs cells slots Q (F0 m (pc + 3) ls (.int (σ k 5) :: rest))) : W p l e R s m args below meth c H locs cells slots Q (F0 m pc ls (.ref (ca E k) :: rest)) := r_get (V := (vC E)) X I hk.1 (hk.2 _) rfl inGX9 5 (by decide) tw_366 rfl d kk
theorem gfC_X3_124 {E : CE} (X : CX p s m meth c args cc nL RX3 ret) (I : WI (vC E) A s H locs σ) {k : Nat} (hk : KCo9 E k) (d : decode cc pc = .ok (.getfield 124, 3)) (kk : W p l e R s m args below meth c H locs cells slots Q (F0 m (pc + 3) ls (.int (σ k 6) :: rest))) : W p l e R s m args below meth c H locs cells slots Q (F0 m pc ls (.ref (ca E k) :: rest)) := r_get (V := (vC E)) X I hk.1 (hk.2 _) rfl inGX9 6 (by decide) tw_367 rfl d kk
theorem gfC_X3_26 {E : CE} (X : CX p s m meth c args cc nL RX3 ret) (I : WI (vC E) A s H locs σ) {k : Nat} (hk : KCo3 E k) {k' : Nat} (hk' : k + 8 = k') (d : decode cc pc = .ok (.getfield 26, 3)) (kk : W p l e R s m args below meth c H locs cells slots Q (F0 m (pc + 3) ls (.ref (ca E k') :: rest))) : W p l e R s m args below meth c H locs cells slots Q (F0 m pc ls (.ref (ca E k) :: rest)) := by subst hk'; exact r_get (V := (vC E)) X I hk.1 (hk.2 _) rfl inGX3 2 (by decide) tw_368 rfl d kk
theorem gfC_X3_90 {E : CE} (X : CX p s m meth c args cc nL RX3 ret) (I : WI (vC E) A s H locs σ) {k : Nat} (hk : KCo2 E k) (d : decode cc pc = .ok (.getfield 90, 3)) (kk : W p l e R s m args below meth c H locs cells slots Q (F0 m (pc + 3) ls (.int (σ k 0) :: rest))) : W p l e R s m args below meth c H locs cells slots Q (F0 m pc ls (.ref (ca E k) :: rest)) := r_get (V := (vC E)) X I hk.1 (hk.2 _) rfl inGX2 0 (by decide) tw_369 rfl d kk
theorem pfC_X3_90 {E : CE} (X : CX p s m meth c args cc nL RX3 ret) (I : WI (vC E) A s H locs σ) {k : Nat} (hk : KCo2 E k) {x : Int32} (d : decode cc pc = .ok (.putfield 90, 3)) (kk : ∀ (H1 : Heap) (locs1 : List Loc), WI (vC E) A s H1 locs1 (ms σ k 0 x) → W p l e R s m args below meth c H1 locs1 cells slots Q (F0 m (pc + 3) ls rest)) : W p l e R s m args below meth c H locs cells slots Q (F0 m pc ls (.int x :: .ref (ca E k) :: rest)) := r_put (V := (vC E)) X I hk.1 (hk.2 _) rfl inGX2 tyX2 tyX2_ok nmX2 0 (by decide) tw_369 rfl rfl rfl (Nat.le_of_ble_eq_true rfl) (hk.2 _) d kk
theorem gfC_X3_93 {E : CE} (X : CX p s m meth c args cc nL RX3 ret) (I : WI (vC E) A s H locs σ) {k : Nat} (hk : KCo2 E k) {k' : Nat} (hk' : k + 2 = k') (d : decode cc pc = .ok (.getfield 93, 3)) (kk : W p l e R s m args below meth c H locs cells slots Q (F0 m (pc + 3) ls (.ref (ca E k') :: rest))) : W p l e R s m args below meth c H locs cells slots Q (F0 m pc ls (.ref (ca E k) :: rest)) := by subst hk'; exact r_get (V := (vC E)) X I hk.1 (hk.2 _) rfl inGX2 4 (by decide) tw_370 rfl d kk
theorem yv_X3_readNumbers : YV yX3_readNumbers cX3_readNumbers 4 (some .int) 2 := ⟨tw_374, tw_375, tw_376, tw_377, by decide +kernel, by decide +kernel, by decide +kernel⟩
theorem gfC_X3_102 {E : CE} (X : CX p s m meth c args cc nL RX3 ret) (I : WI (vC E) A s H locs σ) {k : Nat} (hk : KCo2 E k) {k' : Nat} (hk' : k + 1 = k') (d : decode cc pc = .ok (.getfield 102, 3)) (kk : W p l e R s m args below meth c H locs cells slots Q (F0 m (pc + 3) ls (.ref (ca E k') :: rest))) : W p l e R s m args below meth c H locs cells slots Q (F0 m pc ls (.ref (ca E k) :: rest)) := by subst hk'; exact r_get (V := (vC E)) X I hk.1 (hk.2 _) rfl inGX2 3 (by decide) tw_378 rfl d kk
theorem gfC_X3_105 {E : CE} (X : CX p s m meth c args cc nL RX3 ret) (I : WI (vC E) A s H locs σ) {k : Nat} (hk : KCo2 E k) {k' : Nat} (hk' : k + 11 = k') (d : decode cc pc = .ok (.getfield 105, 3)) (kk : W p l e R s m args below meth c H locs cells slots Q (F0 m (pc + 3) ls (.ref (ca E k') :: rest))) : W p l e R s m args below meth c H locs cells slots Q (F0 m pc ls (.ref (ca E k) :: rest)) := by subst hk'; exact r_get (V := (vC E)) X I hk.1 (hk.2 _) rfl inGX2 9 (by decide) tw_379 rfl d kk
theorem gfC_X3_108 {E : CE} (X : CX p s m meth c args cc nL RX3 ret) (I : WI (vC E) A s H locs σ) {k : Nat} (hk : KCo2 E k) (d : decode cc pc = .ok (.getfield 108, 3)) (kk : W p l e R s m args below meth c H locs cells slots Q (F0 m (pc + 3) ls (.int (σ k 1) :: rest))) : W p l e R s m args below meth c H locs cells slots Q (F0 m pc ls (.ref (ca E k) :: rest)) := r_get (V := (vC E)) X I hk.1 (hk.2 _) rfl inGX2 1 (by decide) tw_380 rfl d kk
theorem pfC_X3_108 {E : CE} (X : CX p s m meth c args cc nL RX3 ret) (I : WI (vC E) A s H locs σ) {k : Nat} (hk : KCo2 E k) {x : Int32} (d : decode cc pc = .ok (.putfield 108, 3)) (kk : ∀ (H1 : Heap) (locs1 : List Loc), WI (vC E) A s H1 locs1 (ms σ k 1 x) → W p l e R s m args below meth c H1 locs1 cells slots Q (F0 m (pc + 3) ls rest)) : W p l e R s m args below meth c H locs cells slots Q (F0 m pc ls (.int x :: .ref (ca E k) :: rest)) := r_put (V := (vC E)) X I hk.1 (hk.2 _) rfl inGX2 tyX2 tyX2_ok nmX2 1 (by decide) tw_380 rfl rfl rfl (Nat.le_of_ble_eq_true rfl) (hk.2 _) d kk
theorem gfC_X3_111 {E : CE} (X : CX p s m meth c args cc nL RX3 ret) (I : WI (vC E) A s H locs σ) {k : Nat} (hk : KCo2 E k) {k' : Nat} (hk' : k + 4 = k') (d : decode cc pc = .ok (.getfield 111, 3)) (kk : W p l e R s m args below meth c H locs cells slots Q (F0 m (pc + 3) ls (.ref (ca E k') :: rest))) : W p l e R s m args below meth c H locs cells slots Q (F0 m pc ls (.ref (ca E k) :: rest)) := by subst hk'; exact r_get (V := (vC E)) X I hk.1 (hk.2 _) rfl inGX2 6 (by decide) tw_381 rfl d kk
theorem gfC_X3_116 {E : CE} (X : CX p s m meth c args cc nL RX3 ret) (I : WI (vC E) A s H locs σ) {k : Nat} (hk : KCo2 E k) {k' : Nat} (hk' : k + 3 = k') (d : decode cc pc = .ok (.getfield 116, 3)) (kk : W p l e R s m args below meth c H locs cells slots Q (F0 m (pc + 3) ls (.ref (ca E k') :: rest))) : W p l e R s m args below meth c H locs cells slots Q (F0 m pc ls (.ref (ca E k) :: rest)) := by subst hk'; exact r_get (V := (vC E)) X I hk.1 (hk.2 _) rfl inGX2 5 (by decide) tw_383 rfl d kk
theorem gfC_X3_34 {E : CE} (X : CX p s m meth c args cc nL RX3 ret) (I : WI (vC E) A s H locs σ) {k : Nat} (hk : KCo3 E k) (d : decode cc pc = .ok (.getfield 34, 3)) (kk : W p l e R s m args below meth c H locs cells slots Q (F0 m (pc + 3) ls (.int (σ k 4) :: rest))) : W p l e R s m args below meth c H locs cells slots Q (F0 m pc ls (.ref (ca E k) :: rest)) := r_get (V := (vC E)) X I hk.1 (hk.2 _) rfl inGX3 4 (by decide) tw_384 rfl d kk
theorem pfC_X3_34 {E : CE} (X : CX p s m meth c args cc nL RX3 ret) (I : WI (vC E) A s H locs σ) {k : Nat} (hk : KCo3 E k) {x : Int32} (hz : narrow .boolean (.int x) = .int x ∧ fits .boolean (.int x) = true) (d : decode cc pc = .ok (.putfield 34, 3)) (kk : ∀ (H1 : Heap) (locs1 : List Loc), WI (vC E) A s H1 locs1 (ms σ k 4 x) → W p l e R s m args below meth c H1 locs1 cells slots Q (F0 m (pc + 3) ls rest)) : W p l e R s m args below meth c H locs cells slots Q (F0 m pc ls (.int x :: .ref (ca E k) :: rest)) := r_put (V := (vC E)) X I hk.1 (hk.2 _) rfl inGX3 tyX3 tyX3_ok nmX3 4 (by decide) tw_384 rfl hz.1 hz.2 (Nat.le_of_ble_eq_true rfl) (hk.2 _) d kk
theorem pfC_X3_122 {E : CE} (X : CX p s m meth c args cc nL RX3 ret) (I : WI (vC E) A s H locs σ) {k : Nat} (hk : KCo2 E k) {x : Int32} (d : decode cc pc = .ok (.putfield 122, 3)) (kk : ∀ (H1 : Heap) (locs1 : List Loc), WI (vC E) A s H1 locs1 (ms σ k 2 x) → W p l e R s m args below meth c H1 locs1 cells slots Q (F0 m (pc + 3) ls rest)) : W p l e R s m args below meth c H locs cells slots Q (F0 m pc ls (.int x :: .ref (ca E k) :: rest)) := r_put (V := (vC E)) X I hk.1 (hk.2 _) rfl inGX2 tyX2 tyX2_ok nmX2 2 (by decide) tw_386 rfl rfl rfl (Nat.le_of_ble_eq_true rfl) (hk.2 _) d kk
theorem yv_X3_readHouse : YV yX3_readHouse cX3_readHouse 3 (some .int) 0 := ⟨tw_388, tw_389, tw_390, tw_391, by decide +kernel, by decide +kernel, by decide +kernel⟩
theorem yv_X3_readTenant : YV yX3_readTenant cX3_readTenant 3 (some .int) 0 := ⟨tw_393, tw_394, tw_395, tw_396, by decide +kernel, by decide +kernel, by decide +kernel⟩
theorem gfC_X3_12 {E : CE} (X : CX p s m meth c args cc nL RX3 ret) (I : WI (vC E) A s H locs σ) {k : Nat} (hk : KCo3 E k) {k' : Nat} (hk' : k + 1 = k') (d : decode cc pc = .ok (.getfield 12, 3)) (kk : W p l e R s m args below meth c H locs cells slots Q (F0 m (pc + 3) ls (.ref (ca E k') :: rest))) : W p l e R s m args below meth c H locs cells slots Q (F0 m pc ls (.ref (ca E k) :: rest)) := by subst hk'; exact r_get (V := (vC E)) X I hk.1 (hk.2 _) rfl inGX3 0 (by decide) tw_397 rfl d kk
theorem gfC_X3_88 {E : CE} (X : CX p s m meth c args cc nL RX3 ret) (I : WI (vC E) A s H locs σ) {k : Nat} (hk : KCo2 E k) {k' : Nat} (hk' : k + 8 = k') (d : decode cc pc = .ok (.getfield 88, 3)) (kk : W p l e R s m args below meth c H locs cells slots Q (F0 m (pc + 3) ls (.ref (ca E k') :: rest))) : W p l e R s m args below meth c H locs cells slots Q (F0 m pc ls (.ref (ca E k) :: rest)) := by subst hk'; exact r_get (V := (vC E)) X I hk.1 (hk.2 _) rfl inGX2 8 (by decide) tw_398 rfl d kk
theorem yv_X5_read : YV yX5_read cX5_read 5 (some .int) 2 := ⟨tw_400, tw_401, tw_402, tw_403, by decide +kernel, by decide +kernel, by decide +kernel⟩
theorem gfC_X3_79 {E : CE} (X : CX p s m meth c args cc nL RX3 ret) (I : WI (vC E) A s H locs σ) {k : Nat} (hk : KCo2 E k) {k' : Nat} (hk' : k + 5 = k') (d : decode cc pc = .ok (.getfield 79, 3)) (kk : W p l e R s m args below meth c H locs cells slots Q (F0 m (pc + 3) ls (.ref (ca E k') :: rest))) : W p l e R s m args below meth c H locs cells slots Q (F0 m pc ls (.ref (ca E k) :: rest)) := by subst hk'; exact r_get (V := (vC E)) X I hk.1 (hk.2 _) rfl inGX2 7 (by decide) tw_404 rfl d kk
theorem yv_X3_readLife : YV yX3_readLife cX3_readLife 2 (some .int) 0 := ⟨tw_406, tw_407, tw_408, tw_409, by decide +kernel, by decide +kernel, by decide +kernel⟩
theorem yv_X2_clear : YV yX2_clear cX2_clear 2 none 0 := ⟨tw_411, tw_412, tw_413, tw_414, by decide +kernel, by decide +kernel, by decide +kernel⟩
theorem yv_X3_readLine : YV yX3_readLine cX3_readLine 1 (some .int) 0 := ⟨tw_416, tw_417, tw_418, tw_419, by decide +kernel, by decide +kernel, by decide +kernel⟩
theorem gfC_X10_54 {E : CE} (X : CX p s m meth c args cc nL RX10 ret) (I : WI (vC E) A s H locs σ) {k : Nat} (hk : KCo10 E k) (d : decode cc pc = .ok (.getfield 54, 3)) (kk : W p l e R s m args below meth c H locs cells slots Q (F0 m (pc + 3) ls (.int (σ k 8) :: rest))) : W p l e R s m args below meth c H locs cells slots Q (F0 m pc ls (.ref (ca E k) :: rest)) := r_get (V := (vC E)) X I hk.1 (hk.2 _) rfl inGX10 8 (by decide) tw_420 rfl d kk
theorem gfC_X10_43 {E : CE} (X : CX p s m meth c args cc nL RX10 ret) (I : WI (vC E) A s H locs σ) {k : Nat} (hk : KCo10 E k) {k' : Nat} (hk' : k + 42 = k') (d : decode cc pc = .ok (.getfield 43, 3)) (kk : W p l e R s m args below meth c H locs cells slots Q (F0 m (pc + 3) ls (.ref (ca E k') :: rest))) : W p l e R s m args below meth c H locs cells slots Q (F0 m pc ls (.ref (ca E k) :: rest)) := by subst hk'; exact r_get (V := (vC E)) X I hk.1 (hk.2 _) rfl inGX10 5 (by decide) tw_421 rfl d kk
theorem gfC_X10_122 {E : CE} (X : CX p s m meth c args cc nL RX10 ret) (I : WI (vC E) A s H locs σ) {k : Nat} (hk : KCo1 E k) {k' : Nat} (hk' : k + 1 = k') (d : decode cc pc = .ok (.getfield 122, 3)) (kk : W p l e R s m args below meth c H locs cells slots Q (F0 m (pc + 3) ls (.ref (ca E k') :: rest))) : W p l e R s m args below meth c H locs cells slots Q (F0 m pc ls (.ref (ca E k) :: rest)) := by subst hk'; exact r_get (V := (vC E)) X I hk.1 (hk.2 _) rfl inGX1 0 (by decide) tw_422 rfl d kk
theorem gfC_X10_58 {E : CE} (X : CX p s m meth c args cc nL RX10 ret) (I : WI (vC E) A s H locs σ) {k : Nat} (hk : KCo10 E k) {k' : Nat} (hk' : k + 56 = k') (d : decode cc pc = .ok (.getfield 58, 3)) (kk : W p l e R s m args below meth c H locs cells slots Q (F0 m (pc + 3) ls (.ref (ca E k') :: rest))) : W p l e R s m args below meth c H locs cells slots Q (F0 m pc ls (.ref (ca E k) :: rest)) := by subst hk'; exact r_get (V := (vC E)) X I hk.1 (hk.2 _) rfl inGX10 9 (by decide) tw_423 rfl d kk
theorem yv_X10_copyToTrial : YV yX10_copyToTrial cX10_copyToTrial 1 none 0 := ⟨tw_426, tw_427, tw_428, tw_429, by decide +kernel, by decide +kernel, by decide +kernel⟩
theorem gfC_X10_24 {E : CE} (X : CX p s m meth c args cc nL RX10 ret) (I : WI (vC E) A s H locs σ) {k : Nat} (hk : KCo10 E k) {k' : Nat} (hk' : k + 22 = k') (d : decode cc pc = .ok (.getfield 24, 3)) (kk : W p l e R s m args below meth c H locs cells slots Q (F0 m (pc + 3) ls (.ref (ca E k') :: rest))) : W p l e R s m args below meth c H locs cells slots Q (F0 m pc ls (.ref (ca E k) :: rest)) := by subst hk'; exact r_get (V := (vC E)) X I hk.1 (hk.2 _) rfl inGX10 2 (by decide) tw_430 rfl d kk
theorem yv_X8_passQuarters : YV yX8_passQuarters cX8_passQuarters 4 none 2 := ⟨tw_432, tw_433, tw_434, tw_435, by decide +kernel, by decide +kernel, by decide +kernel⟩
theorem gfC_X10_142 {E : CE} (X : CX p s m meth c args cc nL RX10 ret) (I : WI (vC E) A s H locs σ) {k : Nat} (hk : KCo1 E k) {k' : Nat} (hk' : k + 4 = k') (d : decode cc pc = .ok (.getfield 142, 3)) (kk : W p l e R s m args below meth c H locs cells slots Q (F0 m (pc + 3) ls (.ref (ca E k') :: rest))) : W p l e R s m args below meth c H locs cells slots Q (F0 m pc ls (.ref (ca E k) :: rest)) := by subst hk'; exact r_get (V := (vC E)) X I hk.1 (hk.2 _) rfl inGX1 2 (by decide) tw_437 rfl d kk
theorem yv_X6_lastQuarter : YV yX6_lastQuarter cX6_lastQuarter 3 (some .int) 0 := ⟨tw_439, tw_440, tw_441, tw_442, by decide +kernel, by decide +kernel, by decide +kernel⟩
theorem yv_X6_agrees : YV yX6_agrees cX6_agrees 6 (some .boolean) 2 := ⟨tw_444, tw_445, tw_446, tw_447, by decide +kernel, by decide +kernel, by decide +kernel⟩
theorem gfC_X10_32 {E : CE} (X : CX p s m meth c args cc nL RX10 ret) (I : WI (vC E) A s H locs σ) {k : Nat} (hk : KCo10 E k) {k' : Nat} (hk' : k + 23 = k') (d : decode cc pc = .ok (.getfield 32, 3)) (kk : W p l e R s m args below meth c H locs cells slots Q (F0 m (pc + 3) ls (.ref (ca E k') :: rest))) : W p l e R s m args below meth c H locs cells slots Q (F0 m pc ls (.ref (ca E k) :: rest)) := by subst hk'; exact r_get (V := (vC E)) X I hk.1 (hk.2 _) rfl inGX10 3 (by decide) tw_448 rfl d kk
theorem gfC_X10_113 {E : CE} (X : CX p s m meth c args cc nL RX10 ret) (I : WI (vC E) A s H locs σ) {k : Nat} (hk : KCo2 E k) (d : decode cc pc = .ok (.getfield 113, 3)) (kk : W p l e R s m args below meth c H locs cells slots Q (F0 m (pc + 3) ls (.int (σ k 0) :: rest))) : W p l e R s m args below meth c H locs cells slots Q (F0 m pc ls (.ref (ca E k) :: rest)) := r_get (V := (vC E)) X I hk.1 (hk.2 _) rfl inGX2 0 (by decide) tw_449 rfl d kk
theorem gfC_X10_62 {E : CE} (X : CX p s m meth c args cc nL RX10 ret) (I : WI (vC E) A s H locs σ) {k : Nat} (hk : KCo10 E k) {k' : Nat} (hk' : k + 57 = k') (d : decode cc pc = .ok (.getfield 62, 3)) (kk : W p l e R s m args below meth c H locs cells slots Q (F0 m (pc + 3) ls (.ref (ca E k') :: rest))) : W p l e R s m args below meth c H locs cells slots Q (F0 m pc ls (.ref (ca E k) :: rest)) := by subst hk'; exact r_get (V := (vC E)) X I hk.1 (hk.2 _) rfl inGX10 10 (by decide) tw_450 rfl d kk
theorem gfC_X10_116 {E : CE} (X : CX p s m meth c args cc nL RX10 ret) (I : WI (vC E) A s H locs σ) {k : Nat} (hk : KCo2 E k) (d : decode cc pc = .ok (.getfield 116, 3)) (kk : W p l e R s m args below meth c H locs cells slots Q (F0 m (pc + 3) ls (.int (σ k 1) :: rest))) : W p l e R s m args below meth c H locs cells slots Q (F0 m pc ls (.ref (ca E k) :: rest)) := r_get (V := (vC E)) X I hk.1 (hk.2 _) rfl inGX2 1 (by decide) tw_451 rfl d kk
theorem yv_X10_isAsSeen : YV yX10_isAsSeen cX10_isAsSeen 5 (some .boolean) 2 := ⟨tw_453, tw_454, tw_455, tw_456, by decide +kernel, by decide +kernel, by decide +kernel⟩
theorem yv_X10_tryQuarterWith : YV yX10_tryQuarterWith cX10_tryQuarterWith 3 none 2 := ⟨tw_458, tw_459, tw_460, tw_461, by decide +kernel, by decide +kernel, by decide +kernel⟩
theorem yv_X10_meetOwnersOfTrial : YV yX10_meetOwnersOfTrial cX10_meetOwnersOfTrial 2 none 0 := ⟨tw_463, tw_464, tw_465, tw_466, by decide +kernel, by decide +kernel, by decide +kernel⟩
theorem yv_X10_choose : YV yX10_choose cX10_choose 3 none 2 := ⟨tw_471, tw_472, tw_473, tw_474, by decide +kernel, by decide +kernel, by decide +kernel⟩
theorem gfC_X10_65 {E : CE} (X : CX p s m meth c args cc nL RX10 ret) (I : WI (vC E) A s H locs σ) {k : Nat} (hk : KCo10 E k) {k' : Nat} (hk' : k + 58 = k') (d : decode cc pc = .ok (.getfield 65, 3)) (kk : W p l e R s m args below meth c H locs cells slots Q (F0 m (pc + 3) ls (.ref (ca E k') :: rest))) : W p l e R s m args below meth c H locs cells slots Q (F0 m pc ls (.ref (ca E k) :: rest)) := by subst hk'; exact r_get (V := (vC E)) X I hk.1 (hk.2 _) rfl inGX10 11 (by decide) tw_475 rfl d kk
theorem yv_X10_gainOf : YV yX10_gainOf cX10_gainOf 4 (some .int) 2 := ⟨tw_477, tw_478, tw_479, tw_480, by decide +kernel, by decide +kernel, by decide +kernel⟩
theorem gfC_X10_20 {E : CE} (X : CX p s m meth c args cc nL RX10 ret) (I : WI (vC E) A s H locs σ) {k : Nat} (hk : KCo10 E k) {k' : Nat} (hk' : k + 3 = k') (d : decode cc pc = .ok (.getfield 20, 3)) (kk : W p l e R s m args below meth c H locs cells slots Q (F0 m (pc + 3) ls (.ref (ca E k') :: rest))) : W p l e R s m args below meth c H locs cells slots Q (F0 m pc ls (.ref (ca E k) :: rest)) := by subst hk'; exact r_get (V := (vC E)) X I hk.1 (hk.2 _) rfl inGX10 1 (by decide) tw_481 rfl d kk
theorem gfC_X10_80 {E : CE} (X : CX p s m meth c args cc nL RX10 ret) (I : WI (vC E) A s H locs σ) {k : Nat} (hk : KCo9 E k) (d : decode cc pc = .ok (.getfield 80, 3)) (kk : W p l e R s m args below meth c H locs cells slots Q (F0 m (pc + 3) ls (.int (σ k 1) :: rest))) : W p l e R s m args below meth c H locs cells slots Q (F0 m pc ls (.ref (ca E k) :: rest)) := r_get (V := (vC E)) X I hk.1 (hk.2 _) rfl inGX9 1 (by decide) tw_482 rfl d kk
theorem yv_X9_add : YV yX9_add cX9_add 3 none 1 := ⟨tw_484, tw_485, tw_486, tw_487, by decide +kernel, by decide +kernel, by decide +kernel⟩
theorem yv_X1_refuse : YV yX1_refuse cX1_refuse 2 (some .int) 1 := ⟨tw_489, tw_490, tw_491, tw_492, by decide +kernel, by decide +kernel, by decide +kernel⟩
theorem gfC_X10_133 {E : CE} (X : CX p s m meth c args cc nL RX10 ret) (I : WI (vC E) A s H locs σ) {k : Nat} (hk : KCo1 E k) {k' : Nat} (hk' : k + 2 = k') (d : decode cc pc = .ok (.getfield 133, 3)) (kk : W p l e R s m args below meth c H locs cells slots Q (F0 m (pc + 3) ls (.ref (ca E k') :: rest))) : W p l e R s m args below meth c H locs cells slots Q (F0 m pc ls (.ref (ca E k) :: rest)) := by subst hk'; exact r_get (V := (vC E)) X I hk.1 (hk.2 _) rfl inGX1 1 (by decide) tw_494 rfl d kk
theorem yv_X0_takeBack : YV yX0_takeBack cX0_takeBack 2 (some .int) 1 := ⟨tw_496, tw_497, tw_498, tw_499, by decide +kernel, by decide +kernel, by decide +kernel⟩
theorem pfC_X10_146 {E : CE} (X : CX p s m meth c args cc nL RX10 ret) (I : WI (vC E) A s H locs σ) {k : Nat} (hk : KCo6 E k) {x : Int32} (d : decode cc pc = .ok (.putfield 146, 3)) (kk : ∀ (H1 : Heap) (locs1 : List Loc), WI (vC E) A s H1 locs1 (ms σ k 1 x) → W p l e R s m args below meth c H1 locs1 cells slots Q (F0 m (pc + 3) ls rest)) : W p l e R s m args below meth c H locs cells slots Q (F0 m pc ls (.int x :: .ref (ca E k) :: rest)) := r_put (V := (vC E)) X I hk.1 (hk.2 _) rfl inGX6 tyX6 tyX6_ok nmX6 1 (by decide) tw_500 rfl rfl rfl (Nat.le_of_ble_eq_true rfl) (hk.2 _) d kk
theorem gfC_X10_47 {E : CE} (X : CX p s m meth c args cc nL RX10 ret) (I : WI (vC E) A s H locs σ) {k : Nat} (hk : KCo10 E k) {k' : Nat} (hk' : k + 49 = k') (d : decode cc pc = .ok (.getfield 47, 3)) (kk : W p l e R s m args below meth c H locs cells slots Q (F0 m (pc + 3) ls (.ref (ca E k') :: rest))) : W p l e R s m args below meth c H locs cells slots Q (F0 m pc ls (.ref (ca E k) :: rest)) := by subst hk'; exact r_get (V := (vC E)) X I hk.1 (hk.2 _) rfl inGX10 6 (by decide) tw_501 rfl d kk
theorem yv_X1_copyFrom : YV yX1_copyFrom cX1_copyFrom 2 none 1 := ⟨tw_503, tw_504, tw_505, tw_506, by decide +kernel, by decide +kernel, by decide +kernel⟩
theorem pfC_X10_50 {E : CE} (X : CX p s m meth c args cc nL RX10 ret) (I : WI (vC E) A s H locs σ) {k : Nat} (hk : KCo10 E k) {x : Int32} (hz : narrow .boolean (.int x) = .int x ∧ fits .boolean (.int x) = true) (d : decode cc pc = .ok (.putfield 50, 3)) (kk : ∀ (H1 : Heap) (locs1 : List Loc), WI (vC E) A s H1 locs1 (ms σ k 7 x) → W p l e R s m args below meth c H1 locs1 cells slots Q (F0 m (pc + 3) ls rest)) : W p l e R s m args below meth c H locs cells slots Q (F0 m pc ls (.int x :: .ref (ca E k) :: rest)) := r_put (V := (vC E)) X I hk.1 (hk.2 _) rfl inGX10 tyX10 tyX10_ok nmX10 7 (by decide) tw_507 rfl hz.1 hz.2 (Nat.le_of_ble_eq_true rfl) (hk.2 _) d kk
theorem gfC_X10_50 {E : CE} (X : CX p s m meth c args cc nL RX10 ret) (I : WI (vC E) A s H locs σ) {k : Nat} (hk : KCo10 E k) (d : decode cc pc = .ok (.getfield 50, 3)) (kk : W p l e R s m args below meth c H locs cells slots Q (F0 m (pc + 3) ls (.int (σ k 7) :: rest))) : W p l e R s m args below meth c H locs cells slots Q (F0 m pc ls (.ref (ca E k) :: rest)) := r_get (V := (vC E)) X I hk.1 (hk.2 _) rfl inGX10 7 (by decide) tw_507 rfl d kk
theorem yv_X9_begin : YV yX9_begin cX9_begin 2 none 1 := ⟨tw_509, tw_510, tw_511, tw_512, by decide +kernel, by decide +kernel, by decide +kernel⟩
theorem gfC_X10_10 {E : CE} (X : CX p s m meth c args cc nL RX10 ret) (I : WI (vC E) A s H locs σ) {k : Nat} (hk : KCo10 E k) {k' : Nat} (hk' : k + 1 = k') (d : decode cc pc = .ok (.getfield 10, 3)) (kk : W p l e R s m args below meth c H locs cells slots Q (F0 m (pc + 3) ls (.ref (ca E k') :: rest))) : W p l e R s m args below meth c H locs cells slots Q (F0 m pc ls (.ref (ca E k) :: rest)) := by subst hk'; exact r_get (V := (vC E)) X I hk.1 (hk.2 _) rfl inGX10 0 (by decide) tw_513 rfl d kk
theorem yv_X3_read : YV yX3_read cX3_read 3 (some .int) 0 := ⟨tw_515, tw_516, tw_517, tw_518, by decide +kernel, by decide +kernel, by decide +kernel⟩
theorem pfC_X10_80 {E : CE} (X : CX p s m meth c args cc nL RX10 ret) (I : WI (vC E) A s H locs σ) {k : Nat} (hk : KCo9 E k) {x : Int32} (d : decode cc pc = .ok (.putfield 80, 3)) (kk : ∀ (H1 : Heap) (locs1 : List Loc), WI (vC E) A s H1 locs1 (ms σ k 1 x) → W p l e R s m args below meth c H1 locs1 cells slots Q (F0 m (pc + 3) ls rest)) : W p l e R s m args below meth c H locs cells slots Q (F0 m pc ls (.int x :: .ref (ca E k) :: rest)) := r_put (V := (vC E)) X I hk.1 (hk.2 _) rfl inGX9 tyX9 tyX9_ok nmX9 1 (by decide) tw_482 rfl rfl rfl (Nat.le_of_ble_eq_true rfl) (hk.2 _) d kk
theorem pfC_X10_54 {E : CE} (X : CX p s m meth c args cc nL RX10 ret) (I : WI (vC E) A s H locs σ) {k : Nat} (hk : KCo10 E k) {x : Int32} (d : decode cc pc = .ok (.putfield 54, 3)) (kk : ∀ (H1 : Heap) (locs1 : List Loc), WI (vC E) A s H1 locs1 (ms σ k 8 x) → W p l e R s m args below meth c H1 locs1 cells slots Q (F0 m (pc + 3) ls rest)) : W p l e R s m args below meth c H locs cells slots Q (F0 m pc ls (.int x :: .ref (ca E k) :: rest)) := r_put (V := (vC E)) X I hk.1 (hk.2 _) rfl inGX10 tyX10 tyX10_ok nmX10 8 (by decide) tw_420 rfl rfl rfl (Nat.le_of_ble_eq_true rfl) (hk.2 _) d kk
theorem gfC_X10_108 {E : CE} (X : CX p s m meth c args cc nL RX10 ret) (I : WI (vC E) A s H locs σ) {k : Nat} (hk : KCo3 E k) {k' : Nat} (hk' : k + 8 = k') (d : decode cc pc = .ok (.getfield 108, 3)) (kk : W p l e R s m args below meth c H locs cells slots Q (F0 m (pc + 3) ls (.ref (ca E k') :: rest))) : W p l e R s m args below meth c H locs cells slots Q (F0 m pc ls (.ref (ca E k) :: rest)) := by subst hk'; exact r_get (V := (vC E)) X I hk.1 (hk.2 _) rfl inGX3 2 (by decide) tw_519 rfl d kk
theorem yv_X2_copyFrom : YV yX2_copyFrom cX2_copyFrom 2 none 1 := ⟨tw_521, tw_522, tw_523, tw_524, by decide +kernel, by decide +kernel, by decide +kernel⟩
theorem gfC_X10_73 {E : CE} (X : CX p s m meth c args cc nL RX10 ret) (I : WI (vC E) A s H locs σ) {k : Nat} (hk : KCo2 E k) {k' : Nat} (hk' : k + 11 = k') (d : decode cc pc = .ok (.getfield 73, 3)) (kk : W p l e R s m args below meth c H locs cells slots Q (F0 m (pc + 3) ls (.ref (ca E k') :: rest))) : W p l e R s m args below meth c H locs cells slots Q (F0 m pc ls (.ref (ca E k) :: rest)) := by subst hk'; exact r_get (V := (vC E)) X I hk.1 (hk.2 _) rfl inGX2 9 (by decide) tw_525 rfl d kk
theorem yv_X1_begin : YV yX1_begin cX1_begin 2 none 1 := ⟨tw_527, tw_528, tw_529, tw_530, by decide +kernel, by decide +kernel, by decide +kernel⟩
theorem gfC_X10_102 {E : CE} (X : CX p s m meth c args cc nL RX10 ret) (I : WI (vC E) A s H locs σ) {k : Nat} (hk : KCo9 E k) (d : decode cc pc = .ok (.getfield 102, 3)) (kk : W p l e R s m args below meth c H locs cells slots Q (F0 m (pc + 3) ls (.int (σ k 3) :: rest))) : W p l e R s m args below meth c H locs cells slots Q (F0 m pc ls (.ref (ca E k) :: rest)) := r_get (V := (vC E)) X I hk.1 (hk.2 _) rfl inGX9 3 (by decide) tw_531 rfl d kk
theorem gfC_X10_119 {E : CE} (X : CX p s m meth c args cc nL RX10 ret) (I : WI (vC E) A s H locs σ) {k : Nat} (hk : KCo2 E k) (d : decode cc pc = .ok (.getfield 119, 3)) (kk : W p l e R s m args below meth c H locs cells slots Q (F0 m (pc + 3) ls (.int (σ k 2) :: rest))) : W p l e R s m args below meth c H locs cells slots Q (F0 m pc ls (.ref (ca E k) :: rest)) := r_get (V := (vC E)) X I hk.1 (hk.2 _) rfl inGX2 2 (by decide) tw_532 rfl d kk
theorem yv_X8_housesOf : YV yX8_housesOf cX8_housesOf 5 (some .int) 2 := ⟨tw_534, tw_535, tw_536, tw_537, by decide +kernel, by decide +kernel, by decide +kernel⟩
theorem yv_X8_coinsOfAll : YV yX8_coinsOfAll cX8_coinsOfAll 4 (some .int) 1 := ⟨tw_539, tw_540, tw_541, tw_542, by decide +kernel, by decide +kernel, by decide +kernel⟩
theorem gfC_X10_137 {E : CE} (X : CX p s m meth c args cc nL RX10 ret) (I : WI (vC E) A s H locs σ) {k : Nat} (hk : KCo0 E k) (d : decode cc pc = .ok (.getfield 137, 3)) (kk : W p l e R s m args below meth c H locs cells slots Q (F0 m (pc + 3) ls (.int (σ k 2) :: rest))) : W p l e R s m args below meth c H locs cells slots Q (F0 m pc ls (.ref (ca E k) :: rest)) := r_get (V := (vC E)) X I hk.1 (hk.2 _) rfl inGX0 2 (by decide) tw_543 rfl d kk
theorem gfC_X10_146 {E : CE} (X : CX p s m meth c args cc nL RX10 ret) (I : WI (vC E) A s H locs σ) {k : Nat} (hk : KCo6 E k) (d : decode cc pc = .ok (.getfield 146, 3)) (kk : W p l e R s m args below meth c H locs cells slots Q (F0 m (pc + 3) ls (.int (σ k 1) :: rest))) : W p l e R s m args below meth c H locs cells slots Q (F0 m pc ls (.ref (ca E k) :: rest)) := r_get (V := (vC E)) X I hk.1 (hk.2 _) rfl inGX6 1 (by decide) tw_500 rfl d kk
theorem gfC_X10_149 {E : CE} (X : CX p s m meth c args cc nL RX10 ret) (I : WI (vC E) A s H locs σ) {k : Nat} (hk : KCo1 E k) {k' : Nat} (hk' : k + 6 = k') (d : decode cc pc = .ok (.getfield 149, 3)) (kk : W p l e R s m args below meth c H locs cells slots Q (F0 m (pc + 3) ls (.ref (ca E k') :: rest))) : W p l e R s m args below meth c H locs cells slots Q (F0 m pc ls (.ref (ca E k) :: rest)) := by subst hk'; exact r_get (V := (vC E)) X I hk.1 (hk.2 _) rfl inGX1 3 (by decide) tw_544 rfl d kk
theorem yv_X10_needHouse : YV yX10_needHouse cX10_needHouse 2 none 1 := ⟨tw_546, tw_547, tw_548, tw_549, by decide +kernel, by decide +kernel, by decide +kernel⟩
theorem gfC_X10_160 {E : CE} (X : CX p s m meth c args cc nL RX10 ret) (I : WI (vC E) A s H locs σ) {k : Nat} (hk : KCo2 E k) {k' : Nat} (hk' : k + 1 = k') (d : decode cc pc = .ok (.getfield 160, 3)) (kk : W p l e R s m args below meth c H locs cells slots Q (F0 m (pc + 3) ls (.ref (ca E k') :: rest))) : W p l e R s m args below meth c H locs cells slots Q (F0 m pc ls (.ref (ca E k) :: rest)) := by subst hk'; exact r_get (V := (vC E)) X I hk.1 (hk.2 _) rfl inGX2 3 (by decide) tw_550 rfl d kk
theorem gfC_X10_163 {E : CE} (X : CX p s m meth c args cc nL RX10 ret) (I : WI (vC E) A s H locs σ) {k : Nat} (hk : KCo2 E k) {k' : Nat} (hk' : k + 2 = k') (d : decode cc pc = .ok (.getfield 163, 3)) (kk : W p l e R s m args below meth c H locs cells slots Q (F0 m (pc + 3) ls (.ref (ca E k') :: rest))) : W p l e R s m args below meth c H locs cells slots Q (F0 m pc ls (.ref (ca E k) :: rest)) := by subst hk'; exact r_get (V := (vC E)) X I hk.1 (hk.2 _) rfl inGX2 4 (by decide) tw_551 rfl d kk
theorem yv_X10_isSealedNow : YV yX10_isSealedNow cX10_isSealedNow 2 (some .boolean) 1 := ⟨tw_553, tw_554, tw_555, tw_556, by decide +kernel, by decide +kernel, by decide +kernel⟩
theorem yv_X10_needTenant : YV yX10_needTenant cX10_needTenant 2 none 1 := ⟨tw_559, tw_560, tw_561, tw_562, by decide +kernel, by decide +kernel, by decide +kernel⟩
theorem gfC_X10_179 {E : CE} (X : CX p s m meth c args cc nL RX10 ret) (I : WI (vC E) A s H locs σ) {k : Nat} (hk : KCo2 E k) {k' : Nat} (hk' : k + 3 = k') (d : decode cc pc = .ok (.getfield 179, 3)) (kk : W p l e R s m args below meth c H locs cells slots Q (F0 m (pc + 3) ls (.ref (ca E k') :: rest))) : W p l e R s m args below meth c H locs cells slots Q (F0 m pc ls (.ref (ca E k) :: rest)) := by subst hk'; exact r_get (V := (vC E)) X I hk.1 (hk.2 _) rfl inGX2 5 (by decide) tw_563 rfl d kk
theorem gfC_X10_182 {E : CE} (X : CX p s m meth c args cc nL RX10 ret) (I : WI (vC E) A s H locs σ) {k : Nat} (hk : KCo2 E k) {k' : Nat} (hk' : k + 4 = k') (d : decode cc pc = .ok (.getfield 182, 3)) (kk : W p l e R s m args below meth c H locs cells slots Q (F0 m (pc + 3) ls (.ref (ca E k') :: rest))) : W p l e R s m args below meth c H locs cells slots Q (F0 m pc ls (.ref (ca E k) :: rest)) := by subst hk'; exact r_get (V := (vC E)) X I hk.1 (hk.2 _) rfl inGX2 6 (by decide) tw_564 rfl d kk
theorem yv_X1_actTo : YV yX1_actTo cX1_actTo 4 (some .int) 2 := ⟨tw_566, tw_567, tw_568, tw_569, by decide +kernel, by decide +kernel, by decide +kernel⟩
theorem yv_X10_needAhead : YV yX10_needAhead cX10_needAhead 2 none 1 := ⟨tw_571, tw_572, tw_573, tw_574, by decide +kernel, by decide +kernel, by decide +kernel⟩
theorem yv_X10_tryAhead : YV yX10_tryAhead cX10_tryAhead 2 none 1 := ⟨tw_576, tw_577, tw_578, tw_579, by decide +kernel, by decide +kernel, by decide +kernel⟩
theorem yv_X10_needWhat : YV yX10_needWhat cX10_needWhat 3 none 2 := ⟨tw_581, tw_582, tw_583, tw_584, by decide +kernel, by decide +kernel, by decide +kernel⟩
theorem yv_X8_buriedIn : YV yX8_buriedIn cX8_buriedIn 3 (some .int) 2 := ⟨tw_586, tw_587, tw_588, tw_589, by decide +kernel, by decide +kernel, by decide +kernel⟩
theorem yv_X10_firstWhen : YV yX10_firstWhen cX10_firstWhen 5 (some .int) 3 := ⟨tw_592, tw_593, tw_594, tw_595, by decide +kernel, by decide +kernel, by decide +kernel⟩
theorem yv_X8_likingNow : YV yX8_likingNow cX8_likingNow 4 (some .int) 3 := ⟨tw_598, tw_599, tw_600, tw_601, by decide +kernel, by decide +kernel, by decide +kernel⟩
theorem gfC_X10_36 {E : CE} (X : CX p s m meth c args cc nL RX10 ret) (I : WI (vC E) A s H locs σ) {k : Nat} (hk : KCo10 E k) {k' : Nat} (hk' : k + 38 = k') (d : decode cc pc = .ok (.getfield 36, 3)) (kk : W p l e R s m args below meth c H locs cells slots Q (F0 m (pc + 3) ls (.ref (ca E k') :: rest))) : W p l e R s m args below meth c H locs cells slots Q (F0 m pc ls (.ref (ca E k) :: rest)) := by subst hk'; exact r_get (V := (vC E)) X I hk.1 (hk.2 _) rfl inGX10 4 (by decide) tw_602 rfl d kk
theorem yv_X7_begin : YV yX7_begin cX7_begin 4 none 3 := ⟨tw_604, tw_605, tw_606, tw_607, by decide +kernel, by decide +kernel, by decide +kernel⟩
theorem yv_X7_weigh : YV yX7_weigh cX7_weigh 3 none 0 := ⟨tw_609, tw_610, tw_611, tw_612, by decide +kernel, by decide +kernel, by decide +kernel⟩
theorem yv_X7_whoHas : YV yX7_whoHas cX7_whoHas 5 (some .int) 1 := ⟨tw_614, tw_615, tw_616, tw_617, by decide +kernel, by decide +kernel, by decide +kernel⟩
theorem yv_X7_howMuch : YV yX7_howMuch cX7_howMuch 1 (some .int) 0 := ⟨tw_619, tw_620, tw_621, tw_622, by decide +kernel, by decide +kernel, by decide +kernel⟩
theorem yv_X7_tell : YV yX7_tell cX7_tell 4 none 3 := ⟨tw_624, tw_625, tw_626, tw_627, by decide +kernel, by decide +kernel, by decide +kernel⟩
theorem yv_X6_add : YV yX6_add cX6_add 6 none 4 := ⟨tw_629, tw_630, tw_631, tw_632, by decide +kernel, by decide +kernel, by decide +kernel⟩
theorem yv_X10_meetOwners : YV yX10_meetOwners cX10_meetOwners 3 none 0 := ⟨tw_634, tw_635, tw_636, tw_637, by decide +kernel, by decide +kernel, by decide +kernel⟩
theorem yv_X10_playCouple : YV yX10_playCouple cX10_playCouple 4 none 3 := ⟨tw_639, tw_640, tw_641, tw_642, by decide +kernel, by decide +kernel, by decide +kernel⟩
theorem yv_X8_passYears : YV yX8_passYears cX8_passYears 7 (some .int) 3 := ⟨tw_644, tw_645, tw_646, tw_647, by decide +kernel, by decide +kernel, by decide +kernel⟩
theorem yv_X10_terrace : YV yX10_terrace cX10_terrace 3 (some .int) 1 := ⟨tw_649, tw_650, tw_651, tw_652, by decide +kernel, by decide +kernel, by decide +kernel⟩
theorem yv_X10_count : YV yX10_count cX10_count 2 (some .int) 1 := ⟨tw_655, tw_656, tw_657, tw_658, by decide +kernel, by decide +kernel, by decide +kernel⟩
theorem yv_X10_house : YV yX10_house cX10_house 3 (some .int) 2 := ⟨tw_661, tw_662, tw_663, tw_664, by decide +kernel, by decide +kernel, by decide +kernel⟩
theorem yv_X10_tenant : YV yX10_tenant cX10_tenant 3 (some .int) 2 := ⟨tw_666, tw_667, tw_668, tw_669, by decide +kernel, by decide +kernel, by decide +kernel⟩
theorem yv_X10_buy : YV yX10_buy cX10_buy 3 (some .int) 2 := ⟨tw_671, tw_672, tw_673, tw_674, by decide +kernel, by decide +kernel, by decide +kernel⟩
theorem yv_X10_cats : YV yX10_cats cX10_cats 3 (some .int) 2 := ⟨tw_676, tw_677, tw_678, tw_679, by decide +kernel, by decide +kernel, by decide +kernel⟩
theorem yv_X10_lead : YV yX10_lead cX10_lead 5 (some .boolean) 2 := ⟨tw_681, tw_682, tw_683, tw_684, by decide +kernel, by decide +kernel, by decide +kernel⟩
theorem yv_X10_temper : YV yX10_temper cX10_temper 3 (some .int) 2 := ⟨tw_686, tw_687, tw_688, tw_689, by decide +kernel, by decide +kernel, by decide +kernel⟩
theorem yv_X10_then : YV yX10_then cX10_then 3 (some .int) 2 := ⟨tw_691, tw_692, tw_693, tw_694, by decide +kernel, by decide +kernel, by decide +kernel⟩
theorem yv_X10_purse : YV yX10_purse cX10_purse 4 (some .int) 3 := ⟨tw_696, tw_697, tw_698, tw_699, by decide +kernel, by decide +kernel, by decide +kernel⟩
theorem yv_X10_sealed : YV yX10_sealed cX10_sealed 3 (some .int) 1 := ⟨tw_701, tw_702, tw_703, tw_704, by decide +kernel, by decide +kernel, by decide +kernel⟩
theorem yv_X10_gets : YV yX10_gets cX10_gets 3 (some .int) 2 := ⟨tw_706, tw_707, tw_708, tw_709, by decide +kernel, by decide +kernel, by decide +kernel⟩
theorem yv_X10_loses : YV yX10_loses cX10_loses 3 (some .int) 1 := ⟨tw_711, tw_712, tw_713, tw_714, by decide +kernel, by decide +kernel, by decide +kernel⟩
theorem yv_X10_most : YV yX10_most cX10_most 6 (some .int) 1 := ⟨tw_716, tw_717, tw_718, tw_719, by decide +kernel, by decide +kernel, by decide +kernel⟩
theorem yv_X10_row : YV yX10_row cX10_row 7 (some .int) 2 := ⟨tw_721, tw_722, tw_723, tw_724, by decide +kernel, by decide +kernel, by decide +kernel⟩
theorem yv_X10_empty : YV yX10_empty cX10_empty 2 (some .int) 1 := ⟨tw_726, tw_727, tw_728, tw_729, by decide +kernel, by decide +kernel, by decide +kernel⟩
theorem yv_X10_liking : YV yX10_liking cX10_liking 3 (some .int) 2 := ⟨tw_731, tw_732, tw_733, tw_734, by decide +kernel, by decide +kernel, by decide +kernel⟩
theorem yv_X10_leastChops : YV yX10_leastChops cX10_leastChops 4 (some .int) 2 := ⟨tw_736, tw_737, tw_738, tw_739, by decide +kernel, by decide +kernel, by decide +kernel⟩
theorem yv_X10_toWin : YV yX10_toWin cX10_toWin 7 (some .int) 2 := ⟨tw_741, tw_742, tw_743, tw_744, by decide +kernel, by decide +kernel, by decide +kernel⟩
theorem yv_X10_ruin : YV yX10_ruin cX10_ruin 6 (some .int) 1 := ⟨tw_746, tw_747, tw_748, tw_749, by decide +kernel, by decide +kernel, by decide +kernel⟩
theorem yv_X10_share : YV yX10_share cX10_share 5 (some .int) 2 := ⟨tw_751, tw_752, tw_753, tw_754, by decide +kernel, by decide +kernel, by decide +kernel⟩
theorem yv_X10_beside : YV yX10_beside cX10_beside 4 (some .int) 1 := ⟨tw_756, tw_757, tw_758, tw_759, by decide +kernel, by decide +kernel, by decide +kernel⟩
theorem yv_X10_oldest : YV yX10_oldest cX10_oldest 6 (some .int) 1 := ⟨tw_761, tw_762, tw_763, tw_764, by decide +kernel, by decide +kernel, by decide +kernel⟩
theorem yv_X10_envy : YV yX10_envy cX10_envy 5 (some .int) 1 := ⟨tw_766, tw_767, tw_768, tw_769, by decide +kernel, by decide +kernel, by decide +kernel⟩
theorem yv_X10_see : YV yX10_see cX10_see 5 (some .int) 4 := ⟨tw_771, tw_772, tw_773, tw_774, by decide +kernel, by decide +kernel, by decide +kernel⟩
theorem yv_X10_pockets : YV yX10_pockets cX10_pockets 6 (some .int) 1 := ⟨tw_776, tw_777, tw_778, tw_779, by decide +kernel, by decide +kernel, by decide +kernel⟩
theorem yv_X10_look : YV yX10_look cX10_look 6 (some .int) 1 := ⟨tw_781, tw_782, tw_783, tw_784, by decide +kernel, by decide +kernel, by decide +kernel⟩
theorem yv_X10_game : YV yX10_game cX10_game 8 (some .int) 3 := ⟨tw_786, tw_787, tw_788, tw_789, by decide +kernel, by decide +kernel, by decide +kernel⟩
theorem yv_X10_years : YV yX10_years cX10_years 5 (some .int) 3 := ⟨tw_791, tw_792, tw_793, tw_794, by decide +kernel, by decide +kernel, by decide +kernel⟩
end RWC
theorem tw_795 : (.classLink RX10 152 (exNm 0) : Cond) ∈ GG := gg_4 (List.mem_of_getElem? (i := 85) (by decide +kernel)) (by decide +kernel)
theorem tw_796 : (.initialized (exNm 0) : Cond) ∈ GG := gg_1 (List.mem_of_getElem? (i := 23) (by decide +kernel)) (by decide +kernel)
theorem tw_797 : (.classLink RX10 89 (exNm 1) : Cond) ∈ GG := gg_3 (List.mem_of_getElem? (i := 37) (by decide +kernel)) (by decide +kernel)
theorem tw_798 : (.initialized (exNm 1) : Cond) ∈ GG := gg_1 (List.mem_of_getElem? (i := 17) (by decide +kernel)) (by decide +kernel)

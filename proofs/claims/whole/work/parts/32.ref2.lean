def rmE (d : Nat) : Room := { frames := 20 + 10 * d, cells := 0, slots := 0, locals := 800 + 300 * d }

def rm_X11_readPart (d : Nat) : Room := { frames := 21 + 10 * d, cells := 0, slots := 0, locals := 840 + 300 * d }
def m_X11_readPart (kE : Mem → Int32 → Option Mem) (σ : Mem) (x1 : Int32) : Option (Mem) := (if (σ 0 28) = (0 : Int32) then (if (σ 0 24) = (2 : Int32) then ((m_X11_readNumber σ (0 : Int32) (9999 : Int32)).bind fun q16 => ((m_X11_lay q16.2 q16.1).bind fun q17 => (some q17))) else (if (σ 0 24) = (1 : Int32) then ((m_X11_which (vsel (σ 0 4)) σ).bind fun q7 => (if q7 = (-1 : Int32) then ((m_X11_wrong σ (3 : Int32)).bind fun q12 => ((m_X11_lay q12 ((-1 : Int32) - q7)).bind fun q13 => (if (q13 0 28) = (0 : Int32) then ((m_X11_stepOn q13).bind fun q15 => (some q15)) else (some q13)))) else ((m_X11_lay σ ((-1 : Int32) - q7)).bind fun q9 => (if (q9 0 28) = (0 : Int32) then ((m_X11_stepOn q9).bind fun q11 => (some q11)) else (some q9))))) else ((m_X11_mark σ (40 : Int32)).bind fun q4 => ((kE q4 (x1 + (1 : Int32))).bind fun q5 => ((m_X11_mark q5 (41 : Int32)).bind fun q6 => (some q6)))))) else (some σ))
set_option maxHeartbeats 4000000 in
set_option maxRecDepth 100000 in
theorem w_X11_readPart_0 {p : Program} {l : Launch} {e : Env} {s : State} {m : MethodId} {args : Array Value} {below : List Frame} {meth : Method} {c : Code} {A : Nat → Prop} {E : RE} {q : Mem} (X : CX p s m meth c args cX11_readPart 3 RX11 none) {kE : Mem → Int32 → Option Mem} {d : Nat} (hE : ∀ (σ : Mem) (a : Int32) (q : Mem), kE σ a = some q → CV l (vR E) yX11_readExpression (.code yX11_readExpression cX11_readExpression 3 none :: GG) (rmE d) [.ref (ra E 0), .int a] σ q) : ∀ (σ : Mem) (x1 : Int32) , m_X11_readPart kE σ x1 = some q → ∀ (H : Heap) (locs : List Loc) (ls : Array Slot), WI (vR E) A s H locs σ → lv_has ls 3 [(0, .ref (ra E 0)), (1, .int x1)] → W p l e (rm_X11_readPart d) s m args below meth c H locs 0 0 (MQ below (QV (vR E) A q) args s 0 0 A) (F0 m 0 ls []) := by
  have hx := X.1
  have hb := X.2.1
  intro σ x1 h H locs ls I hl
  unfold m_X11_readPart at h
  refine lv_aload_n hx hb dX11_readPart_0 rfl (lv_at hl 0 rfl) ?_
  refine gfR_X11_244 X I dX11_readPart_1 ?_
  refine lv_if_eq (tgt := 8) hx hb dX11_readPart_4 (by decide) (fun c1 => ?_) (fun c1 => ?_)
  · have h := ite_t h c1
    refine lv_aload_n hx hb dX11_readPart_8 rfl (lv_at hl 0 rfl) ?_
    refine gfR_X11_218 X I dX11_readPart_9 ?_
    refine lv_iconst (v := 2) hx hb dX11_readPart_12 (by decide) ?_
    refine lv_icmp_ne (tgt := 29) hx hb dX11_readPart_13 (by decide) (fun c2 => ?_) (fun c2 => ?_)
    · have h := ite_f h c2
      refine lv_aload_n hx hb dX11_readPart_29 rfl (lv_at hl 0 rfl) ?_
      refine gfR_X11_218 X I dX11_readPart_30 ?_
      refine lv_iconst (v := 1) hx hb dX11_readPart_33 (by decide) ?_
      refine lv_icmp_ne (tgt := 75) hx hb dX11_readPart_34 (by decide) (fun c3 => ?_) (fun c3 => ?_)
      · have h := ite_f h c3
        refine lv_aload_n hx hb dX11_readPart_75 rfl (lv_at hl 0 rfl) ?_
        refine lv_bipush (v := 40) hx hb dX11_readPart_76 (by decide) ?_
        obtain ⟨q4, hq4, h⟩ := bd h
        refine r_callVV (V := (vR E)) (k := 0) (As := [.int (40 : Int32)]) (rest := []) X I hl (c_X11_mark  hq4) yv_X11_mark tw_859 ⟨rfl, rfl, (by simp only [rm_X11_mark, rm_X11_readPart]; omega), (by simp only [rm_X11_mark, rm_X11_readPart]; omega)⟩ (Nat.le_of_ble_eq_true rfl) rfl rfl rfl rfl (Nat.le_of_ble_eq_true rfl) dX11_readPart_78 (fun H locs I => ?_)
        refine lv_aload_n hx hb dX11_readPart_81 rfl (lv_at hl 0 rfl) ?_
        refine lv_iload_n hx hb dX11_readPart_82 rfl (lv_at hl 1 rfl) ?_
        refine lv_iconst (v := 1) hx hb dX11_readPart_83 (by decide) ?_
        refine lv_iadd hx hb dX11_readPart_84 ?_
        obtain ⟨q5, hq5, h⟩ := bd h
        refine r_callVV (V := (vR E)) (k := 0) (As := [.int (x1 + (1 : Int32))]) (rest := []) X I hl (hE _ _ _ hq5) yv_X11_readExpression tw_864 ⟨rfl, rfl, (by simp only [rmE, rm_X11_readPart]; omega), (by simp only [rmE, rm_X11_readPart]; omega)⟩ (Nat.le_of_ble_eq_true rfl) rfl rfl rfl rfl (Nat.le_of_ble_eq_true rfl) dX11_readPart_85 (fun H locs I => ?_)
        refine lv_aload_n hx hb dX11_readPart_88 rfl (lv_at hl 0 rfl) ?_
        refine lv_bipush (v := 41) hx hb dX11_readPart_89 (by decide) ?_
        obtain ⟨q6, hq6, h⟩ := bd h
        refine r_callVV (V := (vR E)) (k := 0) (As := [.int (41 : Int32)]) (rest := []) X I hl (c_X11_mark  hq6) yv_X11_mark tw_859 ⟨rfl, rfl, (by simp only [rm_X11_mark, rm_X11_readPart]; omega), (by simp only [rm_X11_mark, rm_X11_readPart]; omega)⟩ (Nat.le_of_ble_eq_true rfl) rfl rfl rfl rfl (Nat.le_of_ble_eq_true rfl) dX11_readPart_91 (fun H locs I => ?_)
        exact r_vret X I (Option.some.inj h).symm dX11_readPart_94
      · have h := ite_t h c3
        refine lv_aload_n hx hb dX11_readPart_37 rfl (lv_at hl 0 rfl) ?_
        refine lv_aload_n hx hb dX11_readPart_38 rfl (lv_at hl 0 rfl) ?_
        refine gfR_X11_52 X I dX11_readPart_39 ?_
        obtain ⟨q7, hq7, h⟩ := bd h
        refine r_callVI (V := (vR E)) (k := 0) (As := [.ref (ra E (vsel (σ 0 4)))]) (rest := []) X I hl (c_X11_which (kR_vsel E _) hq7) yv_X11_which tw_870 ⟨rfl, rfl, (by simp only [rm_X11_which, rm_X11_readPart]; omega), (by simp only [rm_X11_which, rm_X11_readPart]; omega)⟩ (Nat.le_of_ble_eq_true rfl) rfl rfl rfl rfl (Nat.le_of_ble_eq_true rfl) dX11_readPart_42 (fun H locs I => ?_)
        refine lv_istore_n (lv' := [(2, .int q7), (0, .ref (ra E 0)), (1, .int x1)]) hx hb dX11_readPart_45 rfl hl (by decide) rfl (fun ls hl => ?_)
        refine lv_iload_n hx hb dX11_readPart_46 rfl (lv_at hl 0 rfl) ?_
        refine lv_iconst (v := -1) hx hb dX11_readPart_47 (by decide) ?_
        refine lv_icmp_ne (tgt := 56) hx hb dX11_readPart_48 (by decide) (fun c8 => ?_) (fun c8 => ?_)
        · have h := ite_f h c8
          refine lv_aload_n hx hb dX11_readPart_56 rfl (lv_at hl 1 rfl) ?_
          refine lv_iconst (v := -1) hx hb dX11_readPart_57 (by decide) ?_
          refine lv_iload_n hx hb dX11_readPart_58 rfl (lv_at hl 0 rfl) ?_
          refine lv_isub hx hb dX11_readPart_59 ?_
          obtain ⟨q9, hq9, h⟩ := bd h
          refine r_callVV (V := (vR E)) (k := 0) (As := [.int ((-1 : Int32) - q7)]) (rest := []) X I hl (c_X11_lay  hq9) yv_X11_lay tw_875 ⟨rfl, rfl, (by simp only [rm_X11_lay, rm_X11_readPart]; omega), (by simp only [rm_X11_lay, rm_X11_readPart]; omega)⟩ (Nat.le_of_ble_eq_true rfl) rfl rfl rfl rfl (Nat.le_of_ble_eq_true rfl) dX11_readPart_60 (fun H locs I => ?_)
          refine lv_aload_n hx hb dX11_readPart_63 rfl (lv_at hl 1 rfl) ?_
          refine gfR_X11_244 X I dX11_readPart_64 ?_
          refine lv_if_ne (tgt := 74) hx hb dX11_readPart_67 (by decide) (fun c10 => ?_) (fun c10 => ?_)
          · have h := ite_f h c10
            exact r_vret X I (Option.some.inj h).symm dX11_readPart_74
          · have h := ite_t h c10
            refine lv_aload_n hx hb dX11_readPart_70 rfl (lv_at hl 1 rfl) ?_
            obtain ⟨q11, hq11, h⟩ := bd h
            refine r_callVV (V := (vR E)) (k := 0) (As := []) (rest := []) X I hl (c_X11_stepOn  hq11) yv_X11_stepOn tw_841 ⟨rfl, rfl, (by simp only [rm_X11_stepOn, rm_X11_readPart]; omega), (by simp only [rm_X11_stepOn, rm_X11_readPart]; omega)⟩ (Nat.le_of_ble_eq_true rfl) rfl rfl rfl rfl (Nat.le_of_ble_eq_true rfl) dX11_readPart_71 (fun H locs I => ?_)
            exact r_vret X I (Option.some.inj h).symm dX11_readPart_74
        · have h := ite_t h c8
          refine lv_aload_n hx hb dX11_readPart_51 rfl (lv_at hl 1 rfl) ?_
          refine lv_iconst (v := 3) hx hb dX11_readPart_52 (by decide) ?_
          obtain ⟨q12, hq12, h⟩ := bd h
          refine r_callVV (V := (vR E)) (k := 0) (As := [.int (3 : Int32)]) (rest := []) X I hl (c_X11_wrong  hq12) yv_X11_wrong tw_851 ⟨rfl, rfl, (by simp only [rm_X11_wrong, rm_X11_readPart]; omega), (by simp only [rm_X11_wrong, rm_X11_readPart]; omega)⟩ (Nat.le_of_ble_eq_true rfl) rfl rfl rfl rfl (Nat.le_of_ble_eq_true rfl) dX11_readPart_53 (fun H locs I => ?_)
          refine lv_aload_n hx hb dX11_readPart_56 rfl (lv_at hl 1 rfl) ?_
          refine lv_iconst (v := -1) hx hb dX11_readPart_57 (by decide) ?_
          refine lv_iload_n hx hb dX11_readPart_58 rfl (lv_at hl 0 rfl) ?_
          refine lv_isub hx hb dX11_readPart_59 ?_
          obtain ⟨q13, hq13, h⟩ := bd h
          refine r_callVV (V := (vR E)) (k := 0) (As := [.int ((-1 : Int32) - q7)]) (rest := []) X I hl (c_X11_lay  hq13) yv_X11_lay tw_875 ⟨rfl, rfl, (by simp only [rm_X11_lay, rm_X11_readPart]; omega), (by simp only [rm_X11_lay, rm_X11_readPart]; omega)⟩ (Nat.le_of_ble_eq_true rfl) rfl rfl rfl rfl (Nat.le_of_ble_eq_true rfl) dX11_readPart_60 (fun H locs I => ?_)
          refine lv_aload_n hx hb dX11_readPart_63 rfl (lv_at hl 1 rfl) ?_
          refine gfR_X11_244 X I dX11_readPart_64 ?_
          refine lv_if_ne (tgt := 74) hx hb dX11_readPart_67 (by decide) (fun c14 => ?_) (fun c14 => ?_)
          · have h := ite_f h c14
            exact r_vret X I (Option.some.inj h).symm dX11_readPart_74
          · have h := ite_t h c14
            refine lv_aload_n hx hb dX11_readPart_70 rfl (lv_at hl 1 rfl) ?_
            obtain ⟨q15, hq15, h⟩ := bd h
            refine r_callVV (V := (vR E)) (k := 0) (As := []) (rest := []) X I hl (c_X11_stepOn  hq15) yv_X11_stepOn tw_841 ⟨rfl, rfl, (by simp only [rm_X11_stepOn, rm_X11_readPart]; omega), (by simp only [rm_X11_stepOn, rm_X11_readPart]; omega)⟩ (Nat.le_of_ble_eq_true rfl) rfl rfl rfl rfl (Nat.le_of_ble_eq_true rfl) dX11_readPart_71 (fun H locs I => ?_)
            exact r_vret X I (Option.some.inj h).symm dX11_readPart_74
    · have h := ite_t h c2
      refine lv_aload_n hx hb dX11_readPart_16 rfl (lv_at hl 0 rfl) ?_
      refine lv_aload_n hx hb dX11_readPart_17 rfl (lv_at hl 0 rfl) ?_
      refine lv_iconst (v := 0) hx hb dX11_readPart_18 (by decide) ?_
      refine lv_sipush (v := 9999) hx hb dX11_readPart_19 (by decide) ?_
      obtain ⟨q16, hq16, h⟩ := bd h
      refine r_callVI (V := (vR E)) (k := 0) (As := [.int (0 : Int32), .int (9999 : Int32)]) (rest := [.ref (ra E 0)]) X I hl (c_X11_readNumber  hq16) yv_X11_readNumber tw_880 ⟨rfl, rfl, (by simp only [rm_X11_readNumber, rm_X11_readPart]; omega), (by simp only [rm_X11_readNumber, rm_X11_readPart]; omega)⟩ (Nat.le_of_ble_eq_true rfl) rfl rfl rfl rfl (Nat.le_of_ble_eq_true rfl) dX11_readPart_22 (fun H locs I => ?_)
      obtain ⟨q17, hq17, h⟩ := bd h
      refine r_callVV (V := (vR E)) (k := 0) (As := [.int q16.1]) (rest := []) X I hl (c_X11_lay  hq17) yv_X11_lay tw_875 ⟨rfl, rfl, (by simp only [rm_X11_lay, rm_X11_readPart]; omega), (by simp only [rm_X11_lay, rm_X11_readPart]; omega)⟩ (Nat.le_of_ble_eq_true rfl) rfl rfl rfl rfl (Nat.le_of_ble_eq_true rfl) dX11_readPart_25 (fun H locs I => ?_)
      exact r_vret X I (Option.some.inj h).symm dX11_readPart_28
  · have h := ite_f h c1
    exact r_vret X I (Option.some.inj h).symm dX11_readPart_7
theorem c_X11_readPart {l : Launch} {E : RE} {kE : Mem → Int32 → Option Mem} {d : Nat} {σ : Mem} {x1 : Int32} (hE : ∀ (σ : Mem) (a : Int32) (q : Mem), kE σ a = some q → CV l (vR E) yX11_readExpression (.code yX11_readExpression cX11_readExpression 3 none :: GG) (rmE d) [.ref (ra E 0), .int a] σ q) {q : Mem} (h : m_X11_readPart kE σ x1 = some q) : CV l (vR E) yX11_readPart (.code yX11_readPart cX11_readPart 3 none :: GG) (rm_X11_readPart d) [.ref (ra E 0), .int x1] σ q :=
  mk_CV (by decide +kernel) (Nat.le_of_ble_eq_true rfl) (fun p e s m args below meth c A ls X I hl => w_X11_readPart_0 X hE σ x1 h s.heap [] ls I (lv_sub hl [0, 1] rfl))

def rm_X11_readProduct (d : Nat) : Room := { frames := 22 + 10 * d, cells := 0, slots := 0, locals := 880 + 300 * d }
def f_X11_readProduct_23 (kE : Mem → Int32 → Option Mem) (k5 : Mem → Option (Mem)) (x1 : Int32) (σ : Mem) : Option (Mem) := ((m_X11_isMarked σ (42 : Int32)).bind fun q1 => (if q1 = (0 : Int32) then ((m_X11_stepOn σ).bind fun q3 => ((m_X11_readPart kE q3 x1).bind fun q4 => ((m_X11_lay q4 (-23 : Int32)).bind fun q5 => (k5 q5)))) else ((m_X11_stepOn σ).bind fun q6 => ((m_X11_readPart kE q6 x1).bind fun q7 => ((m_X11_lay q7 (-22 : Int32)).bind fun q8 => (k5 q8))))))
def f_X11_readProduct_5 (kE : Mem → Int32 → Option Mem) (x1 : Int32) : Nat → Mem → Option (Mem)
  | 0, _ => none
  | n + 1, σ => ((m_X11_isMarked σ (42 : Int32)).bind fun q1 => (if q1 = (0 : Int32) then ((m_X11_isMarked σ (47 : Int32)).bind fun q3 => (if q3 = (0 : Int32) then (some σ) else (f_X11_readProduct_23 kE (f_X11_readProduct_5 kE x1 n) x1 σ))) else (f_X11_readProduct_23 kE (f_X11_readProduct_5 kE x1 n) x1 σ)))
def m_X11_readProduct (kE : Mem → Int32 → Option Mem) (σ : Mem) (x1 : Int32) : Option (Mem) := ((m_X11_readPart kE σ x1).bind fun q1 => (f_X11_readProduct_5 kE x1 KF q1))
set_option maxHeartbeats 4000000 in
set_option maxRecDepth 100000 in
theorem w_X11_readProduct_23 {p : Program} {l : Launch} {e : Env} {s : State} {m : MethodId} {args : Array Value} {below : List Frame} {meth : Method} {c : Code} {A : Nat → Prop} {E : RE} {q : Mem} (X : CX p s m meth c args cX11_readProduct 3 RX11 none) {kE : Mem → Int32 → Option Mem} {d : Nat} {x1 : Int32} (hE : ∀ (σ : Mem) (a : Int32) (q : Mem), kE σ a = some q → CV l (vR E) yX11_readExpression (.code yX11_readExpression cX11_readExpression 3 none :: GG) (rmE d) [.ref (ra E 0), .int a] σ q) {k5 : Mem → Option (Mem)} (hk5 : ∀ (σ : Mem)  , k5 σ = some q → ∀ (H : Heap) (locs : List Loc) (ls : Array Slot), WI (vR E) A s H locs σ → lv_has ls 3 [(0, .ref (ra E 0)), (1, .int x1)] → W p l e (rm_X11_readProduct d) s m args below meth c H locs 0 0 (MQ below (QV (vR E) A q) args s 0 0 A) (F0 m 5 ls [])) : ∀ (σ : Mem)  , f_X11_readProduct_23 kE k5 x1 σ = some q → ∀ (H : Heap) (locs : List Loc) (ls : Array Slot), WI (vR E) A s H locs σ → lv_has ls 3 [(0, .ref (ra E 0)), (1, .int x1)] → W p l e (rm_X11_readProduct d) s m args below meth c H locs 0 0 (MQ below (QV (vR E) A q) args s 0 0 A) (F0 m 23 ls []) := by
  have hx := X.1
  have hb := X.2.1
  intro σ  h H locs ls I hl
  unfold f_X11_readProduct_23 at h
  refine lv_aload_n hx hb dX11_readProduct_23 rfl (lv_at hl 0 rfl) ?_
  refine lv_bipush (v := 42) hx hb dX11_readProduct_24 (by decide) ?_
  obtain ⟨q1, hq1, h⟩ := bd h
  refine r_callVI (V := (vR E)) (k := 0) (As := [.int (42 : Int32)]) (rest := []) X I hl (c_X11_isMarked  hq1) yv_X11_isMarked tw_846 ⟨rfl, rfl, (by simp only [rm_X11_isMarked, rm_X11_readProduct]; omega), (by simp only [rm_X11_isMarked, rm_X11_readProduct]; omega)⟩ (Nat.le_of_ble_eq_true rfl) rfl rfl rfl rfl (Nat.le_of_ble_eq_true rfl) dX11_readProduct_26 (fun H locs I => ?_)
  refine lv_if_eq (tgt := 37) hx hb dX11_readProduct_29 (by decide) (fun c2 => ?_) (fun c2 => ?_)
  · have h := ite_t h c2
    refine lv_bipush (v := -23) hx hb dX11_readProduct_37 (by decide) ?_
    refine lv_istore_n (lv' := [(2, .int (-23 : Int32)), (0, .ref (ra E 0)), (1, .int x1)]) hx hb dX11_readProduct_39 rfl hl (by decide) rfl (fun ls hl => ?_)
    refine lv_aload_n hx hb dX11_readProduct_40 rfl (lv_at hl 1 rfl) ?_
    obtain ⟨q3, hq3, h⟩ := bd h
    refine r_callVV (V := (vR E)) (k := 0) (As := []) (rest := []) X I hl (c_X11_stepOn  hq3) yv_X11_stepOn tw_841 ⟨rfl, rfl, (by simp only [rm_X11_stepOn, rm_X11_readProduct]; omega), (by simp only [rm_X11_stepOn, rm_X11_readProduct]; omega)⟩ (Nat.le_of_ble_eq_true rfl) rfl rfl rfl rfl (Nat.le_of_ble_eq_true rfl) dX11_readProduct_41 (fun H locs I => ?_)
    refine lv_aload_n hx hb dX11_readProduct_44 rfl (lv_at hl 1 rfl) ?_
    refine lv_iload_n hx hb dX11_readProduct_45 rfl (lv_at hl 2 rfl) ?_
    obtain ⟨q4, hq4, h⟩ := bd h
    refine r_callVV (V := (vR E)) (k := 0) (As := [.int x1]) (rest := []) X I hl (c_X11_readPart hE hq4) yv_X11_readPart tw_885 ⟨rfl, rfl, (by simp only [rm_X11_readPart, rm_X11_readProduct]; omega), (by simp only [rm_X11_readPart, rm_X11_readProduct]; omega)⟩ (Nat.le_of_ble_eq_true rfl) rfl rfl rfl rfl (Nat.le_of_ble_eq_true rfl) dX11_readProduct_46 (fun H locs I => ?_)
    refine lv_aload_n hx hb dX11_readProduct_49 rfl (lv_at hl 1 rfl) ?_
    refine lv_iload_n hx hb dX11_readProduct_50 rfl (lv_at hl 0 rfl) ?_
    obtain ⟨q5, hq5, h⟩ := bd h
    refine r_callVV (V := (vR E)) (k := 0) (As := [.int (-23 : Int32)]) (rest := []) X I hl (c_X11_lay  hq5) yv_X11_lay tw_875 ⟨rfl, rfl, (by simp only [rm_X11_lay, rm_X11_readProduct]; omega), (by simp only [rm_X11_lay, rm_X11_readProduct]; omega)⟩ (Nat.le_of_ble_eq_true rfl) rfl rfl rfl rfl (Nat.le_of_ble_eq_true rfl) dX11_readProduct_51 (fun H locs I => ?_)
    refine lv_goto (tgt := 5) hx hb dX11_readProduct_54 (by decide) ?_
    exact hk5 q5 h H locs ls I (lv_sub hl [1, 2] rfl)
  · have h := ite_f h c2
    refine lv_bipush (v := -22) hx hb dX11_readProduct_32 (by decide) ?_
    refine lv_goto (tgt := 39) hx hb dX11_readProduct_34 (by decide) ?_
    refine lv_istore_n (lv' := [(2, .int (-22 : Int32)), (0, .ref (ra E 0)), (1, .int x1)]) hx hb dX11_readProduct_39 rfl hl (by decide) rfl (fun ls hl => ?_)
    refine lv_aload_n hx hb dX11_readProduct_40 rfl (lv_at hl 1 rfl) ?_
    obtain ⟨q6, hq6, h⟩ := bd h
    refine r_callVV (V := (vR E)) (k := 0) (As := []) (rest := []) X I hl (c_X11_stepOn  hq6) yv_X11_stepOn tw_841 ⟨rfl, rfl, (by simp only [rm_X11_stepOn, rm_X11_readProduct]; omega), (by simp only [rm_X11_stepOn, rm_X11_readProduct]; omega)⟩ (Nat.le_of_ble_eq_true rfl) rfl rfl rfl rfl (Nat.le_of_ble_eq_true rfl) dX11_readProduct_41 (fun H locs I => ?_)
    refine lv_aload_n hx hb dX11_readProduct_44 rfl (lv_at hl 1 rfl) ?_
    refine lv_iload_n hx hb dX11_readProduct_45 rfl (lv_at hl 2 rfl) ?_
    obtain ⟨q7, hq7, h⟩ := bd h
    refine r_callVV (V := (vR E)) (k := 0) (As := [.int x1]) (rest := []) X I hl (c_X11_readPart hE hq7) yv_X11_readPart tw_885 ⟨rfl, rfl, (by simp only [rm_X11_readPart, rm_X11_readProduct]; omega), (by simp only [rm_X11_readPart, rm_X11_readProduct]; omega)⟩ (Nat.le_of_ble_eq_true rfl) rfl rfl rfl rfl (Nat.le_of_ble_eq_true rfl) dX11_readProduct_46 (fun H locs I => ?_)
    refine lv_aload_n hx hb dX11_readProduct_49 rfl (lv_at hl 1 rfl) ?_
    refine lv_iload_n hx hb dX11_readProduct_50 rfl (lv_at hl 0 rfl) ?_
    obtain ⟨q8, hq8, h⟩ := bd h
    refine r_callVV (V := (vR E)) (k := 0) (As := [.int (-22 : Int32)]) (rest := []) X I hl (c_X11_lay  hq8) yv_X11_lay tw_875 ⟨rfl, rfl, (by simp only [rm_X11_lay, rm_X11_readProduct]; omega), (by simp only [rm_X11_lay, rm_X11_readProduct]; omega)⟩ (Nat.le_of_ble_eq_true rfl) rfl rfl rfl rfl (Nat.le_of_ble_eq_true rfl) dX11_readProduct_51 (fun H locs I => ?_)
    refine lv_goto (tgt := 5) hx hb dX11_readProduct_54 (by decide) ?_
    exact hk5 q8 h H locs ls I (lv_sub hl [1, 2] rfl)
set_option maxHeartbeats 4000000 in
set_option maxRecDepth 100000 in
theorem w_X11_readProduct_5 {p : Program} {l : Launch} {e : Env} {s : State} {m : MethodId} {args : Array Value} {below : List Frame} {meth : Method} {c : Code} {A : Nat → Prop} {E : RE} {q : Mem} (X : CX p s m meth c args cX11_readProduct 3 RX11 none) {kE : Mem → Int32 → Option Mem} {d : Nat} {x1 : Int32} (hE : ∀ (σ : Mem) (a : Int32) (q : Mem), kE σ a = some q → CV l (vR E) yX11_readExpression (.code yX11_readExpression cX11_readExpression 3 none :: GG) (rmE d) [.ref (ra E 0), .int a] σ q) : ∀ (n : Nat), ∀ (σ : Mem)  , f_X11_readProduct_5 kE x1 n σ = some q → ∀ (H : Heap) (locs : List Loc) (ls : Array Slot), WI (vR E) A s H locs σ → lv_has ls 3 [(0, .ref (ra E 0)), (1, .int x1)] → W p l e (rm_X11_readProduct d) s m args below meth c H locs 0 0 (MQ below (QV (vR E) A q) args s 0 0 A) (F0 m 5 ls []) := by
  have hx := X.1
  have hb := X.2.1
  intro n
  induction n with
  | zero =>
    intro σ  h
    cases h
  | succ n ih =>
    intro σ  h H locs ls I hl
    rw [f_X11_readProduct_5] at h
    refine lv_aload_n hx hb dX11_readProduct_5 rfl (lv_at hl 0 rfl) ?_
    refine lv_bipush (v := 42) hx hb dX11_readProduct_6 (by decide) ?_
    obtain ⟨q1, hq1, h⟩ := bd h
    refine r_callVI (V := (vR E)) (k := 0) (As := [.int (42 : Int32)]) (rest := []) X I hl (c_X11_isMarked  hq1) yv_X11_isMarked tw_846 ⟨rfl, rfl, (by simp only [rm_X11_isMarked, rm_X11_readProduct]; omega), (by simp only [rm_X11_isMarked, rm_X11_readProduct]; omega)⟩ (Nat.le_of_ble_eq_true rfl) rfl rfl rfl rfl (Nat.le_of_ble_eq_true rfl) dX11_readProduct_8 (fun H locs I => ?_)
    refine lv_if_ne (tgt := 23) hx hb dX11_readProduct_11 (by decide) (fun c2 => ?_) (fun c2 => ?_)
    · have h := ite_f h c2
      exact w_X11_readProduct_23 X hE (fun σ  h H locs ls I hl => ih σ  h H locs ls I hl) σ h H locs ls I (lv_sub hl [0, 1] rfl)
    · have h := ite_t h c2
      refine lv_aload_n hx hb dX11_readProduct_14 rfl (lv_at hl 0 rfl) ?_
      refine lv_bipush (v := 47) hx hb dX11_readProduct_15 (by decide) ?_
      obtain ⟨q3, hq3, h⟩ := bd h
      refine r_callVI (V := (vR E)) (k := 0) (As := [.int (47 : Int32)]) (rest := []) X I hl (c_X11_isMarked  hq3) yv_X11_isMarked tw_846 ⟨rfl, rfl, (by simp only [rm_X11_isMarked, rm_X11_readProduct]; omega), (by simp only [rm_X11_isMarked, rm_X11_readProduct]; omega)⟩ (Nat.le_of_ble_eq_true rfl) rfl rfl rfl rfl (Nat.le_of_ble_eq_true rfl) dX11_readProduct_17 (fun H locs I => ?_)
      refine lv_if_eq (tgt := 57) hx hb dX11_readProduct_20 (by decide) (fun c4 => ?_) (fun c4 => ?_)
      · have h := ite_t h c4
        exact r_vret X I (Option.some.inj h).symm dX11_readProduct_57
      · have h := ite_f h c4
        exact w_X11_readProduct_23 X hE (fun σ  h H locs ls I hl => ih σ  h H locs ls I hl) σ h H locs ls I (lv_sub hl [0, 1] rfl)
set_option maxHeartbeats 4000000 in
set_option maxRecDepth 100000 in
theorem w_X11_readProduct_0 {p : Program} {l : Launch} {e : Env} {s : State} {m : MethodId} {args : Array Value} {below : List Frame} {meth : Method} {c : Code} {A : Nat → Prop} {E : RE} {q : Mem} (X : CX p s m meth c args cX11_readProduct 3 RX11 none) {kE : Mem → Int32 → Option Mem} {d : Nat} (hE : ∀ (σ : Mem) (a : Int32) (q : Mem), kE σ a = some q → CV l (vR E) yX11_readExpression (.code yX11_readExpression cX11_readExpression 3 none :: GG) (rmE d) [.ref (ra E 0), .int a] σ q) : ∀ (σ : Mem) (x1 : Int32) , m_X11_readProduct kE σ x1 = some q → ∀ (H : Heap) (locs : List Loc) (ls : Array Slot), WI (vR E) A s H locs σ → lv_has ls 3 [(0, .ref (ra E 0)), (1, .int x1)] → W p l e (rm_X11_readProduct d) s m args below meth c H locs 0 0 (MQ below (QV (vR E) A q) args s 0 0 A) (F0 m 0 ls []) := by
  have hx := X.1
  have hb := X.2.1
  intro σ x1 h H locs ls I hl
  unfold m_X11_readProduct at h
  refine lv_aload_n hx hb dX11_readProduct_0 rfl (lv_at hl 0 rfl) ?_
  refine lv_iload_n hx hb dX11_readProduct_1 rfl (lv_at hl 1 rfl) ?_
  obtain ⟨q1, hq1, h⟩ := bd h
  refine r_callVV (V := (vR E)) (k := 0) (As := [.int x1]) (rest := []) X I hl (c_X11_readPart hE hq1) yv_X11_readPart tw_885 ⟨rfl, rfl, (by simp only [rm_X11_readPart, rm_X11_readProduct]; omega), (by simp only [rm_X11_readPart, rm_X11_readProduct]; omega)⟩ (Nat.le_of_ble_eq_true rfl) rfl rfl rfl rfl (Nat.le_of_ble_eq_true rfl) dX11_readProduct_2 (fun H locs I => ?_)
  exact w_X11_readProduct_5 X hE  KF q1 h H locs ls I (lv_sub hl [0, 1] rfl)
theorem c_X11_readProduct {l : Launch} {E : RE} {kE : Mem → Int32 → Option Mem} {d : Nat} {σ : Mem} {x1 : Int32} (hE : ∀ (σ : Mem) (a : Int32) (q : Mem), kE σ a = some q → CV l (vR E) yX11_readExpression (.code yX11_readExpression cX11_readExpression 3 none :: GG) (rmE d) [.ref (ra E 0), .int a] σ q) {q : Mem} (h : m_X11_readProduct kE σ x1 = some q) : CV l (vR E) yX11_readProduct (.code yX11_readProduct cX11_readProduct 3 none :: GG) (rm_X11_readProduct d) [.ref (ra E 0), .int x1] σ q :=
  mk_CV (by decide +kernel) (Nat.le_of_ble_eq_true rfl) (fun p e s m args below meth c A ls X I hl => w_X11_readProduct_0 X hE σ x1 h s.heap [] ls I (lv_sub hl [0, 1] rfl))

def rm_X11_readSum (d : Nat) : Room := { frames := 23 + 10 * d, cells := 0, slots := 0, locals := 920 + 300 * d }
def f_X11_readSum_23 (kE : Mem → Int32 → Option Mem) (k5 : Mem → Option (Mem)) (x1 : Int32) (σ : Mem) : Option (Mem) := ((m_X11_isMarked σ (43 : Int32)).bind fun q1 => (if q1 = (0 : Int32) then ((m_X11_stepOn σ).bind fun q3 => ((m_X11_readProduct kE q3 x1).bind fun q4 => ((m_X11_lay q4 (-21 : Int32)).bind fun q5 => (k5 q5)))) else ((m_X11_stepOn σ).bind fun q6 => ((m_X11_readProduct kE q6 x1).bind fun q7 => ((m_X11_lay q7 (-20 : Int32)).bind fun q8 => (k5 q8))))))
def f_X11_readSum_5 (kE : Mem → Int32 → Option Mem) (x1 : Int32) : Nat → Mem → Option (Mem)
  | 0, _ => none
  | n + 1, σ => ((m_X11_isMarked σ (43 : Int32)).bind fun q1 => (if q1 = (0 : Int32) then ((m_X11_isMarked σ (45 : Int32)).bind fun q3 => (if q3 = (0 : Int32) then (some σ) else (f_X11_readSum_23 kE (f_X11_readSum_5 kE x1 n) x1 σ))) else (f_X11_readSum_23 kE (f_X11_readSum_5 kE x1 n) x1 σ)))
def m_X11_readSum (kE : Mem → Int32 → Option Mem) (σ : Mem) (x1 : Int32) : Option (Mem) := ((m_X11_readProduct kE σ x1).bind fun q1 => (f_X11_readSum_5 kE x1 KF q1))
set_option maxHeartbeats 4000000 in
set_option maxRecDepth 100000 in
theorem w_X11_readSum_23 {p : Program} {l : Launch} {e : Env} {s : State} {m : MethodId} {args : Array Value} {below : List Frame} {meth : Method} {c : Code} {A : Nat → Prop} {E : RE} {q : Mem} (X : CX p s m meth c args cX11_readSum 3 RX11 none) {kE : Mem → Int32 → Option Mem} {d : Nat} {x1 : Int32} (hE : ∀ (σ : Mem) (a : Int32) (q : Mem), kE σ a = some q → CV l (vR E) yX11_readExpression (.code yX11_readExpression cX11_readExpression 3 none :: GG) (rmE d) [.ref (ra E 0), .int a] σ q) {k5 : Mem → Option (Mem)} (hk5 : ∀ (σ : Mem)  , k5 σ = some q → ∀ (H : Heap) (locs : List Loc) (ls : Array Slot), WI (vR E) A s H locs σ → lv_has ls 3 [(0, .ref (ra E 0)), (1, .int x1)] → W p l e (rm_X11_readSum d) s m args below meth c H locs 0 0 (MQ below (QV (vR E) A q) args s 0 0 A) (F0 m 5 ls [])) : ∀ (σ : Mem)  , f_X11_readSum_23 kE k5 x1 σ = some q → ∀ (H : Heap) (locs : List Loc) (ls : Array Slot), WI (vR E) A s H locs σ → lv_has ls 3 [(0, .ref (ra E 0)), (1, .int x1)] → W p l e (rm_X11_readSum d) s m args below meth c H locs 0 0 (MQ below (QV (vR E) A q) args s 0 0 A) (F0 m 23 ls []) := by
  have hx := X.1
  have hb := X.2.1
  intro σ  h H locs ls I hl
  unfold f_X11_readSum_23 at h
  refine lv_aload_n hx hb dX11_readSum_23 rfl (lv_at hl 0 rfl) ?_
  refine lv_bipush (v := 43) hx hb dX11_readSum_24 (by decide) ?_
  obtain ⟨q1, hq1, h⟩ := bd h
  refine r_callVI (V := (vR E)) (k := 0) (As := [.int (43 : Int32)]) (rest := []) X I hl (c_X11_isMarked  hq1) yv_X11_isMarked tw_846 ⟨rfl, rfl, (by simp only [rm_X11_isMarked, rm_X11_readSum]; omega), (by simp only [rm_X11_isMarked, rm_X11_readSum]; omega)⟩ (Nat.le_of_ble_eq_true rfl) rfl rfl rfl rfl (Nat.le_of_ble_eq_true rfl) dX11_readSum_26 (fun H locs I => ?_)
  refine lv_if_eq (tgt := 37) hx hb dX11_readSum_29 (by decide) (fun c2 => ?_) (fun c2 => ?_)
  · have h := ite_t h c2
    refine lv_bipush (v := -21) hx hb dX11_readSum_37 (by decide) ?_
    refine lv_istore_n (lv' := [(2, .int (-21 : Int32)), (0, .ref (ra E 0)), (1, .int x1)]) hx hb dX11_readSum_39 rfl hl (by decide) rfl (fun ls hl => ?_)
    refine lv_aload_n hx hb dX11_readSum_40 rfl (lv_at hl 1 rfl) ?_
    obtain ⟨q3, hq3, h⟩ := bd h
    refine r_callVV (V := (vR E)) (k := 0) (As := []) (rest := []) X I hl (c_X11_stepOn  hq3) yv_X11_stepOn tw_841 ⟨rfl, rfl, (by simp only [rm_X11_stepOn, rm_X11_readSum]; omega), (by simp only [rm_X11_stepOn, rm_X11_readSum]; omega)⟩ (Nat.le_of_ble_eq_true rfl) rfl rfl rfl rfl (Nat.le_of_ble_eq_true rfl) dX11_readSum_41 (fun H locs I => ?_)
    refine lv_aload_n hx hb dX11_readSum_44 rfl (lv_at hl 1 rfl) ?_
    refine lv_iload_n hx hb dX11_readSum_45 rfl (lv_at hl 2 rfl) ?_
    obtain ⟨q4, hq4, h⟩ := bd h
    refine r_callVV (V := (vR E)) (k := 0) (As := [.int x1]) (rest := []) X I hl (c_X11_readProduct hE hq4) yv_X11_readProduct tw_890 ⟨rfl, rfl, (by simp only [rm_X11_readProduct, rm_X11_readSum]; omega), (by simp only [rm_X11_readProduct, rm_X11_readSum]; omega)⟩ (Nat.le_of_ble_eq_true rfl) rfl rfl rfl rfl (Nat.le_of_ble_eq_true rfl) dX11_readSum_46 (fun H locs I => ?_)
    refine lv_aload_n hx hb dX11_readSum_49 rfl (lv_at hl 1 rfl) ?_
    refine lv_iload_n hx hb dX11_readSum_50 rfl (lv_at hl 0 rfl) ?_
    obtain ⟨q5, hq5, h⟩ := bd h
    refine r_callVV (V := (vR E)) (k := 0) (As := [.int (-21 : Int32)]) (rest := []) X I hl (c_X11_lay  hq5) yv_X11_lay tw_875 ⟨rfl, rfl, (by simp only [rm_X11_lay, rm_X11_readSum]; omega), (by simp only [rm_X11_lay, rm_X11_readSum]; omega)⟩ (Nat.le_of_ble_eq_true rfl) rfl rfl rfl rfl (Nat.le_of_ble_eq_true rfl) dX11_readSum_51 (fun H locs I => ?_)
    refine lv_goto (tgt := 5) hx hb dX11_readSum_54 (by decide) ?_
    exact hk5 q5 h H locs ls I (lv_sub hl [1, 2] rfl)
  · have h := ite_f h c2
    refine lv_bipush (v := -20) hx hb dX11_readSum_32 (by decide) ?_
    refine lv_goto (tgt := 39) hx hb dX11_readSum_34 (by decide) ?_
    refine lv_istore_n (lv' := [(2, .int (-20 : Int32)), (0, .ref (ra E 0)), (1, .int x1)]) hx hb dX11_readSum_39 rfl hl (by decide) rfl (fun ls hl => ?_)
    refine lv_aload_n hx hb dX11_readSum_40 rfl (lv_at hl 1 rfl) ?_
    obtain ⟨q6, hq6, h⟩ := bd h
    refine r_callVV (V := (vR E)) (k := 0) (As := []) (rest := []) X I hl (c_X11_stepOn  hq6) yv_X11_stepOn tw_841 ⟨rfl, rfl, (by simp only [rm_X11_stepOn, rm_X11_readSum]; omega), (by simp only [rm_X11_stepOn, rm_X11_readSum]; omega)⟩ (Nat.le_of_ble_eq_true rfl) rfl rfl rfl rfl (Nat.le_of_ble_eq_true rfl) dX11_readSum_41 (fun H locs I => ?_)
    refine lv_aload_n hx hb dX11_readSum_44 rfl (lv_at hl 1 rfl) ?_
    refine lv_iload_n hx hb dX11_readSum_45 rfl (lv_at hl 2 rfl) ?_
    obtain ⟨q7, hq7, h⟩ := bd h
    refine r_callVV (V := (vR E)) (k := 0) (As := [.int x1]) (rest := []) X I hl (c_X11_readProduct hE hq7) yv_X11_readProduct tw_890 ⟨rfl, rfl, (by simp only [rm_X11_readProduct, rm_X11_readSum]; omega), (by simp only [rm_X11_readProduct, rm_X11_readSum]; omega)⟩ (Nat.le_of_ble_eq_true rfl) rfl rfl rfl rfl (Nat.le_of_ble_eq_true rfl) dX11_readSum_46 (fun H locs I => ?_)
    refine lv_aload_n hx hb dX11_readSum_49 rfl (lv_at hl 1 rfl) ?_
    refine lv_iload_n hx hb dX11_readSum_50 rfl (lv_at hl 0 rfl) ?_
    obtain ⟨q8, hq8, h⟩ := bd h
    refine r_callVV (V := (vR E)) (k := 0) (As := [.int (-20 : Int32)]) (rest := []) X I hl (c_X11_lay  hq8) yv_X11_lay tw_875 ⟨rfl, rfl, (by simp only [rm_X11_lay, rm_X11_readSum]; omega), (by simp only [rm_X11_lay, rm_X11_readSum]; omega)⟩ (Nat.le_of_ble_eq_true rfl) rfl rfl rfl rfl (Nat.le_of_ble_eq_true rfl) dX11_readSum_51 (fun H locs I => ?_)
    refine lv_goto (tgt := 5) hx hb dX11_readSum_54 (by decide) ?_
    exact hk5 q8 h H locs ls I (lv_sub hl [1, 2] rfl)
set_option maxHeartbeats 4000000 in
set_option maxRecDepth 100000 in
theorem w_X11_readSum_5 {p : Program} {l : Launch} {e : Env} {s : State} {m : MethodId} {args : Array Value} {below : List Frame} {meth : Method} {c : Code} {A : Nat → Prop} {E : RE} {q : Mem} (X : CX p s m meth c args cX11_readSum 3 RX11 none) {kE : Mem → Int32 → Option Mem} {d : Nat} {x1 : Int32} (hE : ∀ (σ : Mem) (a : Int32) (q : Mem), kE σ a = some q → CV l (vR E) yX11_readExpression (.code yX11_readExpression cX11_readExpression 3 none :: GG) (rmE d) [.ref (ra E 0), .int a] σ q) : ∀ (n : Nat), ∀ (σ : Mem)  , f_X11_readSum_5 kE x1 n σ = some q → ∀ (H : Heap) (locs : List Loc) (ls : Array Slot), WI (vR E) A s H locs σ → lv_has ls 3 [(0, .ref (ra E 0)), (1, .int x1)] → W p l e (rm_X11_readSum d) s m args below meth c H locs 0 0 (MQ below (QV (vR E) A q) args s 0 0 A) (F0 m 5 ls []) := by
  have hx := X.1
  have hb := X.2.1
  intro n
  induction n with
  | zero =>
    intro σ  h
    cases h
  | succ n ih =>
    intro σ  h H locs ls I hl
    rw [f_X11_readSum_5] at h
    refine lv_aload_n hx hb dX11_readSum_5 rfl (lv_at hl 0 rfl) ?_
    refine lv_bipush (v := 43) hx hb dX11_readSum_6 (by decide) ?_
    obtain ⟨q1, hq1, h⟩ := bd h
    refine r_callVI (V := (vR E)) (k := 0) (As := [.int (43 : Int32)]) (rest := []) X I hl (c_X11_isMarked  hq1) yv_X11_isMarked tw_846 ⟨rfl, rfl, (by simp only [rm_X11_isMarked, rm_X11_readSum]; omega), (by simp only [rm_X11_isMarked, rm_X11_readSum]; omega)⟩ (Nat.le_of_ble_eq_true rfl) rfl rfl rfl rfl (Nat.le_of_ble_eq_true rfl) dX11_readSum_8 (fun H locs I => ?_)
    refine lv_if_ne (tgt := 23) hx hb dX11_readSum_11 (by decide) (fun c2 => ?_) (fun c2 => ?_)
    · have h := ite_f h c2
      exact w_X11_readSum_23 X hE (fun σ  h H locs ls I hl => ih σ  h H locs ls I hl) σ h H locs ls I (lv_sub hl [0, 1] rfl)
    · have h := ite_t h c2
      refine lv_aload_n hx hb dX11_readSum_14 rfl (lv_at hl 0 rfl) ?_
      refine lv_bipush (v := 45) hx hb dX11_readSum_15 (by decide) ?_
      obtain ⟨q3, hq3, h⟩ := bd h
      refine r_callVI (V := (vR E)) (k := 0) (As := [.int (45 : Int32)]) (rest := []) X I hl (c_X11_isMarked  hq3) yv_X11_isMarked tw_846 ⟨rfl, rfl, (by simp only [rm_X11_isMarked, rm_X11_readSum]; omega), (by simp only [rm_X11_isMarked, rm_X11_readSum]; omega)⟩ (Nat.le_of_ble_eq_true rfl) rfl rfl rfl rfl (Nat.le_of_ble_eq_true rfl) dX11_readSum_17 (fun H locs I => ?_)
      refine lv_if_eq (tgt := 57) hx hb dX11_readSum_20 (by decide) (fun c4 => ?_) (fun c4 => ?_)
      · have h := ite_t h c4
        exact r_vret X I (Option.some.inj h).symm dX11_readSum_57
      · have h := ite_f h c4
        exact w_X11_readSum_23 X hE (fun σ  h H locs ls I hl => ih σ  h H locs ls I hl) σ h H locs ls I (lv_sub hl [0, 1] rfl)
set_option maxHeartbeats 4000000 in
set_option maxRecDepth 100000 in
theorem w_X11_readSum_0 {p : Program} {l : Launch} {e : Env} {s : State} {m : MethodId} {args : Array Value} {below : List Frame} {meth : Method} {c : Code} {A : Nat → Prop} {E : RE} {q : Mem} (X : CX p s m meth c args cX11_readSum 3 RX11 none) {kE : Mem → Int32 → Option Mem} {d : Nat} (hE : ∀ (σ : Mem) (a : Int32) (q : Mem), kE σ a = some q → CV l (vR E) yX11_readExpression (.code yX11_readExpression cX11_readExpression 3 none :: GG) (rmE d) [.ref (ra E 0), .int a] σ q) : ∀ (σ : Mem) (x1 : Int32) , m_X11_readSum kE σ x1 = some q → ∀ (H : Heap) (locs : List Loc) (ls : Array Slot), WI (vR E) A s H locs σ → lv_has ls 3 [(0, .ref (ra E 0)), (1, .int x1)] → W p l e (rm_X11_readSum d) s m args below meth c H locs 0 0 (MQ below (QV (vR E) A q) args s 0 0 A) (F0 m 0 ls []) := by
  have hx := X.1
  have hb := X.2.1
  intro σ x1 h H locs ls I hl
  unfold m_X11_readSum at h
  refine lv_aload_n hx hb dX11_readSum_0 rfl (lv_at hl 0 rfl) ?_
  refine lv_iload_n hx hb dX11_readSum_1 rfl (lv_at hl 1 rfl) ?_
  obtain ⟨q1, hq1, h⟩ := bd h
  refine r_callVV (V := (vR E)) (k := 0) (As := [.int x1]) (rest := []) X I hl (c_X11_readProduct hE hq1) yv_X11_readProduct tw_890 ⟨rfl, rfl, (by simp only [rm_X11_readProduct, rm_X11_readSum]; omega), (by simp only [rm_X11_readProduct, rm_X11_readSum]; omega)⟩ (Nat.le_of_ble_eq_true rfl) rfl rfl rfl rfl (Nat.le_of_ble_eq_true rfl) dX11_readSum_2 (fun H locs I => ?_)
  exact w_X11_readSum_5 X hE  KF q1 h H locs ls I (lv_sub hl [0, 1] rfl)
theorem c_X11_readSum {l : Launch} {E : RE} {kE : Mem → Int32 → Option Mem} {d : Nat} {σ : Mem} {x1 : Int32} (hE : ∀ (σ : Mem) (a : Int32) (q : Mem), kE σ a = some q → CV l (vR E) yX11_readExpression (.code yX11_readExpression cX11_readExpression 3 none :: GG) (rmE d) [.ref (ra E 0), .int a] σ q) {q : Mem} (h : m_X11_readSum kE σ x1 = some q) : CV l (vR E) yX11_readSum (.code yX11_readSum cX11_readSum 3 none :: GG) (rm_X11_readSum d) [.ref (ra E 0), .int x1] σ q :=
  mk_CV (by decide +kernel) (Nat.le_of_ble_eq_true rfl) (fun p e s m args below meth c A ls X I hl => w_X11_readSum_0 X hE σ x1 h s.heap [] ls I (lv_sub hl [0, 1] rfl))

def rm_X11_readNot (d : Nat) : Room := { frames := 24 + 10 * d, cells := 0, slots := 0, locals := 960 + 300 * d }
def f_X11_readNot_96 (kE : Mem → Int32 → Option Mem) (x2 : Int32) : Nat → Mem → Int32 → Option (Mem)
  | 0, _, _ => none
  | n + 1, σ, x3 => (if x2 ≤ x3 then (some σ) else ((m_X11_lay σ (-28 : Int32)).bind fun q2 => f_X11_readNot_96 kE x2 n q2 (x3 + 1)))
def f_X11_readNot_63 (kE : Mem → Int32 → Option Mem) (σ : Mem) (x1 : Int32) (x2 : Int32) : Option (Mem) := ((m_X11_isMarked σ (60 : Int32)).bind fun q1 => (if q1 = (0 : Int32) then ((m_X11_stepOn σ).bind fun q3 => ((m_X11_readSum kE q3 x1).bind fun q4 => ((m_X11_lay q4 (-25 : Int32)).bind fun q5 => (f_X11_readNot_96 kE x2 KF q5 (0 : Int32))))) else ((m_X11_stepOn σ).bind fun q6 => ((m_X11_readSum kE q6 x1).bind fun q7 => ((m_X11_lay q7 (-24 : Int32)).bind fun q8 => (f_X11_readNot_96 kE x2 KF q8 (0 : Int32)))))))
def f_X11_readNot_2 (kE : Mem → Int32 → Option Mem) (x1 : Int32) : Nat → Mem → Int32 → Option (Mem)
  | 0, _, _ => none
  | n + 1, σ, x2 => ((m_X11_is 44 σ).bind fun q1 => (if q1 = (0 : Int32) then ((m_X11_readSum kE σ x1).bind fun q3 => ((m_X11_isMarked q3 (60 : Int32)).bind fun q4 => (if q4 = (0 : Int32) then ((m_X11_isMarked q3 (61 : Int32)).bind fun q6 => (if q6 = (0 : Int32) then (f_X11_readNot_96 kE x2 KF q3 (0 : Int32)) else (f_X11_readNot_63 kE q3 x1 x2))) else (f_X11_readNot_63 kE q3 x1 x2)))) else (if x2 = (6 : Int32) then ((m_X11_wrong σ (2 : Int32)).bind fun q11 => (if (q11 0 28) = (0 : Int32) then ((m_X11_stepOn q11).bind fun q13 => f_X11_readNot_2 kE x1 n q13 (x2 + 1)) else f_X11_readNot_2 kE x1 n q11 (x2 + 1))) else (if (σ 0 28) = (0 : Int32) then ((m_X11_stepOn σ).bind fun q10 => f_X11_readNot_2 kE x1 n q10 (x2 + 1)) else f_X11_readNot_2 kE x1 n σ (x2 + 1)))))
def m_X11_readNot (kE : Mem → Int32 → Option Mem) (σ : Mem) (x1 : Int32) : Option (Mem) := (f_X11_readNot_2 kE x1 KF σ (0 : Int32))
set_option maxHeartbeats 4000000 in
set_option maxRecDepth 100000 in
theorem w_X11_readNot_96 {p : Program} {l : Launch} {e : Env} {s : State} {m : MethodId} {args : Array Value} {below : List Frame} {meth : Method} {c : Code} {A : Nat → Prop} {E : RE} {q : Mem} (X : CX p s m meth c args cX11_readNot 4 RX11 none) {kE : Mem → Int32 → Option Mem} {d : Nat} {x2 : Int32} (hE : ∀ (σ : Mem) (a : Int32) (q : Mem), kE σ a = some q → CV l (vR E) yX11_readExpression (.code yX11_readExpression cX11_readExpression 3 none :: GG) (rmE d) [.ref (ra E 0), .int a] σ q) : ∀ (n : Nat), ∀ (σ : Mem) (x3 : Int32) , f_X11_readNot_96 kE x2 n σ x3 = some q → ∀ (H : Heap) (locs : List Loc) (ls : Array Slot), WI (vR E) A s H locs σ → lv_has ls 4 [(0, .ref (ra E 0)), (2, .int x2), (3, .int x3)] → W p l e (rm_X11_readNot d) s m args below meth c H locs 0 0 (MQ below (QV (vR E) A q) args s 0 0 A) (F0 m 96 ls []) := by
  have hx := X.1
  have hb := X.2.1
  intro n
  induction n with
  | zero =>
    intro σ x3 h
    cases h
  | succ n ih =>
    intro σ x3 h H locs ls I hl
    rw [f_X11_readNot_96] at h
    refine lv_iload_n hx hb dX11_readNot_96 rfl (lv_at hl 2 rfl) ?_
    refine lv_iload_n hx hb dX11_readNot_97 rfl (lv_at hl 1 rfl) ?_
    refine lv_icmp_ge (tgt := 113) hx hb dX11_readNot_98 (by decide) (fun c1 => ?_) (fun c1 => ?_)
    · have h := ite_t h c1
      exact r_vret X I (Option.some.inj h).symm dX11_readNot_113
    · have h := ite_f h c1
      refine lv_aload_n hx hb dX11_readNot_101 rfl (lv_at hl 0 rfl) ?_
      refine lv_bipush (v := -28) hx hb dX11_readNot_102 (by decide) ?_
      obtain ⟨q2, hq2, h⟩ := bd h
      refine r_callVV (V := (vR E)) (k := 0) (As := [.int (-28 : Int32)]) (rest := []) X I hl (c_X11_lay  hq2) yv_X11_lay tw_875 ⟨rfl, rfl, (by simp only [rm_X11_lay, rm_X11_readNot]; omega), (by simp only [rm_X11_lay, rm_X11_readNot]; omega)⟩ (Nat.le_of_ble_eq_true rfl) rfl rfl rfl rfl (Nat.le_of_ble_eq_true rfl) dX11_readNot_104 (fun H locs I => ?_)
      refine lv_iinc (v := (x3 + 1)) (lv' := [(3, .int (x3 + 1)), (0, .ref (ra E 0)), (2, .int x2)]) hx hb dX11_readNot_107 hl (k := 2) rfl rfl (by decide) rfl (fun ls hl => ?_)
      refine lv_goto (tgt := 96) hx hb dX11_readNot_110 (by decide) ?_
      exact ih q2 (x3 + 1) h H locs ls I (lv_sub hl [1, 2, 0] rfl)
set_option maxHeartbeats 4000000 in
set_option maxRecDepth 100000 in
theorem w_X11_readNot_63 {p : Program} {l : Launch} {e : Env} {s : State} {m : MethodId} {args : Array Value} {below : List Frame} {meth : Method} {c : Code} {A : Nat → Prop} {E : RE} {q : Mem} (X : CX p s m meth c args cX11_readNot 4 RX11 none) {kE : Mem → Int32 → Option Mem} {d : Nat} (hE : ∀ (σ : Mem) (a : Int32) (q : Mem), kE σ a = some q → CV l (vR E) yX11_readExpression (.code yX11_readExpression cX11_readExpression 3 none :: GG) (rmE d) [.ref (ra E 0), .int a] σ q) : ∀ (σ : Mem) (x1 : Int32) (x2 : Int32) , f_X11_readNot_63 kE σ x1 x2 = some q → ∀ (H : Heap) (locs : List Loc) (ls : Array Slot), WI (vR E) A s H locs σ → lv_has ls 4 [(0, .ref (ra E 0)), (1, .int x1), (2, .int x2)] → W p l e (rm_X11_readNot d) s m args below meth c H locs 0 0 (MQ below (QV (vR E) A q) args s 0 0 A) (F0 m 63 ls []) := by
  have hx := X.1
  have hb := X.2.1
  intro σ x1 x2 h H locs ls I hl
  unfold f_X11_readNot_63 at h
  refine lv_aload_n hx hb dX11_readNot_63 rfl (lv_at hl 0 rfl) ?_
  refine lv_bipush (v := 60) hx hb dX11_readNot_64 (by decide) ?_
  obtain ⟨q1, hq1, h⟩ := bd h
  refine r_callVI (V := (vR E)) (k := 0) (As := [.int (60 : Int32)]) (rest := []) X I hl (c_X11_isMarked  hq1) yv_X11_isMarked tw_846 ⟨rfl, rfl, (by simp only [rm_X11_isMarked, rm_X11_readNot]; omega), (by simp only [rm_X11_isMarked, rm_X11_readNot]; omega)⟩ (Nat.le_of_ble_eq_true rfl) rfl rfl rfl rfl (Nat.le_of_ble_eq_true rfl) dX11_readNot_66 (fun H locs I => ?_)
  refine lv_if_eq (tgt := 77) hx hb dX11_readNot_69 (by decide) (fun c2 => ?_) (fun c2 => ?_)
  · have h := ite_t h c2
    refine lv_bipush (v := -25) hx hb dX11_readNot_77 (by decide) ?_
    refine lv_istore_n (lv' := [(3, .int (-25 : Int32)), (0, .ref (ra E 0)), (1, .int x1), (2, .int x2)]) hx hb dX11_readNot_79 rfl hl (by decide) rfl (fun ls hl => ?_)
    refine lv_aload_n hx hb dX11_readNot_80 rfl (lv_at hl 1 rfl) ?_
    obtain ⟨q3, hq3, h⟩ := bd h
    refine r_callVV (V := (vR E)) (k := 0) (As := []) (rest := []) X I hl (c_X11_stepOn  hq3) yv_X11_stepOn tw_841 ⟨rfl, rfl, (by simp only [rm_X11_stepOn, rm_X11_readNot]; omega), (by simp only [rm_X11_stepOn, rm_X11_readNot]; omega)⟩ (Nat.le_of_ble_eq_true rfl) rfl rfl rfl rfl (Nat.le_of_ble_eq_true rfl) dX11_readNot_81 (fun H locs I => ?_)
    refine lv_aload_n hx hb dX11_readNot_84 rfl (lv_at hl 1 rfl) ?_
    refine lv_iload_n hx hb dX11_readNot_85 rfl (lv_at hl 2 rfl) ?_
    obtain ⟨q4, hq4, h⟩ := bd h
    refine r_callVV (V := (vR E)) (k := 0) (As := [.int x1]) (rest := []) X I hl (c_X11_readSum hE hq4) yv_X11_readSum tw_895 ⟨rfl, rfl, (by simp only [rm_X11_readSum, rm_X11_readNot]; omega), (by simp only [rm_X11_readSum, rm_X11_readNot]; omega)⟩ (Nat.le_of_ble_eq_true rfl) rfl rfl rfl rfl (Nat.le_of_ble_eq_true rfl) dX11_readNot_86 (fun H locs I => ?_)
    refine lv_aload_n hx hb dX11_readNot_89 rfl (lv_at hl 1 rfl) ?_
    refine lv_iload_n hx hb dX11_readNot_90 rfl (lv_at hl 0 rfl) ?_
    obtain ⟨q5, hq5, h⟩ := bd h
    refine r_callVV (V := (vR E)) (k := 0) (As := [.int (-25 : Int32)]) (rest := []) X I hl (c_X11_lay  hq5) yv_X11_lay tw_875 ⟨rfl, rfl, (by simp only [rm_X11_lay, rm_X11_readNot]; omega), (by simp only [rm_X11_lay, rm_X11_readNot]; omega)⟩ (Nat.le_of_ble_eq_true rfl) rfl rfl rfl rfl (Nat.le_of_ble_eq_true rfl) dX11_readNot_91 (fun H locs I => ?_)
    refine lv_iconst (v := 0) hx hb dX11_readNot_94 (by decide) ?_
    refine lv_istore_n (lv' := [(3, .int (0 : Int32)), (0, .ref (ra E 0)), (1, .int x1), (2, .int x2)]) hx hb dX11_readNot_95 rfl hl (by decide) rfl (fun ls hl => ?_)
    exact w_X11_readNot_96 X hE  KF q5 (0 : Int32) h H locs ls I (lv_sub hl [1, 3, 0] rfl)
  · have h := ite_f h c2
    refine lv_bipush (v := -24) hx hb dX11_readNot_72 (by decide) ?_
    refine lv_goto (tgt := 79) hx hb dX11_readNot_74 (by decide) ?_
    refine lv_istore_n (lv' := [(3, .int (-24 : Int32)), (0, .ref (ra E 0)), (1, .int x1), (2, .int x2)]) hx hb dX11_readNot_79 rfl hl (by decide) rfl (fun ls hl => ?_)
    refine lv_aload_n hx hb dX11_readNot_80 rfl (lv_at hl 1 rfl) ?_
    obtain ⟨q6, hq6, h⟩ := bd h
    refine r_callVV (V := (vR E)) (k := 0) (As := []) (rest := []) X I hl (c_X11_stepOn  hq6) yv_X11_stepOn tw_841 ⟨rfl, rfl, (by simp only [rm_X11_stepOn, rm_X11_readNot]; omega), (by simp only [rm_X11_stepOn, rm_X11_readNot]; omega)⟩ (Nat.le_of_ble_eq_true rfl) rfl rfl rfl rfl (Nat.le_of_ble_eq_true rfl) dX11_readNot_81 (fun H locs I => ?_)
    refine lv_aload_n hx hb dX11_readNot_84 rfl (lv_at hl 1 rfl) ?_
    refine lv_iload_n hx hb dX11_readNot_85 rfl (lv_at hl 2 rfl) ?_
    obtain ⟨q7, hq7, h⟩ := bd h
    refine r_callVV (V := (vR E)) (k := 0) (As := [.int x1]) (rest := []) X I hl (c_X11_readSum hE hq7) yv_X11_readSum tw_895 ⟨rfl, rfl, (by simp only [rm_X11_readSum, rm_X11_readNot]; omega), (by simp only [rm_X11_readSum, rm_X11_readNot]; omega)⟩ (Nat.le_of_ble_eq_true rfl) rfl rfl rfl rfl (Nat.le_of_ble_eq_true rfl) dX11_readNot_86 (fun H locs I => ?_)
    refine lv_aload_n hx hb dX11_readNot_89 rfl (lv_at hl 1 rfl) ?_
    refine lv_iload_n hx hb dX11_readNot_90 rfl (lv_at hl 0 rfl) ?_
    obtain ⟨q8, hq8, h⟩ := bd h
    refine r_callVV (V := (vR E)) (k := 0) (As := [.int (-24 : Int32)]) (rest := []) X I hl (c_X11_lay  hq8) yv_X11_lay tw_875 ⟨rfl, rfl, (by simp only [rm_X11_lay, rm_X11_readNot]; omega), (by simp only [rm_X11_lay, rm_X11_readNot]; omega)⟩ (Nat.le_of_ble_eq_true rfl) rfl rfl rfl rfl (Nat.le_of_ble_eq_true rfl) dX11_readNot_91 (fun H locs I => ?_)
    refine lv_iconst (v := 0) hx hb dX11_readNot_94 (by decide) ?_
    refine lv_istore_n (lv' := [(3, .int (0 : Int32)), (0, .ref (ra E 0)), (1, .int x1), (2, .int x2)]) hx hb dX11_readNot_95 rfl hl (by decide) rfl (fun ls hl => ?_)
    exact w_X11_readNot_96 X hE  KF q8 (0 : Int32) h H locs ls I (lv_sub hl [1, 3, 0] rfl)
set_option maxHeartbeats 4000000 in
set_option maxRecDepth 100000 in
theorem w_X11_readNot_2 {p : Program} {l : Launch} {e : Env} {s : State} {m : MethodId} {args : Array Value} {below : List Frame} {meth : Method} {c : Code} {A : Nat → Prop} {E : RE} {q : Mem} (X : CX p s m meth c args cX11_readNot 4 RX11 none) {kE : Mem → Int32 → Option Mem} {d : Nat} {x1 : Int32} (hE : ∀ (σ : Mem) (a : Int32) (q : Mem), kE σ a = some q → CV l (vR E) yX11_readExpression (.code yX11_readExpression cX11_readExpression 3 none :: GG) (rmE d) [.ref (ra E 0), .int a] σ q) : ∀ (n : Nat), ∀ (σ : Mem) (x2 : Int32) , f_X11_readNot_2 kE x1 n σ x2 = some q → ∀ (H : Heap) (locs : List Loc) (ls : Array Slot), WI (vR E) A s H locs σ → lv_has ls 4 [(0, .ref (ra E 0)), (1, .int x1), (2, .int x2)] → W p l e (rm_X11_readNot d) s m args below meth c H locs 0 0 (MQ below (QV (vR E) A q) args s 0 0 A) (F0 m 2 ls []) := by
  have hx := X.1
  have hb := X.2.1
  intro n
  induction n with
  | zero =>
    intro σ x2 h
    cases h
  | succ n ih =>
    intro σ x2 h H locs ls I hl
    rw [f_X11_readNot_2] at h
    refine lv_aload_n hx hb dX11_readNot_2 rfl (lv_at hl 0 rfl) ?_
    refine ldcSWR X I (w := 44) (by decide) rfl rfl dX11_readNot_3 ?_
    obtain ⟨q1, hq1, h⟩ := bd h
    refine r_callVI (V := (vR E)) (k := 0) (As := [.ref (saR E 44)]) (rest := []) X I hl (c_X11_is (by decide) hq1) yv_X11_is tw_836 ⟨rfl, rfl, (by simp only [rm_X11_is, rm_X11_readNot]; omega), (by simp only [rm_X11_is, rm_X11_readNot]; omega)⟩ (Nat.le_of_ble_eq_true rfl) rfl rfl rfl rfl (Nat.le_of_ble_eq_true rfl) dX11_readNot_6 (fun H locs I => ?_)
    refine lv_if_eq (tgt := 40) hx hb dX11_readNot_9 (by decide) (fun c2 => ?_) (fun c2 => ?_)
    · have h := ite_t h c2
      refine lv_aload_n hx hb dX11_readNot_40 rfl (lv_at hl 0 rfl) ?_
      refine lv_iload_n hx hb dX11_readNot_41 rfl (lv_at hl 1 rfl) ?_
      obtain ⟨q3, hq3, h⟩ := bd h
      refine r_callVV (V := (vR E)) (k := 0) (As := [.int x1]) (rest := []) X I hl (c_X11_readSum hE hq3) yv_X11_readSum tw_895 ⟨rfl, rfl, (by simp only [rm_X11_readSum, rm_X11_readNot]; omega), (by simp only [rm_X11_readSum, rm_X11_readNot]; omega)⟩ (Nat.le_of_ble_eq_true rfl) rfl rfl rfl rfl (Nat.le_of_ble_eq_true rfl) dX11_readNot_42 (fun H locs I => ?_)
      refine lv_aload_n hx hb dX11_readNot_45 rfl (lv_at hl 0 rfl) ?_
      refine lv_bipush (v := 60) hx hb dX11_readNot_46 (by decide) ?_
      obtain ⟨q4, hq4, h⟩ := bd h
      refine r_callVI (V := (vR E)) (k := 0) (As := [.int (60 : Int32)]) (rest := []) X I hl (c_X11_isMarked  hq4) yv_X11_isMarked tw_846 ⟨rfl, rfl, (by simp only [rm_X11_isMarked, rm_X11_readNot]; omega), (by simp only [rm_X11_isMarked, rm_X11_readNot]; omega)⟩ (Nat.le_of_ble_eq_true rfl) rfl rfl rfl rfl (Nat.le_of_ble_eq_true rfl) dX11_readNot_48 (fun H locs I => ?_)
      refine lv_if_ne (tgt := 63) hx hb dX11_readNot_51 (by decide) (fun c5 => ?_) (fun c5 => ?_)
      · have h := ite_f h c5
        exact w_X11_readNot_63 X hE  q3 x1 x2 h H locs ls I (lv_sub hl [0, 1, 2] rfl)
      · have h := ite_t h c5
        refine lv_aload_n hx hb dX11_readNot_54 rfl (lv_at hl 0 rfl) ?_
        refine lv_bipush (v := 61) hx hb dX11_readNot_55 (by decide) ?_
        obtain ⟨q6, hq6, h⟩ := bd h
        refine r_callVI (V := (vR E)) (k := 0) (As := [.int (61 : Int32)]) (rest := []) X I hl (c_X11_isMarked  hq6) yv_X11_isMarked tw_846 ⟨rfl, rfl, (by simp only [rm_X11_isMarked, rm_X11_readNot]; omega), (by simp only [rm_X11_isMarked, rm_X11_readNot]; omega)⟩ (Nat.le_of_ble_eq_true rfl) rfl rfl rfl rfl (Nat.le_of_ble_eq_true rfl) dX11_readNot_57 (fun H locs I => ?_)
        refine lv_if_eq (tgt := 94) hx hb dX11_readNot_60 (by decide) (fun c7 => ?_) (fun c7 => ?_)
        · have h := ite_t h c7
          refine lv_iconst (v := 0) hx hb dX11_readNot_94 (by decide) ?_
          refine lv_istore_n (lv' := [(3, .int (0 : Int32)), (0, .ref (ra E 0)), (1, .int x1), (2, .int x2)]) hx hb dX11_readNot_95 rfl hl (by decide) rfl (fun ls hl => ?_)
          exact w_X11_readNot_96 X hE  KF q3 (0 : Int32) h H locs ls I (lv_sub hl [1, 3, 0] rfl)
        · have h := ite_f h c7
          exact w_X11_readNot_63 X hE  q3 x1 x2 h H locs ls I (lv_sub hl [0, 1, 2] rfl)
    · have h := ite_f h c2
      refine lv_iload_n hx hb dX11_readNot_12 rfl (lv_at hl 2 rfl) ?_
      refine lv_bipush (v := 6) hx hb dX11_readNot_13 (by decide) ?_
      refine lv_icmp_ne (tgt := 23) hx hb dX11_readNot_15 (by decide) (fun c8 => ?_) (fun c8 => ?_)
      · have h := ite_f h c8
        refine lv_iinc (v := (x2 + 1)) (lv' := [(2, .int (x2 + 1)), (0, .ref (ra E 0)), (1, .int x1)]) hx hb dX11_readNot_23 hl (k := 2) rfl rfl (by decide) rfl (fun ls hl => ?_)
        refine lv_aload_n hx hb dX11_readNot_26 rfl (lv_at hl 1 rfl) ?_
        refine gfR_X11_244 X I dX11_readNot_27 ?_
        refine lv_if_ne (tgt := 2) hx hb dX11_readNot_30 (by decide) (fun c9 => ?_) (fun c9 => ?_)
        · have h := ite_f h c9
          exact ih σ (x2 + 1) h H locs ls I (lv_sub hl [1, 2, 0] rfl)
        · have h := ite_t h c9
          refine lv_aload_n hx hb dX11_readNot_33 rfl (lv_at hl 1 rfl) ?_
          obtain ⟨q10, hq10, h⟩ := bd h
          refine r_callVV (V := (vR E)) (k := 0) (As := []) (rest := []) X I hl (c_X11_stepOn  hq10) yv_X11_stepOn tw_841 ⟨rfl, rfl, (by simp only [rm_X11_stepOn, rm_X11_readNot]; omega), (by simp only [rm_X11_stepOn, rm_X11_readNot]; omega)⟩ (Nat.le_of_ble_eq_true rfl) rfl rfl rfl rfl (Nat.le_of_ble_eq_true rfl) dX11_readNot_34 (fun H locs I => ?_)
          refine lv_goto (tgt := 2) hx hb dX11_readNot_37 (by decide) ?_
          exact ih q10 (x2 + 1) h H locs ls I (lv_sub hl [1, 2, 0] rfl)
      · have h := ite_t h c8
        refine lv_aload_n hx hb dX11_readNot_18 rfl (lv_at hl 0 rfl) ?_
        refine lv_iconst (v := 2) hx hb dX11_readNot_19 (by decide) ?_
        obtain ⟨q11, hq11, h⟩ := bd h
        refine r_callVV (V := (vR E)) (k := 0) (As := [.int (2 : Int32)]) (rest := []) X I hl (c_X11_wrong  hq11) yv_X11_wrong tw_851 ⟨rfl, rfl, (by simp only [rm_X11_wrong, rm_X11_readNot]; omega), (by simp only [rm_X11_wrong, rm_X11_readNot]; omega)⟩ (Nat.le_of_ble_eq_true rfl) rfl rfl rfl rfl (Nat.le_of_ble_eq_true rfl) dX11_readNot_20 (fun H locs I => ?_)
        refine lv_iinc (v := (x2 + 1)) (lv' := [(2, .int (x2 + 1)), (0, .ref (ra E 0)), (1, .int x1)]) hx hb dX11_readNot_23 hl (k := 2) rfl rfl (by decide) rfl (fun ls hl => ?_)
        refine lv_aload_n hx hb dX11_readNot_26 rfl (lv_at hl 1 rfl) ?_
        refine gfR_X11_244 X I dX11_readNot_27 ?_
        refine lv_if_ne (tgt := 2) hx hb dX11_readNot_30 (by decide) (fun c12 => ?_) (fun c12 => ?_)
        · have h := ite_f h c12
          exact ih q11 (x2 + 1) h H locs ls I (lv_sub hl [1, 2, 0] rfl)
        · have h := ite_t h c12
          refine lv_aload_n hx hb dX11_readNot_33 rfl (lv_at hl 1 rfl) ?_
          obtain ⟨q13, hq13, h⟩ := bd h
          refine r_callVV (V := (vR E)) (k := 0) (As := []) (rest := []) X I hl (c_X11_stepOn  hq13) yv_X11_stepOn tw_841 ⟨rfl, rfl, (by simp only [rm_X11_stepOn, rm_X11_readNot]; omega), (by simp only [rm_X11_stepOn, rm_X11_readNot]; omega)⟩ (Nat.le_of_ble_eq_true rfl) rfl rfl rfl rfl (Nat.le_of_ble_eq_true rfl) dX11_readNot_34 (fun H locs I => ?_)
          refine lv_goto (tgt := 2) hx hb dX11_readNot_37 (by decide) ?_
          exact ih q13 (x2 + 1) h H locs ls I (lv_sub hl [1, 2, 0] rfl)
set_option maxHeartbeats 4000000 in
set_option maxRecDepth 100000 in
theorem w_X11_readNot_0 {p : Program} {l : Launch} {e : Env} {s : State} {m : MethodId} {args : Array Value} {below : List Frame} {meth : Method} {c : Code} {A : Nat → Prop} {E : RE} {q : Mem} (X : CX p s m meth c args cX11_readNot 4 RX11 none) {kE : Mem → Int32 → Option Mem} {d : Nat} (hE : ∀ (σ : Mem) (a : Int32) (q : Mem), kE σ a = some q → CV l (vR E) yX11_readExpression (.code yX11_readExpression cX11_readExpression 3 none :: GG) (rmE d) [.ref (ra E 0), .int a] σ q) : ∀ (σ : Mem) (x1 : Int32) , m_X11_readNot kE σ x1 = some q → ∀ (H : Heap) (locs : List Loc) (ls : Array Slot), WI (vR E) A s H locs σ → lv_has ls 4 [(0, .ref (ra E 0)), (1, .int x1)] → W p l e (rm_X11_readNot d) s m args below meth c H locs 0 0 (MQ below (QV (vR E) A q) args s 0 0 A) (F0 m 0 ls []) := by
  have hx := X.1
  have hb := X.2.1
  intro σ x1 h H locs ls I hl
  unfold m_X11_readNot at h
  refine lv_iconst (v := 0) hx hb dX11_readNot_0 (by decide) ?_
  refine lv_istore_n (lv' := [(2, .int (0 : Int32)), (0, .ref (ra E 0)), (1, .int x1)]) hx hb dX11_readNot_1 rfl hl (by decide) rfl (fun ls hl => ?_)
  exact w_X11_readNot_2 X hE  KF σ (0 : Int32) h H locs ls I (lv_sub hl [1, 2, 0] rfl)
theorem c_X11_readNot {l : Launch} {E : RE} {kE : Mem → Int32 → Option Mem} {d : Nat} {σ : Mem} {x1 : Int32} (hE : ∀ (σ : Mem) (a : Int32) (q : Mem), kE σ a = some q → CV l (vR E) yX11_readExpression (.code yX11_readExpression cX11_readExpression 3 none :: GG) (rmE d) [.ref (ra E 0), .int a] σ q) {q : Mem} (h : m_X11_readNot kE σ x1 = some q) : CV l (vR E) yX11_readNot (.code yX11_readNot cX11_readNot 4 none :: GG) (rm_X11_readNot d) [.ref (ra E 0), .int x1] σ q :=
  mk_CV (by decide +kernel) (Nat.le_of_ble_eq_true rfl) (fun p e s m args below meth c A ls X I hl => w_X11_readNot_0 X hE σ x1 h s.heap [] ls I (lv_sub hl [0, 1] rfl))

def rm_X11_readAnd (d : Nat) : Room := { frames := 25 + 10 * d, cells := 0, slots := 0, locals := 1000 + 300 * d }
def f_X11_readAnd_5 (kE : Mem → Int32 → Option Mem) (x1 : Int32) : Nat → Mem → Option (Mem)
  | 0, _ => none
  | n + 1, σ => ((m_X11_is 45 σ).bind fun q1 => (if q1 = (0 : Int32) then (some σ) else ((m_X11_stepOn σ).bind fun q3 => ((m_X11_readNot kE q3 x1).bind fun q4 => ((m_X11_lay q4 (-26 : Int32)).bind fun q5 => f_X11_readAnd_5 kE x1 n q5)))))
def m_X11_readAnd (kE : Mem → Int32 → Option Mem) (σ : Mem) (x1 : Int32) : Option (Mem) := ((m_X11_readNot kE σ x1).bind fun q1 => (f_X11_readAnd_5 kE x1 KF q1))
set_option maxHeartbeats 4000000 in
set_option maxRecDepth 100000 in
theorem w_X11_readAnd_5 {p : Program} {l : Launch} {e : Env} {s : State} {m : MethodId} {args : Array Value} {below : List Frame} {meth : Method} {c : Code} {A : Nat → Prop} {E : RE} {q : Mem} (X : CX p s m meth c args cX11_readAnd 2 RX11 none) {kE : Mem → Int32 → Option Mem} {d : Nat} {x1 : Int32} (hE : ∀ (σ : Mem) (a : Int32) (q : Mem), kE σ a = some q → CV l (vR E) yX11_readExpression (.code yX11_readExpression cX11_readExpression 3 none :: GG) (rmE d) [.ref (ra E 0), .int a] σ q) : ∀ (n : Nat), ∀ (σ : Mem)  , f_X11_readAnd_5 kE x1 n σ = some q → ∀ (H : Heap) (locs : List Loc) (ls : Array Slot), WI (vR E) A s H locs σ → lv_has ls 2 [(0, .ref (ra E 0)), (1, .int x1)] → W p l e (rm_X11_readAnd d) s m args below meth c H locs 0 0 (MQ below (QV (vR E) A q) args s 0 0 A) (F0 m 5 ls []) := by
  have hx := X.1
  have hb := X.2.1
  intro n
  induction n with
  | zero =>
    intro σ  h
    cases h
  | succ n ih =>
    intro σ  h H locs ls I hl
    rw [f_X11_readAnd_5] at h
    refine lv_aload_n hx hb dX11_readAnd_5 rfl (lv_at hl 0 rfl) ?_
    refine ldcSWR X I (w := 45) (by decide) rfl rfl dX11_readAnd_6 ?_
    obtain ⟨q1, hq1, h⟩ := bd h
    refine r_callVI (V := (vR E)) (k := 0) (As := [.ref (saR E 45)]) (rest := []) X I hl (c_X11_is (by decide) hq1) yv_X11_is tw_836 ⟨rfl, rfl, (by simp only [rm_X11_is, rm_X11_readAnd]; omega), (by simp only [rm_X11_is, rm_X11_readAnd]; omega)⟩ (Nat.le_of_ble_eq_true rfl) rfl rfl rfl rfl (Nat.le_of_ble_eq_true rfl) dX11_readAnd_9 (fun H locs I => ?_)
    refine lv_if_eq (tgt := 33) hx hb dX11_readAnd_12 (by decide) (fun c2 => ?_) (fun c2 => ?_)
    · have h := ite_t h c2
      exact r_vret X I (Option.some.inj h).symm dX11_readAnd_33
    · have h := ite_f h c2
      refine lv_aload_n hx hb dX11_readAnd_15 rfl (lv_at hl 0 rfl) ?_
      obtain ⟨q3, hq3, h⟩ := bd h
      refine r_callVV (V := (vR E)) (k := 0) (As := []) (rest := []) X I hl (c_X11_stepOn  hq3) yv_X11_stepOn tw_841 ⟨rfl, rfl, (by simp only [rm_X11_stepOn, rm_X11_readAnd]; omega), (by simp only [rm_X11_stepOn, rm_X11_readAnd]; omega)⟩ (Nat.le_of_ble_eq_true rfl) rfl rfl rfl rfl (Nat.le_of_ble_eq_true rfl) dX11_readAnd_16 (fun H locs I => ?_)
      refine lv_aload_n hx hb dX11_readAnd_19 rfl (lv_at hl 0 rfl) ?_
      refine lv_iload_n hx hb dX11_readAnd_20 rfl (lv_at hl 1 rfl) ?_
      obtain ⟨q4, hq4, h⟩ := bd h
      refine r_callVV (V := (vR E)) (k := 0) (As := [.int x1]) (rest := []) X I hl (c_X11_readNot hE hq4) yv_X11_readNot tw_900 ⟨rfl, rfl, (by simp only [rm_X11_readNot, rm_X11_readAnd]; omega), (by simp only [rm_X11_readNot, rm_X11_readAnd]; omega)⟩ (Nat.le_of_ble_eq_true rfl) rfl rfl rfl rfl (Nat.le_of_ble_eq_true rfl) dX11_readAnd_21 (fun H locs I => ?_)
      refine lv_aload_n hx hb dX11_readAnd_24 rfl (lv_at hl 0 rfl) ?_
      refine lv_bipush (v := -26) hx hb dX11_readAnd_25 (by decide) ?_
      obtain ⟨q5, hq5, h⟩ := bd h
      refine r_callVV (V := (vR E)) (k := 0) (As := [.int (-26 : Int32)]) (rest := []) X I hl (c_X11_lay  hq5) yv_X11_lay tw_875 ⟨rfl, rfl, (by simp only [rm_X11_lay, rm_X11_readAnd]; omega), (by simp only [rm_X11_lay, rm_X11_readAnd]; omega)⟩ (Nat.le_of_ble_eq_true rfl) rfl rfl rfl rfl (Nat.le_of_ble_eq_true rfl) dX11_readAnd_27 (fun H locs I => ?_)
      refine lv_goto (tgt := 5) hx hb dX11_readAnd_30 (by decide) ?_
      exact ih q5 h H locs ls I (lv_sub hl [0, 1] rfl)
set_option maxHeartbeats 4000000 in
set_option maxRecDepth 100000 in
theorem w_X11_readAnd_0 {p : Program} {l : Launch} {e : Env} {s : State} {m : MethodId} {args : Array Value} {below : List Frame} {meth : Method} {c : Code} {A : Nat → Prop} {E : RE} {q : Mem} (X : CX p s m meth c args cX11_readAnd 2 RX11 none) {kE : Mem → Int32 → Option Mem} {d : Nat} (hE : ∀ (σ : Mem) (a : Int32) (q : Mem), kE σ a = some q → CV l (vR E) yX11_readExpression (.code yX11_readExpression cX11_readExpression 3 none :: GG) (rmE d) [.ref (ra E 0), .int a] σ q) : ∀ (σ : Mem) (x1 : Int32) , m_X11_readAnd kE σ x1 = some q → ∀ (H : Heap) (locs : List Loc) (ls : Array Slot), WI (vR E) A s H locs σ → lv_has ls 2 [(0, .ref (ra E 0)), (1, .int x1)] → W p l e (rm_X11_readAnd d) s m args below meth c H locs 0 0 (MQ below (QV (vR E) A q) args s 0 0 A) (F0 m 0 ls []) := by
  have hx := X.1
  have hb := X.2.1
  intro σ x1 h H locs ls I hl
  unfold m_X11_readAnd at h
  refine lv_aload_n hx hb dX11_readAnd_0 rfl (lv_at hl 0 rfl) ?_
  refine lv_iload_n hx hb dX11_readAnd_1 rfl (lv_at hl 1 rfl) ?_
  obtain ⟨q1, hq1, h⟩ := bd h
  refine r_callVV (V := (vR E)) (k := 0) (As := [.int x1]) (rest := []) X I hl (c_X11_readNot hE hq1) yv_X11_readNot tw_900 ⟨rfl, rfl, (by simp only [rm_X11_readNot, rm_X11_readAnd]; omega), (by simp only [rm_X11_readNot, rm_X11_readAnd]; omega)⟩ (Nat.le_of_ble_eq_true rfl) rfl rfl rfl rfl (Nat.le_of_ble_eq_true rfl) dX11_readAnd_2 (fun H locs I => ?_)
  exact w_X11_readAnd_5 X hE  KF q1 h H locs ls I (lv_sub hl [0, 1] rfl)
theorem c_X11_readAnd {l : Launch} {E : RE} {kE : Mem → Int32 → Option Mem} {d : Nat} {σ : Mem} {x1 : Int32} (hE : ∀ (σ : Mem) (a : Int32) (q : Mem), kE σ a = some q → CV l (vR E) yX11_readExpression (.code yX11_readExpression cX11_readExpression 3 none :: GG) (rmE d) [.ref (ra E 0), .int a] σ q) {q : Mem} (h : m_X11_readAnd kE σ x1 = some q) : CV l (vR E) yX11_readAnd (.code yX11_readAnd cX11_readAnd 2 none :: GG) (rm_X11_readAnd d) [.ref (ra E 0), .int x1] σ q :=
  mk_CV (by decide +kernel) (Nat.le_of_ble_eq_true rfl) (fun p e s m args below meth c A ls X I hl => w_X11_readAnd_0 X hE σ x1 h s.heap [] ls I (lv_sub hl [0, 1] rfl))

def rm_X11_readExpression_b (d : Nat) : Room := { frames := 30 + 10 * d, cells := 0, slots := 0, locals := 1100 + 300 * d }
def f_X11_readExpression_b_67 (kE : Mem → Int32 → Option Mem) (x1 : Int32) : Nat → Mem → Option (Mem)
  | 0, _ => none
  | n + 1, σ => ((m_X11_is 46 σ).bind fun q1 => (if q1 = (0 : Int32) then (some σ) else ((m_X11_stepOn σ).bind fun q3 => ((m_X11_readAnd kE q3 x1).bind fun q4 => ((m_X11_lay q4 (-27 : Int32)).bind fun q5 => f_X11_readExpression_b_67 kE x1 n q5)))))
def f_X11_readExpression_b_38 (kE : Mem → Int32 → Option Mem) (σ : Mem) (x1 : Int32) (z0 : Int32) : Option (Mem) := (if z0 = (0 : Int32) then ((m_X11_wrong σ (1 : Int32)).bind fun q6 => ((m_X11_readAnd kE q6 x1).bind fun q7 => (f_X11_readExpression_b_67 kE x1 KF q7))) else (if x1 = (6 : Int32) then ((m_X11_wrong σ (2 : Int32)).bind fun q4 => ((m_X11_readAnd kE q4 x1).bind fun q5 => (f_X11_readExpression_b_67 kE x1 KF q5))) else ((m_X11_readAnd kE σ x1).bind fun q3 => (f_X11_readExpression_b_67 kE x1 KF q3))))
def m_X11_readExpression_b (kE : Mem → Int32 → Option Mem) (σ : Mem) (x1 : Int32) : Option (Mem) := (if (σ 0 28) = (0 : Int32) then (if (σ 0 24) = (2 : Int32) then (f_X11_readExpression_b_38 kE σ x1 (1 : Int32)) else (if (σ 0 24) = (1 : Int32) then (f_X11_readExpression_b_38 kE σ x1 (1 : Int32)) else ((m_X11_isMarked σ (40 : Int32)).bind fun q4 => (if q4 = (0 : Int32) then (f_X11_readExpression_b_38 kE σ x1 (0 : Int32)) else (f_X11_readExpression_b_38 kE σ x1 (1 : Int32)))))) else (some σ))
set_option maxHeartbeats 4000000 in
set_option maxRecDepth 100000 in
theorem w_X11_readExpression_b_67 {p : Program} {l : Launch} {e : Env} {s : State} {m : MethodId} {args : Array Value} {below : List Frame} {meth : Method} {c : Code} {A : Nat → Prop} {E : RE} {q : Mem} (X : CX p s m meth c args cX11_readExpression 3 RX11 none) {kE : Mem → Int32 → Option Mem} {d : Nat} {x1 : Int32} (hE : ∀ (σ : Mem) (a : Int32) (q : Mem), kE σ a = some q → CV l (vR E) yX11_readExpression (.code yX11_readExpression cX11_readExpression 3 none :: GG) (rmE d) [.ref (ra E 0), .int a] σ q) : ∀ (n : Nat), ∀ (σ : Mem)  , f_X11_readExpression_b_67 kE x1 n σ = some q → ∀ (H : Heap) (locs : List Loc) (ls : Array Slot), WI (vR E) A s H locs σ → lv_has ls 3 [(0, .ref (ra E 0)), (1, .int x1)] → W p l e (rm_X11_readExpression_b d) s m args below meth c H locs 0 0 (MQ below (QV (vR E) A q) args s 0 0 A) (F0 m 67 ls []) := by
  have hx := X.1
  have hb := X.2.1
  intro n
  induction n with
  | zero =>
    intro σ  h
    cases h
  | succ n ih =>
    intro σ  h H locs ls I hl
    rw [f_X11_readExpression_b_67] at h
    refine lv_aload_n hx hb dX11_readExpression_67 rfl (lv_at hl 0 rfl) ?_
    refine ldcSWR X I (w := 46) (by decide) rfl rfl dX11_readExpression_68 ?_
    obtain ⟨q1, hq1, h⟩ := bd h
    refine r_callVI (V := (vR E)) (k := 0) (As := [.ref (saR E 46)]) (rest := []) X I hl (c_X11_is (by decide) hq1) yv_X11_is tw_836 ⟨rfl, rfl, (by simp only [rm_X11_is, rm_X11_readExpression_b]; omega), (by simp only [rm_X11_is, rm_X11_readExpression_b]; omega)⟩ (Nat.le_of_ble_eq_true rfl) rfl rfl rfl rfl (Nat.le_of_ble_eq_true rfl) dX11_readExpression_71 (fun H locs I => ?_)
    refine lv_if_eq (tgt := 95) hx hb dX11_readExpression_74 (by decide) (fun c2 => ?_) (fun c2 => ?_)
    · have h := ite_t h c2
      exact r_vret X I (Option.some.inj h).symm dX11_readExpression_95
    · have h := ite_f h c2
      refine lv_aload_n hx hb dX11_readExpression_77 rfl (lv_at hl 0 rfl) ?_
      obtain ⟨q3, hq3, h⟩ := bd h
      refine r_callVV (V := (vR E)) (k := 0) (As := []) (rest := []) X I hl (c_X11_stepOn  hq3) yv_X11_stepOn tw_841 ⟨rfl, rfl, (by simp only [rm_X11_stepOn, rm_X11_readExpression_b]; omega), (by simp only [rm_X11_stepOn, rm_X11_readExpression_b]; omega)⟩ (Nat.le_of_ble_eq_true rfl) rfl rfl rfl rfl (Nat.le_of_ble_eq_true rfl) dX11_readExpression_78 (fun H locs I => ?_)
      refine lv_aload_n hx hb dX11_readExpression_81 rfl (lv_at hl 0 rfl) ?_
      refine lv_iload_n hx hb dX11_readExpression_82 rfl (lv_at hl 1 rfl) ?_
      obtain ⟨q4, hq4, h⟩ := bd h
      refine r_callVV (V := (vR E)) (k := 0) (As := [.int x1]) (rest := []) X I hl (c_X11_readAnd hE hq4) yv_X11_readAnd tw_905 ⟨rfl, rfl, (by simp only [rm_X11_readAnd, rm_X11_readExpression_b]; omega), (by simp only [rm_X11_readAnd, rm_X11_readExpression_b]; omega)⟩ (Nat.le_of_ble_eq_true rfl) rfl rfl rfl rfl (Nat.le_of_ble_eq_true rfl) dX11_readExpression_83 (fun H locs I => ?_)
      refine lv_aload_n hx hb dX11_readExpression_86 rfl (lv_at hl 0 rfl) ?_
      refine lv_bipush (v := -27) hx hb dX11_readExpression_87 (by decide) ?_
      obtain ⟨q5, hq5, h⟩ := bd h
      refine r_callVV (V := (vR E)) (k := 0) (As := [.int (-27 : Int32)]) (rest := []) X I hl (c_X11_lay  hq5) yv_X11_lay tw_875 ⟨rfl, rfl, (by simp only [rm_X11_lay, rm_X11_readExpression_b]; omega), (by simp only [rm_X11_lay, rm_X11_readExpression_b]; omega)⟩ (Nat.le_of_ble_eq_true rfl) rfl rfl rfl rfl (Nat.le_of_ble_eq_true rfl) dX11_readExpression_89 (fun H locs I => ?_)
      refine lv_goto (tgt := 67) hx hb dX11_readExpression_92 (by decide) ?_
      exact ih q5 h H locs ls I (lv_sub hl [0, 1] rfl)
set_option maxHeartbeats 4000000 in
set_option maxRecDepth 100000 in
theorem w_X11_readExpression_b_38 {p : Program} {l : Launch} {e : Env} {s : State} {m : MethodId} {args : Array Value} {below : List Frame} {meth : Method} {c : Code} {A : Nat → Prop} {E : RE} {q : Mem} (X : CX p s m meth c args cX11_readExpression 3 RX11 none) {kE : Mem → Int32 → Option Mem} {d : Nat} (hE : ∀ (σ : Mem) (a : Int32) (q : Mem), kE σ a = some q → CV l (vR E) yX11_readExpression (.code yX11_readExpression cX11_readExpression 3 none :: GG) (rmE d) [.ref (ra E 0), .int a] σ q) : ∀ (σ : Mem) (x1 : Int32) (z0 : Int32), f_X11_readExpression_b_38 kE σ x1 z0 = some q → ∀ (H : Heap) (locs : List Loc) (ls : Array Slot), WI (vR E) A s H locs σ → lv_has ls 3 [(0, .ref (ra E 0)), (1, .int x1)] → W p l e (rm_X11_readExpression_b d) s m args below meth c H locs 0 0 (MQ below (QV (vR E) A q) args s 0 0 A) (F0 m 38 ls [.int z0]) := by
  have hx := X.1
  have hb := X.2.1
  intro σ x1 z0 h H locs ls I hl
  unfold f_X11_readExpression_b_38 at h
  refine lv_istore_n (lv' := [(2, .int z0), (0, .ref (ra E 0)), (1, .int x1)]) hx hb dX11_readExpression_38 rfl hl (by decide) rfl (fun ls hl => ?_)
  refine lv_iload_n hx hb dX11_readExpression_39 rfl (lv_at hl 0 rfl) ?_
  refine lv_if_ne (tgt := 51) hx hb dX11_readExpression_40 (by decide) (fun c1 => ?_) (fun c1 => ?_)
  · have h := ite_f h c1
    refine lv_iload_n hx hb dX11_readExpression_51 rfl (lv_at hl 2 rfl) ?_
    refine lv_bipush (v := 6) hx hb dX11_readExpression_52 (by decide) ?_
    refine lv_icmp_ne (tgt := 62) hx hb dX11_readExpression_54 (by decide) (fun c2 => ?_) (fun c2 => ?_)
    · have h := ite_f h c2
      refine lv_aload_n hx hb dX11_readExpression_62 rfl (lv_at hl 1 rfl) ?_
      refine lv_iload_n hx hb dX11_readExpression_63 rfl (lv_at hl 2 rfl) ?_
      obtain ⟨q3, hq3, h⟩ := bd h
      refine r_callVV (V := (vR E)) (k := 0) (As := [.int x1]) (rest := []) X I hl (c_X11_readAnd hE hq3) yv_X11_readAnd tw_905 ⟨rfl, rfl, (by simp only [rm_X11_readAnd, rm_X11_readExpression_b]; omega), (by simp only [rm_X11_readAnd, rm_X11_readExpression_b]; omega)⟩ (Nat.le_of_ble_eq_true rfl) rfl rfl rfl rfl (Nat.le_of_ble_eq_true rfl) dX11_readExpression_64 (fun H locs I => ?_)
      exact w_X11_readExpression_b_67 X hE  KF q3 h H locs ls I (lv_sub hl [1, 2] rfl)
    · have h := ite_t h c2
      refine lv_aload_n hx hb dX11_readExpression_57 rfl (lv_at hl 1 rfl) ?_
      refine lv_iconst (v := 2) hx hb dX11_readExpression_58 (by decide) ?_
      obtain ⟨q4, hq4, h⟩ := bd h
      refine r_callVV (V := (vR E)) (k := 0) (As := [.int (2 : Int32)]) (rest := []) X I hl (c_X11_wrong  hq4) yv_X11_wrong tw_851 ⟨rfl, rfl, (by simp only [rm_X11_wrong, rm_X11_readExpression_b]; omega), (by simp only [rm_X11_wrong, rm_X11_readExpression_b]; omega)⟩ (Nat.le_of_ble_eq_true rfl) rfl rfl rfl rfl (Nat.le_of_ble_eq_true rfl) dX11_readExpression_59 (fun H locs I => ?_)
      refine lv_aload_n hx hb dX11_readExpression_62 rfl (lv_at hl 1 rfl) ?_
      refine lv_iload_n hx hb dX11_readExpression_63 rfl (lv_at hl 2 rfl) ?_
      obtain ⟨q5, hq5, h⟩ := bd h
      refine r_callVV (V := (vR E)) (k := 0) (As := [.int x1]) (rest := []) X I hl (c_X11_readAnd hE hq5) yv_X11_readAnd tw_905 ⟨rfl, rfl, (by simp only [rm_X11_readAnd, rm_X11_readExpression_b]; omega), (by simp only [rm_X11_readAnd, rm_X11_readExpression_b]; omega)⟩ (Nat.le_of_ble_eq_true rfl) rfl rfl rfl rfl (Nat.le_of_ble_eq_true rfl) dX11_readExpression_64 (fun H locs I => ?_)
      exact w_X11_readExpression_b_67 X hE  KF q5 h H locs ls I (lv_sub hl [1, 2] rfl)
  · have h := ite_t h c1
    refine lv_aload_n hx hb dX11_readExpression_43 rfl (lv_at hl 1 rfl) ?_
    refine lv_iconst (v := 1) hx hb dX11_readExpression_44 (by decide) ?_
    obtain ⟨q6, hq6, h⟩ := bd h
    refine r_callVV (V := (vR E)) (k := 0) (As := [.int (1 : Int32)]) (rest := []) X I hl (c_X11_wrong  hq6) yv_X11_wrong tw_851 ⟨rfl, rfl, (by simp only [rm_X11_wrong, rm_X11_readExpression_b]; omega), (by simp only [rm_X11_wrong, rm_X11_readExpression_b]; omega)⟩ (Nat.le_of_ble_eq_true rfl) rfl rfl rfl rfl (Nat.le_of_ble_eq_true rfl) dX11_readExpression_45 (fun H locs I => ?_)
    refine lv_goto (tgt := 62) hx hb dX11_readExpression_48 (by decide) ?_
    refine lv_aload_n hx hb dX11_readExpression_62 rfl (lv_at hl 1 rfl) ?_
    refine lv_iload_n hx hb dX11_readExpression_63 rfl (lv_at hl 2 rfl) ?_
    obtain ⟨q7, hq7, h⟩ := bd h
    refine r_callVV (V := (vR E)) (k := 0) (As := [.int x1]) (rest := []) X I hl (c_X11_readAnd hE hq7) yv_X11_readAnd tw_905 ⟨rfl, rfl, (by simp only [rm_X11_readAnd, rm_X11_readExpression_b]; omega), (by simp only [rm_X11_readAnd, rm_X11_readExpression_b]; omega)⟩ (Nat.le_of_ble_eq_true rfl) rfl rfl rfl rfl (Nat.le_of_ble_eq_true rfl) dX11_readExpression_64 (fun H locs I => ?_)
    exact w_X11_readExpression_b_67 X hE  KF q7 h H locs ls I (lv_sub hl [1, 2] rfl)
set_option maxHeartbeats 4000000 in
set_option maxRecDepth 100000 in
theorem w_X11_readExpression_b_0 {p : Program} {l : Launch} {e : Env} {s : State} {m : MethodId} {args : Array Value} {below : List Frame} {meth : Method} {c : Code} {A : Nat → Prop} {E : RE} {q : Mem} (X : CX p s m meth c args cX11_readExpression 3 RX11 none) {kE : Mem → Int32 → Option Mem} {d : Nat} (hE : ∀ (σ : Mem) (a : Int32) (q : Mem), kE σ a = some q → CV l (vR E) yX11_readExpression (.code yX11_readExpression cX11_readExpression 3 none :: GG) (rmE d) [.ref (ra E 0), .int a] σ q) : ∀ (σ : Mem) (x1 : Int32) , m_X11_readExpression_b kE σ x1 = some q → ∀ (H : Heap) (locs : List Loc) (ls : Array Slot), WI (vR E) A s H locs σ → lv_has ls 3 [(0, .ref (ra E 0)), (1, .int x1)] → W p l e (rm_X11_readExpression_b d) s m args below meth c H locs 0 0 (MQ below (QV (vR E) A q) args s 0 0 A) (F0 m 0 ls []) := by
  have hx := X.1
  have hb := X.2.1
  intro σ x1 h H locs ls I hl
  unfold m_X11_readExpression_b at h
  refine lv_aload_n hx hb dX11_readExpression_0 rfl (lv_at hl 0 rfl) ?_
  refine gfR_X11_244 X I dX11_readExpression_1 ?_
  refine lv_if_eq (tgt := 8) hx hb dX11_readExpression_4 (by decide) (fun c1 => ?_) (fun c1 => ?_)
  · have h := ite_t h c1
    refine lv_aload_n hx hb dX11_readExpression_8 rfl (lv_at hl 0 rfl) ?_
    refine gfR_X11_218 X I dX11_readExpression_9 ?_
    refine lv_iconst (v := 2) hx hb dX11_readExpression_12 (by decide) ?_
    refine lv_icmp_eq (tgt := 33) hx hb dX11_readExpression_13 (by decide) (fun c2 => ?_) (fun c2 => ?_)
    · have h := ite_t h c2
      refine lv_iconst (v := 1) hx hb dX11_readExpression_33 (by decide) ?_
      refine lv_goto (tgt := 38) hx hb dX11_readExpression_34 (by decide) ?_
      exact w_X11_readExpression_b_38 X hE  σ x1 (1 : Int32) h H locs ls I (lv_sub hl [0, 1] rfl)
    · have h := ite_f h c2
      refine lv_aload_n hx hb dX11_readExpression_16 rfl (lv_at hl 0 rfl) ?_
      refine gfR_X11_218 X I dX11_readExpression_17 ?_
      refine lv_iconst (v := 1) hx hb dX11_readExpression_20 (by decide) ?_
      refine lv_icmp_eq (tgt := 33) hx hb dX11_readExpression_21 (by decide) (fun c3 => ?_) (fun c3 => ?_)
      · have h := ite_t h c3
        refine lv_iconst (v := 1) hx hb dX11_readExpression_33 (by decide) ?_
        refine lv_goto (tgt := 38) hx hb dX11_readExpression_34 (by decide) ?_
        exact w_X11_readExpression_b_38 X hE  σ x1 (1 : Int32) h H locs ls I (lv_sub hl [0, 1] rfl)
      · have h := ite_f h c3
        refine lv_aload_n hx hb dX11_readExpression_24 rfl (lv_at hl 0 rfl) ?_
        refine lv_bipush (v := 40) hx hb dX11_readExpression_25 (by decide) ?_
        obtain ⟨q4, hq4, h⟩ := bd h
        refine r_callVI (V := (vR E)) (k := 0) (As := [.int (40 : Int32)]) (rest := []) X I hl (c_X11_isMarked  hq4) yv_X11_isMarked tw_846 ⟨rfl, rfl, (by simp only [rm_X11_isMarked, rm_X11_readExpression_b]; omega), (by simp only [rm_X11_isMarked, rm_X11_readExpression_b]; omega)⟩ (Nat.le_of_ble_eq_true rfl) rfl rfl rfl rfl (Nat.le_of_ble_eq_true rfl) dX11_readExpression_27 (fun H locs I => ?_)
        refine lv_if_eq (tgt := 37) hx hb dX11_readExpression_30 (by decide) (fun c5 => ?_) (fun c5 => ?_)
        · have h := ite_t h c5
          refine lv_iconst (v := 0) hx hb dX11_readExpression_37 (by decide) ?_
          exact w_X11_readExpression_b_38 X hE  σ x1 (0 : Int32) h H locs ls I (lv_sub hl [0, 1] rfl)
        · have h := ite_f h c5
          refine lv_iconst (v := 1) hx hb dX11_readExpression_33 (by decide) ?_
          refine lv_goto (tgt := 38) hx hb dX11_readExpression_34 (by decide) ?_
          exact w_X11_readExpression_b_38 X hE  σ x1 (1 : Int32) h H locs ls I (lv_sub hl [0, 1] rfl)
  · have h := ite_f h c1
    exact r_vret X I (Option.some.inj h).symm dX11_readExpression_7
theorem c_X11_readExpression_b {l : Launch} {E : RE} {kE : Mem → Int32 → Option Mem} {d : Nat} {σ : Mem} {x1 : Int32} (hE : ∀ (σ : Mem) (a : Int32) (q : Mem), kE σ a = some q → CV l (vR E) yX11_readExpression (.code yX11_readExpression cX11_readExpression 3 none :: GG) (rmE d) [.ref (ra E 0), .int a] σ q) {q : Mem} (h : m_X11_readExpression_b kE σ x1 = some q) : CV l (vR E) yX11_readExpression (.code yX11_readExpression cX11_readExpression 3 none :: GG) (rm_X11_readExpression_b d) [.ref (ra E 0), .int x1] σ q :=
  mk_CV (by decide +kernel) (Nat.le_of_ble_eq_true rfl) (fun p e s m args below meth c A ls X I hl => w_X11_readExpression_b_0 X hE σ x1 h s.heap [] ls I (lv_sub hl [0, 1] rfl))

def m_X11_readExpression : Nat → Mem → Int32 → Option Mem
  | 0, _, _ => none
  | d + 1, σ, x => m_X11_readExpression_b (m_X11_readExpression d) σ x
theorem c_X11_readExpression {l : Launch} {E : RE} : ∀ (d : Nat) (σ : Mem) (a : Int32) (q : Mem), m_X11_readExpression d σ a = some q → CV l (vR E) yX11_readExpression (.code yX11_readExpression cX11_readExpression 3 none :: GG) (rmE d) [.ref (ra E 0), .int a] σ q := by
  intro d
  induction d with
  | zero => intro σ a q h; cases h
  | succ d ih =>
    intro σ a q h
    have h0 := c_X11_readExpression_b (l := l) (E := E) (kE := m_X11_readExpression d) (d := d) ih h
    have h1 : 30 + 10 * d = 20 + 10 * (d + 1) := by omega
    have h2 : 1100 + 300 * d = 800 + 300 * (d + 1) := by omega
    have e : rm_X11_readExpression_b d = rmE (d + 1) := by unfold rm_X11_readExpression_b rmE; rw [h1, h2]
    rw [← e]
    exact h0

def rm_X11_another : Room := { frames := 3, cells := 0, slots := 0, locals := 106 }
def m_X11_another (σ : Mem) (x1 : Int32) (x2 : Int32) : Option (Int32 × Mem) := (gd ((5 : Int32) + x1) 10 (if (σ 5 (Int32.toNatClampNeg ((5 : Int32) + x1))) = x2 then ((m_X11_wrong σ (2 : Int32)).bind fun q4 => (if (q4 0 28) = (0 : Int32) then ((m_X11_stepOn q4).bind fun q6 => (some ((1 : Int32), q6))) else (some ((0 : Int32), q4)))) else (if (σ 0 28) = (0 : Int32) then ((m_X11_stepOn σ).bind fun q3 => (some ((1 : Int32), q3))) else (some ((0 : Int32), σ)))))
set_option maxHeartbeats 4000000 in
set_option maxRecDepth 100000 in
theorem w_X11_another_0 {p : Program} {l : Launch} {e : Env} {s : State} {m : MethodId} {args : Array Value} {below : List Frame} {meth : Method} {c : Code} {A : Nat → Prop} {E : RE} {q : Int32 × Mem} (X : CX p s m meth c args cX11_another 3 RX11 (some .boolean)) : ∀ (σ : Mem) (x1 : Int32) (x2 : Int32) , m_X11_another σ x1 x2 = some q → ∀ (H : Heap) (locs : List Loc) (ls : Array Slot), WI (vR E) A s H locs σ → lv_has ls 3 [(0, .ref (ra E 0)), (1, .int x1), (2, .int x2)] → W p l e rm_X11_another s m args below meth c H locs 0 0 (MQ below (QI (vR E) A q) args s 0 0 A) (F0 m 0 ls []) := by
  have hx := X.1
  have hb := X.2.1
  intro σ x1 x2 h H locs ls I hl
  unfold m_X11_another at h
  refine lv_aload_n hx hb dX11_another_0 rfl (lv_at hl 0 rfl) ?_
  refine gfR_X11_55 X I dX11_another_1 ?_
  refine lv_iconst (v := 5) hx hb dX11_another_4 (by decide) ?_
  refine lv_iload_n hx hb dX11_another_5 rfl (lv_at hl 1 rfl) ?_
  refine lv_iadd hx hb dX11_another_6 ?_
  obtain ⟨hin, h⟩ := gd_some h
  refine ialdR X I (kR_5 E) hin dX11_another_7 ?_
  refine lv_iload_n hx hb dX11_another_8 rfl (lv_at hl 2 rfl) ?_
  refine lv_icmp_ne (tgt := 17) hx hb dX11_another_9 (by decide) (fun c1 => ?_) (fun c1 => ?_)
  · have h := ite_f h c1
    refine lv_aload_n hx hb dX11_another_17 rfl (lv_at hl 0 rfl) ?_
    refine gfR_X11_244 X I dX11_another_18 ?_
    refine lv_if_eq (tgt := 26) hx hb dX11_another_21 (by decide) (fun c2 => ?_) (fun c2 => ?_)
    · have h := ite_t h c2
      refine lv_aload_n hx hb dX11_another_26 rfl (lv_at hl 0 rfl) ?_
      obtain ⟨q3, hq3, h⟩ := bd h
      refine r_callVV (V := (vR E)) (k := 0) (As := []) (rest := []) X I hl (c_X11_stepOn  hq3) yv_X11_stepOn tw_841 ⟨rfl, rfl, Nat.le_of_ble_eq_true rfl, Nat.le_of_ble_eq_true rfl⟩ (Nat.le_of_ble_eq_true rfl) rfl rfl rfl rfl (Nat.le_of_ble_eq_true rfl) dX11_another_27 (fun H locs I => ?_)
      refine lv_iconst (v := 1) hx hb dX11_another_30 (by decide) ?_
      exact r_zret X I (Option.some.inj h).symm rfl dX11_another_31
    · have h := ite_f h c2
      refine lv_iconst (v := 0) hx hb dX11_another_24 (by decide) ?_
      exact r_zret X I (Option.some.inj h).symm rfl dX11_another_25
  · have h := ite_t h c1
    refine lv_aload_n hx hb dX11_another_12 rfl (lv_at hl 0 rfl) ?_
    refine lv_iconst (v := 2) hx hb dX11_another_13 (by decide) ?_
    obtain ⟨q4, hq4, h⟩ := bd h
    refine r_callVV (V := (vR E)) (k := 0) (As := [.int (2 : Int32)]) (rest := []) X I hl (c_X11_wrong  hq4) yv_X11_wrong tw_851 ⟨rfl, rfl, Nat.le_of_ble_eq_true rfl, Nat.le_of_ble_eq_true rfl⟩ (Nat.le_of_ble_eq_true rfl) rfl rfl rfl rfl (Nat.le_of_ble_eq_true rfl) dX11_another_14 (fun H locs I => ?_)
    refine lv_aload_n hx hb dX11_another_17 rfl (lv_at hl 0 rfl) ?_
    refine gfR_X11_244 X I dX11_another_18 ?_
    refine lv_if_eq (tgt := 26) hx hb dX11_another_21 (by decide) (fun c5 => ?_) (fun c5 => ?_)
    · have h := ite_t h c5
      refine lv_aload_n hx hb dX11_another_26 rfl (lv_at hl 0 rfl) ?_
      obtain ⟨q6, hq6, h⟩ := bd h
      refine r_callVV (V := (vR E)) (k := 0) (As := []) (rest := []) X I hl (c_X11_stepOn  hq6) yv_X11_stepOn tw_841 ⟨rfl, rfl, Nat.le_of_ble_eq_true rfl, Nat.le_of_ble_eq_true rfl⟩ (Nat.le_of_ble_eq_true rfl) rfl rfl rfl rfl (Nat.le_of_ble_eq_true rfl) dX11_another_27 (fun H locs I => ?_)
      refine lv_iconst (v := 1) hx hb dX11_another_30 (by decide) ?_
      exact r_zret X I (Option.some.inj h).symm rfl dX11_another_31
    · have h := ite_f h c5
      refine lv_iconst (v := 0) hx hb dX11_another_24 (by decide) ?_
      exact r_zret X I (Option.some.inj h).symm rfl dX11_another_25
theorem c_X11_another {l : Launch} {E : RE} {σ : Mem} {x1 : Int32} {x2 : Int32} {q : Int32 × Mem} (h : m_X11_another σ x1 x2 = some q) : CI l (vR E) yX11_another (.code yX11_another cX11_another 3 (some .boolean) :: GG) rm_X11_another [.ref (ra E 0), .int x1, .int x2] σ q :=
  mk_CI (by decide +kernel) (Nat.le_of_ble_eq_true rfl) (fun p e s m args below meth c A ls X I hl => w_X11_another_0 X  σ x1 x2 h s.heap [] ls I (lv_sub hl [0, 1, 2] rfl))

def rm_X11_sayHouse : Room := { frames := 4, cells := 0, slots := 0, locals := 129 }
def m_X11_sayHouse (σ : Mem) (x1 : Int32) : Option (Mem) := ((m_X11_another σ (0 : Int32) (8 : Int32)).bind fun q1 => (if q1.1 = (0 : Int32) then (some q1.2) else (gd (5 : Int32) 10 (lt ((8 : Int32) + (q1.2 5 (Int32.toNatClampNeg (5 : Int32)))) fun y3 => (gd y3 16 (lt (ms q1.2 7 (Int32.toNatClampNeg y3) (x1)) fun σ4 => ((m_X11_readNumber σ4 (0 : Int32) (99 : Int32)).bind fun q5 => (gd y3 16 (lt (ms q5.2 6 (Int32.toNatClampNeg y3) (q5.1)) fun σ6 => ((m_X11_readNumber σ6 (0 : Int32) (60 : Int32)).bind fun q7 => (gd y3 16 (lt (ms q7.2 8 (Int32.toNatClampNeg y3) (q7.1)) fun σ8 => ((m_X11_readNumber σ8 (0 : Int32) (9 : Int32)).bind fun q9 => (gd y3 16 (lt (ms q9.2 9 (Int32.toNatClampNeg y3) (q9.1)) fun σ10 => ((m_X11_readNumber σ10 (0 : Int32) (5 : Int32)).bind fun q11 => (gd y3 16 (lt (ms q11.2 10 (Int32.toNatClampNeg y3) (q11.1)) fun σ12 => (gd (5 : Int32) 10 (gd (5 : Int32) 10 (lt (ms σ12 5 (Int32.toNatClampNeg (5 : Int32)) (((σ12 5 (Int32.toNatClampNeg (5 : Int32))) + (1 : Int32)))) fun σ13 => (some σ13))))))))))))))))))))))
set_option maxHeartbeats 4000000 in
set_option maxRecDepth 100000 in
theorem w_X11_sayHouse_0 {p : Program} {l : Launch} {e : Env} {s : State} {m : MethodId} {args : Array Value} {below : List Frame} {meth : Method} {c : Code} {A : Nat → Prop} {E : RE} {q : Mem} (X : CX p s m meth c args cX11_sayHouse 3 RX11 none) : ∀ (σ : Mem) (x1 : Int32) , m_X11_sayHouse σ x1 = some q → ∀ (H : Heap) (locs : List Loc) (ls : Array Slot), WI (vR E) A s H locs σ → lv_has ls 3 [(0, .ref (ra E 0)), (1, .int x1)] → W p l e rm_X11_sayHouse s m args below meth c H locs 0 0 (MQ below (QV (vR E) A q) args s 0 0 A) (F0 m 0 ls []) := by
  have hx := X.1
  have hb := X.2.1
  intro σ x1 h H locs ls I hl
  unfold m_X11_sayHouse at h
  refine lv_aload_n hx hb dX11_sayHouse_0 rfl (lv_at hl 0 rfl) ?_
  refine lv_iconst (v := 0) hx hb dX11_sayHouse_1 (by decide) ?_
  refine lv_bipush (v := 8) hx hb dX11_sayHouse_2 (by decide) ?_
  obtain ⟨q1, hq1, h⟩ := bd h
  refine r_callVI (V := (vR E)) (k := 0) (As := [.int (0 : Int32), .int (8 : Int32)]) (rest := []) X I hl (c_X11_another  hq1) yv_X11_another tw_910 ⟨rfl, rfl, Nat.le_of_ble_eq_true rfl, Nat.le_of_ble_eq_true rfl⟩ (Nat.le_of_ble_eq_true rfl) rfl rfl rfl rfl (Nat.le_of_ble_eq_true rfl) dX11_sayHouse_4 (fun H locs I => ?_)
  refine lv_if_ne (tgt := 11) hx hb dX11_sayHouse_7 (by decide) (fun c2 => ?_) (fun c2 => ?_)
  · have h := ite_f h c2
    refine lv_bipush (v := 8) hx hb dX11_sayHouse_11 (by decide) ?_
    refine lv_aload_n hx hb dX11_sayHouse_13 rfl (lv_at hl 0 rfl) ?_
    refine gfR_X11_55 X I dX11_sayHouse_14 ?_
    refine lv_iconst (v := 5) hx hb dX11_sayHouse_17 (by decide) ?_
    obtain ⟨hin, h⟩ := gd_some h
    refine ialdR X I (kR_5 E) hin dX11_sayHouse_18 ?_
    refine lv_iadd hx hb dX11_sayHouse_19 ?_
    obtain ⟨y3, ey3, h⟩ := lt_e h
    refine nm_i ey3 ?_
    refine lv_istore_n (lv' := [(2, .int y3), (0, .ref (ra E 0)), (1, .int x1)]) hx hb dX11_sayHouse_20 rfl hl (by decide) rfl (fun ls hl => ?_)
    refine lv_aload_n hx hb dX11_sayHouse_21 rfl (lv_at hl 1 rfl) ?_
    refine gfR_X11_61 X I dX11_sayHouse_22 ?_
    refine lv_iload_n hx hb dX11_sayHouse_25 rfl (lv_at hl 0 rfl) ?_
    refine lv_iload_n hx hb dX11_sayHouse_26 rfl (lv_at hl 2 rfl) ?_
    obtain ⟨hin, h⟩ := gd_some h
    refine iastR X I (kR_7 E) hin dX11_sayHouse_27 (fun H locs I => ?_)
    obtain ⟨σ4, eσ4, h⟩ := lt_e h
    replace I := wi_nm eσ4 I
    refine lv_aload_n hx hb dX11_sayHouse_28 rfl (lv_at hl 1 rfl) ?_
    refine gfR_X11_59 X I dX11_sayHouse_29 ?_
    refine lv_iload_n hx hb dX11_sayHouse_32 rfl (lv_at hl 0 rfl) ?_
    refine lv_aload_n hx hb dX11_sayHouse_33 rfl (lv_at hl 1 rfl) ?_
    refine lv_iconst (v := 0) hx hb dX11_sayHouse_34 (by decide) ?_
    refine lv_bipush (v := 99) hx hb dX11_sayHouse_35 (by decide) ?_
    obtain ⟨q5, hq5, h⟩ := bd h
    refine r_callVI (V := (vR E)) (k := 0) (As := [.int (0 : Int32), .int (99 : Int32)]) (rest := [.int y3, .ref (ra E 6)]) X I hl (c_X11_readNumber  hq5) yv_X11_readNumber tw_880 ⟨rfl, rfl, Nat.le_of_ble_eq_true rfl, Nat.le_of_ble_eq_true rfl⟩ (Nat.le_of_ble_eq_true rfl) rfl rfl rfl rfl (Nat.le_of_ble_eq_true rfl) dX11_sayHouse_37 (fun H locs I => ?_)
    obtain ⟨hin, h⟩ := gd_some h
    refine iastR X I (kR_6 E) hin dX11_sayHouse_40 (fun H locs I => ?_)
    obtain ⟨σ6, eσ6, h⟩ := lt_e h
    replace I := wi_nm eσ6 I
    refine lv_aload_n hx hb dX11_sayHouse_41 rfl (lv_at hl 1 rfl) ?_
    refine gfR_X11_63 X I dX11_sayHouse_42 ?_
    refine lv_iload_n hx hb dX11_sayHouse_45 rfl (lv_at hl 0 rfl) ?_
    refine lv_aload_n hx hb dX11_sayHouse_46 rfl (lv_at hl 1 rfl) ?_
    refine lv_iconst (v := 0) hx hb dX11_sayHouse_47 (by decide) ?_
    refine lv_bipush (v := 60) hx hb dX11_sayHouse_48 (by decide) ?_
    obtain ⟨q7, hq7, h⟩ := bd h
    refine r_callVI (V := (vR E)) (k := 0) (As := [.int (0 : Int32), .int (60 : Int32)]) (rest := [.int y3, .ref (ra E 8)]) X I hl (c_X11_readNumber  hq7) yv_X11_readNumber tw_880 ⟨rfl, rfl, Nat.le_of_ble_eq_true rfl, Nat.le_of_ble_eq_true rfl⟩ (Nat.le_of_ble_eq_true rfl) rfl rfl rfl rfl (Nat.le_of_ble_eq_true rfl) dX11_sayHouse_50 (fun H locs I => ?_)
    obtain ⟨hin, h⟩ := gd_some h
    refine iastR X I (kR_8 E) hin dX11_sayHouse_53 (fun H locs I => ?_)
    obtain ⟨σ8, eσ8, h⟩ := lt_e h
    replace I := wi_nm eσ8 I
    refine lv_aload_n hx hb dX11_sayHouse_54 rfl (lv_at hl 1 rfl) ?_
    refine gfR_X11_66 X I dX11_sayHouse_55 ?_
    refine lv_iload_n hx hb dX11_sayHouse_58 rfl (lv_at hl 0 rfl) ?_
    refine lv_aload_n hx hb dX11_sayHouse_59 rfl (lv_at hl 1 rfl) ?_
    refine lv_iconst (v := 0) hx hb dX11_sayHouse_60 (by decide) ?_
    refine lv_bipush (v := 9) hx hb dX11_sayHouse_61 (by decide) ?_
    obtain ⟨q9, hq9, h⟩ := bd h
    refine r_callVI (V := (vR E)) (k := 0) (As := [.int (0 : Int32), .int (9 : Int32)]) (rest := [.int y3, .ref (ra E 9)]) X I hl (c_X11_readNumber  hq9) yv_X11_readNumber tw_880 ⟨rfl, rfl, Nat.le_of_ble_eq_true rfl, Nat.le_of_ble_eq_true rfl⟩ (Nat.le_of_ble_eq_true rfl) rfl rfl rfl rfl (Nat.le_of_ble_eq_true rfl) dX11_sayHouse_63 (fun H locs I => ?_)
    obtain ⟨hin, h⟩ := gd_some h
    refine iastR X I (kR_9 E) hin dX11_sayHouse_66 (fun H locs I => ?_)
    obtain ⟨σ10, eσ10, h⟩ := lt_e h
    replace I := wi_nm eσ10 I
    refine lv_aload_n hx hb dX11_sayHouse_67 rfl (lv_at hl 1 rfl) ?_
    refine gfR_X11_69 X I dX11_sayHouse_68 ?_
    refine lv_iload_n hx hb dX11_sayHouse_71 rfl (lv_at hl 0 rfl) ?_
    refine lv_aload_n hx hb dX11_sayHouse_72 rfl (lv_at hl 1 rfl) ?_
    refine lv_iconst (v := 0) hx hb dX11_sayHouse_73 (by decide) ?_
    refine lv_iconst (v := 5) hx hb dX11_sayHouse_74 (by decide) ?_
    obtain ⟨q11, hq11, h⟩ := bd h
    refine r_callVI (V := (vR E)) (k := 0) (As := [.int (0 : Int32), .int (5 : Int32)]) (rest := [.int y3, .ref (ra E 10)]) X I hl (c_X11_readNumber  hq11) yv_X11_readNumber tw_880 ⟨rfl, rfl, Nat.le_of_ble_eq_true rfl, Nat.le_of_ble_eq_true rfl⟩ (Nat.le_of_ble_eq_true rfl) rfl rfl rfl rfl (Nat.le_of_ble_eq_true rfl) dX11_sayHouse_75 (fun H locs I => ?_)
    obtain ⟨hin, h⟩ := gd_some h
    refine iastR X I (kR_10 E) hin dX11_sayHouse_78 (fun H locs I => ?_)
    obtain ⟨σ12, eσ12, h⟩ := lt_e h
    replace I := wi_nm eσ12 I
    refine lv_aload_n hx hb dX11_sayHouse_79 rfl (lv_at hl 1 rfl) ?_
    refine gfR_X11_55 X I dX11_sayHouse_80 ?_
    refine lv_iconst (v := 5) hx hb dX11_sayHouse_83 (by decide) ?_
    refine lv_dup2_11 hx hb dX11_sayHouse_84 rfl rfl ?_
    obtain ⟨hin, h⟩ := gd_some h
    refine ialdR X I (kR_5 E) hin dX11_sayHouse_85 ?_
    refine lv_iconst (v := 1) hx hb dX11_sayHouse_86 (by decide) ?_
    refine lv_iadd hx hb dX11_sayHouse_87 ?_
    obtain ⟨hin, h⟩ := gd_some h
    refine iastR X I (kR_5 E) hin dX11_sayHouse_88 (fun H locs I => ?_)
    obtain ⟨σ13, eσ13, h⟩ := lt_e h
    replace I := wi_nm eσ13 I
    exact r_vret X I (Option.some.inj h).symm dX11_sayHouse_89
  · have h := ite_t h c2
    exact r_vret X I (Option.some.inj h).symm dX11_sayHouse_10
theorem c_X11_sayHouse {l : Launch} {E : RE} {σ : Mem} {x1 : Int32} {q : Mem} (h : m_X11_sayHouse σ x1 = some q) : CV l (vR E) yX11_sayHouse (.code yX11_sayHouse cX11_sayHouse 3 none :: GG) rm_X11_sayHouse [.ref (ra E 0), .int x1] σ q :=
  mk_CV (by decide +kernel) (Nat.le_of_ble_eq_true rfl) (fun p e s m args below meth c A ls X I hl => w_X11_sayHouse_0 X  σ x1 h s.heap [] ls I (lv_sub hl [0, 1] rfl))

def rm_X11_sayTenant : Room := { frames := 4, cells := 0, slots := 0, locals := 129 }
def m_X11_sayTenant (σ : Mem) (x1 : Int32) : Option (Mem) := ((m_X11_another σ (1 : Int32) (7 : Int32)).bind fun q1 => (if q1.1 = (0 : Int32) then (some q1.2) else (gd (6 : Int32) 10 (lt ((7 : Int32) + (q1.2 5 (Int32.toNatClampNeg (6 : Int32)))) fun y3 => (gd y3 14 (lt (ms q1.2 11 (Int32.toNatClampNeg y3) (x1)) fun σ4 => ((m_X11_readNumber σ4 (0 : Int32) (20 : Int32)).bind fun q5 => (gd y3 14 (lt (ms q5.2 13 (Int32.toNatClampNeg y3) (q5.1)) fun σ6 => ((m_X11_readNumber σ6 (0 : Int32) (9 : Int32)).bind fun q7 => (gd y3 14 (lt (ms q7.2 12 (Int32.toNatClampNeg y3) (q7.1)) fun σ8 => ((m_X11_readNumber σ8 (0 : Int32) (3 : Int32)).bind fun q9 => (gd y3 14 (lt (ms q9.2 14 (Int32.toNatClampNeg y3) (q9.1)) fun σ10 => ((m_X11_readNumber σ10 (0 : Int32) (999 : Int32)).bind fun q11 => (gd y3 14 (lt (ms q11.2 15 (Int32.toNatClampNeg y3) (q11.1)) fun σ12 => (gd (6 : Int32) 10 (gd (6 : Int32) 10 (lt (ms σ12 5 (Int32.toNatClampNeg (6 : Int32)) (((σ12 5 (Int32.toNatClampNeg (6 : Int32))) + (1 : Int32)))) fun σ13 => (some σ13))))))))))))))))))))))
set_option maxHeartbeats 4000000 in
set_option maxRecDepth 100000 in
theorem w_X11_sayTenant_0 {p : Program} {l : Launch} {e : Env} {s : State} {m : MethodId} {args : Array Value} {below : List Frame} {meth : Method} {c : Code} {A : Nat → Prop} {E : RE} {q : Mem} (X : CX p s m meth c args cX11_sayTenant 3 RX11 none) : ∀ (σ : Mem) (x1 : Int32) , m_X11_sayTenant σ x1 = some q → ∀ (H : Heap) (locs : List Loc) (ls : Array Slot), WI (vR E) A s H locs σ → lv_has ls 3 [(0, .ref (ra E 0)), (1, .int x1)] → W p l e rm_X11_sayTenant s m args below meth c H locs 0 0 (MQ below (QV (vR E) A q) args s 0 0 A) (F0 m 0 ls []) := by
  have hx := X.1
  have hb := X.2.1
  intro σ x1 h H locs ls I hl
  unfold m_X11_sayTenant at h
  refine lv_aload_n hx hb dX11_sayTenant_0 rfl (lv_at hl 0 rfl) ?_
  refine lv_iconst (v := 1) hx hb dX11_sayTenant_1 (by decide) ?_
  refine lv_bipush (v := 7) hx hb dX11_sayTenant_2 (by decide) ?_
  obtain ⟨q1, hq1, h⟩ := bd h
  refine r_callVI (V := (vR E)) (k := 0) (As := [.int (1 : Int32), .int (7 : Int32)]) (rest := []) X I hl (c_X11_another  hq1) yv_X11_another tw_910 ⟨rfl, rfl, Nat.le_of_ble_eq_true rfl, Nat.le_of_ble_eq_true rfl⟩ (Nat.le_of_ble_eq_true rfl) rfl rfl rfl rfl (Nat.le_of_ble_eq_true rfl) dX11_sayTenant_4 (fun H locs I => ?_)
  refine lv_if_ne (tgt := 11) hx hb dX11_sayTenant_7 (by decide) (fun c2 => ?_) (fun c2 => ?_)
  · have h := ite_f h c2
    refine lv_bipush (v := 7) hx hb dX11_sayTenant_11 (by decide) ?_
    refine lv_aload_n hx hb dX11_sayTenant_13 rfl (lv_at hl 0 rfl) ?_
    refine gfR_X11_55 X I dX11_sayTenant_14 ?_
    refine lv_bipush (v := 6) hx hb dX11_sayTenant_17 (by decide) ?_
    obtain ⟨hin, h⟩ := gd_some h
    refine ialdR X I (kR_5 E) hin dX11_sayTenant_19 ?_
    refine lv_iadd hx hb dX11_sayTenant_20 ?_
    obtain ⟨y3, ey3, h⟩ := lt_e h
    refine nm_i ey3 ?_
    refine lv_istore_n (lv' := [(2, .int y3), (0, .ref (ra E 0)), (1, .int x1)]) hx hb dX11_sayTenant_21 rfl hl (by decide) rfl (fun ls hl => ?_)
    refine lv_aload_n hx hb dX11_sayTenant_22 rfl (lv_at hl 1 rfl) ?_
    refine gfR_X11_72 X I dX11_sayTenant_23 ?_
    refine lv_iload_n hx hb dX11_sayTenant_26 rfl (lv_at hl 0 rfl) ?_
    refine lv_iload_n hx hb dX11_sayTenant_27 rfl (lv_at hl 2 rfl) ?_
    obtain ⟨hin, h⟩ := gd_some h
    refine iastR X I (kR_11 E) hin dX11_sayTenant_28 (fun H locs I => ?_)
    obtain ⟨σ4, eσ4, h⟩ := lt_e h
    replace I := wi_nm eσ4 I
    refine lv_aload_n hx hb dX11_sayTenant_29 rfl (lv_at hl 1 rfl) ?_
    refine gfR_X11_77 X I dX11_sayTenant_30 ?_
    refine lv_iload_n hx hb dX11_sayTenant_33 rfl (lv_at hl 0 rfl) ?_
    refine lv_aload_n hx hb dX11_sayTenant_34 rfl (lv_at hl 1 rfl) ?_
    refine lv_iconst (v := 0) hx hb dX11_sayTenant_35 (by decide) ?_
    refine lv_bipush (v := 20) hx hb dX11_sayTenant_36 (by decide) ?_
    obtain ⟨q5, hq5, h⟩ := bd h
    refine r_callVI (V := (vR E)) (k := 0) (As := [.int (0 : Int32), .int (20 : Int32)]) (rest := [.int y3, .ref (ra E 13)]) X I hl (c_X11_readNumber  hq5) yv_X11_readNumber tw_880 ⟨rfl, rfl, Nat.le_of_ble_eq_true rfl, Nat.le_of_ble_eq_true rfl⟩ (Nat.le_of_ble_eq_true rfl) rfl rfl rfl rfl (Nat.le_of_ble_eq_true rfl) dX11_sayTenant_38 (fun H locs I => ?_)
    obtain ⟨hin, h⟩ := gd_some h
    refine iastR X I (kR_13 E) hin dX11_sayTenant_41 (fun H locs I => ?_)
    obtain ⟨σ6, eσ6, h⟩ := lt_e h
    replace I := wi_nm eσ6 I
    refine lv_aload_n hx hb dX11_sayTenant_42 rfl (lv_at hl 1 rfl) ?_
    refine gfR_X11_74 X I dX11_sayTenant_43 ?_
    refine lv_iload_n hx hb dX11_sayTenant_46 rfl (lv_at hl 0 rfl) ?_
    refine lv_aload_n hx hb dX11_sayTenant_47 rfl (lv_at hl 1 rfl) ?_
    refine lv_iconst (v := 0) hx hb dX11_sayTenant_48 (by decide) ?_
    refine lv_bipush (v := 9) hx hb dX11_sayTenant_49 (by decide) ?_
    obtain ⟨q7, hq7, h⟩ := bd h
    refine r_callVI (V := (vR E)) (k := 0) (As := [.int (0 : Int32), .int (9 : Int32)]) (rest := [.int y3, .ref (ra E 12)]) X I hl (c_X11_readNumber  hq7) yv_X11_readNumber tw_880 ⟨rfl, rfl, Nat.le_of_ble_eq_true rfl, Nat.le_of_ble_eq_true rfl⟩ (Nat.le_of_ble_eq_true rfl) rfl rfl rfl rfl (Nat.le_of_ble_eq_true rfl) dX11_sayTenant_51 (fun H locs I => ?_)
    obtain ⟨hin, h⟩ := gd_some h
    refine iastR X I (kR_12 E) hin dX11_sayTenant_54 (fun H locs I => ?_)
    obtain ⟨σ8, eσ8, h⟩ := lt_e h
    replace I := wi_nm eσ8 I
    refine lv_aload_n hx hb dX11_sayTenant_55 rfl (lv_at hl 1 rfl) ?_
    refine gfR_X11_80 X I dX11_sayTenant_56 ?_
    refine lv_iload_n hx hb dX11_sayTenant_59 rfl (lv_at hl 0 rfl) ?_
    refine lv_aload_n hx hb dX11_sayTenant_60 rfl (lv_at hl 1 rfl) ?_
    refine lv_iconst (v := 0) hx hb dX11_sayTenant_61 (by decide) ?_
    refine lv_iconst (v := 3) hx hb dX11_sayTenant_62 (by decide) ?_
    obtain ⟨q9, hq9, h⟩ := bd h
    refine r_callVI (V := (vR E)) (k := 0) (As := [.int (0 : Int32), .int (3 : Int32)]) (rest := [.int y3, .ref (ra E 14)]) X I hl (c_X11_readNumber  hq9) yv_X11_readNumber tw_880 ⟨rfl, rfl, Nat.le_of_ble_eq_true rfl, Nat.le_of_ble_eq_true rfl⟩ (Nat.le_of_ble_eq_true rfl) rfl rfl rfl rfl (Nat.le_of_ble_eq_true rfl) dX11_sayTenant_63 (fun H locs I => ?_)
    obtain ⟨hin, h⟩ := gd_some h
    refine iastR X I (kR_14 E) hin dX11_sayTenant_66 (fun H locs I => ?_)
    obtain ⟨σ10, eσ10, h⟩ := lt_e h
    replace I := wi_nm eσ10 I
    refine lv_aload_n hx hb dX11_sayTenant_67 rfl (lv_at hl 1 rfl) ?_
    refine gfR_X11_83 X I dX11_sayTenant_68 ?_
    refine lv_iload_n hx hb dX11_sayTenant_71 rfl (lv_at hl 0 rfl) ?_
    refine lv_aload_n hx hb dX11_sayTenant_72 rfl (lv_at hl 1 rfl) ?_
    refine lv_iconst (v := 0) hx hb dX11_sayTenant_73 (by decide) ?_
    refine lv_sipush (v := 999) hx hb dX11_sayTenant_74 (by decide) ?_
    obtain ⟨q11, hq11, h⟩ := bd h
    refine r_callVI (V := (vR E)) (k := 0) (As := [.int (0 : Int32), .int (999 : Int32)]) (rest := [.int y3, .ref (ra E 15)]) X I hl (c_X11_readNumber  hq11) yv_X11_readNumber tw_880 ⟨rfl, rfl, Nat.le_of_ble_eq_true rfl, Nat.le_of_ble_eq_true rfl⟩ (Nat.le_of_ble_eq_true rfl) rfl rfl rfl rfl (Nat.le_of_ble_eq_true rfl) dX11_sayTenant_77 (fun H locs I => ?_)
    obtain ⟨hin, h⟩ := gd_some h
    refine iastR X I (kR_15 E) hin dX11_sayTenant_80 (fun H locs I => ?_)
    obtain ⟨σ12, eσ12, h⟩ := lt_e h
    replace I := wi_nm eσ12 I
    refine lv_aload_n hx hb dX11_sayTenant_81 rfl (lv_at hl 1 rfl) ?_
    refine gfR_X11_55 X I dX11_sayTenant_82 ?_
    refine lv_bipush (v := 6) hx hb dX11_sayTenant_85 (by decide) ?_
    refine lv_dup2_11 hx hb dX11_sayTenant_87 rfl rfl ?_
    obtain ⟨hin, h⟩ := gd_some h
    refine ialdR X I (kR_5 E) hin dX11_sayTenant_88 ?_
    refine lv_iconst (v := 1) hx hb dX11_sayTenant_89 (by decide) ?_
    refine lv_iadd hx hb dX11_sayTenant_90 ?_
    obtain ⟨hin, h⟩ := gd_some h
    refine iastR X I (kR_5 E) hin dX11_sayTenant_91 (fun H locs I => ?_)
    obtain ⟨σ13, eσ13, h⟩ := lt_e h
    replace I := wi_nm eσ13 I
    exact r_vret X I (Option.some.inj h).symm dX11_sayTenant_92
  · have h := ite_t h c2
    exact r_vret X I (Option.some.inj h).symm dX11_sayTenant_10
theorem c_X11_sayTenant {l : Launch} {E : RE} {σ : Mem} {x1 : Int32} {q : Mem} (h : m_X11_sayTenant σ x1 = some q) : CV l (vR E) yX11_sayTenant (.code yX11_sayTenant cX11_sayTenant 3 none :: GG) rm_X11_sayTenant [.ref (ra E 0), .int x1] σ q :=
  mk_CV (by decide +kernel) (Nat.le_of_ble_eq_true rfl) (fun p e s m args below meth c A ls X I hl => w_X11_sayTenant_0 X  σ x1 h s.heap [] ls I (lv_sub hl [0, 1] rfl))

def rm_X11_readLine : Room := { frames := 101, cells := 0, slots := 0, locals := 3222 }
def f_X11_readLine_190 (σ : Mem) (x1 : Int32) (x4 : Int32) : Option (Int32 × Mem) := ((m_X11_mark σ (59 : Int32)).bind fun q1 => (some ((x1 ||| x4), q1)))
def f_X11_readLine_128 (σ : Mem) (x1 : Int32) (x4 : Int32) : Option (Int32 × Mem) := (if x4 = (1 : Int32) then ((m_X11_readNumber σ (1 : Int32) (99 : Int32)).bind fun q3 => (gd (7 : Int32) 10 (lt (ms q3.2 5 (Int32.toNatClampNeg (7 : Int32)) (q3.1)) fun σ4 => (f_X11_readLine_190 σ4 x1 x4)))) else ((m_X11_readExpression 8 σ (0 : Int32)).bind fun q2 => (f_X11_readLine_190 q2 x1 x4)))
def f_X11_readLine_91 (σ : Mem) (x1 : Int32) (x4 : Int32) : Option (Int32 × Mem) := (if x4 = (4 : Int32) then (gz (1 : Int32) (lt (ms σ 0 31 (1 : Int32)) fun σ6 => (if (σ6 0 31) = (0 : Int32) then (lt (ms σ6 0 4 (0 : Int32)) fun σ8 => (f_X11_readLine_128 σ8 x1 x4)) else (lt (ms σ6 0 4 (1 : Int32)) fun σ9 => (f_X11_readLine_128 σ9 x1 x4))))) else (gz (0 : Int32) (lt (ms σ 0 31 (0 : Int32)) fun σ2 => (if (σ2 0 31) = (0 : Int32) then (lt (ms σ2 0 4 (0 : Int32)) fun σ4 => (f_X11_readLine_128 σ4 x1 x4)) else (lt (ms σ2 0 4 (1 : Int32)) fun σ5 => (f_X11_readLine_128 σ5 x1 x4))))))
def f_X11_readLine_75 (σ : Mem) (x1 : Int32) (x2 : Int32) (x3 : Int32) (x4 : Int32) : Option (Int32 × Mem) := (if x4 ≤ (0 : Int32) then (if x2 = (-1 : Int32) then (if x3 = (-1 : Int32) then ((m_X11_wrong σ (1 : Int32)).bind fun q4 => (f_X11_readLine_190 q4 x1 x4)) else ((m_X11_sayTenant σ x3).bind fun q5 => (f_X11_readLine_190 q5 x1 x4))) else ((m_X11_sayHouse σ x2).bind fun q6 => (f_X11_readLine_190 q6 x1 x4))) else (if (σ 0 28) = (0 : Int32) then ((m_X11_stepOn σ).bind fun q8 => (f_X11_readLine_91 q8 x1 x4)) else (f_X11_readLine_91 σ x1 x4)))
def f_X11_readLine_61 (σ : Mem) (x1 : Int32) (x2 : Int32) (x3 : Int32) (z0 : Int32) : Option (Int32 × Mem) := (if (z0 &&& x1) = (0 : Int32) then (f_X11_readLine_75 σ x1 x2 x3 z0) else ((m_X11_wrong σ (5 : Int32)).bind fun q2 => (f_X11_readLine_75 q2 x1 x2 x3 z0)))
def m_X11_readLine (σ : Mem) (x1 : Int32) : Option (Int32 × Mem) := ((m_X11_which 1 σ).bind fun q1 => ((m_X11_which 2 σ).bind fun q2 => ((m_X11_is 47 σ).bind fun q3 => (if q3 = (0 : Int32) then ((m_X11_is 48 σ).bind fun q5 => (if q5 = (0 : Int32) then ((m_X11_is 49 σ).bind fun q7 => (if q7 = (0 : Int32) then (f_X11_readLine_61 σ x1 q1 q2 (0 : Int32)) else (f_X11_readLine_61 σ x1 q1 q2 (4 : Int32)))) else (f_X11_readLine_61 σ x1 q1 q2 (2 : Int32)))) else (f_X11_readLine_61 σ x1 q1 q2 (1 : Int32))))))
set_option maxHeartbeats 4000000 in
set_option maxRecDepth 100000 in
theorem w_X11_readLine_190 {p : Program} {l : Launch} {e : Env} {s : State} {m : MethodId} {args : Array Value} {below : List Frame} {meth : Method} {c : Code} {A : Nat → Prop} {E : RE} {q : Int32 × Mem} (X : CX p s m meth c args cX11_readLine 5 RX11 (some .int)) : ∀ (σ : Mem) (x1 : Int32) (x4 : Int32) , f_X11_readLine_190 σ x1 x4 = some q → ∀ (H : Heap) (locs : List Loc) (ls : Array Slot), WI (vR E) A s H locs σ → lv_has ls 5 [(0, .ref (ra E 0)), (1, .int x1), (4, .int x4)] → W p l e rm_X11_readLine s m args below meth c H locs 0 0 (MQ below (QI (vR E) A q) args s 0 0 A) (F0 m 190 ls []) := by
  have hx := X.1
  have hb := X.2.1
  intro σ x1 x4 h H locs ls I hl
  unfold f_X11_readLine_190 at h
  refine lv_aload_n hx hb dX11_readLine_190 rfl (lv_at hl 0 rfl) ?_
  refine lv_bipush (v := 59) hx hb dX11_readLine_191 (by decide) ?_
  obtain ⟨q1, hq1, h⟩ := bd h
  refine r_callVV (V := (vR E)) (k := 0) (As := [.int (59 : Int32)]) (rest := []) X I hl (c_X11_mark  hq1) yv_X11_mark tw_859 ⟨rfl, rfl, Nat.le_of_ble_eq_true rfl, Nat.le_of_ble_eq_true rfl⟩ (Nat.le_of_ble_eq_true rfl) rfl rfl rfl rfl (Nat.le_of_ble_eq_true rfl) dX11_readLine_193 (fun H locs I => ?_)
  refine lv_iload_n hx hb dX11_readLine_196 rfl (lv_at hl 1 rfl) ?_
  refine lv_iload hx hb dX11_readLine_197 (lv_at hl 2 rfl) ?_
  refine lv_ior hx hb dX11_readLine_199 ?_
  exact r_iret X I (Option.some.inj h).symm dX11_readLine_200
set_option maxHeartbeats 4000000 in
set_option maxRecDepth 100000 in
theorem w_X11_readLine_128 {p : Program} {l : Launch} {e : Env} {s : State} {m : MethodId} {args : Array Value} {below : List Frame} {meth : Method} {c : Code} {A : Nat → Prop} {E : RE} {q : Int32 × Mem} (X : CX p s m meth c args cX11_readLine 5 RX11 (some .int)) : ∀ (σ : Mem) (x1 : Int32) (x4 : Int32) , f_X11_readLine_128 σ x1 x4 = some q → ∀ (H : Heap) (locs : List Loc) (ls : Array Slot), WI (vR E) A s H locs σ → lv_has ls 5 [(0, .ref (ra E 0)), (1, .int x1), (4, .int x4)] → W p l e rm_X11_readLine s m args below meth c H locs 0 0 (MQ below (QI (vR E) A q) args s 0 0 A) (F0 m 128 ls []) := by
  have hx := X.1
  have hb := X.2.1
  intro σ x1 x4 h H locs ls I hl
  unfold f_X11_readLine_128 at h
  refine lv_iload hx hb dX11_readLine_128 (lv_at hl 2 rfl) ?_
  refine lv_iconst (v := 1) hx hb dX11_readLine_130 (by decide) ?_
  refine lv_icmp_ne (tgt := 151) hx hb dX11_readLine_131 (by decide) (fun c1 => ?_) (fun c1 => ?_)
  · have h := ite_f h c1
    refine lv_aload_n hx hb dX11_readLine_151 rfl (lv_at hl 0 rfl) ?_
    refine lv_iconst (v := 0) hx hb dX11_readLine_152 (by decide) ?_
    obtain ⟨q2, hq2, h⟩ := bd h
    refine r_callVV (V := (vR E)) (k := 0) (As := [.int (0 : Int32)]) (rest := []) X I hl (c_X11_readExpression 8 _ _ _ hq2) yv_X11_readExpression tw_864 ⟨rfl, rfl, Nat.le_of_ble_eq_true rfl, Nat.le_of_ble_eq_true rfl⟩ (Nat.le_of_ble_eq_true rfl) rfl rfl rfl rfl (Nat.le_of_ble_eq_true rfl) dX11_readLine_153 (fun H locs I => ?_)
    refine lv_goto (tgt := 190) hx hb dX11_readLine_156 (by decide) ?_
    exact w_X11_readLine_190 X   q2 x1 x4 h H locs ls I (lv_sub hl [0, 1, 2] rfl)
  · have h := ite_t h c1
    refine lv_aload_n hx hb dX11_readLine_134 rfl (lv_at hl 0 rfl) ?_
    refine gfR_X11_55 X I dX11_readLine_135 ?_
    refine lv_bipush (v := 7) hx hb dX11_readLine_138 (by decide) ?_
    refine lv_aload_n hx hb dX11_readLine_140 rfl (lv_at hl 0 rfl) ?_
    refine lv_iconst (v := 1) hx hb dX11_readLine_141 (by decide) ?_
    refine lv_bipush (v := 99) hx hb dX11_readLine_142 (by decide) ?_
    obtain ⟨q3, hq3, h⟩ := bd h
    refine r_callVI (V := (vR E)) (k := 0) (As := [.int (1 : Int32), .int (99 : Int32)]) (rest := [.int (7 : Int32), .ref (ra E 5)]) X I hl (c_X11_readNumber  hq3) yv_X11_readNumber tw_880 ⟨rfl, rfl, Nat.le_of_ble_eq_true rfl, Nat.le_of_ble_eq_true rfl⟩ (Nat.le_of_ble_eq_true rfl) rfl rfl rfl rfl (Nat.le_of_ble_eq_true rfl) dX11_readLine_144 (fun H locs I => ?_)
    obtain ⟨hin, h⟩ := gd_some h
    refine iastR X I (kR_5 E) hin dX11_readLine_147 (fun H locs I => ?_)
    obtain ⟨σ4, eσ4, h⟩ := lt_e h
    replace I := wi_nm eσ4 I
    refine lv_goto (tgt := 190) hx hb dX11_readLine_148 (by decide) ?_
    exact w_X11_readLine_190 X   σ4 x1 x4 h H locs ls I (lv_sub hl [0, 1, 2] rfl)
set_option maxHeartbeats 4000000 in
set_option maxRecDepth 100000 in
theorem w_X11_readLine_91 {p : Program} {l : Launch} {e : Env} {s : State} {m : MethodId} {args : Array Value} {below : List Frame} {meth : Method} {c : Code} {A : Nat → Prop} {E : RE} {q : Int32 × Mem} (X : CX p s m meth c args cX11_readLine 5 RX11 (some .int)) : ∀ (σ : Mem) (x1 : Int32) (x4 : Int32) , f_X11_readLine_91 σ x1 x4 = some q → ∀ (H : Heap) (locs : List Loc) (ls : Array Slot), WI (vR E) A s H locs σ → lv_has ls 5 [(0, .ref (ra E 0)), (1, .int x1), (4, .int x4)] → W p l e rm_X11_readLine s m args below meth c H locs 0 0 (MQ below (QI (vR E) A q) args s 0 0 A) (F0 m 91 ls []) := by
  have hx := X.1
  have hb := X.2.1
  intro σ x1 x4 h H locs ls I hl
  unfold f_X11_readLine_91 at h
  refine lv_aload_n hx hb dX11_readLine_91 rfl (lv_at hl 0 rfl) ?_
  refine lv_iload hx hb dX11_readLine_92 (lv_at hl 2 rfl) ?_
  refine lv_iconst (v := 4) hx hb dX11_readLine_94 (by decide) ?_
  refine lv_icmp_ne (tgt := 102) hx hb dX11_readLine_95 (by decide) (fun c1 => ?_) (fun c1 => ?_)
  · have h := ite_f h c1
    refine lv_iconst (v := 0) hx hb dX11_readLine_102 (by decide) ?_
    obtain ⟨hz, h⟩ := gz_some h
    refine pfR_X11_272 X I  hz dX11_readLine_103 (fun H locs I => ?_)
    obtain ⟨σ2, eσ2, h⟩ := lt_e h
    replace I := wi_nm eσ2 I
    refine lv_aload_n hx hb dX11_readLine_106 rfl (lv_at hl 0 rfl) ?_
    refine lv_aload_n hx hb dX11_readLine_107 rfl (lv_at hl 0 rfl) ?_
    refine gfR_X11_272 X I dX11_readLine_108 ?_
    refine lv_if_eq (tgt := 121) hx hb dX11_readLine_111 (by decide) (fun c3 => ?_) (fun c3 => ?_)
    · have h := ite_t h c3
      refine lv_aload_n hx hb dX11_readLine_121 rfl (lv_at hl 0 rfl) ?_
      refine gfR_X11_46 X I dX11_readLine_122 ?_
      refine pfR_X11_52 X I  (x := 0) dX11_readLine_125 (fun H locs I => ?_)
      obtain ⟨σ4, eσ4, h⟩ := lt_e h
      replace I := wi_nm eσ4 I
      exact w_X11_readLine_128 X   σ4 x1 x4 h H locs ls I (lv_sub hl [0, 1, 2] rfl)
    · have h := ite_f h c3
      refine lv_aload_n hx hb dX11_readLine_114 rfl (lv_at hl 0 rfl) ?_
      refine gfR_X11_49 X I dX11_readLine_115 ?_
      refine lv_goto (tgt := 125) hx hb dX11_readLine_118 (by decide) ?_
      refine pfR_X11_52 X I  (x := 1) dX11_readLine_125 (fun H locs I => ?_)
      obtain ⟨σ5, eσ5, h⟩ := lt_e h
      replace I := wi_nm eσ5 I
      exact w_X11_readLine_128 X   σ5 x1 x4 h H locs ls I (lv_sub hl [0, 1, 2] rfl)
  · have h := ite_t h c1
    refine lv_iconst (v := 1) hx hb dX11_readLine_98 (by decide) ?_
    refine lv_goto (tgt := 103) hx hb dX11_readLine_99 (by decide) ?_
    obtain ⟨hz, h⟩ := gz_some h
    refine pfR_X11_272 X I  hz dX11_readLine_103 (fun H locs I => ?_)
    obtain ⟨σ6, eσ6, h⟩ := lt_e h
    replace I := wi_nm eσ6 I
    refine lv_aload_n hx hb dX11_readLine_106 rfl (lv_at hl 0 rfl) ?_
    refine lv_aload_n hx hb dX11_readLine_107 rfl (lv_at hl 0 rfl) ?_
    refine gfR_X11_272 X I dX11_readLine_108 ?_
    refine lv_if_eq (tgt := 121) hx hb dX11_readLine_111 (by decide) (fun c7 => ?_) (fun c7 => ?_)
    · have h := ite_t h c7
      refine lv_aload_n hx hb dX11_readLine_121 rfl (lv_at hl 0 rfl) ?_
      refine gfR_X11_46 X I dX11_readLine_122 ?_
      refine pfR_X11_52 X I  (x := 0) dX11_readLine_125 (fun H locs I => ?_)
      obtain ⟨σ8, eσ8, h⟩ := lt_e h
      replace I := wi_nm eσ8 I
      exact w_X11_readLine_128 X   σ8 x1 x4 h H locs ls I (lv_sub hl [0, 1, 2] rfl)
    · have h := ite_f h c7
      refine lv_aload_n hx hb dX11_readLine_114 rfl (lv_at hl 0 rfl) ?_
      refine gfR_X11_49 X I dX11_readLine_115 ?_
      refine lv_goto (tgt := 125) hx hb dX11_readLine_118 (by decide) ?_
      refine pfR_X11_52 X I  (x := 1) dX11_readLine_125 (fun H locs I => ?_)
      obtain ⟨σ9, eσ9, h⟩ := lt_e h
      replace I := wi_nm eσ9 I
      exact w_X11_readLine_128 X   σ9 x1 x4 h H locs ls I (lv_sub hl [0, 1, 2] rfl)
set_option maxHeartbeats 4000000 in
set_option maxRecDepth 100000 in
theorem w_X11_readLine_75 {p : Program} {l : Launch} {e : Env} {s : State} {m : MethodId} {args : Array Value} {below : List Frame} {meth : Method} {c : Code} {A : Nat → Prop} {E : RE} {q : Int32 × Mem} (X : CX p s m meth c args cX11_readLine 5 RX11 (some .int)) : ∀ (σ : Mem) (x1 : Int32) (x2 : Int32) (x3 : Int32) (x4 : Int32) , f_X11_readLine_75 σ x1 x2 x3 x4 = some q → ∀ (H : Heap) (locs : List Loc) (ls : Array Slot), WI (vR E) A s H locs σ → lv_has ls 5 [(0, .ref (ra E 0)), (1, .int x1), (2, .int x2), (3, .int x3), (4, .int x4)] → W p l e rm_X11_readLine s m args below meth c H locs 0 0 (MQ below (QI (vR E) A q) args s 0 0 A) (F0 m 75 ls []) := by
  have hx := X.1
  have hb := X.2.1
  intro σ x1 x2 x3 x4 h H locs ls I hl
  unfold f_X11_readLine_75 at h
  refine lv_iload hx hb dX11_readLine_75 (lv_at hl 4 rfl) ?_
  refine lv_if_le (tgt := 159) hx hb dX11_readLine_77 (by decide) (fun c1 => ?_) (fun c1 => ?_)
  · have h := ite_t h c1
    refine lv_iload_n hx hb dX11_readLine_159 rfl (lv_at hl 2 rfl) ?_
    refine lv_iconst (v := -1) hx hb dX11_readLine_160 (by decide) ?_
    refine lv_icmp_eq (tgt := 172) hx hb dX11_readLine_161 (by decide) (fun c2 => ?_) (fun c2 => ?_)
    · have h := ite_t h c2
      refine lv_iload_n hx hb dX11_readLine_172 rfl (lv_at hl 3 rfl) ?_
      refine lv_iconst (v := -1) hx hb dX11_readLine_173 (by decide) ?_
      refine lv_icmp_eq (tgt := 185) hx hb dX11_readLine_174 (by decide) (fun c3 => ?_) (fun c3 => ?_)
      · have h := ite_t h c3
        refine lv_aload_n hx hb dX11_readLine_185 rfl (lv_at hl 0 rfl) ?_
        refine lv_iconst (v := 1) hx hb dX11_readLine_186 (by decide) ?_
        obtain ⟨q4, hq4, h⟩ := bd h
        refine r_callVV (V := (vR E)) (k := 0) (As := [.int (1 : Int32)]) (rest := []) X I hl (c_X11_wrong  hq4) yv_X11_wrong tw_851 ⟨rfl, rfl, Nat.le_of_ble_eq_true rfl, Nat.le_of_ble_eq_true rfl⟩ (Nat.le_of_ble_eq_true rfl) rfl rfl rfl rfl (Nat.le_of_ble_eq_true rfl) dX11_readLine_187 (fun H locs I => ?_)
        exact w_X11_readLine_190 X   q4 x1 x4 h H locs ls I (lv_sub hl [0, 1, 4] rfl)
      · have h := ite_f h c3
        refine lv_aload_n hx hb dX11_readLine_177 rfl (lv_at hl 0 rfl) ?_
        refine lv_iload_n hx hb dX11_readLine_178 rfl (lv_at hl 3 rfl) ?_
        obtain ⟨q5, hq5, h⟩ := bd h
        refine r_callVV (V := (vR E)) (k := 0) (As := [.int x3]) (rest := []) X I hl (c_X11_sayTenant  hq5) yv_X11_sayTenant tw_927 ⟨rfl, rfl, Nat.le_of_ble_eq_true rfl, Nat.le_of_ble_eq_true rfl⟩ (Nat.le_of_ble_eq_true rfl) rfl rfl rfl rfl (Nat.le_of_ble_eq_true rfl) dX11_readLine_179 (fun H locs I => ?_)
        refine lv_goto (tgt := 190) hx hb dX11_readLine_182 (by decide) ?_
        exact w_X11_readLine_190 X   q5 x1 x4 h H locs ls I (lv_sub hl [0, 1, 4] rfl)
    · have h := ite_f h c2
      refine lv_aload_n hx hb dX11_readLine_164 rfl (lv_at hl 0 rfl) ?_
      refine lv_iload_n hx hb dX11_readLine_165 rfl (lv_at hl 2 rfl) ?_
      obtain ⟨q6, hq6, h⟩ := bd h
      refine r_callVV (V := (vR E)) (k := 0) (As := [.int x2]) (rest := []) X I hl (c_X11_sayHouse  hq6) yv_X11_sayHouse tw_932 ⟨rfl, rfl, Nat.le_of_ble_eq_true rfl, Nat.le_of_ble_eq_true rfl⟩ (Nat.le_of_ble_eq_true rfl) rfl rfl rfl rfl (Nat.le_of_ble_eq_true rfl) dX11_readLine_166 (fun H locs I => ?_)
      refine lv_goto (tgt := 190) hx hb dX11_readLine_169 (by decide) ?_
      exact w_X11_readLine_190 X   q6 x1 x4 h H locs ls I (lv_sub hl [0, 1, 4] rfl)
  · have h := ite_f h c1
    refine lv_aload_n hx hb dX11_readLine_80 rfl (lv_at hl 0 rfl) ?_
    refine gfR_X11_244 X I dX11_readLine_81 ?_
    refine lv_if_ne (tgt := 91) hx hb dX11_readLine_84 (by decide) (fun c7 => ?_) (fun c7 => ?_)
    · have h := ite_f h c7
      exact w_X11_readLine_91 X   σ x1 x4 h H locs ls I (lv_sub hl [0, 1, 4] rfl)
    · have h := ite_t h c7
      refine lv_aload_n hx hb dX11_readLine_87 rfl (lv_at hl 0 rfl) ?_
      obtain ⟨q8, hq8, h⟩ := bd h
      refine r_callVV (V := (vR E)) (k := 0) (As := []) (rest := []) X I hl (c_X11_stepOn  hq8) yv_X11_stepOn tw_841 ⟨rfl, rfl, Nat.le_of_ble_eq_true rfl, Nat.le_of_ble_eq_true rfl⟩ (Nat.le_of_ble_eq_true rfl) rfl rfl rfl rfl (Nat.le_of_ble_eq_true rfl) dX11_readLine_88 (fun H locs I => ?_)
      exact w_X11_readLine_91 X   q8 x1 x4 h H locs ls I (lv_sub hl [0, 1, 4] rfl)
set_option maxHeartbeats 4000000 in
set_option maxRecDepth 100000 in
theorem w_X11_readLine_61 {p : Program} {l : Launch} {e : Env} {s : State} {m : MethodId} {args : Array Value} {below : List Frame} {meth : Method} {c : Code} {A : Nat → Prop} {E : RE} {q : Int32 × Mem} (X : CX p s m meth c args cX11_readLine 5 RX11 (some .int)) : ∀ (σ : Mem) (x1 : Int32) (x2 : Int32) (x3 : Int32) (z0 : Int32), f_X11_readLine_61 σ x1 x2 x3 z0 = some q → ∀ (H : Heap) (locs : List Loc) (ls : Array Slot), WI (vR E) A s H locs σ → lv_has ls 5 [(0, .ref (ra E 0)), (1, .int x1), (2, .int x2), (3, .int x3)] → W p l e rm_X11_readLine s m args below meth c H locs 0 0 (MQ below (QI (vR E) A q) args s 0 0 A) (F0 m 61 ls [.int z0]) := by
  have hx := X.1
  have hb := X.2.1
  intro σ x1 x2 x3 z0 h H locs ls I hl
  unfold f_X11_readLine_61 at h
  refine lv_istore (lv' := [(4, .int z0), (0, .ref (ra E 0)), (1, .int x1), (2, .int x2), (3, .int x3)]) hx hb dX11_readLine_61 hl (by decide) rfl (fun ls hl => ?_)
  refine lv_iload hx hb dX11_readLine_63 (lv_at hl 0 rfl) ?_
  refine lv_iload_n hx hb dX11_readLine_65 rfl (lv_at hl 2 rfl) ?_
  refine lv_iand hx hb dX11_readLine_66 ?_
  refine lv_if_eq (tgt := 75) hx hb dX11_readLine_67 (by decide) (fun c1 => ?_) (fun c1 => ?_)
  · have h := ite_t h c1
    exact w_X11_readLine_75 X   σ x1 x2 x3 z0 h H locs ls I (lv_sub hl [1, 2, 3, 4, 0] rfl)
  · have h := ite_f h c1
    refine lv_aload_n hx hb dX11_readLine_70 rfl (lv_at hl 1 rfl) ?_
    refine lv_iconst (v := 5) hx hb dX11_readLine_71 (by decide) ?_
    obtain ⟨q2, hq2, h⟩ := bd h
    refine r_callVV (V := (vR E)) (k := 0) (As := [.int (5 : Int32)]) (rest := []) X I hl (c_X11_wrong  hq2) yv_X11_wrong tw_851 ⟨rfl, rfl, Nat.le_of_ble_eq_true rfl, Nat.le_of_ble_eq_true rfl⟩ (Nat.le_of_ble_eq_true rfl) rfl rfl rfl rfl (Nat.le_of_ble_eq_true rfl) dX11_readLine_72 (fun H locs I => ?_)
    exact w_X11_readLine_75 X   q2 x1 x2 x3 z0 h H locs ls I (lv_sub hl [1, 2, 3, 4, 0] rfl)
set_option maxHeartbeats 4000000 in
set_option maxRecDepth 100000 in
theorem w_X11_readLine_0 {p : Program} {l : Launch} {e : Env} {s : State} {m : MethodId} {args : Array Value} {below : List Frame} {meth : Method} {c : Code} {A : Nat → Prop} {E : RE} {q : Int32 × Mem} (X : CX p s m meth c args cX11_readLine 5 RX11 (some .int)) : ∀ (σ : Mem) (x1 : Int32) , m_X11_readLine σ x1 = some q → ∀ (H : Heap) (locs : List Loc) (ls : Array Slot), WI (vR E) A s H locs σ → lv_has ls 5 [(0, .ref (ra E 0)), (1, .int x1)] → W p l e rm_X11_readLine s m args below meth c H locs 0 0 (MQ below (QI (vR E) A q) args s 0 0 A) (F0 m 0 ls []) := by
  have hx := X.1
  have hb := X.2.1
  intro σ x1 h H locs ls I hl
  unfold m_X11_readLine at h
  refine lv_aload_n hx hb dX11_readLine_0 rfl (lv_at hl 0 rfl) ?_
  refine lv_aload_n hx hb dX11_readLine_1 rfl (lv_at hl 0 rfl) ?_
  refine gfR_X11_15 X I dX11_readLine_2 ?_
  obtain ⟨q1, hq1, h⟩ := bd h
  refine r_callVI (V := (vR E)) (k := 0) (As := [.ref (ra E 1)]) (rest := []) X I hl (c_X11_which (kR_1 E) hq1) yv_X11_which tw_870 ⟨rfl, rfl, Nat.le_of_ble_eq_true rfl, Nat.le_of_ble_eq_true rfl⟩ (Nat.le_of_ble_eq_true rfl) rfl rfl rfl rfl (Nat.le_of_ble_eq_true rfl) dX11_readLine_5 (fun H locs I => ?_)
  refine lv_istore_n (lv' := [(2, .int q1), (0, .ref (ra E 0)), (1, .int x1)]) hx hb dX11_readLine_8 rfl hl (by decide) rfl (fun ls hl => ?_)
  refine lv_aload_n hx hb dX11_readLine_9 rfl (lv_at hl 1 rfl) ?_
  refine lv_aload_n hx hb dX11_readLine_10 rfl (lv_at hl 1 rfl) ?_
  refine gfR_X11_23 X I dX11_readLine_11 ?_
  obtain ⟨q2, hq2, h⟩ := bd h
  refine r_callVI (V := (vR E)) (k := 0) (As := [.ref (ra E 2)]) (rest := []) X I hl (c_X11_which (kR_2 E) hq2) yv_X11_which tw_870 ⟨rfl, rfl, Nat.le_of_ble_eq_true rfl, Nat.le_of_ble_eq_true rfl⟩ (Nat.le_of_ble_eq_true rfl) rfl rfl rfl rfl (Nat.le_of_ble_eq_true rfl) dX11_readLine_14 (fun H locs I => ?_)
  refine lv_istore_n (lv' := [(3, .int q2), (2, .int q1), (0, .ref (ra E 0)), (1, .int x1)]) hx hb dX11_readLine_17 rfl hl (by decide) rfl (fun ls hl => ?_)
  refine lv_aload_n hx hb dX11_readLine_18 rfl (lv_at hl 2 rfl) ?_
  refine ldcSWR X I (w := 47) (by decide) rfl rfl dX11_readLine_19 ?_
  obtain ⟨q3, hq3, h⟩ := bd h
  refine r_callVI (V := (vR E)) (k := 0) (As := [.ref (saR E 47)]) (rest := []) X I hl (c_X11_is (by decide) hq3) yv_X11_is tw_836 ⟨rfl, rfl, Nat.le_of_ble_eq_true rfl, Nat.le_of_ble_eq_true rfl⟩ (Nat.le_of_ble_eq_true rfl) rfl rfl rfl rfl (Nat.le_of_ble_eq_true rfl) dX11_readLine_22 (fun H locs I => ?_)
  refine lv_if_eq (tgt := 32) hx hb dX11_readLine_25 (by decide) (fun c4 => ?_) (fun c4 => ?_)
  · have h := ite_t h c4
    refine lv_aload_n hx hb dX11_readLine_32 rfl (lv_at hl 2 rfl) ?_
    refine ldcSWR X I (w := 48) (by decide) rfl rfl dX11_readLine_33 ?_
    obtain ⟨q5, hq5, h⟩ := bd h
    refine r_callVI (V := (vR E)) (k := 0) (As := [.ref (saR E 48)]) (rest := []) X I hl (c_X11_is (by decide) hq5) yv_X11_is tw_836 ⟨rfl, rfl, Nat.le_of_ble_eq_true rfl, Nat.le_of_ble_eq_true rfl⟩ (Nat.le_of_ble_eq_true rfl) rfl rfl rfl rfl (Nat.le_of_ble_eq_true rfl) dX11_readLine_36 (fun H locs I => ?_)
    refine lv_if_eq (tgt := 46) hx hb dX11_readLine_39 (by decide) (fun c6 => ?_) (fun c6 => ?_)
    · have h := ite_t h c6
      refine lv_aload_n hx hb dX11_readLine_46 rfl (lv_at hl 2 rfl) ?_
      refine ldcSWR X I (w := 49) (by decide) rfl rfl dX11_readLine_47 ?_
      obtain ⟨q7, hq7, h⟩ := bd h
      refine r_callVI (V := (vR E)) (k := 0) (As := [.ref (saR E 49)]) (rest := []) X I hl (c_X11_is (by decide) hq7) yv_X11_is tw_836 ⟨rfl, rfl, Nat.le_of_ble_eq_true rfl, Nat.le_of_ble_eq_true rfl⟩ (Nat.le_of_ble_eq_true rfl) rfl rfl rfl rfl (Nat.le_of_ble_eq_true rfl) dX11_readLine_50 (fun H locs I => ?_)
      refine lv_if_eq (tgt := 60) hx hb dX11_readLine_53 (by decide) (fun c8 => ?_) (fun c8 => ?_)
      · have h := ite_t h c8
        refine lv_iconst (v := 0) hx hb dX11_readLine_60 (by decide) ?_
        exact w_X11_readLine_61 X   σ x1 q1 q2 (0 : Int32) h H locs ls I (lv_sub hl [2, 3, 1, 0] rfl)
      · have h := ite_f h c8
        refine lv_iconst (v := 4) hx hb dX11_readLine_56 (by decide) ?_
        refine lv_goto (tgt := 61) hx hb dX11_readLine_57 (by decide) ?_
        exact w_X11_readLine_61 X   σ x1 q1 q2 (4 : Int32) h H locs ls I (lv_sub hl [2, 3, 1, 0] rfl)
    · have h := ite_f h c6
      refine lv_iconst (v := 2) hx hb dX11_readLine_42 (by decide) ?_
      refine lv_goto (tgt := 61) hx hb dX11_readLine_43 (by decide) ?_
      exact w_X11_readLine_61 X   σ x1 q1 q2 (2 : Int32) h H locs ls I (lv_sub hl [2, 3, 1, 0] rfl)
  · have h := ite_f h c4
    refine lv_iconst (v := 1) hx hb dX11_readLine_28 (by decide) ?_
    refine lv_goto (tgt := 61) hx hb dX11_readLine_29 (by decide) ?_
    exact w_X11_readLine_61 X   σ x1 q1 q2 (1 : Int32) h H locs ls I (lv_sub hl [2, 3, 1, 0] rfl)
theorem c_X11_readLine {l : Launch} {E : RE} {σ : Mem} {x1 : Int32} {q : Int32 × Mem} (h : m_X11_readLine σ x1 = some q) : CI l (vR E) yX11_readLine (.code yX11_readLine cX11_readLine 5 (some .int) :: GG) rm_X11_readLine [.ref (ra E 0), .int x1] σ q :=
  mk_CI (by decide +kernel) (Nat.le_of_ble_eq_true rfl) (fun p e s m args below meth c A ls X I hl => w_X11_readLine_0 X  σ x1 h s.heap [] ls I (lv_sub hl [0, 1] rfl))

def rm_X11_takeHalf : Room := { frames := 1, cells := 0, slots := 0, locals := 64 }
def f_X11_takeHalf_2 (r0 n0 : Nat) : Nat → Mem → Int32 → Option (Mem)
  | 0, _, _ => none
  | n + 1, σ, x1 => (gnz (2 : Int32) (if ((Int32.ofNat n0) / (2 : Int32)) ≤ x1 then (some σ) else (gnz (2 : Int32) (gd (((Int32.ofNat n0) / (2 : Int32)) + x1) n0 (gd x1 n0 (lt (ms σ r0 (Int32.toNatClampNeg x1) ((σ r0 (Int32.toNatClampNeg (((Int32.ofNat n0) / (2 : Int32)) + x1))))) fun σ2 => f_X11_takeHalf_2 r0 n0 n σ2 (x1 + 1)))))))
def m_X11_takeHalf (r0 n0 : Nat) (σ : Mem) : Option (Mem) := (f_X11_takeHalf_2 r0 n0 KF σ (0 : Int32))
set_option maxHeartbeats 4000000 in
set_option maxRecDepth 100000 in
theorem w_X11_takeHalf_2 {p : Program} {l : Launch} {e : Env} {s : State} {m : MethodId} {args : Array Value} {below : List Frame} {meth : Method} {c : Code} {A : Nat → Prop} {E : RE} {q : Mem} (X : CX p s m meth c args cX11_takeHalf 2 RX11 none) {r0 n0 : Nat} (hr0 : KRaI E r0 n0) : ∀ (n : Nat), ∀ (σ : Mem) (x1 : Int32) , f_X11_takeHalf_2 r0 n0 n σ x1 = some q → ∀ (H : Heap) (locs : List Loc) (ls : Array Slot), WI (vR E) A s H locs σ → lv_has ls 2 [(0, .ref (ra E r0)), (1, .int x1)] → W p l e rm_X11_takeHalf s m args below meth c H locs 0 0 (MQ below (QV (vR E) A q) args s 0 0 A) (F0 m 2 ls []) := by
  have hx := X.1
  have hb := X.2.1
  intro n
  induction n with
  | zero =>
    intro σ x1 h
    cases h
  | succ n ih =>
    intro σ x1 h H locs ls I hl
    rw [f_X11_takeHalf_2] at h
    refine lv_iload_n hx hb dX11_takeHalf_2 rfl (lv_at hl 1 rfl) ?_
    refine lv_aload_n hx hb dX11_takeHalf_3 rfl (lv_at hl 0 rfl) ?_
    refine alenIR X I hr0 (v := (Int32.ofNat n0)) rfl dX11_takeHalf_4 ?_
    refine lv_iconst (v := 2) hx hb dX11_takeHalf_5 (by decide) ?_
    obtain ⟨hnz, h⟩ := gnz_some h
    refine lv_idiv hx hb dX11_takeHalf_6 hnz ?_
    refine lv_icmp_ge (tgt := 27) hx hb dX11_takeHalf_7 (by decide) (fun c1 => ?_) (fun c1 => ?_)
    · have h := ite_t h c1
      exact r_vret X I (Option.some.inj h).symm dX11_takeHalf_27
    · have h := ite_f h c1
      refine lv_aload_n hx hb dX11_takeHalf_10 rfl (lv_at hl 0 rfl) ?_
      refine lv_iload_n hx hb dX11_takeHalf_11 rfl (lv_at hl 1 rfl) ?_
      refine lv_aload_n hx hb dX11_takeHalf_12 rfl (lv_at hl 0 rfl) ?_
      refine lv_aload_n hx hb dX11_takeHalf_13 rfl (lv_at hl 0 rfl) ?_
      refine alenIR X I hr0 (v := (Int32.ofNat n0)) rfl dX11_takeHalf_14 ?_
      refine lv_iconst (v := 2) hx hb dX11_takeHalf_15 (by decide) ?_
      obtain ⟨hnz, h⟩ := gnz_some h
      refine lv_idiv hx hb dX11_takeHalf_16 hnz ?_
      refine lv_iload_n hx hb dX11_takeHalf_17 rfl (lv_at hl 1 rfl) ?_
      refine lv_iadd hx hb dX11_takeHalf_18 ?_
      obtain ⟨hin, h⟩ := gd_some h
      refine ialdR X I hr0 hin dX11_takeHalf_19 ?_
      obtain ⟨hin, h⟩ := gd_some h
      refine iastR X I hr0 hin dX11_takeHalf_20 (fun H locs I => ?_)
      obtain ⟨σ2, eσ2, h⟩ := lt_e h
      replace I := wi_nm eσ2 I
      refine lv_iinc (v := (x1 + 1)) (lv' := [(1, .int (x1 + 1)), (0, .ref (ra E r0))]) hx hb dX11_takeHalf_21 hl (k := 1) rfl rfl (by decide) rfl (fun ls hl => ?_)
      refine lv_goto (tgt := 2) hx hb dX11_takeHalf_24 (by decide) ?_
      exact ih σ2 (x1 + 1) h H locs ls I (lv_sub hl [1, 0] rfl)
set_option maxHeartbeats 4000000 in
set_option maxRecDepth 100000 in
theorem w_X11_takeHalf_0 {p : Program} {l : Launch} {e : Env} {s : State} {m : MethodId} {args : Array Value} {below : List Frame} {meth : Method} {c : Code} {A : Nat → Prop} {E : RE} {q : Mem} (X : CX p s m meth c args cX11_takeHalf 2 RX11 none) {r0 n0 : Nat} (hr0 : KRaI E r0 n0) : ∀ (σ : Mem)  , m_X11_takeHalf r0 n0 σ = some q → ∀ (H : Heap) (locs : List Loc) (ls : Array Slot), WI (vR E) A s H locs σ → lv_has ls 2 [(0, .ref (ra E r0))] → W p l e rm_X11_takeHalf s m args below meth c H locs 0 0 (MQ below (QV (vR E) A q) args s 0 0 A) (F0 m 0 ls []) := by
  have hx := X.1
  have hb := X.2.1
  intro σ  h H locs ls I hl
  unfold m_X11_takeHalf at h
  refine lv_iconst (v := 0) hx hb dX11_takeHalf_0 (by decide) ?_
  refine lv_istore_n (lv' := [(1, .int (0 : Int32)), (0, .ref (ra E r0))]) hx hb dX11_takeHalf_1 rfl hl (by decide) rfl (fun ls hl => ?_)
  exact w_X11_takeHalf_2 X hr0  KF σ (0 : Int32) h H locs ls I (lv_sub hl [1, 0] rfl)
theorem c_X11_takeHalf {l : Launch} {E : RE} {r0 n0 : Nat} {σ : Mem} (hr0 : KRaI E r0 n0) {q : Mem} (h : m_X11_takeHalf r0 n0 σ = some q) : CV l (vR E) yX11_takeHalf (.code yX11_takeHalf cX11_takeHalf 2 none :: GG) rm_X11_takeHalf [.ref (ra E r0)] σ q :=
  mk_CV (by decide +kernel) (Nat.le_of_ble_eq_true rfl) (fun p e s m args below meth c A ls X I hl => w_X11_takeHalf_0 X hr0 σ  h s.heap [] ls I (lv_sub hl [0] rfl))

def rm_X11_takeOver : Room := { frames := 2, cells := 0, slots := 0, locals := 85 }
def f_X11_takeOver_253 (k212 : Mem → Int32 → Option (Mem)) (σ : Mem) (x1 : Int32) (x2 : Int32) (z1 : Int32) (z2 : Int32) : Option (Mem) := (gd z1 7 (lt (ms σ 25 (Int32.toNatClampNeg z1) (z2)) fun σ1 => (if x2 = (0 : Int32) then (gd x1 7 (lt (ms σ1 26 (Int32.toNatClampNeg x1) ((0 : Int32))) fun σ3 => (if x2 = (0 : Int32) then (gd x1 7 (lt (ms σ3 27 (Int32.toNatClampNeg x1) ((0 : Int32))) fun σ5 => (k212 σ5 (x1 + 1)))) else (gd x1 14 (gd x1 7 (lt (ms σ3 27 (Int32.toNatClampNeg x1) ((σ3 15 (Int32.toNatClampNeg x1)))) fun σ6 => (k212 σ6 (x1 + 1)))))))) else (gd x1 14 (gd x1 7 (lt (ms σ1 26 (Int32.toNatClampNeg x1) ((σ1 14 (Int32.toNatClampNeg x1)))) fun σ7 => (if x2 = (0 : Int32) then (gd x1 7 (lt (ms σ7 27 (Int32.toNatClampNeg x1) ((0 : Int32))) fun σ9 => (k212 σ9 (x1 + 1)))) else (gd x1 14 (gd x1 7 (lt (ms σ7 27 (Int32.toNatClampNeg x1) ((σ7 15 (Int32.toNatClampNeg x1)))) fun σ10 => (k212 σ10 (x1 + 1))))))))))))
def f_X11_takeOver_212 : Nat → Mem → Int32 → Option (Mem)
  | 0, _, _ => none
  | n + 1, σ, x1 => (if (7 : Int32) ≤ x1 then (lt (ms σ 0 44 (0 : Int32)) fun σ2 => (lt (ms σ2 0 45 (0 : Int32)) fun σ3 => (gz (0 : Int32) (lt (ms σ3 0 64 (0 : Int32)) fun σ4 => (some σ4))))) else (gd (1 : Int32) 10 (if (σ 5 (Int32.toNatClampNeg (1 : Int32))) ≤ x1 then (if (0 : Int32) = (0 : Int32) then (f_X11_takeOver_253 (f_X11_takeOver_212 n) σ x1 (0 : Int32) x1 (0 : Int32)) else (gd x1 14 (f_X11_takeOver_253 (f_X11_takeOver_212 n) σ x1 (0 : Int32) x1 (σ 13 (Int32.toNatClampNeg x1))))) else (if (1 : Int32) = (0 : Int32) then (f_X11_takeOver_253 (f_X11_takeOver_212 n) σ x1 (1 : Int32) x1 (0 : Int32)) else (gd x1 14 (f_X11_takeOver_253 (f_X11_takeOver_212 n) σ x1 (1 : Int32) x1 (σ 13 (Int32.toNatClampNeg x1))))))))
def f_X11_takeOver_169 (k108 : Mem → Int32 → Option (Mem)) (σ : Mem) (x1 : Int32) (x2 : Int32) (z1 : Int32) (z2 : Int32) : Option (Mem) := (gd z1 8 (lt (ms σ 21 (Int32.toNatClampNeg z1) (z2)) fun σ1 => (if x2 = (0 : Int32) then (gd x1 8 (lt (ms σ1 22 (Int32.toNatClampNeg x1) ((0 : Int32))) fun σ3 => (gd x1 8 (lt (ms σ3 23 (Int32.toNatClampNeg x1) ((-1 : Int32))) fun σ4 => (gd x1 8 (lt (ms σ4 24 (Int32.toNatClampNeg x1) ((0 : Int32))) fun σ5 => (k108 σ5 (x1 + 1)))))))) else (gd x1 16 (gd x1 8 (lt (ms σ1 22 (Int32.toNatClampNeg x1) ((σ1 10 (Int32.toNatClampNeg x1)))) fun σ6 => (gd x1 8 (lt (ms σ6 23 (Int32.toNatClampNeg x1) ((-1 : Int32))) fun σ7 => (gd x1 8 (lt (ms σ7 24 (Int32.toNatClampNeg x1) ((0 : Int32))) fun σ8 => (k108 σ8 (x1 + 1))))))))))))
def f_X11_takeOver_129 (k108 : Mem → Int32 → Option (Mem)) (σ : Mem) (x1 : Int32) (z0 : Int32) : Option (Mem) := (if z0 = (0 : Int32) then (gd x1 8 (lt (ms σ 20 (Int32.toNatClampNeg x1) ((0 : Int32))) fun σ2 => (if z0 = (0 : Int32) then (f_X11_takeOver_169 k108 σ2 x1 z0 x1 (0 : Int32)) else (gd x1 16 (f_X11_takeOver_169 k108 σ2 x1 z0 x1 (σ2 9 (Int32.toNatClampNeg x1))))))) else (gd x1 16 (gd x1 8 (lt (ms σ 20 (Int32.toNatClampNeg x1) ((σ 8 (Int32.toNatClampNeg x1)))) fun σ4 => (if z0 = (0 : Int32) then (f_X11_takeOver_169 k108 σ4 x1 z0 x1 (0 : Int32)) else (gd x1 16 (f_X11_takeOver_169 k108 σ4 x1 z0 x1 (σ4 9 (Int32.toNatClampNeg x1)))))))))
def f_X11_takeOver_108 : Nat → Mem → Int32 → Option (Mem)
  | 0, _, _ => none
  | n + 1, σ, x1 => (if (8 : Int32) ≤ x1 then (f_X11_takeOver_212 KF σ (0 : Int32)) else (gd (0 : Int32) 10 (if (σ 5 (Int32.toNatClampNeg (0 : Int32))) ≤ x1 then (f_X11_takeOver_129 (f_X11_takeOver_108 n) σ x1 (0 : Int32)) else (f_X11_takeOver_129 (f_X11_takeOver_108 n) σ x1 (1 : Int32)))))
def m_X11_takeOver (σ : Mem) : Option (Mem) := ((m_X11_takeHalf 5 10 σ).bind fun q1 => ((m_X11_takeHalf 6 16 q1).bind fun q2 => ((m_X11_takeHalf 7 16 q2).bind fun q3 => ((m_X11_takeHalf 8 16 q3).bind fun q4 => ((m_X11_takeHalf 9 16 q4).bind fun q5 => ((m_X11_takeHalf 10 16 q5).bind fun q6 => ((m_X11_takeHalf 11 14 q6).bind fun q7 => ((m_X11_takeHalf 12 14 q7).bind fun q8 => ((m_X11_takeHalf 13 14 q8).bind fun q9 => ((m_X11_takeHalf 14 14 q9).bind fun q10 => ((m_X11_takeHalf 15 14 q10).bind fun q11 => ((m_X11_takeHalf 16 1400 q11).bind fun q12 => ((m_X11_takeHalf 17 1400 q12).bind fun q13 => (lt (ms q13 0 41 (0 : Int32)) fun σ14 => (lt (ms σ14 0 42 (0 : Int32)) fun σ15 => (lt (ms σ15 0 43 (0 : Int32)) fun σ16 => (f_X11_takeOver_108 KF σ16 (0 : Int32))))))))))))))))))
set_option maxHeartbeats 4000000 in
set_option maxRecDepth 100000 in
theorem w_X11_takeOver_253 {p : Program} {l : Launch} {e : Env} {s : State} {m : MethodId} {args : Array Value} {below : List Frame} {meth : Method} {c : Code} {A : Nat → Prop} {E : RE} {q : Mem} (X : CX p s m meth c args cX11_takeOver 3 RX11 none) {k212 : Mem → Int32 → Option (Mem)} (hk212 : ∀ (σ : Mem) (x1 : Int32) , k212 σ x1 = some q → ∀ (H : Heap) (locs : List Loc) (ls : Array Slot), WI (vR E) A s H locs σ → lv_has ls 3 [(0, .ref (ra E 0)), (1, .int x1)] → W p l e rm_X11_takeOver s m args below meth c H locs 0 0 (MQ below (QV (vR E) A q) args s 0 0 A) (F0 m 212 ls [])) : ∀ (σ : Mem) (x1 : Int32) (x2 : Int32) (z1 : Int32) (z2 : Int32), f_X11_takeOver_253 k212 σ x1 x2 z1 z2 = some q → ∀ (H : Heap) (locs : List Loc) (ls : Array Slot), WI (vR E) A s H locs σ → lv_has ls 3 [(0, .ref (ra E 0)), (1, .int x1), (2, .int x2)] → W p l e rm_X11_takeOver s m args below meth c H locs 0 0 (MQ below (QV (vR E) A q) args s 0 0 A) (F0 m 253 ls [.int z2, .int z1, .ref (ra E 25)]) := by
  have hx := X.1
  have hb := X.2.1
  intro σ x1 x2 z1 z2 h H locs ls I hl
  unfold f_X11_takeOver_253 at h
  obtain ⟨hin, h⟩ := gd_some h
  refine iastR X I (kR_25 E) hin dX11_takeOver_253 (fun H locs I => ?_)
  obtain ⟨σ1, eσ1, h⟩ := lt_e h
  replace I := wi_nm eσ1 I
  refine lv_aload_n hx hb dX11_takeOver_254 rfl (lv_at hl 0 rfl) ?_
  refine gfR_X11_117 X I dX11_takeOver_255 ?_
  refine lv_iload_n hx hb dX11_takeOver_258 rfl (lv_at hl 1 rfl) ?_
  refine lv_iload_n hx hb dX11_takeOver_259 rfl (lv_at hl 2 rfl) ?_
  refine lv_if_eq (tgt := 272) hx hb dX11_takeOver_260 (by decide) (fun c2 => ?_) (fun c2 => ?_)
  · have h := ite_t h c2
    refine lv_iconst (v := 0) hx hb dX11_takeOver_272 (by decide) ?_
    obtain ⟨hin, h⟩ := gd_some h
    refine iastR X I (kR_26 E) hin dX11_takeOver_273 (fun H locs I => ?_)
    obtain ⟨σ3, eσ3, h⟩ := lt_e h
    replace I := wi_nm eσ3 I
    refine lv_aload_n hx hb dX11_takeOver_274 rfl (lv_at hl 0 rfl) ?_
    refine gfR_X11_120 X I dX11_takeOver_275 ?_
    refine lv_iload_n hx hb dX11_takeOver_278 rfl (lv_at hl 1 rfl) ?_
    refine lv_iload_n hx hb dX11_takeOver_279 rfl (lv_at hl 2 rfl) ?_
    refine lv_if_eq (tgt := 292) hx hb dX11_takeOver_280 (by decide) (fun c4 => ?_) (fun c4 => ?_)
    · have h := ite_t h c4
      refine lv_iconst (v := 0) hx hb dX11_takeOver_292 (by decide) ?_
      obtain ⟨hin, h⟩ := gd_some h
      refine iastR X I (kR_27 E) hin dX11_takeOver_293 (fun H locs I => ?_)
      obtain ⟨σ5, eσ5, h⟩ := lt_e h
      replace I := wi_nm eσ5 I
      refine lv_iinc (v := (x1 + 1)) (lv' := [(1, .int (x1 + 1)), (0, .ref (ra E 0)), (2, .int x2)]) hx hb dX11_takeOver_294 hl (k := 1) rfl rfl (by decide) rfl (fun ls hl => ?_)
      refine lv_goto (tgt := 212) hx hb dX11_takeOver_297 (by decide) ?_
      exact hk212 σ5 (x1 + 1) h H locs ls I (lv_sub hl [1, 0] rfl)
    · have h := ite_f h c4
      refine lv_aload_n hx hb dX11_takeOver_283 rfl (lv_at hl 0 rfl) ?_
      refine gfR_X11_83 X I dX11_takeOver_284 ?_
      refine lv_iload_n hx hb dX11_takeOver_287 rfl (lv_at hl 1 rfl) ?_
      obtain ⟨hin, h⟩ := gd_some h
      refine ialdR X I (kR_15 E) hin dX11_takeOver_288 ?_
      refine lv_goto (tgt := 293) hx hb dX11_takeOver_289 (by decide) ?_
      obtain ⟨hin, h⟩ := gd_some h
      refine iastR X I (kR_27 E) hin dX11_takeOver_293 (fun H locs I => ?_)
      obtain ⟨σ6, eσ6, h⟩ := lt_e h
      replace I := wi_nm eσ6 I
      refine lv_iinc (v := (x1 + 1)) (lv' := [(1, .int (x1 + 1)), (0, .ref (ra E 0)), (2, .int x2)]) hx hb dX11_takeOver_294 hl (k := 1) rfl rfl (by decide) rfl (fun ls hl => ?_)
      refine lv_goto (tgt := 212) hx hb dX11_takeOver_297 (by decide) ?_
      exact hk212 σ6 (x1 + 1) h H locs ls I (lv_sub hl [1, 0] rfl)
  · have h := ite_f h c2
    refine lv_aload_n hx hb dX11_takeOver_263 rfl (lv_at hl 0 rfl) ?_
    refine gfR_X11_80 X I dX11_takeOver_264 ?_
    refine lv_iload_n hx hb dX11_takeOver_267 rfl (lv_at hl 1 rfl) ?_
    obtain ⟨hin, h⟩ := gd_some h
    refine ialdR X I (kR_14 E) hin dX11_takeOver_268 ?_
    refine lv_goto (tgt := 273) hx hb dX11_takeOver_269 (by decide) ?_
    obtain ⟨hin, h⟩ := gd_some h
    refine iastR X I (kR_26 E) hin dX11_takeOver_273 (fun H locs I => ?_)
    obtain ⟨σ7, eσ7, h⟩ := lt_e h
    replace I := wi_nm eσ7 I
    refine lv_aload_n hx hb dX11_takeOver_274 rfl (lv_at hl 0 rfl) ?_
    refine gfR_X11_120 X I dX11_takeOver_275 ?_
    refine lv_iload_n hx hb dX11_takeOver_278 rfl (lv_at hl 1 rfl) ?_
    refine lv_iload_n hx hb dX11_takeOver_279 rfl (lv_at hl 2 rfl) ?_
    refine lv_if_eq (tgt := 292) hx hb dX11_takeOver_280 (by decide) (fun c8 => ?_) (fun c8 => ?_)
    · have h := ite_t h c8
      refine lv_iconst (v := 0) hx hb dX11_takeOver_292 (by decide) ?_
      obtain ⟨hin, h⟩ := gd_some h
      refine iastR X I (kR_27 E) hin dX11_takeOver_293 (fun H locs I => ?_)
      obtain ⟨σ9, eσ9, h⟩ := lt_e h
      replace I := wi_nm eσ9 I
      refine lv_iinc (v := (x1 + 1)) (lv' := [(1, .int (x1 + 1)), (0, .ref (ra E 0)), (2, .int x2)]) hx hb dX11_takeOver_294 hl (k := 1) rfl rfl (by decide) rfl (fun ls hl => ?_)
      refine lv_goto (tgt := 212) hx hb dX11_takeOver_297 (by decide) ?_
      exact hk212 σ9 (x1 + 1) h H locs ls I (lv_sub hl [1, 0] rfl)
    · have h := ite_f h c8
      refine lv_aload_n hx hb dX11_takeOver_283 rfl (lv_at hl 0 rfl) ?_
      refine gfR_X11_83 X I dX11_takeOver_284 ?_
      refine lv_iload_n hx hb dX11_takeOver_287 rfl (lv_at hl 1 rfl) ?_
      obtain ⟨hin, h⟩ := gd_some h
      refine ialdR X I (kR_15 E) hin dX11_takeOver_288 ?_
      refine lv_goto (tgt := 293) hx hb dX11_takeOver_289 (by decide) ?_
      obtain ⟨hin, h⟩ := gd_some h
      refine iastR X I (kR_27 E) hin dX11_takeOver_293 (fun H locs I => ?_)
      obtain ⟨σ10, eσ10, h⟩ := lt_e h
      replace I := wi_nm eσ10 I
      refine lv_iinc (v := (x1 + 1)) (lv' := [(1, .int (x1 + 1)), (0, .ref (ra E 0)), (2, .int x2)]) hx hb dX11_takeOver_294 hl (k := 1) rfl rfl (by decide) rfl (fun ls hl => ?_)
      refine lv_goto (tgt := 212) hx hb dX11_takeOver_297 (by decide) ?_
      exact hk212 σ10 (x1 + 1) h H locs ls I (lv_sub hl [1, 0] rfl)
set_option maxHeartbeats 4000000 in
set_option maxRecDepth 100000 in
theorem w_X11_takeOver_212 {p : Program} {l : Launch} {e : Env} {s : State} {m : MethodId} {args : Array Value} {below : List Frame} {meth : Method} {c : Code} {A : Nat → Prop} {E : RE} {q : Mem} (X : CX p s m meth c args cX11_takeOver 3 RX11 none) : ∀ (n : Nat), ∀ (σ : Mem) (x1 : Int32) , f_X11_takeOver_212 n σ x1 = some q → ∀ (H : Heap) (locs : List Loc) (ls : Array Slot), WI (vR E) A s H locs σ → lv_has ls 3 [(0, .ref (ra E 0)), (1, .int x1)] → W p l e rm_X11_takeOver s m args below meth c H locs 0 0 (MQ below (QV (vR E) A q) args s 0 0 A) (F0 m 212 ls []) := by
  have hx := X.1
  have hb := X.2.1
  intro n
  induction n with
  | zero =>
    intro σ x1 h
    cases h
  | succ n ih =>
    intro σ x1 h H locs ls I hl
    rw [f_X11_takeOver_212] at h
    refine lv_iload_n hx hb dX11_takeOver_212 rfl (lv_at hl 1 rfl) ?_
    refine lv_bipush (v := 7) hx hb dX11_takeOver_213 (by decide) ?_
    refine lv_icmp_ge (tgt := 300) hx hb dX11_takeOver_215 (by decide) (fun c1 => ?_) (fun c1 => ?_)
    · have h := ite_t h c1
      refine lv_aload_n hx hb dX11_takeOver_300 rfl (lv_at hl 0 rfl) ?_
      refine lv_iconst (v := 0) hx hb dX11_takeOver_301 (by decide) ?_
      refine pfR_X11_350 X I  dX11_takeOver_302 (fun H locs I => ?_)
      obtain ⟨σ2, eσ2, h⟩ := lt_e h
      replace I := wi_nm eσ2 I
      refine lv_aload_n hx hb dX11_takeOver_305 rfl (lv_at hl 0 rfl) ?_
      refine lv_iconst (v := 0) hx hb dX11_takeOver_306 (by decide) ?_
      refine pfR_X11_353 X I  dX11_takeOver_307 (fun H locs I => ?_)
      obtain ⟨σ3, eσ3, h⟩ := lt_e h
      replace I := wi_nm eσ3 I
      refine lv_aload_n hx hb dX11_takeOver_310 rfl (lv_at hl 0 rfl) ?_
      refine lv_iconst (v := 0) hx hb dX11_takeOver_311 (by decide) ?_
      obtain ⟨hz, h⟩ := gz_some h
      refine pfR_X11_356 X I  hz dX11_takeOver_312 (fun H locs I => ?_)
      obtain ⟨σ4, eσ4, h⟩ := lt_e h
      replace I := wi_nm eσ4 I
      exact r_vret X I (Option.some.inj h).symm dX11_takeOver_315
    · have h := ite_f h c1
      refine lv_iload_n hx hb dX11_takeOver_218 rfl (lv_at hl 1 rfl) ?_
      refine lv_aload_n hx hb dX11_takeOver_219 rfl (lv_at hl 0 rfl) ?_
      refine gfR_X11_55 X I dX11_takeOver_220 ?_
      refine lv_iconst (v := 1) hx hb dX11_takeOver_223 (by decide) ?_
      obtain ⟨hin, h⟩ := gd_some h
      refine ialdR X I (kR_5 E) hin dX11_takeOver_224 ?_
      refine lv_icmp_ge (tgt := 232) hx hb dX11_takeOver_225 (by decide) (fun c5 => ?_) (fun c5 => ?_)
      · have h := ite_t h c5
        refine lv_iconst (v := 0) hx hb dX11_takeOver_232 (by decide) ?_
        refine lv_istore_n (lv' := [(2, .int (0 : Int32)), (0, .ref (ra E 0)), (1, .int x1)]) hx hb dX11_takeOver_233 rfl hl (by decide) rfl (fun ls hl => ?_)
        refine lv_aload_n hx hb dX11_takeOver_234 rfl (lv_at hl 1 rfl) ?_
        refine gfR_X11_115 X I dX11_takeOver_235 ?_
        refine lv_iload_n hx hb dX11_takeOver_238 rfl (lv_at hl 2 rfl) ?_
        refine lv_iload_n hx hb dX11_takeOver_239 rfl (lv_at hl 0 rfl) ?_
        refine lv_if_eq (tgt := 252) hx hb dX11_takeOver_240 (by decide) (fun c6 => ?_) (fun c6 => ?_)
        · have h := ite_t h c6
          refine lv_iconst (v := 0) hx hb dX11_takeOver_252 (by decide) ?_
          exact w_X11_takeOver_253 X  (fun σ a1 h H locs ls I hl => ih σ a1 h H locs ls I hl) σ x1 (0 : Int32) x1 (0 : Int32) h H locs ls I (lv_sub hl [1, 2, 0] rfl)
        · have h := ite_f h c6
          refine lv_aload_n hx hb dX11_takeOver_243 rfl (lv_at hl 1 rfl) ?_
          refine gfR_X11_77 X I dX11_takeOver_244 ?_
          refine lv_iload_n hx hb dX11_takeOver_247 rfl (lv_at hl 2 rfl) ?_
          obtain ⟨hin, h⟩ := gd_some h
          refine ialdR X I (kR_13 E) hin dX11_takeOver_248 ?_
          refine lv_goto (tgt := 253) hx hb dX11_takeOver_249 (by decide) ?_
          exact w_X11_takeOver_253 X  (fun σ a1 h H locs ls I hl => ih σ a1 h H locs ls I hl) σ x1 (0 : Int32) x1 (σ 13 (Int32.toNatClampNeg x1)) h H locs ls I (lv_sub hl [1, 2, 0] rfl)
      · have h := ite_f h c5
        refine lv_iconst (v := 1) hx hb dX11_takeOver_228 (by decide) ?_
        refine lv_goto (tgt := 233) hx hb dX11_takeOver_229 (by decide) ?_
        refine lv_istore_n (lv' := [(2, .int (1 : Int32)), (0, .ref (ra E 0)), (1, .int x1)]) hx hb dX11_takeOver_233 rfl hl (by decide) rfl (fun ls hl => ?_)
        refine lv_aload_n hx hb dX11_takeOver_234 rfl (lv_at hl 1 rfl) ?_
        refine gfR_X11_115 X I dX11_takeOver_235 ?_
        refine lv_iload_n hx hb dX11_takeOver_238 rfl (lv_at hl 2 rfl) ?_
        refine lv_iload_n hx hb dX11_takeOver_239 rfl (lv_at hl 0 rfl) ?_
        refine lv_if_eq (tgt := 252) hx hb dX11_takeOver_240 (by decide) (fun c7 => ?_) (fun c7 => ?_)
        · have h := ite_t h c7
          refine lv_iconst (v := 0) hx hb dX11_takeOver_252 (by decide) ?_
          exact w_X11_takeOver_253 X  (fun σ a1 h H locs ls I hl => ih σ a1 h H locs ls I hl) σ x1 (1 : Int32) x1 (0 : Int32) h H locs ls I (lv_sub hl [1, 2, 0] rfl)
        · have h := ite_f h c7
          refine lv_aload_n hx hb dX11_takeOver_243 rfl (lv_at hl 1 rfl) ?_
          refine gfR_X11_77 X I dX11_takeOver_244 ?_
          refine lv_iload_n hx hb dX11_takeOver_247 rfl (lv_at hl 2 rfl) ?_
          obtain ⟨hin, h⟩ := gd_some h
          refine ialdR X I (kR_13 E) hin dX11_takeOver_248 ?_
          refine lv_goto (tgt := 253) hx hb dX11_takeOver_249 (by decide) ?_
          exact w_X11_takeOver_253 X  (fun σ a1 h H locs ls I hl => ih σ a1 h H locs ls I hl) σ x1 (1 : Int32) x1 (σ 13 (Int32.toNatClampNeg x1)) h H locs ls I (lv_sub hl [1, 2, 0] rfl)
set_option maxHeartbeats 4000000 in
set_option maxRecDepth 100000 in
theorem w_X11_takeOver_169 {p : Program} {l : Launch} {e : Env} {s : State} {m : MethodId} {args : Array Value} {below : List Frame} {meth : Method} {c : Code} {A : Nat → Prop} {E : RE} {q : Mem} (X : CX p s m meth c args cX11_takeOver 3 RX11 none) {k108 : Mem → Int32 → Option (Mem)} (hk108 : ∀ (σ : Mem) (x1 : Int32) , k108 σ x1 = some q → ∀ (H : Heap) (locs : List Loc) (ls : Array Slot), WI (vR E) A s H locs σ → lv_has ls 3 [(0, .ref (ra E 0)), (1, .int x1)] → W p l e rm_X11_takeOver s m args below meth c H locs 0 0 (MQ below (QV (vR E) A q) args s 0 0 A) (F0 m 108 ls [])) : ∀ (σ : Mem) (x1 : Int32) (x2 : Int32) (z1 : Int32) (z2 : Int32), f_X11_takeOver_169 k108 σ x1 x2 z1 z2 = some q → ∀ (H : Heap) (locs : List Loc) (ls : Array Slot), WI (vR E) A s H locs σ → lv_has ls 3 [(0, .ref (ra E 0)), (1, .int x1), (2, .int x2)] → W p l e rm_X11_takeOver s m args below meth c H locs 0 0 (MQ below (QV (vR E) A q) args s 0 0 A) (F0 m 169 ls [.int z2, .int z1, .ref (ra E 21)]) := by
  have hx := X.1
  have hb := X.2.1
  intro σ x1 x2 z1 z2 h H locs ls I hl
  unfold f_X11_takeOver_169 at h
  obtain ⟨hin, h⟩ := gd_some h
  refine iastR X I (kR_21 E) hin dX11_takeOver_169 (fun H locs I => ?_)
  obtain ⟨σ1, eσ1, h⟩ := lt_e h
  replace I := wi_nm eσ1 I
  refine lv_aload_n hx hb dX11_takeOver_170 rfl (lv_at hl 0 rfl) ?_
  refine gfR_X11_107 X I dX11_takeOver_171 ?_
  refine lv_iload_n hx hb dX11_takeOver_174 rfl (lv_at hl 1 rfl) ?_
  refine lv_iload_n hx hb dX11_takeOver_175 rfl (lv_at hl 2 rfl) ?_
  refine lv_if_eq (tgt := 188) hx hb dX11_takeOver_176 (by decide) (fun c2 => ?_) (fun c2 => ?_)
  · have h := ite_t h c2
    refine lv_iconst (v := 0) hx hb dX11_takeOver_188 (by decide) ?_
    obtain ⟨hin, h⟩ := gd_some h
    refine iastR X I (kR_22 E) hin dX11_takeOver_189 (fun H locs I => ?_)
    obtain ⟨σ3, eσ3, h⟩ := lt_e h
    replace I := wi_nm eσ3 I
    refine lv_aload_n hx hb dX11_takeOver_190 rfl (lv_at hl 0 rfl) ?_
    refine gfR_X11_110 X I dX11_takeOver_191 ?_
    refine lv_iload_n hx hb dX11_takeOver_194 rfl (lv_at hl 1 rfl) ?_
    refine lv_iconst (v := -1) hx hb dX11_takeOver_195 (by decide) ?_
    obtain ⟨hin, h⟩ := gd_some h
    refine iastR X I (kR_23 E) hin dX11_takeOver_196 (fun H locs I => ?_)
    obtain ⟨σ4, eσ4, h⟩ := lt_e h
    replace I := wi_nm eσ4 I
    refine lv_aload_n hx hb dX11_takeOver_197 rfl (lv_at hl 0 rfl) ?_
    refine gfR_X11_113 X I dX11_takeOver_198 ?_
    refine lv_iload_n hx hb dX11_takeOver_201 rfl (lv_at hl 1 rfl) ?_
    refine lv_iconst (v := 0) hx hb dX11_takeOver_202 (by decide) ?_
    obtain ⟨hin, h⟩ := gd_some h
    refine iastR X I (kR_24 E) hin dX11_takeOver_203 (fun H locs I => ?_)
    obtain ⟨σ5, eσ5, h⟩ := lt_e h
    replace I := wi_nm eσ5 I
    refine lv_iinc (v := (x1 + 1)) (lv' := [(1, .int (x1 + 1)), (0, .ref (ra E 0)), (2, .int x2)]) hx hb dX11_takeOver_204 hl (k := 1) rfl rfl (by decide) rfl (fun ls hl => ?_)
    refine lv_goto (tgt := 108) hx hb dX11_takeOver_207 (by decide) ?_
    exact hk108 σ5 (x1 + 1) h H locs ls I (lv_sub hl [1, 0] rfl)
  · have h := ite_f h c2
    refine lv_aload_n hx hb dX11_takeOver_179 rfl (lv_at hl 0 rfl) ?_
    refine gfR_X11_69 X I dX11_takeOver_180 ?_
    refine lv_iload_n hx hb dX11_takeOver_183 rfl (lv_at hl 1 rfl) ?_
    obtain ⟨hin, h⟩ := gd_some h
    refine ialdR X I (kR_10 E) hin dX11_takeOver_184 ?_
    refine lv_goto (tgt := 189) hx hb dX11_takeOver_185 (by decide) ?_
    obtain ⟨hin, h⟩ := gd_some h
    refine iastR X I (kR_22 E) hin dX11_takeOver_189 (fun H locs I => ?_)
    obtain ⟨σ6, eσ6, h⟩ := lt_e h
    replace I := wi_nm eσ6 I
    refine lv_aload_n hx hb dX11_takeOver_190 rfl (lv_at hl 0 rfl) ?_
    refine gfR_X11_110 X I dX11_takeOver_191 ?_
    refine lv_iload_n hx hb dX11_takeOver_194 rfl (lv_at hl 1 rfl) ?_
    refine lv_iconst (v := -1) hx hb dX11_takeOver_195 (by decide) ?_
    obtain ⟨hin, h⟩ := gd_some h
    refine iastR X I (kR_23 E) hin dX11_takeOver_196 (fun H locs I => ?_)
    obtain ⟨σ7, eσ7, h⟩ := lt_e h
    replace I := wi_nm eσ7 I
    refine lv_aload_n hx hb dX11_takeOver_197 rfl (lv_at hl 0 rfl) ?_
    refine gfR_X11_113 X I dX11_takeOver_198 ?_
    refine lv_iload_n hx hb dX11_takeOver_201 rfl (lv_at hl 1 rfl) ?_
    refine lv_iconst (v := 0) hx hb dX11_takeOver_202 (by decide) ?_
    obtain ⟨hin, h⟩ := gd_some h
    refine iastR X I (kR_24 E) hin dX11_takeOver_203 (fun H locs I => ?_)
    obtain ⟨σ8, eσ8, h⟩ := lt_e h
    replace I := wi_nm eσ8 I
    refine lv_iinc (v := (x1 + 1)) (lv' := [(1, .int (x1 + 1)), (0, .ref (ra E 0)), (2, .int x2)]) hx hb dX11_takeOver_204 hl (k := 1) rfl rfl (by decide) rfl (fun ls hl => ?_)
    refine lv_goto (tgt := 108) hx hb dX11_takeOver_207 (by decide) ?_
    exact hk108 σ8 (x1 + 1) h H locs ls I (lv_sub hl [1, 0] rfl)
set_option maxHeartbeats 4000000 in
set_option maxRecDepth 100000 in
theorem w_X11_takeOver_129 {p : Program} {l : Launch} {e : Env} {s : State} {m : MethodId} {args : Array Value} {below : List Frame} {meth : Method} {c : Code} {A : Nat → Prop} {E : RE} {q : Mem} (X : CX p s m meth c args cX11_takeOver 3 RX11 none) {k108 : Mem → Int32 → Option (Mem)} (hk108 : ∀ (σ : Mem) (x1 : Int32) , k108 σ x1 = some q → ∀ (H : Heap) (locs : List Loc) (ls : Array Slot), WI (vR E) A s H locs σ → lv_has ls 3 [(0, .ref (ra E 0)), (1, .int x1)] → W p l e rm_X11_takeOver s m args below meth c H locs 0 0 (MQ below (QV (vR E) A q) args s 0 0 A) (F0 m 108 ls [])) : ∀ (σ : Mem) (x1 : Int32) (z0 : Int32), f_X11_takeOver_129 k108 σ x1 z0 = some q → ∀ (H : Heap) (locs : List Loc) (ls : Array Slot), WI (vR E) A s H locs σ → lv_has ls 3 [(0, .ref (ra E 0)), (1, .int x1)] → W p l e rm_X11_takeOver s m args below meth c H locs 0 0 (MQ below (QV (vR E) A q) args s 0 0 A) (F0 m 129 ls [.int z0]) := by
  have hx := X.1
  have hb := X.2.1
  intro σ x1 z0 h H locs ls I hl
  unfold f_X11_takeOver_129 at h
  refine lv_istore_n (lv' := [(2, .int z0), (0, .ref (ra E 0)), (1, .int x1)]) hx hb dX11_takeOver_129 rfl hl (by decide) rfl (fun ls hl => ?_)
  refine lv_aload_n hx hb dX11_takeOver_130 rfl (lv_at hl 1 rfl) ?_
  refine gfR_X11_102 X I dX11_takeOver_131 ?_
  refine lv_iload_n hx hb dX11_takeOver_134 rfl (lv_at hl 2 rfl) ?_
  refine lv_iload_n hx hb dX11_takeOver_135 rfl (lv_at hl 0 rfl) ?_
  refine lv_if_eq (tgt := 148) hx hb dX11_takeOver_136 (by decide) (fun c1 => ?_) (fun c1 => ?_)
  · have h := ite_t h c1
    refine lv_iconst (v := 0) hx hb dX11_takeOver_148 (by decide) ?_
    obtain ⟨hin, h⟩ := gd_some h
    refine iastR X I (kR_20 E) hin dX11_takeOver_149 (fun H locs I => ?_)
    obtain ⟨σ2, eσ2, h⟩ := lt_e h
    replace I := wi_nm eσ2 I
    refine lv_aload_n hx hb dX11_takeOver_150 rfl (lv_at hl 1 rfl) ?_
    refine gfR_X11_104 X I dX11_takeOver_151 ?_
    refine lv_iload_n hx hb dX11_takeOver_154 rfl (lv_at hl 2 rfl) ?_
    refine lv_iload_n hx hb dX11_takeOver_155 rfl (lv_at hl 0 rfl) ?_
    refine lv_if_eq (tgt := 168) hx hb dX11_takeOver_156 (by decide) (fun c3 => ?_) (fun c3 => ?_)
    · have h := ite_t h c3
      refine lv_iconst (v := 0) hx hb dX11_takeOver_168 (by decide) ?_
      exact w_X11_takeOver_169 X  hk108 σ2 x1 z0 x1 (0 : Int32) h H locs ls I (lv_sub hl [1, 2, 0] rfl)
    · have h := ite_f h c3
      refine lv_aload_n hx hb dX11_takeOver_159 rfl (lv_at hl 1 rfl) ?_
      refine gfR_X11_66 X I dX11_takeOver_160 ?_
      refine lv_iload_n hx hb dX11_takeOver_163 rfl (lv_at hl 2 rfl) ?_
      obtain ⟨hin, h⟩ := gd_some h
      refine ialdR X I (kR_9 E) hin dX11_takeOver_164 ?_
      refine lv_goto (tgt := 169) hx hb dX11_takeOver_165 (by decide) ?_
      exact w_X11_takeOver_169 X  hk108 σ2 x1 z0 x1 (σ2 9 (Int32.toNatClampNeg x1)) h H locs ls I (lv_sub hl [1, 2, 0] rfl)
  · have h := ite_f h c1
    refine lv_aload_n hx hb dX11_takeOver_139 rfl (lv_at hl 1 rfl) ?_
    refine gfR_X11_63 X I dX11_takeOver_140 ?_
    refine lv_iload_n hx hb dX11_takeOver_143 rfl (lv_at hl 2 rfl) ?_
    obtain ⟨hin, h⟩ := gd_some h
    refine ialdR X I (kR_8 E) hin dX11_takeOver_144 ?_
    refine lv_goto (tgt := 149) hx hb dX11_takeOver_145 (by decide) ?_
    obtain ⟨hin, h⟩ := gd_some h
    refine iastR X I (kR_20 E) hin dX11_takeOver_149 (fun H locs I => ?_)
    obtain ⟨σ4, eσ4, h⟩ := lt_e h
    replace I := wi_nm eσ4 I
    refine lv_aload_n hx hb dX11_takeOver_150 rfl (lv_at hl 1 rfl) ?_
    refine gfR_X11_104 X I dX11_takeOver_151 ?_
    refine lv_iload_n hx hb dX11_takeOver_154 rfl (lv_at hl 2 rfl) ?_
    refine lv_iload_n hx hb dX11_takeOver_155 rfl (lv_at hl 0 rfl) ?_
    refine lv_if_eq (tgt := 168) hx hb dX11_takeOver_156 (by decide) (fun c5 => ?_) (fun c5 => ?_)
    · have h := ite_t h c5
      refine lv_iconst (v := 0) hx hb dX11_takeOver_168 (by decide) ?_
      exact w_X11_takeOver_169 X  hk108 σ4 x1 z0 x1 (0 : Int32) h H locs ls I (lv_sub hl [1, 2, 0] rfl)
    · have h := ite_f h c5
      refine lv_aload_n hx hb dX11_takeOver_159 rfl (lv_at hl 1 rfl) ?_
      refine gfR_X11_66 X I dX11_takeOver_160 ?_
      refine lv_iload_n hx hb dX11_takeOver_163 rfl (lv_at hl 2 rfl) ?_
      obtain ⟨hin, h⟩ := gd_some h
      refine ialdR X I (kR_9 E) hin dX11_takeOver_164 ?_
      refine lv_goto (tgt := 169) hx hb dX11_takeOver_165 (by decide) ?_
      exact w_X11_takeOver_169 X  hk108 σ4 x1 z0 x1 (σ4 9 (Int32.toNatClampNeg x1)) h H locs ls I (lv_sub hl [1, 2, 0] rfl)
set_option maxHeartbeats 4000000 in
set_option maxRecDepth 100000 in
theorem w_X11_takeOver_108 {p : Program} {l : Launch} {e : Env} {s : State} {m : MethodId} {args : Array Value} {below : List Frame} {meth : Method} {c : Code} {A : Nat → Prop} {E : RE} {q : Mem} (X : CX p s m meth c args cX11_takeOver 3 RX11 none) : ∀ (n : Nat), ∀ (σ : Mem) (x1 : Int32) , f_X11_takeOver_108 n σ x1 = some q → ∀ (H : Heap) (locs : List Loc) (ls : Array Slot), WI (vR E) A s H locs σ → lv_has ls 3 [(0, .ref (ra E 0)), (1, .int x1)] → W p l e rm_X11_takeOver s m args below meth c H locs 0 0 (MQ below (QV (vR E) A q) args s 0 0 A) (F0 m 108 ls []) := by
  have hx := X.1
  have hb := X.2.1
  intro n
  induction n with
  | zero =>
    intro σ x1 h
    cases h
  | succ n ih =>
    intro σ x1 h H locs ls I hl
    rw [f_X11_takeOver_108] at h
    refine lv_iload_n hx hb dX11_takeOver_108 rfl (lv_at hl 1 rfl) ?_
    refine lv_bipush (v := 8) hx hb dX11_takeOver_109 (by decide) ?_
    refine lv_icmp_ge (tgt := 210) hx hb dX11_takeOver_111 (by decide) (fun c1 => ?_) (fun c1 => ?_)
    · have h := ite_t h c1
      refine lv_iconst (v := 0) hx hb dX11_takeOver_210 (by decide) ?_
      refine lv_istore_n (lv' := [(1, .int (0 : Int32)), (0, .ref (ra E 0))]) hx hb dX11_takeOver_211 rfl hl (by decide) rfl (fun ls hl => ?_)
      exact w_X11_takeOver_212 X   KF σ (0 : Int32) h H locs ls I (lv_sub hl [1, 0] rfl)
    · have h := ite_f h c1
      refine lv_iload_n hx hb dX11_takeOver_114 rfl (lv_at hl 1 rfl) ?_
      refine lv_aload_n hx hb dX11_takeOver_115 rfl (lv_at hl 0 rfl) ?_
      refine gfR_X11_55 X I dX11_takeOver_116 ?_
      refine lv_iconst (v := 0) hx hb dX11_takeOver_119 (by decide) ?_
      obtain ⟨hin, h⟩ := gd_some h
      refine ialdR X I (kR_5 E) hin dX11_takeOver_120 ?_
      refine lv_icmp_ge (tgt := 128) hx hb dX11_takeOver_121 (by decide) (fun c2 => ?_) (fun c2 => ?_)
      · have h := ite_t h c2
        refine lv_iconst (v := 0) hx hb dX11_takeOver_128 (by decide) ?_
        exact w_X11_takeOver_129 X  (fun σ a1 h H locs ls I hl => ih σ a1 h H locs ls I hl) σ x1 (0 : Int32) h H locs ls I (lv_sub hl [0, 1] rfl)
      · have h := ite_f h c2
        refine lv_iconst (v := 1) hx hb dX11_takeOver_124 (by decide) ?_
        refine lv_goto (tgt := 129) hx hb dX11_takeOver_125 (by decide) ?_
        exact w_X11_takeOver_129 X  (fun σ a1 h H locs ls I hl => ih σ a1 h H locs ls I hl) σ x1 (1 : Int32) h H locs ls I (lv_sub hl [0, 1] rfl)
set_option maxHeartbeats 4000000 in
set_option maxRecDepth 100000 in
theorem w_X11_takeOver_0 {p : Program} {l : Launch} {e : Env} {s : State} {m : MethodId} {args : Array Value} {below : List Frame} {meth : Method} {c : Code} {A : Nat → Prop} {E : RE} {q : Mem} (X : CX p s m meth c args cX11_takeOver 3 RX11 none) : ∀ (σ : Mem)  , m_X11_takeOver σ = some q → ∀ (H : Heap) (locs : List Loc) (ls : Array Slot), WI (vR E) A s H locs σ → lv_has ls 3 [(0, .ref (ra E 0))] → W p l e rm_X11_takeOver s m args below meth c H locs 0 0 (MQ below (QV (vR E) A q) args s 0 0 A) (F0 m 0 ls []) := by
  have hx := X.1
  have hb := X.2.1
  intro σ  h H locs ls I hl
  unfold m_X11_takeOver at h
  refine lv_aload_n hx hb dX11_takeOver_0 rfl (lv_at hl 0 rfl) ?_
  refine gfR_X11_55 X I dX11_takeOver_1 ?_
  obtain ⟨q1, hq1, h⟩ := bd h
  refine r_callSV (V := (vR E)) (As := [.ref (ra E 5)]) (rest := []) X I hl (c_X11_takeHalf (kR_5 E) hq1) ys_X11_takeHalf tw_939 ⟨rfl, rfl, Nat.le_of_ble_eq_true rfl, Nat.le_of_ble_eq_true rfl⟩ rfl rfl (Nat.le_of_ble_eq_true rfl) dX11_takeOver_4 (fun H locs I => ?_)
  refine lv_aload_n hx hb dX11_takeOver_7 rfl (lv_at hl 0 rfl) ?_
  refine gfR_X11_59 X I dX11_takeOver_8 ?_
  obtain ⟨q2, hq2, h⟩ := bd h
  refine r_callSV (V := (vR E)) (As := [.ref (ra E 6)]) (rest := []) X I hl (c_X11_takeHalf (kR_6 E) hq2) ys_X11_takeHalf tw_939 ⟨rfl, rfl, Nat.le_of_ble_eq_true rfl, Nat.le_of_ble_eq_true rfl⟩ rfl rfl (Nat.le_of_ble_eq_true rfl) dX11_takeOver_11 (fun H locs I => ?_)
  refine lv_aload_n hx hb dX11_takeOver_14 rfl (lv_at hl 0 rfl) ?_
  refine gfR_X11_61 X I dX11_takeOver_15 ?_
  obtain ⟨q3, hq3, h⟩ := bd h
  refine r_callSV (V := (vR E)) (As := [.ref (ra E 7)]) (rest := []) X I hl (c_X11_takeHalf (kR_7 E) hq3) ys_X11_takeHalf tw_939 ⟨rfl, rfl, Nat.le_of_ble_eq_true rfl, Nat.le_of_ble_eq_true rfl⟩ rfl rfl (Nat.le_of_ble_eq_true rfl) dX11_takeOver_18 (fun H locs I => ?_)
  refine lv_aload_n hx hb dX11_takeOver_21 rfl (lv_at hl 0 rfl) ?_
  refine gfR_X11_63 X I dX11_takeOver_22 ?_
  obtain ⟨q4, hq4, h⟩ := bd h
  refine r_callSV (V := (vR E)) (As := [.ref (ra E 8)]) (rest := []) X I hl (c_X11_takeHalf (kR_8 E) hq4) ys_X11_takeHalf tw_939 ⟨rfl, rfl, Nat.le_of_ble_eq_true rfl, Nat.le_of_ble_eq_true rfl⟩ rfl rfl (Nat.le_of_ble_eq_true rfl) dX11_takeOver_25 (fun H locs I => ?_)
  refine lv_aload_n hx hb dX11_takeOver_28 rfl (lv_at hl 0 rfl) ?_
  refine gfR_X11_66 X I dX11_takeOver_29 ?_
  obtain ⟨q5, hq5, h⟩ := bd h
  refine r_callSV (V := (vR E)) (As := [.ref (ra E 9)]) (rest := []) X I hl (c_X11_takeHalf (kR_9 E) hq5) ys_X11_takeHalf tw_939 ⟨rfl, rfl, Nat.le_of_ble_eq_true rfl, Nat.le_of_ble_eq_true rfl⟩ rfl rfl (Nat.le_of_ble_eq_true rfl) dX11_takeOver_32 (fun H locs I => ?_)
  refine lv_aload_n hx hb dX11_takeOver_35 rfl (lv_at hl 0 rfl) ?_
  refine gfR_X11_69 X I dX11_takeOver_36 ?_
  obtain ⟨q6, hq6, h⟩ := bd h
  refine r_callSV (V := (vR E)) (As := [.ref (ra E 10)]) (rest := []) X I hl (c_X11_takeHalf (kR_10 E) hq6) ys_X11_takeHalf tw_939 ⟨rfl, rfl, Nat.le_of_ble_eq_true rfl, Nat.le_of_ble_eq_true rfl⟩ rfl rfl (Nat.le_of_ble_eq_true rfl) dX11_takeOver_39 (fun H locs I => ?_)
  refine lv_aload_n hx hb dX11_takeOver_42 rfl (lv_at hl 0 rfl) ?_
  refine gfR_X11_72 X I dX11_takeOver_43 ?_
  obtain ⟨q7, hq7, h⟩ := bd h
  refine r_callSV (V := (vR E)) (As := [.ref (ra E 11)]) (rest := []) X I hl (c_X11_takeHalf (kR_11 E) hq7) ys_X11_takeHalf tw_939 ⟨rfl, rfl, Nat.le_of_ble_eq_true rfl, Nat.le_of_ble_eq_true rfl⟩ rfl rfl (Nat.le_of_ble_eq_true rfl) dX11_takeOver_46 (fun H locs I => ?_)
  refine lv_aload_n hx hb dX11_takeOver_49 rfl (lv_at hl 0 rfl) ?_
  refine gfR_X11_74 X I dX11_takeOver_50 ?_
  obtain ⟨q8, hq8, h⟩ := bd h
  refine r_callSV (V := (vR E)) (As := [.ref (ra E 12)]) (rest := []) X I hl (c_X11_takeHalf (kR_12 E) hq8) ys_X11_takeHalf tw_939 ⟨rfl, rfl, Nat.le_of_ble_eq_true rfl, Nat.le_of_ble_eq_true rfl⟩ rfl rfl (Nat.le_of_ble_eq_true rfl) dX11_takeOver_53 (fun H locs I => ?_)
  refine lv_aload_n hx hb dX11_takeOver_56 rfl (lv_at hl 0 rfl) ?_
  refine gfR_X11_77 X I dX11_takeOver_57 ?_
  obtain ⟨q9, hq9, h⟩ := bd h
  refine r_callSV (V := (vR E)) (As := [.ref (ra E 13)]) (rest := []) X I hl (c_X11_takeHalf (kR_13 E) hq9) ys_X11_takeHalf tw_939 ⟨rfl, rfl, Nat.le_of_ble_eq_true rfl, Nat.le_of_ble_eq_true rfl⟩ rfl rfl (Nat.le_of_ble_eq_true rfl) dX11_takeOver_60 (fun H locs I => ?_)
  refine lv_aload_n hx hb dX11_takeOver_63 rfl (lv_at hl 0 rfl) ?_
  refine gfR_X11_80 X I dX11_takeOver_64 ?_
  obtain ⟨q10, hq10, h⟩ := bd h
  refine r_callSV (V := (vR E)) (As := [.ref (ra E 14)]) (rest := []) X I hl (c_X11_takeHalf (kR_14 E) hq10) ys_X11_takeHalf tw_939 ⟨rfl, rfl, Nat.le_of_ble_eq_true rfl, Nat.le_of_ble_eq_true rfl⟩ rfl rfl (Nat.le_of_ble_eq_true rfl) dX11_takeOver_67 (fun H locs I => ?_)
  refine lv_aload_n hx hb dX11_takeOver_70 rfl (lv_at hl 0 rfl) ?_
  refine gfR_X11_83 X I dX11_takeOver_71 ?_
  obtain ⟨q11, hq11, h⟩ := bd h
  refine r_callSV (V := (vR E)) (As := [.ref (ra E 15)]) (rest := []) X I hl (c_X11_takeHalf (kR_15 E) hq11) ys_X11_takeHalf tw_939 ⟨rfl, rfl, Nat.le_of_ble_eq_true rfl, Nat.le_of_ble_eq_true rfl⟩ rfl rfl (Nat.le_of_ble_eq_true rfl) dX11_takeOver_74 (fun H locs I => ?_)
  refine lv_aload_n hx hb dX11_takeOver_77 rfl (lv_at hl 0 rfl) ?_
  refine gfR_X11_86 X I dX11_takeOver_78 ?_
  obtain ⟨q12, hq12, h⟩ := bd h
  refine r_callSV (V := (vR E)) (As := [.ref (ra E 16)]) (rest := []) X I hl (c_X11_takeHalf (kR_16 E) hq12) ys_X11_takeHalf tw_939 ⟨rfl, rfl, Nat.le_of_ble_eq_true rfl, Nat.le_of_ble_eq_true rfl⟩ rfl rfl (Nat.le_of_ble_eq_true rfl) dX11_takeOver_81 (fun H locs I => ?_)
  refine lv_aload_n hx hb dX11_takeOver_84 rfl (lv_at hl 0 rfl) ?_
  refine gfR_X11_89 X I dX11_takeOver_85 ?_
  obtain ⟨q13, hq13, h⟩ := bd h
  refine r_callSV (V := (vR E)) (As := [.ref (ra E 17)]) (rest := []) X I hl (c_X11_takeHalf (kR_17 E) hq13) ys_X11_takeHalf tw_939 ⟨rfl, rfl, Nat.le_of_ble_eq_true rfl, Nat.le_of_ble_eq_true rfl⟩ rfl rfl (Nat.le_of_ble_eq_true rfl) dX11_takeOver_88 (fun H locs I => ?_)
  refine lv_aload_n hx hb dX11_takeOver_91 rfl (lv_at hl 0 rfl) ?_
  refine lv_iconst (v := 0) hx hb dX11_takeOver_92 (by decide) ?_
  refine pfR_X11_342 X I  dX11_takeOver_93 (fun H locs I => ?_)
  obtain ⟨σ14, eσ14, h⟩ := lt_e h
  replace I := wi_nm eσ14 I
  refine lv_aload_n hx hb dX11_takeOver_96 rfl (lv_at hl 0 rfl) ?_
  refine lv_iconst (v := 0) hx hb dX11_takeOver_97 (by decide) ?_
  refine pfR_X11_344 X I  dX11_takeOver_98 (fun H locs I => ?_)
  obtain ⟨σ15, eσ15, h⟩ := lt_e h
  replace I := wi_nm eσ15 I
  refine lv_aload_n hx hb dX11_takeOver_101 rfl (lv_at hl 0 rfl) ?_
  refine lv_iconst (v := 0) hx hb dX11_takeOver_102 (by decide) ?_
  refine pfR_X11_347 X I  dX11_takeOver_103 (fun H locs I => ?_)
  obtain ⟨σ16, eσ16, h⟩ := lt_e h
  replace I := wi_nm eσ16 I
  refine lv_iconst (v := 0) hx hb dX11_takeOver_106 (by decide) ?_
  refine lv_istore_n (lv' := [(1, .int (0 : Int32)), (0, .ref (ra E 0))]) hx hb dX11_takeOver_107 rfl hl (by decide) rfl (fun ls hl => ?_)
  exact w_X11_takeOver_108 X   KF σ16 (0 : Int32) h H locs ls I (lv_sub hl [1, 0] rfl)
theorem c_X11_takeOver {l : Launch} {E : RE} {σ : Mem} {q : Mem} (h : m_X11_takeOver σ = some q) : CV l (vR E) yX11_takeOver (.code yX11_takeOver cX11_takeOver 3 none :: GG) rm_X11_takeOver [.ref (ra E 0)] σ q :=
  mk_CV (by decide +kernel) (Nat.le_of_ble_eq_true rfl) (fun p e s m args below meth c A ls X I hl => w_X11_takeOver_0 X  σ  h s.heap [] ls I (lv_sub hl [0] rfl))

def rm_X11_terrace : Room := { frames := 102, cells := 0, slots := 0, locals := 3246 }
def f_X11_terrace_109 (σ : Mem) : Option (Int32 × Mem) := (if (σ 0 28) = (0 : Int32) then ((m_X11_takeOver σ).bind fun q2 => (some ((0 : Int32), q2))) else (lt (ms σ 0 30 (σ 0 29)) fun σ3 => (gd (0 : Int32) 3 (gd (0 : Int32) 3 (lt (ms σ3 18 (Int32.toNatClampNeg (0 : Int32)) (((σ3 18 (Int32.toNatClampNeg (0 : Int32))) + (1 : Int32)))) fun σ4 => (some ((σ4 0 28), σ4)))))))
def f_X11_terrace_86 : Nat → Mem → Int32 → Option (Int32 × Mem)
  | 0, _, _ => none
  | n + 1, σ, x2 => (if (σ 0 28) = (0 : Int32) then (if (σ 0 24) = (0 : Int32) then (f_X11_terrace_109 σ) else ((m_X11_readLine σ x2).bind fun q3 => f_X11_terrace_86 n q3.2 q3.1)) else (f_X11_terrace_109 σ))
def f_X11_terrace_50 : Nat → Mem → Int32 → Option (Int32 × Mem)
  | 0, _, _ => none
  | n + 1, σ, x2 => (if (5 : Int32) ≤ x2 then ((m_X11_stepOn σ).bind fun q2 => (f_X11_terrace_86 KF q2 (0 : Int32))) else (if x2 = (2 : Int32) then (gd ((5 : Int32) + x2) 10 (lt (ms σ 5 (Int32.toNatClampNeg ((5 : Int32) + x2)) ((40 : Int32))) fun σ5 => f_X11_terrace_50 n σ5 (x2 + 1))) else (gd ((5 : Int32) + x2) 10 (lt (ms σ 5 (Int32.toNatClampNeg ((5 : Int32) + x2)) ((0 : Int32))) fun σ4 => f_X11_terrace_50 n σ4 (x2 + 1)))))
def m_X11_terrace (σ : Mem) (x1 : Int32) : Option (Int32 × Mem) := (lt (ms σ 0 5 (0 : Int32)) fun σ1 => (if x1 < (0 : Int32) then ((m_X11_fail σ1 (1 : Int32)).bind fun q3 => (some (q3.1, q3.2))) else (if x1 ≤ (σ1 0 21) then (lt (ms σ1 0 21 (0 : Int32)) fun σ5 => (lt (ms σ5 0 23 x1) fun σ6 => (lt (ms σ6 0 22 (0 : Int32)) fun σ7 => (lt (ms σ7 0 28 (0 : Int32)) fun σ8 => (lt (ms σ8 0 30 (-1 : Int32)) fun σ9 => (f_X11_terrace_50 KF σ9 (0 : Int32))))))) else ((m_X11_fail σ1 (1 : Int32)).bind fun q10 => (some (q10.1, q10.2))))))
set_option maxHeartbeats 4000000 in
set_option maxRecDepth 100000 in
theorem w_X11_terrace_109 {p : Program} {l : Launch} {e : Env} {s : State} {m : MethodId} {args : Array Value} {below : List Frame} {meth : Method} {c : Code} {A : Nat → Prop} {E : RE} {q : Int32 × Mem} (X : CX p s m meth c args cX11_terrace 3 RX11 (some .int)) : ∀ (σ : Mem)  , f_X11_terrace_109 σ = some q → ∀ (H : Heap) (locs : List Loc) (ls : Array Slot), WI (vR E) A s H locs σ → lv_has ls 3 [(0, .ref (ra E 0))] → W p l e rm_X11_terrace s m args below meth c H locs 0 0 (MQ below (QI (vR E) A q) args s 0 0 A) (F0 m 109 ls []) := by
  have hx := X.1
  have hb := X.2.1
  intro σ  h H locs ls I hl
  unfold f_X11_terrace_109 at h
  refine lv_aload_n hx hb dX11_terrace_109 rfl (lv_at hl 0 rfl) ?_
  refine gfR_X11_244 X I dX11_terrace_110 ?_
  refine lv_if_eq (tgt := 139) hx hb dX11_terrace_113 (by decide) (fun c1 => ?_) (fun c1 => ?_)
  · have h := ite_t h c1
    refine lv_aload_n hx hb dX11_terrace_139 rfl (lv_at hl 0 rfl) ?_
    obtain ⟨q2, hq2, h⟩ := bd h
    refine r_callVV (V := (vR E)) (k := 0) (As := []) (rest := []) X I hl (c_X11_takeOver  hq2) yv_X11_takeOver tw_963 ⟨rfl, rfl, Nat.le_of_ble_eq_true rfl, Nat.le_of_ble_eq_true rfl⟩ (Nat.le_of_ble_eq_true rfl) rfl rfl rfl rfl (Nat.le_of_ble_eq_true rfl) dX11_terrace_140 (fun H locs I => ?_)
    refine lv_iconst (v := 0) hx hb dX11_terrace_143 (by decide) ?_
    exact r_iret X I (Option.some.inj h).symm dX11_terrace_144
  · have h := ite_f h c1
    refine lv_aload_n hx hb dX11_terrace_116 rfl (lv_at hl 0 rfl) ?_
    refine lv_aload_n hx hb dX11_terrace_117 rfl (lv_at hl 0 rfl) ?_
    refine gfR_X11_247 X I dX11_terrace_118 ?_
    refine pfR_X11_98 X I  dX11_terrace_121 (fun H locs I => ?_)
    obtain ⟨σ3, eσ3, h⟩ := lt_e h
    replace I := wi_nm eσ3 I
    refine lv_aload_n hx hb dX11_terrace_124 rfl (lv_at hl 0 rfl) ?_
    refine gfR_X11_92 X I dX11_terrace_125 ?_
    refine lv_iconst (v := 0) hx hb dX11_terrace_128 (by decide) ?_
    refine lv_dup2_11 hx hb dX11_terrace_129 rfl rfl ?_
    obtain ⟨hin, h⟩ := gd_some h
    refine ialdR X I (kR_18 E) hin dX11_terrace_130 ?_
    refine lv_iconst (v := 1) hx hb dX11_terrace_131 (by decide) ?_
    refine lv_iadd hx hb dX11_terrace_132 ?_
    obtain ⟨hin, h⟩ := gd_some h
    refine iastR X I (kR_18 E) hin dX11_terrace_133 (fun H locs I => ?_)
    obtain ⟨σ4, eσ4, h⟩ := lt_e h
    replace I := wi_nm eσ4 I
    refine lv_aload_n hx hb dX11_terrace_134 rfl (lv_at hl 0 rfl) ?_
    refine gfR_X11_244 X I dX11_terrace_135 ?_
    exact r_iret X I (Option.some.inj h).symm dX11_terrace_138
set_option maxHeartbeats 4000000 in
set_option maxRecDepth 100000 in
theorem w_X11_terrace_86 {p : Program} {l : Launch} {e : Env} {s : State} {m : MethodId} {args : Array Value} {below : List Frame} {meth : Method} {c : Code} {A : Nat → Prop} {E : RE} {q : Int32 × Mem} (X : CX p s m meth c args cX11_terrace 3 RX11 (some .int)) : ∀ (n : Nat), ∀ (σ : Mem) (x2 : Int32) , f_X11_terrace_86 n σ x2 = some q → ∀ (H : Heap) (locs : List Loc) (ls : Array Slot), WI (vR E) A s H locs σ → lv_has ls 3 [(0, .ref (ra E 0)), (2, .int x2)] → W p l e rm_X11_terrace s m args below meth c H locs 0 0 (MQ below (QI (vR E) A q) args s 0 0 A) (F0 m 86 ls []) := by
  have hx := X.1
  have hb := X.2.1
  intro n
  induction n with
  | zero =>
    intro σ x2 h
    cases h
  | succ n ih =>
    intro σ x2 h H locs ls I hl
    rw [f_X11_terrace_86] at h
    refine lv_aload_n hx hb dX11_terrace_86 rfl (lv_at hl 0 rfl) ?_
    refine gfR_X11_244 X I dX11_terrace_87 ?_
    refine lv_if_ne (tgt := 109) hx hb dX11_terrace_90 (by decide) (fun c1 => ?_) (fun c1 => ?_)
    · have h := ite_f h c1
      exact w_X11_terrace_109 X   σ h H locs ls I (lv_sub hl [0] rfl)
    · have h := ite_t h c1
      refine lv_aload_n hx hb dX11_terrace_93 rfl (lv_at hl 0 rfl) ?_
      refine gfR_X11_218 X I dX11_terrace_94 ?_
      refine lv_if_eq (tgt := 109) hx hb dX11_terrace_97 (by decide) (fun c2 => ?_) (fun c2 => ?_)
      · have h := ite_t h c2
        exact w_X11_terrace_109 X   σ h H locs ls I (lv_sub hl [0] rfl)
      · have h := ite_f h c2
        refine lv_aload_n hx hb dX11_terrace_100 rfl (lv_at hl 0 rfl) ?_
        refine lv_iload_n hx hb dX11_terrace_101 rfl (lv_at hl 1 rfl) ?_
        obtain ⟨q3, hq3, h⟩ := bd h
        refine r_callVI (V := (vR E)) (k := 0) (As := [.int x2]) (rest := []) X I hl (c_X11_readLine  hq3) yv_X11_readLine tw_969 ⟨rfl, rfl, Nat.le_of_ble_eq_true rfl, Nat.le_of_ble_eq_true rfl⟩ (Nat.le_of_ble_eq_true rfl) rfl rfl rfl rfl (Nat.le_of_ble_eq_true rfl) dX11_terrace_102 (fun H locs I => ?_)
        refine lv_istore_n (lv' := [(2, .int q3.1), (0, .ref (ra E 0))]) hx hb dX11_terrace_105 rfl hl (by decide) rfl (fun ls hl => ?_)
        refine lv_goto (tgt := 86) hx hb dX11_terrace_106 (by decide) ?_
        exact ih q3.2 q3.1 h H locs ls I (lv_sub hl [1, 0] rfl)
set_option maxHeartbeats 4000000 in
set_option maxRecDepth 100000 in
theorem w_X11_terrace_50 {p : Program} {l : Launch} {e : Env} {s : State} {m : MethodId} {args : Array Value} {below : List Frame} {meth : Method} {c : Code} {A : Nat → Prop} {E : RE} {q : Int32 × Mem} (X : CX p s m meth c args cX11_terrace 3 RX11 (some .int)) : ∀ (n : Nat), ∀ (σ : Mem) (x2 : Int32) , f_X11_terrace_50 n σ x2 = some q → ∀ (H : Heap) (locs : List Loc) (ls : Array Slot), WI (vR E) A s H locs σ → lv_has ls 3 [(0, .ref (ra E 0)), (2, .int x2)] → W p l e rm_X11_terrace s m args below meth c H locs 0 0 (MQ below (QI (vR E) A q) args s 0 0 A) (F0 m 50 ls []) := by
  have hx := X.1
  have hb := X.2.1
  intro n
  induction n with
  | zero =>
    intro σ x2 h
    cases h
  | succ n ih =>
    intro σ x2 h H locs ls I hl
    rw [f_X11_terrace_50] at h
    refine lv_iload_n hx hb dX11_terrace_50 rfl (lv_at hl 1 rfl) ?_
    refine lv_iconst (v := 5) hx hb dX11_terrace_51 (by decide) ?_
    refine lv_icmp_ge (tgt := 80) hx hb dX11_terrace_52 (by decide) (fun c1 => ?_) (fun c1 => ?_)
    · have h := ite_t h c1
      refine lv_aload_n hx hb dX11_terrace_80 rfl (lv_at hl 0 rfl) ?_
      obtain ⟨q2, hq2, h⟩ := bd h
      refine r_callVV (V := (vR E)) (k := 0) (As := []) (rest := []) X I hl (c_X11_stepOn  hq2) yv_X11_stepOn tw_841 ⟨rfl, rfl, Nat.le_of_ble_eq_true rfl, Nat.le_of_ble_eq_true rfl⟩ (Nat.le_of_ble_eq_true rfl) rfl rfl rfl rfl (Nat.le_of_ble_eq_true rfl) dX11_terrace_81 (fun H locs I => ?_)
      refine lv_iconst (v := 0) hx hb dX11_terrace_84 (by decide) ?_
      refine lv_istore_n (lv' := [(2, .int (0 : Int32)), (0, .ref (ra E 0))]) hx hb dX11_terrace_85 rfl hl (by decide) rfl (fun ls hl => ?_)
      exact w_X11_terrace_86 X   KF q2 (0 : Int32) h H locs ls I (lv_sub hl [1, 0] rfl)
    · have h := ite_f h c1
      refine lv_aload_n hx hb dX11_terrace_55 rfl (lv_at hl 0 rfl) ?_
      refine gfR_X11_55 X I dX11_terrace_56 ?_
      refine lv_iconst (v := 5) hx hb dX11_terrace_59 (by decide) ?_
      refine lv_iload_n hx hb dX11_terrace_60 rfl (lv_at hl 1 rfl) ?_
      refine lv_iadd hx hb dX11_terrace_61 ?_
      refine lv_iload_n hx hb dX11_terrace_62 rfl (lv_at hl 1 rfl) ?_
      refine lv_iconst (v := 2) hx hb dX11_terrace_63 (by decide) ?_
      refine lv_icmp_ne (tgt := 72) hx hb dX11_terrace_64 (by decide) (fun c3 => ?_) (fun c3 => ?_)
      · have h := ite_f h c3
        refine lv_iconst (v := 0) hx hb dX11_terrace_72 (by decide) ?_
        obtain ⟨hin, h⟩ := gd_some h
        refine iastR X I (kR_5 E) hin dX11_terrace_73 (fun H locs I => ?_)
        obtain ⟨σ4, eσ4, h⟩ := lt_e h
        replace I := wi_nm eσ4 I
        refine lv_iinc (v := (x2 + 1)) (lv' := [(2, .int (x2 + 1)), (0, .ref (ra E 0))]) hx hb dX11_terrace_74 hl (k := 1) rfl rfl (by decide) rfl (fun ls hl => ?_)
        refine lv_goto (tgt := 50) hx hb dX11_terrace_77 (by decide) ?_
        exact ih σ4 (x2 + 1) h H locs ls I (lv_sub hl [1, 0] rfl)
      · have h := ite_t h c3
        refine lv_bipush (v := 40) hx hb dX11_terrace_67 (by decide) ?_
        refine lv_goto (tgt := 73) hx hb dX11_terrace_69 (by decide) ?_
        obtain ⟨hin, h⟩ := gd_some h
        refine iastR X I (kR_5 E) hin dX11_terrace_73 (fun H locs I => ?_)
        obtain ⟨σ5, eσ5, h⟩ := lt_e h
        replace I := wi_nm eσ5 I
        refine lv_iinc (v := (x2 + 1)) (lv' := [(2, .int (x2 + 1)), (0, .ref (ra E 0))]) hx hb dX11_terrace_74 hl (k := 1) rfl rfl (by decide) rfl (fun ls hl => ?_)
        refine lv_goto (tgt := 50) hx hb dX11_terrace_77 (by decide) ?_
        exact ih σ5 (x2 + 1) h H locs ls I (lv_sub hl [1, 0] rfl)
set_option maxHeartbeats 4000000 in
set_option maxRecDepth 100000 in
theorem w_X11_terrace_0 {p : Program} {l : Launch} {e : Env} {s : State} {m : MethodId} {args : Array Value} {below : List Frame} {meth : Method} {c : Code} {A : Nat → Prop} {E : RE} {q : Int32 × Mem} (X : CX p s m meth c args cX11_terrace 3 RX11 (some .int)) : ∀ (σ : Mem) (x1 : Int32) , m_X11_terrace σ x1 = some q → ∀ (H : Heap) (locs : List Loc) (ls : Array Slot), WI (vR E) A s H locs σ → lv_has ls 3 [(0, .ref (ra E 0)), (1, .int x1)] → W p l e rm_X11_terrace s m args below meth c H locs 0 0 (MQ below (QI (vR E) A q) args s 0 0 A) (F0 m 0 ls []) := by
  have hx := X.1
  have hb := X.2.1
  intro σ x1 h H locs ls I hl
  unfold m_X11_terrace at h
  refine lv_aload_n hx hb dX11_terrace_0 rfl (lv_at hl 0 rfl) ?_
  refine lv_iconst (v := 0) hx hb dX11_terrace_1 (by decide) ?_
  refine pfR_X11_195 X I  dX11_terrace_2 (fun H locs I => ?_)
  obtain ⟨σ1, eσ1, h⟩ := lt_e h
  replace I := wi_nm eσ1 I
  refine lv_iload_n hx hb dX11_terrace_5 rfl (lv_at hl 1 rfl) ?_
  refine lv_if_lt (tgt := 17) hx hb dX11_terrace_6 (by decide) (fun c2 => ?_) (fun c2 => ?_)
  · have h := ite_t h c2
    refine lv_aload_n hx hb dX11_terrace_17 rfl (lv_at hl 0 rfl) ?_
    refine lv_iconst (v := 1) hx hb dX11_terrace_18 (by decide) ?_
    obtain ⟨q3, hq3, h⟩ := bd h
    refine r_callVI (V := (vR E)) (k := 0) (As := [.int (1 : Int32)]) (rest := []) X I hl (c_X11_fail  hq3) yv_X11_fail tw_957 ⟨rfl, rfl, Nat.le_of_ble_eq_true rfl, Nat.le_of_ble_eq_true rfl⟩ (Nat.le_of_ble_eq_true rfl) rfl rfl rfl rfl (Nat.le_of_ble_eq_true rfl) dX11_terrace_19 (fun H locs I => ?_)
    exact r_iret X I (Option.some.inj h).symm dX11_terrace_22
  · have h := ite_f h c2
    refine lv_iload_n hx hb dX11_terrace_9 rfl (lv_at hl 1 rfl) ?_
    refine lv_aload_n hx hb dX11_terrace_10 rfl (lv_at hl 0 rfl) ?_
    refine gfR_X11_202 X I dX11_terrace_11 ?_
    refine lv_icmp_le (tgt := 23) hx hb dX11_terrace_14 (by decide) (fun c4 => ?_) (fun c4 => ?_)
    · have h := ite_t h c4
      refine lv_aload_n hx hb dX11_terrace_23 rfl (lv_at hl 0 rfl) ?_
      refine lv_iconst (v := 0) hx hb dX11_terrace_24 (by decide) ?_
      refine pfR_X11_202 X I  dX11_terrace_25 (fun H locs I => ?_)
      obtain ⟨σ5, eσ5, h⟩ := lt_e h
      replace I := wi_nm eσ5 I
      refine lv_aload_n hx hb dX11_terrace_28 rfl (lv_at hl 0 rfl) ?_
      refine lv_iload_n hx hb dX11_terrace_29 rfl (lv_at hl 1 rfl) ?_
      refine pfR_X11_205 X I  dX11_terrace_30 (fun H locs I => ?_)
      obtain ⟨σ6, eσ6, h⟩ := lt_e h
      replace I := wi_nm eσ6 I
      refine lv_aload_n hx hb dX11_terrace_33 rfl (lv_at hl 0 rfl) ?_
      refine lv_iconst (v := 0) hx hb dX11_terrace_34 (by decide) ?_
      refine pfR_X11_208 X I  dX11_terrace_35 (fun H locs I => ?_)
      obtain ⟨σ7, eσ7, h⟩ := lt_e h
      replace I := wi_nm eσ7 I
      refine lv_aload_n hx hb dX11_terrace_38 rfl (lv_at hl 0 rfl) ?_
      refine lv_iconst (v := 0) hx hb dX11_terrace_39 (by decide) ?_
      refine pfR_X11_244 X I  dX11_terrace_40 (fun H locs I => ?_)
      obtain ⟨σ8, eσ8, h⟩ := lt_e h
      replace I := wi_nm eσ8 I
      refine lv_aload_n hx hb dX11_terrace_43 rfl (lv_at hl 0 rfl) ?_
      refine lv_iconst (v := -1) hx hb dX11_terrace_44 (by decide) ?_
      refine pfR_X11_98 X I  dX11_terrace_45 (fun H locs I => ?_)
      obtain ⟨σ9, eσ9, h⟩ := lt_e h
      replace I := wi_nm eσ9 I
      refine lv_iconst (v := 0) hx hb dX11_terrace_48 (by decide) ?_
      refine lv_istore_n (lv' := [(2, .int (0 : Int32)), (0, .ref (ra E 0)), (1, .int x1)]) hx hb dX11_terrace_49 rfl hl (by decide) rfl (fun ls hl => ?_)
      exact w_X11_terrace_50 X   KF σ9 (0 : Int32) h H locs ls I (lv_sub hl [1, 0] rfl)
    · have h := ite_f h c4
      refine lv_aload_n hx hb dX11_terrace_17 rfl (lv_at hl 0 rfl) ?_
      refine lv_iconst (v := 1) hx hb dX11_terrace_18 (by decide) ?_
      obtain ⟨q10, hq10, h⟩ := bd h
      refine r_callVI (V := (vR E)) (k := 0) (As := [.int (1 : Int32)]) (rest := []) X I hl (c_X11_fail  hq10) yv_X11_fail tw_957 ⟨rfl, rfl, Nat.le_of_ble_eq_true rfl, Nat.le_of_ble_eq_true rfl⟩ (Nat.le_of_ble_eq_true rfl) rfl rfl rfl rfl (Nat.le_of_ble_eq_true rfl) dX11_terrace_19 (fun H locs I => ?_)
      exact r_iret X I (Option.some.inj h).symm dX11_terrace_22
theorem c_X11_terrace {l : Launch} {E : RE} {σ : Mem} {x1 : Int32} {q : Int32 × Mem} (h : m_X11_terrace σ x1 = some q) : CI l (vR E) yX11_terrace (.code yX11_terrace cX11_terrace 3 (some .int) :: GG) rm_X11_terrace [.ref (ra E 0), .int x1] σ q :=
  mk_CI (by decide +kernel) (Nat.le_of_ble_eq_true rfl) (fun p e s m args below meth c A ls X I hl => w_X11_terrace_0 X  σ x1 h s.heap [] ls I (lv_sub hl [0, 1] rfl))

def rm_X11_fault : Room := { frames := 1, cells := 0, slots := 0, locals := 64 }
def m_X11_fault (σ : Mem) : Option (Int32 × Mem) := (lt (ms σ 0 5 (0 : Int32)) fun σ1 => (some ((σ1 0 30), σ1)))
set_option maxHeartbeats 4000000 in
set_option maxRecDepth 100000 in
theorem w_X11_fault_0 {p : Program} {l : Launch} {e : Env} {s : State} {m : MethodId} {args : Array Value} {below : List Frame} {meth : Method} {c : Code} {A : Nat → Prop} {E : RE} {q : Int32 × Mem} (X : CX p s m meth c args cX11_fault 1 RX11 (some .int)) : ∀ (σ : Mem)  , m_X11_fault σ = some q → ∀ (H : Heap) (locs : List Loc) (ls : Array Slot), WI (vR E) A s H locs σ → lv_has ls 1 [(0, .ref (ra E 0))] → W p l e rm_X11_fault s m args below meth c H locs 0 0 (MQ below (QI (vR E) A q) args s 0 0 A) (F0 m 0 ls []) := by
  have hx := X.1
  have hb := X.2.1
  intro σ  h H locs ls I hl
  unfold m_X11_fault at h
  refine lv_aload_n hx hb dX11_fault_0 rfl (lv_at hl 0 rfl) ?_
  refine lv_iconst (v := 0) hx hb dX11_fault_1 (by decide) ?_
  refine pfR_X11_195 X I  dX11_fault_2 (fun H locs I => ?_)
  obtain ⟨σ1, eσ1, h⟩ := lt_e h
  replace I := wi_nm eσ1 I
  refine lv_aload_n hx hb dX11_fault_5 rfl (lv_at hl 0 rfl) ?_
  refine gfR_X11_98 X I dX11_fault_6 ?_
  exact r_iret X I (Option.some.inj h).symm dX11_fault_9
theorem c_X11_fault {l : Launch} {E : RE} {σ : Mem} {q : Int32 × Mem} (h : m_X11_fault σ = some q) : CI l (vR E) yX11_fault (.code yX11_fault cX11_fault 1 (some .int) :: GG) rm_X11_fault [.ref (ra E 0)] σ q :=
  mk_CI (by decide +kernel) (Nat.le_of_ble_eq_true rfl) (fun p e s m args below meth c A ls X I hl => w_X11_fault_0 X  σ  h s.heap [] ls I (lv_sub hl [0] rfl))

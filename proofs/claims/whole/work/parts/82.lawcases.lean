def SIM_feed (Rel : Mem → Mem → Prop) : Prop := ∀ (σ τ : Mem) (p0 p1 p2 p3 p4 : Int32), Rel σ τ → ∃ (v : Int32) (σ1 τ1 : Mem), m_X10_feed σ p0 p1 p2 p3 p4 = some (v, σ1) ∧ m_X11_feed τ p0 p1 p2 p3 p4 = some (v, τ1) ∧ Rel σ1 τ1
def SIM_terrace (Rel : Mem → Mem → Prop) : Prop := ∀ (σ τ : Mem) (p0 : Int32), Rel σ τ → ∃ (q : Int32) (σ1 : Mem) (b : Int32) (τ1 : Mem), m_L_terrace σ p0 = some (q, σ1) ∧ m_X11_terrace τ p0 = some (b, τ1) ∧ τ1 0 5 = q ∧ (q = 0 → σ1 59 0 = b) ∧ Rel σ1 τ1
def SIM_fault (Rel : Mem → Mem → Prop) : Prop := ∀ (σ τ : Mem), Rel σ τ → ∃ (v : Int32) (τ1 : Mem), m_X10_fault σ = some v ∧ m_X11_fault τ = some (v, τ1) ∧ Rel σ τ1
def SIM_count (Rel : Mem → Mem → Prop) : Prop := ∀ (σ τ : Mem) (p0 : Int32), Rel σ τ → ∃ (q : Int32) (σ1 : Mem) (b : Int32) (τ1 : Mem), m_L_count σ p0 = some (q, σ1) ∧ m_X11_count τ p0 = some (b, τ1) ∧ τ1 0 5 = q ∧ (q = 0 → σ1 59 0 = b) ∧ Rel σ1 τ1
def SIM_house (Rel : Mem → Mem → Prop) : Prop := ∀ (σ τ : Mem) (p0 p1 : Int32), Rel σ τ → ∃ (q : Int32) (σ1 : Mem) (b : Int32) (τ1 : Mem), m_L_house σ p0 p1 = some (q, σ1) ∧ m_X11_house τ p0 p1 = some (b, τ1) ∧ τ1 0 5 = q ∧ (q = 0 → σ1 59 0 = b) ∧ Rel σ1 τ1
def SIM_tenant (Rel : Mem → Mem → Prop) : Prop := ∀ (σ τ : Mem) (p0 p1 : Int32), Rel σ τ → ∃ (q : Int32) (σ1 : Mem) (b : Int32) (τ1 : Mem), m_L_tenant σ p0 p1 = some (q, σ1) ∧ m_X11_tenant τ p0 p1 = some (b, τ1) ∧ τ1 0 5 = q ∧ (q = 0 → σ1 59 0 = b) ∧ Rel σ1 τ1
def SIM_quarters (Rel : Mem → Mem → Prop) : Prop := ∀ (σ τ : Mem) (p0 : Int32), Rel σ τ → ∃ (v : Int32) (σ1 τ1 : Mem), m_X10_quarters σ p0 = some (v, σ1) ∧ m_X11_quarters τ p0 = some (v, τ1) ∧ Rel σ1 τ1
def SIM_buy (Rel : Mem → Mem → Prop) : Prop := ∀ (σ τ : Mem) (p0 p1 : Int32), Rel σ τ → ∃ (q : Int32) (σ1 : Mem) (b : Int32) (τ1 : Mem), m_L_buy σ p0 p1 = some (q, σ1) ∧ m_X11_buy τ p0 p1 = some (b, τ1) ∧ τ1 0 5 = q ∧ (q = 0 → σ1 59 0 = b) ∧ Rel σ1 τ1
def SIM_cats (Rel : Mem → Mem → Prop) : Prop := ∀ (σ τ : Mem) (p0 p1 : Int32), Rel σ τ → ∃ (q : Int32) (σ1 : Mem) (b : Int32) (τ1 : Mem), m_L_cats σ p0 p1 = some (q, σ1) ∧ m_X11_cats τ p0 p1 = some (b, τ1) ∧ τ1 0 5 = q ∧ (q = 0 → σ1 59 0 = b) ∧ Rel σ1 τ1
def SIM_lead (Rel : Mem → Mem → Prop) : Prop := ∀ (σ τ : Mem) (p0 p1 : Int32), Rel σ τ → (p1 = 0 ∨ p1 = 1) → ∃ (q : Int32) (σ1 : Mem) (b : Int32) (τ1 : Mem), m_L_lead σ p0 p1 = some (q, σ1) ∧ m_X11_lead τ p0 p1 = some (b, τ1) ∧ τ1 0 5 = q ∧ (q = 0 → σ1 59 0 = b) ∧ Rel σ1 τ1 ∧ (b = 0 ∨ b = 1)
def SIM_temper (Rel : Mem → Mem → Prop) : Prop := ∀ (σ τ : Mem) (p0 p1 : Int32), Rel σ τ → ∃ (q : Int32) (σ1 : Mem) (b : Int32) (τ1 : Mem), m_L_temper σ p0 p1 = some (q, σ1) ∧ m_X11_temper τ p0 p1 = some (b, τ1) ∧ τ1 0 5 = q ∧ (q = 0 → σ1 59 0 = b) ∧ Rel σ1 τ1
def SIM_undo (Rel : Mem → Mem → Prop) : Prop := ∀ (σ τ : Mem), Rel σ τ → ∃ (v : Int32) (σ1 τ1 : Mem), m_X10_undo σ = some (v, σ1) ∧ m_X11_undo τ = some (v, τ1) ∧ Rel σ1 τ1
def SIM_then (Rel : Mem → Mem → Prop) : Prop := ∀ (σ τ : Mem) (p0 p1 : Int32), Rel σ τ → ∃ (q : Int32) (σ1 : Mem) (b : Int32) (τ1 : Mem), m_L_then σ p0 p1 = some (q, σ1) ∧ m_X11_then τ p0 p1 = some (b, τ1) ∧ τ1 0 5 = q ∧ (q = 0 → σ1 59 0 = b) ∧ Rel σ1 τ1
def SIM_purse (Rel : Mem → Mem → Prop) : Prop := ∀ (σ τ : Mem) (p0 p1 p2 : Int32), Rel σ τ → ∃ (q : Int32) (σ1 : Mem) (b : Int32) (τ1 : Mem), m_L_purse σ p0 p1 p2 = some (q, σ1) ∧ m_X11_purse τ p0 p1 p2 = some (b, τ1) ∧ τ1 0 5 = q ∧ (q = 0 → σ1 59 0 = b) ∧ Rel σ1 τ1
def SIM_sealed (Rel : Mem → Mem → Prop) : Prop := ∀ (σ τ : Mem) (p0 : Int32), Rel σ τ → ∃ (q : Int32) (σ1 : Mem) (b : Int32) (τ1 : Mem), m_L_sealed σ p0 = some (q, σ1) ∧ m_X11_sealed τ p0 = some (b, τ1) ∧ τ1 0 5 = q ∧ (q = 0 → σ1 59 0 = b) ∧ Rel σ1 τ1
def SIM_gets (Rel : Mem → Mem → Prop) : Prop := ∀ (σ τ : Mem) (p0 p1 : Int32), Rel σ τ → ∃ (q : Int32) (σ1 : Mem) (b : Int32) (τ1 : Mem), m_L_gets σ p0 p1 = some (q, σ1) ∧ m_X11_gets τ p0 p1 = some (b, τ1) ∧ τ1 0 5 = q ∧ (q = 0 → σ1 59 0 = b) ∧ Rel σ1 τ1
def SIM_loses (Rel : Mem → Mem → Prop) : Prop := ∀ (σ τ : Mem) (p0 : Int32), Rel σ τ → ∃ (q : Int32) (σ1 : Mem) (b : Int32) (τ1 : Mem), m_L_loses σ p0 = some (q, σ1) ∧ m_X11_loses τ p0 = some (b, τ1) ∧ τ1 0 5 = q ∧ (q = 0 → σ1 59 0 = b) ∧ Rel σ1 τ1
def SIM_most (Rel : Mem → Mem → Prop) : Prop := ∀ (σ τ : Mem) (p0 : Int32), Rel σ τ → ∃ (q : Int32) (σ1 : Mem) (b : Int32) (τ1 : Mem), m_L_most σ p0 = some (q, σ1) ∧ m_X11_most τ p0 = some (b, τ1) ∧ τ1 0 5 = q ∧ (q = 0 → σ1 59 0 = b) ∧ Rel σ1 τ1
def SIM_row (Rel : Mem → Mem → Prop) : Prop := ∀ (σ τ : Mem) (p0 p1 : Int32), Rel σ τ → ∃ (q : Int32) (σ1 : Mem) (b : Int32) (τ1 : Mem), m_L_row σ p0 p1 = some (q, σ1) ∧ m_X11_row τ p0 p1 = some (b, τ1) ∧ τ1 0 5 = q ∧ (q = 0 → σ1 59 0 = b) ∧ Rel σ1 τ1
def SIM_empty (Rel : Mem → Mem → Prop) : Prop := ∀ (σ τ : Mem) (p0 : Int32), Rel σ τ → ∃ (q : Int32) (σ1 : Mem) (b : Int32) (τ1 : Mem), m_L_empty σ p0 = some (q, σ1) ∧ m_X11_empty τ p0 = some (b, τ1) ∧ τ1 0 5 = q ∧ (q = 0 → σ1 59 0 = b) ∧ Rel σ1 τ1
def SIM_liking (Rel : Mem → Mem → Prop) : Prop := ∀ (σ τ : Mem) (p0 p1 : Int32), Rel σ τ → ∃ (q : Int32) (σ1 : Mem) (b : Int32) (τ1 : Mem), m_L_liking σ p0 p1 = some (q, σ1) ∧ m_X11_liking τ p0 p1 = some (b, τ1) ∧ τ1 0 5 = q ∧ (q = 0 → σ1 59 0 = b) ∧ Rel σ1 τ1
def SIM_leastChops (Rel : Mem → Mem → Prop) : Prop := ∀ (σ τ : Mem) (p0 p1 : Int32), Rel σ τ → ∃ (q : Int32) (σ1 : Mem) (b : Int32) (τ1 : Mem), m_L_leastChops σ p0 p1 = some (q, σ1) ∧ m_X11_leastChops τ p0 p1 = some (b, τ1) ∧ τ1 0 5 = q ∧ (q = 0 → σ1 59 0 = b) ∧ Rel σ1 τ1
def SIM_toWin (Rel : Mem → Mem → Prop) : Prop := ∀ (σ τ : Mem) (p0 p1 : Int32), Rel σ τ → ∃ (q : Int32) (σ1 : Mem) (b : Int32) (τ1 : Mem), m_L_toWin σ p0 p1 = some (q, σ1) ∧ m_X11_toWin τ p0 p1 = some (b, τ1) ∧ τ1 0 5 = q ∧ (q = 0 → σ1 59 0 = b) ∧ Rel σ1 τ1
def SIM_ruin (Rel : Mem → Mem → Prop) : Prop := ∀ (σ τ : Mem) (p0 : Int32), Rel σ τ → ∃ (q : Int32) (σ1 : Mem) (b : Int32) (τ1 : Mem), m_L_ruin σ p0 = some (q, σ1) ∧ m_X11_ruin τ p0 = some (b, τ1) ∧ τ1 0 5 = q ∧ (q = 0 → σ1 59 0 = b) ∧ Rel σ1 τ1
def SIM_share (Rel : Mem → Mem → Prop) : Prop := ∀ (σ τ : Mem) (p0 p1 : Int32), Rel σ τ → ∃ (q : Int32) (σ1 : Mem) (b : Int32) (τ1 : Mem), m_L_share σ p0 p1 = some (q, σ1) ∧ m_X11_share τ p0 p1 = some (b, τ1) ∧ τ1 0 5 = q ∧ (q = 0 → σ1 59 0 = b) ∧ Rel σ1 τ1
def SIM_beside (Rel : Mem → Mem → Prop) : Prop := ∀ (σ τ : Mem) (p0 : Int32), Rel σ τ → ∃ (q : Int32) (σ1 : Mem) (b : Int32) (τ1 : Mem), m_L_beside σ p0 = some (q, σ1) ∧ m_X11_beside τ p0 = some (b, τ1) ∧ τ1 0 5 = q ∧ (q = 0 → σ1 59 0 = b) ∧ Rel σ1 τ1
def SIM_oldest (Rel : Mem → Mem → Prop) : Prop := ∀ (σ τ : Mem) (p0 : Int32), Rel σ τ → ∃ (q : Int32) (σ1 : Mem) (b : Int32) (τ1 : Mem), m_L_oldest σ p0 = some (q, σ1) ∧ m_X11_oldest τ p0 = some (b, τ1) ∧ τ1 0 5 = q ∧ (q = 0 → σ1 59 0 = b) ∧ Rel σ1 τ1
def SIM_envy (Rel : Mem → Mem → Prop) : Prop := ∀ (σ τ : Mem) (p0 : Int32), Rel σ τ → ∃ (q : Int32) (σ1 : Mem) (b : Int32) (τ1 : Mem), m_L_envy σ p0 = some (q, σ1) ∧ m_X11_envy τ p0 = some (b, τ1) ∧ τ1 0 5 = q ∧ (q = 0 → σ1 59 0 = b) ∧ Rel σ1 τ1
def SIM_see (Rel : Mem → Mem → Prop) : Prop := ∀ (σ τ : Mem) (p0 p1 p2 p3 : Int32), Rel σ τ → (p3 = 0 ∨ p3 = 1) → ∃ (q : Int32) (σ1 : Mem) (b : Int32) (τ1 : Mem), m_L_see σ p0 p1 p2 p3 = some (q, σ1) ∧ m_X11_see τ p0 p1 p2 p3 = some (b, τ1) ∧ τ1 0 5 = q ∧ (q = 0 → σ1 59 0 = b) ∧ Rel σ1 τ1
def SIM_pockets (Rel : Mem → Mem → Prop) : Prop := ∀ (σ τ : Mem) (p0 : Int32), Rel σ τ → ∃ (q : Int32) (σ1 : Mem) (b : Int32) (τ1 : Mem), m_L_pockets σ p0 = some (q, σ1) ∧ m_X11_pockets τ p0 = some (b, τ1) ∧ τ1 0 5 = q ∧ (q = 0 → σ1 59 0 = b) ∧ Rel σ1 τ1
def SIM_look (Rel : Mem → Mem → Prop) : Prop := ∀ (σ τ : Mem) (p0 : Int32), Rel σ τ → ∃ (q : Int32) (σ1 : Mem) (b : Int32) (τ1 : Mem), m_L_look σ p0 = some (q, σ1) ∧ m_X11_look τ p0 = some (b, τ1) ∧ τ1 0 5 = q ∧ (q = 0 → σ1 59 0 = b) ∧ Rel σ1 τ1
def SIM_forget (Rel : Mem → Mem → Prop) : Prop := ∀ (σ τ : Mem), Rel σ τ → ∃ (σ1 τ1 : Mem), m_X10_forget σ = some σ1 ∧ m_X11_forget τ = some τ1 ∧ Rel σ1 τ1
def SIM_game (Rel : Mem → Mem → Prop) : Prop := ∀ (σ τ : Mem) (p0 p1 p2 : Int32), Rel σ τ → ∃ (q : Int32) (σ1 : Mem) (b : Int32) (τ1 : Mem), m_L_game σ p0 p1 p2 = some (q, σ1) ∧ m_X11_game τ p0 p1 p2 = some (b, τ1) ∧ τ1 0 5 = q ∧ (q = 0 → σ1 59 0 = b) ∧ Rel σ1 τ1
def SIM_years (Rel : Mem → Mem → Prop) : Prop := ∀ (σ τ : Mem) (p0 p1 p2 : Int32), Rel σ τ → ∃ (q : Int32) (σ1 : Mem) (b : Int32) (τ1 : Mem), m_L_years σ p0 p1 p2 = some (q, σ1) ∧ m_X11_years τ p0 p1 p2 = some (b, τ1) ∧ τ1 0 5 = q ∧ (q = 0 → σ1 59 0 = b) ∧ Rel σ1 τ1
def SIM_image (Rel : Mem → Mem → Prop) : Prop := ∀ (σ τ : Mem), Rel σ τ → ∃ (σ1 τ1 : Mem), m_X10_image σ = some σ1 ∧ m_X11_image τ = some τ1 ∧ Rel σ1 τ1
def SIM_restore (Rel : Mem → Mem → Prop) : Prop := ∀ (σ τ : Mem), Rel σ τ → ∃ (v : Int32) (σ1 τ1 : Mem), m_X10_restore σ = some (v, σ1) ∧ m_X11_restore τ = some (v, τ1) ∧ Rel σ1 τ1
def SIM (Rel : Mem → Mem → Prop) : Prop := SIM_feed Rel ∧ SIM_terrace Rel ∧ SIM_fault Rel ∧ SIM_count Rel ∧ SIM_house Rel ∧ SIM_tenant Rel ∧ SIM_quarters Rel ∧ SIM_buy Rel ∧ SIM_cats Rel ∧ SIM_lead Rel ∧ SIM_temper Rel ∧ SIM_undo Rel ∧ SIM_then Rel ∧ SIM_purse Rel ∧ SIM_sealed Rel ∧ SIM_gets Rel ∧ SIM_loses Rel ∧ SIM_most Rel ∧ SIM_row Rel ∧ SIM_empty Rel ∧ SIM_liking Rel ∧ SIM_leastChops Rel ∧ SIM_toWin Rel ∧ SIM_ruin Rel ∧ SIM_share Rel ∧ SIM_beside Rel ∧ SIM_oldest Rel ∧ SIM_envy Rel ∧ SIM_see Rel ∧ SIM_pockets Rel ∧ SIM_look Rel ∧ SIM_forget Rel ∧ SIM_game Rel ∧ SIM_years Rel ∧ SIM_image Rel ∧ SIM_restore Rel
set_option maxHeartbeats 4000000 in
set_option maxRecDepth 100000 in
theorem lc_feed {p : Program} {l : Launch} {e : Env} {s : State} {m : MethodId} {below : List Frame} {meth : Method} {c : Code} {b L : Nat} {xs : Nat → Int32} {E : CE} {E2 : RE} {Rel : Mem → Mem → Prop} (hlt : l.stackTraces = false) (hn : 0 < E.2.2.2.2.2.2) (hSim : SIM_feed Rel) (X : CX p s m meth c #[Value.ref b] cL_law 7 RL (some .boolean)) (hX : va_X b L xs s s.heap) (hbl : b < s.heap.size) (hd : DJ (vC E) (vR E2)) {i : Int32} (hi1 : vp_in (i + 1) L) (hi2 : vp_in (i + 2) L) (hi3 : vp_in (i + 3) L) (hi4 : vp_in (i + 4) L) (hi5 : vp_in (i + 5) L) {σ τ : Mem} (hR : Rel σ τ) {cells slots : Nat} (hc : cells + 4 ≤ 601024) (hs : slots + 24 ≤ 7293034) {H : Heap} {locs : List Loc} (I : WI (vC E) (fun q : Nat => s.heap.size ≤ q) s H locs σ) (J : WI (vR E2) (fun q : Nat => s.heap.size ≤ q) s H locs τ) {ls : Array Slot} (hl : lv_has ls 7 [(0, .ref b), (1, .ref (ca E 0)), (2, .ref (ra E2 0)), (3, .ref (ca E 59)), (4, .int i)])
    (kend : ∀ (σ1 τ1 : Mem), Rel σ1 τ1 → ∀ (H : Heap) (locs : List Loc) (ls : Array Slot), WI (vC E) (fun q : Nat => s.heap.size ≤ q) s H locs σ1 → WI (vR E2) (fun q : Nat => s.heap.size ≤ q) s H locs τ1 → lv_has ls 7 [(0, .ref b), (1, .ref (ca E 0)), (2, .ref (ra E2 0)), (3, .ref (ca E 59)), (4, .int i)] → W p l e room_1 s m #[Value.ref b] below meth c H locs (cells + 4) (slots + 24) (lw_Z below #[Value.ref b] s) (F0 m 2286 ls [])) : W p l e room_1 s m #[Value.ref b] below meth c H locs cells slots (lw_Z below #[Value.ref b] s) (F0 m 200 ls []) := by
  have hx := X.1
  have hb := X.2.1
  have hbA : ¬ (fun q : Nat => s.heap.size ≤ q) b := Nat.not_le.mpr hbl
  have hcs : cells ≤ room_1.cells ∧ slots ≤ room_1.slots := ⟨Nat.le_trans (Nat.le_add_right _ 4) hc, Nat.le_trans (Nat.le_add_right _ 24) hs⟩
  refine lv_aload_n hx hb dL_law_200 rfl (lv_at hl 1 rfl) ?_
  refine lv_aload_n hx hb dL_law_201 rfl (lv_at hl 0 rfl) ?_
  refine lv_iload hx hb dL_law_202 (lv_at hl 4 rfl) ?_
  refine lv_iconst (v := 1) hx hb dL_law_204 (by decide) ?_
  refine lv_iadd hx hb dL_law_205 ?_
  refine va_sld hx hb hX hbl hbA I.2.2.2.1 hi1 dL_law_206 ?_
  refine lv_aload_n hx hb dL_law_207 rfl (lv_at hl 0 rfl) ?_
  refine lv_iload hx hb dL_law_208 (lv_at hl 4 rfl) ?_
  refine lv_iconst (v := 2) hx hb dL_law_210 (by decide) ?_
  refine lv_iadd hx hb dL_law_211 ?_
  refine va_sld hx hb hX hbl hbA I.2.2.2.1 hi2 dL_law_212 ?_
  refine lv_aload_n hx hb dL_law_213 rfl (lv_at hl 0 rfl) ?_
  refine lv_iload hx hb dL_law_214 (lv_at hl 4 rfl) ?_
  refine lv_iconst (v := 3) hx hb dL_law_216 (by decide) ?_
  refine lv_iadd hx hb dL_law_217 ?_
  refine va_sld hx hb hX hbl hbA I.2.2.2.1 hi3 dL_law_218 ?_
  refine lv_aload_n hx hb dL_law_219 rfl (lv_at hl 0 rfl) ?_
  refine lv_iload hx hb dL_law_220 (lv_at hl 4 rfl) ?_
  refine lv_iconst (v := 4) hx hb dL_law_222 (by decide) ?_
  refine lv_iadd hx hb dL_law_223 ?_
  refine va_sld hx hb hX hbl hbA I.2.2.2.1 hi4 dL_law_224 ?_
  refine lv_aload_n hx hb dL_law_225 rfl (lv_at hl 0 rfl) ?_
  refine lv_iload hx hb dL_law_226 (lv_at hl 4 rfl) ?_
  refine lv_iconst (v := 5) hx hb dL_law_228 (by decide) ?_
  refine lv_iadd hx hb dL_law_229 ?_
  refine va_sld hx hb hX hbl hbA I.2.2.2.1 hi5 dL_law_230 ?_
  obtain ⟨w, σ1, τ1, h1, h2, h5⟩ := hSim σ τ (xs (Int32.toNatClampNeg (i + 1))) (xs (Int32.toNatClampNeg (i + 2))) (xs (Int32.toNatClampNeg (i + 3))) (xs (Int32.toNatClampNeg (i + 4))) (xs (Int32.toNatClampNeg (i + 5))) hR
  refine r2VI (V := vC E) (V' := vR E2) (k := 0) (As := [.int (xs (Int32.toNatClampNeg (i + 1))), .int (xs (Int32.toNatClampNeg (i + 2))), .int (xs (Int32.toNatClampNeg (i + 3))), .int (xs (Int32.toNatClampNeg (i + 4))), .int (xs (Int32.toNatClampNeg (i + 5)))]) (rest := []) X I J hd hl (c_X10_feed h1) yv_X10_feed tw_1202 ⟨rfl, rfl, Nat.le_of_ble_eq_true rfl, Nat.le_of_ble_eq_true rfl⟩ (kC_0 E).1 rfl rfl rfl rfl (Nat.le_of_ble_eq_true rfl) hcs dL_law_231 (fun H locs I J => ?_)
  refine lv_aload_n hx hb dL_law_234 rfl (lv_at hl 2 rfl) ?_
  refine lv_aload_n hx hb dL_law_235 rfl (lv_at hl 0 rfl) ?_
  refine lv_iload hx hb dL_law_236 (lv_at hl 4 rfl) ?_
  refine lv_iconst (v := 1) hx hb dL_law_238 (by decide) ?_
  refine lv_iadd hx hb dL_law_239 ?_
  refine va_sld hx hb hX hbl hbA I.2.2.2.1 hi1 dL_law_240 ?_
  refine lv_aload_n hx hb dL_law_241 rfl (lv_at hl 0 rfl) ?_
  refine lv_iload hx hb dL_law_242 (lv_at hl 4 rfl) ?_
  refine lv_iconst (v := 2) hx hb dL_law_244 (by decide) ?_
  refine lv_iadd hx hb dL_law_245 ?_
  refine va_sld hx hb hX hbl hbA I.2.2.2.1 hi2 dL_law_246 ?_
  refine lv_aload_n hx hb dL_law_247 rfl (lv_at hl 0 rfl) ?_
  refine lv_iload hx hb dL_law_248 (lv_at hl 4 rfl) ?_
  refine lv_iconst (v := 3) hx hb dL_law_250 (by decide) ?_
  refine lv_iadd hx hb dL_law_251 ?_
  refine va_sld hx hb hX hbl hbA I.2.2.2.1 hi3 dL_law_252 ?_
  refine lv_aload_n hx hb dL_law_253 rfl (lv_at hl 0 rfl) ?_
  refine lv_iload hx hb dL_law_254 (lv_at hl 4 rfl) ?_
  refine lv_iconst (v := 4) hx hb dL_law_256 (by decide) ?_
  refine lv_iadd hx hb dL_law_257 ?_
  refine va_sld hx hb hX hbl hbA I.2.2.2.1 hi4 dL_law_258 ?_
  refine lv_aload_n hx hb dL_law_259 rfl (lv_at hl 0 rfl) ?_
  refine lv_iload hx hb dL_law_260 (lv_at hl 4 rfl) ?_
  refine lv_iconst (v := 5) hx hb dL_law_262 (by decide) ?_
  refine lv_iadd hx hb dL_law_263 ?_
  refine va_sld hx hb hX hbl hbA I.2.2.2.1 hi5 dL_law_264 ?_
  refine r2VI (V := vR E2) (V' := vC E) (k := 0) (As := [.int (xs (Int32.toNatClampNeg (i + 1))), .int (xs (Int32.toNatClampNeg (i + 2))), .int (xs (Int32.toNatClampNeg (i + 3))), .int (xs (Int32.toNatClampNeg (i + 4))), .int (xs (Int32.toNatClampNeg (i + 5)))]) (rest := [.int w]) X J I hd.symm hl (c_X11_feed h2) yv_X11_feed tw_1207 ⟨rfl, rfl, Nat.le_of_ble_eq_true rfl, Nat.le_of_ble_eq_true rfl⟩ (Nat.le_of_ble_eq_true rfl) rfl rfl rfl rfl (Nat.le_of_ble_eq_true rfl) hcs dL_law_265 (fun H locs J I => ?_)
  refine lv_icmp_eq (tgt := 2286) hx hb dL_law_268 (by decide) (fun _ => ?_) (fun c9 => absurd rfl c9)
  refine W.widen (k := cells + 4) (n := slots + 24) (Nat.le_add_right _ _) (Nat.le_add_right _ _) ?_
  exact kend σ1 τ1 h5 H locs ls I J (lv_sub hl [0, 1, 2, 3, 4] rfl)
set_option maxHeartbeats 4000000 in
set_option maxRecDepth 100000 in
theorem lc_terrace {p : Program} {l : Launch} {e : Env} {s : State} {m : MethodId} {below : List Frame} {meth : Method} {c : Code} {b L : Nat} {xs : Nat → Int32} {E : CE} {E2 : RE} {Rel : Mem → Mem → Prop} (hlt : l.stackTraces = false) (hn : 0 < E.2.2.2.2.2.2) (hSim : SIM_terrace Rel) (X : CX p s m meth c #[Value.ref b] cL_law 7 RL (some .boolean)) (hX : va_X b L xs s s.heap) (hbl : b < s.heap.size) (hd : DJ (vC E) (vR E2)) {i : Int32} (hi1 : vp_in (i + 1) L) (hi2 : vp_in (i + 2) L) (hi3 : vp_in (i + 3) L) (hi4 : vp_in (i + 4) L) (hi5 : vp_in (i + 5) L) {σ τ : Mem} (hR : Rel σ τ) {cells slots : Nat} (hc : cells + 4 ≤ 601024) (hs : slots + 24 ≤ 7293034) {H : Heap} {locs : List Loc} (I : WI (vC E) (fun q : Nat => s.heap.size ≤ q) s H locs σ) (J : WI (vR E2) (fun q : Nat => s.heap.size ≤ q) s H locs τ) {ls : Array Slot} (hl : lv_has ls 7 [(0, .ref b), (1, .ref (ca E 0)), (2, .ref (ra E2 0)), (3, .ref (ca E 59)), (4, .int i)])
    (kend : ∀ (σ1 τ1 : Mem), Rel σ1 τ1 → ∀ (H : Heap) (locs : List Loc) (ls : Array Slot), WI (vC E) (fun q : Nat => s.heap.size ≤ q) s H locs σ1 → WI (vR E2) (fun q : Nat => s.heap.size ≤ q) s H locs τ1 → lv_has ls 7 [(0, .ref b), (1, .ref (ca E 0)), (2, .ref (ra E2 0)), (3, .ref (ca E 59)), (4, .int i)] → W p l e room_1 s m #[Value.ref b] below meth c H locs (cells + 4) (slots + 24) (lw_Z below #[Value.ref b] s) (F0 m 2286 ls [])) : W p l e room_1 s m #[Value.ref b] below meth c H locs cells slots (lw_Z below #[Value.ref b] s) (F0 m 273 ls []) := by
  have hx := X.1
  have hb := X.2.1
  have hbA : ¬ (fun q : Nat => s.heap.size ≤ q) b := Nat.not_le.mpr hbl
  have hcs : cells ≤ room_1.cells ∧ slots ≤ room_1.slots := ⟨Nat.le_trans (Nat.le_add_right _ 4) hc, Nat.le_trans (Nat.le_add_right _ 24) hs⟩
  refine lv_aload_n hx hb dL_law_273 rfl (lv_at hl 1 rfl) ?_
  refine lv_aload_n hx hb dL_law_274 rfl (lv_at hl 0 rfl) ?_
  refine lv_iload hx hb dL_law_275 (lv_at hl 4 rfl) ?_
  refine lv_iconst (v := 1) hx hb dL_law_277 (by decide) ?_
  refine lv_iadd hx hb dL_law_278 ?_
  refine va_sld hx hb hX hbl hbA I.2.2.2.1 hi1 dL_law_279 ?_
  refine lv_aload_n hx hb dL_law_280 rfl (lv_at hl 3 rfl) ?_
  obtain ⟨q, σ1, b1, τ1, h1, h2, h3, h4, h5⟩ := hSim σ τ (xs (Int32.toNatClampNeg (i + 1))) hR
  refine r2SI (V := vC E) (V' := vR E2) (As := [.ref (ca E 0), .int (xs (Int32.toNatClampNeg (i + 1))), .ref (ca E 59)]) (rest := []) X I J hd hl (c_L_terrace hlt hn h1) yw_L_terrace tw_1212 ⟨rfl, rfl, Nat.le_of_ble_eq_true rfl, Nat.le_of_ble_eq_true rfl⟩ rfl rfl (Nat.le_of_ble_eq_true rfl) ⟨Nat.le_trans (Nat.add_le_add_left (Nat.le_of_ble_eq_true rfl) cells) hc, Nat.le_trans (Nat.add_le_add_left (Nat.le_of_ble_eq_true rfl) slots) hs⟩ dL_law_281 (fun H locs I J => ?_)
  refine W.widen (k := cells + 4) (n := slots + 24) (Nat.add_le_add_left (Nat.le_of_ble_eq_true rfl) cells) (Nat.add_le_add_left (Nat.le_of_ble_eq_true rfl) slots) ?_
  have hcs : cells + 4 ≤ room_1.cells ∧ slots + 24 ≤ room_1.slots := ⟨hc, hs⟩
  refine lv_istore (lv' := [(5, .int q), (0, .ref b), (1, .ref (ca E 0)), (2, .ref (ra E2 0)), (3, .ref (ca E 59)), (4, .int i)]) hx hb dL_law_284 hl (by decide) rfl (fun ls hl => ?_)
  refine lv_aload_n hx hb dL_law_286 rfl (lv_at hl 3 rfl) ?_
  refine lv_aload_n hx hb dL_law_287 rfl (lv_at hl 1 rfl) ?_
  refine lv_iload hx hb dL_law_288 (lv_at hl 5 rfl) ?_
  refine lv_iconst (v := 1) hx hb dL_law_290 (by decide) ?_
  refine lv_iadd hx hb dL_law_291 ?_
  refine va_sld hx hb hX hbl hbA I.2.2.2.1 hi1 dL_law_292 ?_
  refine r2VI (V := vR E2) (V' := vC E) (k := 0) (As := [.int (xs (Int32.toNatClampNeg (i + 1)))]) (rest := []) X J I hd.symm hl (c_X11_terrace h2) yv_X11_terrace tw_1216 ⟨rfl, rfl, Nat.le_of_ble_eq_true rfl, Nat.le_of_ble_eq_true rfl⟩ (Nat.le_of_ble_eq_true rfl) rfl rfl rfl rfl (Nat.le_of_ble_eq_true rfl) hcs dL_law_293 (fun H locs J I => ?_)
  refine lv_istore (lv' := [(6, .int b1), (5, .int q), (0, .ref b), (1, .ref (ca E 0)), (2, .ref (ra E2 0)), (3, .ref (ca E 59)), (4, .int i)]) hx hb dL_law_296 hl (by decide) rfl (fun ls hl => ?_)
  refine lv_aload_n hx hb dL_law_298 rfl (lv_at hl 4 rfl) ?_
  refine r2VI (V := vR E2) (V' := vC E) (k := 0) (As := []) (rest := []) X J I hd.symm hl (c_X11_thrown (l := l) (E := E2) (σ := τ1) (q := τ1 0 5) rfl) yv_X11_thrown tw_1221 ⟨rfl, rfl, Nat.le_of_ble_eq_true rfl, Nat.le_of_ble_eq_true rfl⟩ (Nat.le_of_ble_eq_true rfl) rfl rfl rfl rfl (Nat.le_of_ble_eq_true rfl) hcs dL_law_299 (fun H locs J I => ?_)
  refine lv_iload hx hb dL_law_302 (lv_at hl 1 rfl) ?_
  refine lv_icmp_eq (tgt := 309) hx hb dL_law_304 (by decide) (fun _ => ?_) (fun c9 => absurd h3 c9)
  refine lv_iload hx hb dL_law_309 (lv_at hl 1 rfl) ?_
  refine lv_if_ne (tgt := 326) hx hb dL_law_311 (by decide) (fun c1 => ?_) (fun c1 => ?_)
  · skip
    refine lv_goto (tgt := 2286) hx hb dL_law_326 (by decide) ?_
    exact kend σ1 τ1 h5 H locs ls I J (lv_sub hl [2, 3, 4, 5, 6] rfl)
  · skip
    refine lv_aload_n hx hb dL_law_314 rfl (lv_at hl 5 rfl) ?_
    refine lv_iconst (v := 0) hx hb dL_law_315 (by decide) ?_
    refine jaldC X I (kC_59 E hn) (show vp_in (0 : Int32) 1 from vp_in_nI (n := 0) (by decide) (by decide)) dL_law_316 ?_
    refine lv_iload hx hb dL_law_317 (lv_at hl 0 rfl) ?_
    refine lv_i2l hx hb dL_law_319 rfl ?_
    refine W.lcmp hx hb dL_law_320 ?_
    refine lv_if_eq (tgt := 326) hx hb dL_law_321 (by decide) (fun _ => ?_) (fun c9 => absurd (show lg_cmp (Int32.toInt64 (σ1 59 0)) (Int32.toInt64 b1) = 0 by rw [h4 c1]; exact lg_self _) c9)
    refine lv_goto (tgt := 2286) hx hb dL_law_326 (by decide) ?_
    exact kend σ1 τ1 h5 H locs ls I J (lv_sub hl [2, 3, 4, 5, 6] rfl)
set_option maxHeartbeats 4000000 in
set_option maxRecDepth 100000 in
theorem lc_fault {p : Program} {l : Launch} {e : Env} {s : State} {m : MethodId} {below : List Frame} {meth : Method} {c : Code} {b L : Nat} {xs : Nat → Int32} {E : CE} {E2 : RE} {Rel : Mem → Mem → Prop} (hlt : l.stackTraces = false) (hn : 0 < E.2.2.2.2.2.2) (hSim : SIM_fault Rel) (X : CX p s m meth c #[Value.ref b] cL_law 7 RL (some .boolean)) (hX : va_X b L xs s s.heap) (hbl : b < s.heap.size) (hd : DJ (vC E) (vR E2)) {i : Int32} (hi1 : vp_in (i + 1) L) (hi2 : vp_in (i + 2) L) (hi3 : vp_in (i + 3) L) (hi4 : vp_in (i + 4) L) (hi5 : vp_in (i + 5) L) {σ τ : Mem} (hR : Rel σ τ) {cells slots : Nat} (hc : cells + 4 ≤ 601024) (hs : slots + 24 ≤ 7293034) {H : Heap} {locs : List Loc} (I : WI (vC E) (fun q : Nat => s.heap.size ≤ q) s H locs σ) (J : WI (vR E2) (fun q : Nat => s.heap.size ≤ q) s H locs τ) {ls : Array Slot} (hl : lv_has ls 7 [(0, .ref b), (1, .ref (ca E 0)), (2, .ref (ra E2 0)), (3, .ref (ca E 59)), (4, .int i)])
    (kend : ∀ (σ1 τ1 : Mem), Rel σ1 τ1 → ∀ (H : Heap) (locs : List Loc) (ls : Array Slot), WI (vC E) (fun q : Nat => s.heap.size ≤ q) s H locs σ1 → WI (vR E2) (fun q : Nat => s.heap.size ≤ q) s H locs τ1 → lv_has ls 7 [(0, .ref b), (1, .ref (ca E 0)), (2, .ref (ra E2 0)), (3, .ref (ca E 59)), (4, .int i)] → W p l e room_1 s m #[Value.ref b] below meth c H locs (cells + 4) (slots + 24) (lw_Z below #[Value.ref b] s) (F0 m 2286 ls [])) : W p l e room_1 s m #[Value.ref b] below meth c H locs cells slots (lw_Z below #[Value.ref b] s) (F0 m 329 ls []) := by
  have hx := X.1
  have hb := X.2.1
  have hbA : ¬ (fun q : Nat => s.heap.size ≤ q) b := Nat.not_le.mpr hbl
  have hcs : cells ≤ room_1.cells ∧ slots ≤ room_1.slots := ⟨Nat.le_trans (Nat.le_add_right _ 4) hc, Nat.le_trans (Nat.le_add_right _ 24) hs⟩
  refine lv_aload_n hx hb dL_law_329 rfl (lv_at hl 1 rfl) ?_
  obtain ⟨w, τ1, h1, h2, h5⟩ := hSim σ τ hR
  refine r2VI (V := vC E) (V' := vR E2) (k := 0) (As := []) (rest := []) X I J hd hl (c_X10_fault h1) yv_X10_fault tw_1226 ⟨rfl, rfl, Nat.le_of_ble_eq_true rfl, Nat.le_of_ble_eq_true rfl⟩ (kC_0 E).1 rfl rfl rfl rfl (Nat.le_of_ble_eq_true rfl) hcs dL_law_330 (fun H locs I J => ?_)
  refine lv_aload_n hx hb dL_law_333 rfl (lv_at hl 2 rfl) ?_
  refine r2VI (V := vR E2) (V' := vC E) (k := 0) (As := []) (rest := [.int w]) X J I hd.symm hl (c_X11_fault h2) yv_X11_fault tw_1231 ⟨rfl, rfl, Nat.le_of_ble_eq_true rfl, Nat.le_of_ble_eq_true rfl⟩ (Nat.le_of_ble_eq_true rfl) rfl rfl rfl rfl (Nat.le_of_ble_eq_true rfl) hcs dL_law_334 (fun H locs J I => ?_)
  refine lv_icmp_eq (tgt := 2286) hx hb dL_law_337 (by decide) (fun _ => ?_) (fun c9 => absurd rfl c9)
  refine W.widen (k := cells + 4) (n := slots + 24) (Nat.le_add_right _ _) (Nat.le_add_right _ _) ?_
  exact kend σ τ1 h5 H locs ls I J (lv_sub hl [0, 1, 2, 3, 4] rfl)
set_option maxHeartbeats 4000000 in
set_option maxRecDepth 100000 in
theorem lc_count {p : Program} {l : Launch} {e : Env} {s : State} {m : MethodId} {below : List Frame} {meth : Method} {c : Code} {b L : Nat} {xs : Nat → Int32} {E : CE} {E2 : RE} {Rel : Mem → Mem → Prop} (hlt : l.stackTraces = false) (hn : 0 < E.2.2.2.2.2.2) (hSim : SIM_count Rel) (X : CX p s m meth c #[Value.ref b] cL_law 7 RL (some .boolean)) (hX : va_X b L xs s s.heap) (hbl : b < s.heap.size) (hd : DJ (vC E) (vR E2)) {i : Int32} (hi1 : vp_in (i + 1) L) (hi2 : vp_in (i + 2) L) (hi3 : vp_in (i + 3) L) (hi4 : vp_in (i + 4) L) (hi5 : vp_in (i + 5) L) {σ τ : Mem} (hR : Rel σ τ) {cells slots : Nat} (hc : cells + 4 ≤ 601024) (hs : slots + 24 ≤ 7293034) {H : Heap} {locs : List Loc} (I : WI (vC E) (fun q : Nat => s.heap.size ≤ q) s H locs σ) (J : WI (vR E2) (fun q : Nat => s.heap.size ≤ q) s H locs τ) {ls : Array Slot} (hl : lv_has ls 7 [(0, .ref b), (1, .ref (ca E 0)), (2, .ref (ra E2 0)), (3, .ref (ca E 59)), (4, .int i)])
    (kend : ∀ (σ1 τ1 : Mem), Rel σ1 τ1 → ∀ (H : Heap) (locs : List Loc) (ls : Array Slot), WI (vC E) (fun q : Nat => s.heap.size ≤ q) s H locs σ1 → WI (vR E2) (fun q : Nat => s.heap.size ≤ q) s H locs τ1 → lv_has ls 7 [(0, .ref b), (1, .ref (ca E 0)), (2, .ref (ra E2 0)), (3, .ref (ca E 59)), (4, .int i)] → W p l e room_1 s m #[Value.ref b] below meth c H locs (cells + 4) (slots + 24) (lw_Z below #[Value.ref b] s) (F0 m 2286 ls [])) : W p l e room_1 s m #[Value.ref b] below meth c H locs cells slots (lw_Z below #[Value.ref b] s) (F0 m 342 ls []) := by
  have hx := X.1
  have hb := X.2.1
  have hbA : ¬ (fun q : Nat => s.heap.size ≤ q) b := Nat.not_le.mpr hbl
  have hcs : cells ≤ room_1.cells ∧ slots ≤ room_1.slots := ⟨Nat.le_trans (Nat.le_add_right _ 4) hc, Nat.le_trans (Nat.le_add_right _ 24) hs⟩
  refine lv_aload_n hx hb dL_law_342 rfl (lv_at hl 1 rfl) ?_
  refine lv_aload_n hx hb dL_law_343 rfl (lv_at hl 0 rfl) ?_
  refine lv_iload hx hb dL_law_344 (lv_at hl 4 rfl) ?_
  refine lv_iconst (v := 1) hx hb dL_law_346 (by decide) ?_
  refine lv_iadd hx hb dL_law_347 ?_
  refine va_sld hx hb hX hbl hbA I.2.2.2.1 hi1 dL_law_348 ?_
  refine lv_aload_n hx hb dL_law_349 rfl (lv_at hl 3 rfl) ?_
  obtain ⟨q, σ1, b1, τ1, h1, h2, h3, h4, h5⟩ := hSim σ τ (xs (Int32.toNatClampNeg (i + 1))) hR
  refine r2SI (V := vC E) (V' := vR E2) (As := [.ref (ca E 0), .int (xs (Int32.toNatClampNeg (i + 1))), .ref (ca E 59)]) (rest := []) X I J hd hl (c_L_count hlt hn h1) yw_L_count tw_1236 ⟨rfl, rfl, Nat.le_of_ble_eq_true rfl, Nat.le_of_ble_eq_true rfl⟩ rfl rfl (Nat.le_of_ble_eq_true rfl) ⟨Nat.le_trans (Nat.add_le_add_left (Nat.le_of_ble_eq_true rfl) cells) hc, Nat.le_trans (Nat.add_le_add_left (Nat.le_of_ble_eq_true rfl) slots) hs⟩ dL_law_350 (fun H locs I J => ?_)
  refine W.widen (k := cells + 4) (n := slots + 24) (Nat.add_le_add_left (Nat.le_of_ble_eq_true rfl) cells) (Nat.add_le_add_left (Nat.le_of_ble_eq_true rfl) slots) ?_
  have hcs : cells + 4 ≤ room_1.cells ∧ slots + 24 ≤ room_1.slots := ⟨hc, hs⟩
  refine lv_istore (lv' := [(5, .int q), (0, .ref b), (1, .ref (ca E 0)), (2, .ref (ra E2 0)), (3, .ref (ca E 59)), (4, .int i)]) hx hb dL_law_353 hl (by decide) rfl (fun ls hl => ?_)
  refine lv_aload_n hx hb dL_law_355 rfl (lv_at hl 3 rfl) ?_
  refine lv_aload_n hx hb dL_law_356 rfl (lv_at hl 1 rfl) ?_
  refine lv_iload hx hb dL_law_357 (lv_at hl 5 rfl) ?_
  refine lv_iconst (v := 1) hx hb dL_law_359 (by decide) ?_
  refine lv_iadd hx hb dL_law_360 ?_
  refine va_sld hx hb hX hbl hbA I.2.2.2.1 hi1 dL_law_361 ?_
  refine r2VI (V := vR E2) (V' := vC E) (k := 0) (As := [.int (xs (Int32.toNatClampNeg (i + 1)))]) (rest := []) X J I hd.symm hl (c_X11_count h2) yv_X11_count tw_1240 ⟨rfl, rfl, Nat.le_of_ble_eq_true rfl, Nat.le_of_ble_eq_true rfl⟩ (Nat.le_of_ble_eq_true rfl) rfl rfl rfl rfl (Nat.le_of_ble_eq_true rfl) hcs dL_law_362 (fun H locs J I => ?_)
  refine lv_istore (lv' := [(6, .int b1), (5, .int q), (0, .ref b), (1, .ref (ca E 0)), (2, .ref (ra E2 0)), (3, .ref (ca E 59)), (4, .int i)]) hx hb dL_law_365 hl (by decide) rfl (fun ls hl => ?_)
  refine lv_aload_n hx hb dL_law_367 rfl (lv_at hl 4 rfl) ?_
  refine r2VI (V := vR E2) (V' := vC E) (k := 0) (As := []) (rest := []) X J I hd.symm hl (c_X11_thrown (l := l) (E := E2) (σ := τ1) (q := τ1 0 5) rfl) yv_X11_thrown tw_1221 ⟨rfl, rfl, Nat.le_of_ble_eq_true rfl, Nat.le_of_ble_eq_true rfl⟩ (Nat.le_of_ble_eq_true rfl) rfl rfl rfl rfl (Nat.le_of_ble_eq_true rfl) hcs dL_law_368 (fun H locs J I => ?_)
  refine lv_iload hx hb dL_law_371 (lv_at hl 1 rfl) ?_
  refine lv_icmp_eq (tgt := 378) hx hb dL_law_373 (by decide) (fun _ => ?_) (fun c9 => absurd h3 c9)
  refine lv_iload hx hb dL_law_378 (lv_at hl 1 rfl) ?_
  refine lv_if_ne (tgt := 395) hx hb dL_law_380 (by decide) (fun c1 => ?_) (fun c1 => ?_)
  · skip
    refine lv_goto (tgt := 2286) hx hb dL_law_395 (by decide) ?_
    exact kend σ1 τ1 h5 H locs ls I J (lv_sub hl [2, 3, 4, 5, 6] rfl)
  · skip
    refine lv_aload_n hx hb dL_law_383 rfl (lv_at hl 5 rfl) ?_
    refine lv_iconst (v := 0) hx hb dL_law_384 (by decide) ?_
    refine jaldC X I (kC_59 E hn) (show vp_in (0 : Int32) 1 from vp_in_nI (n := 0) (by decide) (by decide)) dL_law_385 ?_
    refine lv_iload hx hb dL_law_386 (lv_at hl 0 rfl) ?_
    refine lv_i2l hx hb dL_law_388 rfl ?_
    refine W.lcmp hx hb dL_law_389 ?_
    refine lv_if_eq (tgt := 395) hx hb dL_law_390 (by decide) (fun _ => ?_) (fun c9 => absurd (show lg_cmp (Int32.toInt64 (σ1 59 0)) (Int32.toInt64 b1) = 0 by rw [h4 c1]; exact lg_self _) c9)
    refine lv_goto (tgt := 2286) hx hb dL_law_395 (by decide) ?_
    exact kend σ1 τ1 h5 H locs ls I J (lv_sub hl [2, 3, 4, 5, 6] rfl)
set_option maxHeartbeats 4000000 in
set_option maxRecDepth 100000 in
theorem lc_house {p : Program} {l : Launch} {e : Env} {s : State} {m : MethodId} {below : List Frame} {meth : Method} {c : Code} {b L : Nat} {xs : Nat → Int32} {E : CE} {E2 : RE} {Rel : Mem → Mem → Prop} (hlt : l.stackTraces = false) (hn : 0 < E.2.2.2.2.2.2) (hSim : SIM_house Rel) (X : CX p s m meth c #[Value.ref b] cL_law 7 RL (some .boolean)) (hX : va_X b L xs s s.heap) (hbl : b < s.heap.size) (hd : DJ (vC E) (vR E2)) {i : Int32} (hi1 : vp_in (i + 1) L) (hi2 : vp_in (i + 2) L) (hi3 : vp_in (i + 3) L) (hi4 : vp_in (i + 4) L) (hi5 : vp_in (i + 5) L) {σ τ : Mem} (hR : Rel σ τ) {cells slots : Nat} (hc : cells + 4 ≤ 601024) (hs : slots + 24 ≤ 7293034) {H : Heap} {locs : List Loc} (I : WI (vC E) (fun q : Nat => s.heap.size ≤ q) s H locs σ) (J : WI (vR E2) (fun q : Nat => s.heap.size ≤ q) s H locs τ) {ls : Array Slot} (hl : lv_has ls 7 [(0, .ref b), (1, .ref (ca E 0)), (2, .ref (ra E2 0)), (3, .ref (ca E 59)), (4, .int i)])
    (kend : ∀ (σ1 τ1 : Mem), Rel σ1 τ1 → ∀ (H : Heap) (locs : List Loc) (ls : Array Slot), WI (vC E) (fun q : Nat => s.heap.size ≤ q) s H locs σ1 → WI (vR E2) (fun q : Nat => s.heap.size ≤ q) s H locs τ1 → lv_has ls 7 [(0, .ref b), (1, .ref (ca E 0)), (2, .ref (ra E2 0)), (3, .ref (ca E 59)), (4, .int i)] → W p l e room_1 s m #[Value.ref b] below meth c H locs (cells + 4) (slots + 24) (lw_Z below #[Value.ref b] s) (F0 m 2286 ls [])) : W p l e room_1 s m #[Value.ref b] below meth c H locs cells slots (lw_Z below #[Value.ref b] s) (F0 m 398 ls []) := by
  have hx := X.1
  have hb := X.2.1
  have hbA : ¬ (fun q : Nat => s.heap.size ≤ q) b := Nat.not_le.mpr hbl
  have hcs : cells ≤ room_1.cells ∧ slots ≤ room_1.slots := ⟨Nat.le_trans (Nat.le_add_right _ 4) hc, Nat.le_trans (Nat.le_add_right _ 24) hs⟩
  refine lv_aload_n hx hb dL_law_398 rfl (lv_at hl 1 rfl) ?_
  refine lv_aload_n hx hb dL_law_399 rfl (lv_at hl 0 rfl) ?_
  refine lv_iload hx hb dL_law_400 (lv_at hl 4 rfl) ?_
  refine lv_iconst (v := 1) hx hb dL_law_402 (by decide) ?_
  refine lv_iadd hx hb dL_law_403 ?_
  refine va_sld hx hb hX hbl hbA I.2.2.2.1 hi1 dL_law_404 ?_
  refine lv_aload_n hx hb dL_law_405 rfl (lv_at hl 0 rfl) ?_
  refine lv_iload hx hb dL_law_406 (lv_at hl 4 rfl) ?_
  refine lv_iconst (v := 2) hx hb dL_law_408 (by decide) ?_
  refine lv_iadd hx hb dL_law_409 ?_
  refine va_sld hx hb hX hbl hbA I.2.2.2.1 hi2 dL_law_410 ?_
  refine lv_aload_n hx hb dL_law_411 rfl (lv_at hl 3 rfl) ?_
  obtain ⟨q, σ1, b1, τ1, h1, h2, h3, h4, h5⟩ := hSim σ τ (xs (Int32.toNatClampNeg (i + 1))) (xs (Int32.toNatClampNeg (i + 2))) hR
  refine r2SI (V := vC E) (V' := vR E2) (As := [.ref (ca E 0), .int (xs (Int32.toNatClampNeg (i + 1))), .int (xs (Int32.toNatClampNeg (i + 2))), .ref (ca E 59)]) (rest := []) X I J hd hl (c_L_house hlt hn h1) yw_L_house tw_1245 ⟨rfl, rfl, Nat.le_of_ble_eq_true rfl, Nat.le_of_ble_eq_true rfl⟩ rfl rfl (Nat.le_of_ble_eq_true rfl) ⟨Nat.le_trans (Nat.add_le_add_left (Nat.le_of_ble_eq_true rfl) cells) hc, Nat.le_trans (Nat.add_le_add_left (Nat.le_of_ble_eq_true rfl) slots) hs⟩ dL_law_412 (fun H locs I J => ?_)
  refine W.widen (k := cells + 4) (n := slots + 24) (Nat.add_le_add_left (Nat.le_of_ble_eq_true rfl) cells) (Nat.add_le_add_left (Nat.le_of_ble_eq_true rfl) slots) ?_
  have hcs : cells + 4 ≤ room_1.cells ∧ slots + 24 ≤ room_1.slots := ⟨hc, hs⟩
  refine lv_istore (lv' := [(5, .int q), (0, .ref b), (1, .ref (ca E 0)), (2, .ref (ra E2 0)), (3, .ref (ca E 59)), (4, .int i)]) hx hb dL_law_415 hl (by decide) rfl (fun ls hl => ?_)
  refine lv_aload_n hx hb dL_law_417 rfl (lv_at hl 3 rfl) ?_
  refine lv_aload_n hx hb dL_law_418 rfl (lv_at hl 1 rfl) ?_
  refine lv_iload hx hb dL_law_419 (lv_at hl 5 rfl) ?_
  refine lv_iconst (v := 1) hx hb dL_law_421 (by decide) ?_
  refine lv_iadd hx hb dL_law_422 ?_
  refine va_sld hx hb hX hbl hbA I.2.2.2.1 hi1 dL_law_423 ?_
  refine lv_aload_n hx hb dL_law_424 rfl (lv_at hl 1 rfl) ?_
  refine lv_iload hx hb dL_law_425 (lv_at hl 5 rfl) ?_
  refine lv_iconst (v := 2) hx hb dL_law_427 (by decide) ?_
  refine lv_iadd hx hb dL_law_428 ?_
  refine va_sld hx hb hX hbl hbA I.2.2.2.1 hi2 dL_law_429 ?_
  refine r2VI (V := vR E2) (V' := vC E) (k := 0) (As := [.int (xs (Int32.toNatClampNeg (i + 1))), .int (xs (Int32.toNatClampNeg (i + 2)))]) (rest := []) X J I hd.symm hl (c_X11_house h2) yv_X11_house tw_1249 ⟨rfl, rfl, Nat.le_of_ble_eq_true rfl, Nat.le_of_ble_eq_true rfl⟩ (Nat.le_of_ble_eq_true rfl) rfl rfl rfl rfl (Nat.le_of_ble_eq_true rfl) hcs dL_law_430 (fun H locs J I => ?_)
  refine lv_istore (lv' := [(6, .int b1), (5, .int q), (0, .ref b), (1, .ref (ca E 0)), (2, .ref (ra E2 0)), (3, .ref (ca E 59)), (4, .int i)]) hx hb dL_law_433 hl (by decide) rfl (fun ls hl => ?_)
  refine lv_aload_n hx hb dL_law_435 rfl (lv_at hl 4 rfl) ?_
  refine r2VI (V := vR E2) (V' := vC E) (k := 0) (As := []) (rest := []) X J I hd.symm hl (c_X11_thrown (l := l) (E := E2) (σ := τ1) (q := τ1 0 5) rfl) yv_X11_thrown tw_1221 ⟨rfl, rfl, Nat.le_of_ble_eq_true rfl, Nat.le_of_ble_eq_true rfl⟩ (Nat.le_of_ble_eq_true rfl) rfl rfl rfl rfl (Nat.le_of_ble_eq_true rfl) hcs dL_law_436 (fun H locs J I => ?_)
  refine lv_iload hx hb dL_law_439 (lv_at hl 1 rfl) ?_
  refine lv_icmp_eq (tgt := 446) hx hb dL_law_441 (by decide) (fun _ => ?_) (fun c9 => absurd h3 c9)
  refine lv_iload hx hb dL_law_446 (lv_at hl 1 rfl) ?_
  refine lv_if_ne (tgt := 463) hx hb dL_law_448 (by decide) (fun c1 => ?_) (fun c1 => ?_)
  · skip
    refine lv_goto (tgt := 2286) hx hb dL_law_463 (by decide) ?_
    exact kend σ1 τ1 h5 H locs ls I J (lv_sub hl [2, 3, 4, 5, 6] rfl)
  · skip
    refine lv_aload_n hx hb dL_law_451 rfl (lv_at hl 5 rfl) ?_
    refine lv_iconst (v := 0) hx hb dL_law_452 (by decide) ?_
    refine jaldC X I (kC_59 E hn) (show vp_in (0 : Int32) 1 from vp_in_nI (n := 0) (by decide) (by decide)) dL_law_453 ?_
    refine lv_iload hx hb dL_law_454 (lv_at hl 0 rfl) ?_
    refine lv_i2l hx hb dL_law_456 rfl ?_
    refine W.lcmp hx hb dL_law_457 ?_
    refine lv_if_eq (tgt := 463) hx hb dL_law_458 (by decide) (fun _ => ?_) (fun c9 => absurd (show lg_cmp (Int32.toInt64 (σ1 59 0)) (Int32.toInt64 b1) = 0 by rw [h4 c1]; exact lg_self _) c9)
    refine lv_goto (tgt := 2286) hx hb dL_law_463 (by decide) ?_
    exact kend σ1 τ1 h5 H locs ls I J (lv_sub hl [2, 3, 4, 5, 6] rfl)
set_option maxHeartbeats 4000000 in
set_option maxRecDepth 100000 in
theorem lc_tenant {p : Program} {l : Launch} {e : Env} {s : State} {m : MethodId} {below : List Frame} {meth : Method} {c : Code} {b L : Nat} {xs : Nat → Int32} {E : CE} {E2 : RE} {Rel : Mem → Mem → Prop} (hlt : l.stackTraces = false) (hn : 0 < E.2.2.2.2.2.2) (hSim : SIM_tenant Rel) (X : CX p s m meth c #[Value.ref b] cL_law 7 RL (some .boolean)) (hX : va_X b L xs s s.heap) (hbl : b < s.heap.size) (hd : DJ (vC E) (vR E2)) {i : Int32} (hi1 : vp_in (i + 1) L) (hi2 : vp_in (i + 2) L) (hi3 : vp_in (i + 3) L) (hi4 : vp_in (i + 4) L) (hi5 : vp_in (i + 5) L) {σ τ : Mem} (hR : Rel σ τ) {cells slots : Nat} (hc : cells + 4 ≤ 601024) (hs : slots + 24 ≤ 7293034) {H : Heap} {locs : List Loc} (I : WI (vC E) (fun q : Nat => s.heap.size ≤ q) s H locs σ) (J : WI (vR E2) (fun q : Nat => s.heap.size ≤ q) s H locs τ) {ls : Array Slot} (hl : lv_has ls 7 [(0, .ref b), (1, .ref (ca E 0)), (2, .ref (ra E2 0)), (3, .ref (ca E 59)), (4, .int i)])
    (kend : ∀ (σ1 τ1 : Mem), Rel σ1 τ1 → ∀ (H : Heap) (locs : List Loc) (ls : Array Slot), WI (vC E) (fun q : Nat => s.heap.size ≤ q) s H locs σ1 → WI (vR E2) (fun q : Nat => s.heap.size ≤ q) s H locs τ1 → lv_has ls 7 [(0, .ref b), (1, .ref (ca E 0)), (2, .ref (ra E2 0)), (3, .ref (ca E 59)), (4, .int i)] → W p l e room_1 s m #[Value.ref b] below meth c H locs (cells + 4) (slots + 24) (lw_Z below #[Value.ref b] s) (F0 m 2286 ls [])) : W p l e room_1 s m #[Value.ref b] below meth c H locs cells slots (lw_Z below #[Value.ref b] s) (F0 m 466 ls []) := by
  have hx := X.1
  have hb := X.2.1
  have hbA : ¬ (fun q : Nat => s.heap.size ≤ q) b := Nat.not_le.mpr hbl
  have hcs : cells ≤ room_1.cells ∧ slots ≤ room_1.slots := ⟨Nat.le_trans (Nat.le_add_right _ 4) hc, Nat.le_trans (Nat.le_add_right _ 24) hs⟩
  refine lv_aload_n hx hb dL_law_466 rfl (lv_at hl 1 rfl) ?_
  refine lv_aload_n hx hb dL_law_467 rfl (lv_at hl 0 rfl) ?_
  refine lv_iload hx hb dL_law_468 (lv_at hl 4 rfl) ?_
  refine lv_iconst (v := 1) hx hb dL_law_470 (by decide) ?_
  refine lv_iadd hx hb dL_law_471 ?_
  refine va_sld hx hb hX hbl hbA I.2.2.2.1 hi1 dL_law_472 ?_
  refine lv_aload_n hx hb dL_law_473 rfl (lv_at hl 0 rfl) ?_
  refine lv_iload hx hb dL_law_474 (lv_at hl 4 rfl) ?_
  refine lv_iconst (v := 2) hx hb dL_law_476 (by decide) ?_
  refine lv_iadd hx hb dL_law_477 ?_
  refine va_sld hx hb hX hbl hbA I.2.2.2.1 hi2 dL_law_478 ?_
  refine lv_aload_n hx hb dL_law_479 rfl (lv_at hl 3 rfl) ?_
  obtain ⟨q, σ1, b1, τ1, h1, h2, h3, h4, h5⟩ := hSim σ τ (xs (Int32.toNatClampNeg (i + 1))) (xs (Int32.toNatClampNeg (i + 2))) hR
  refine r2SI (V := vC E) (V' := vR E2) (As := [.ref (ca E 0), .int (xs (Int32.toNatClampNeg (i + 1))), .int (xs (Int32.toNatClampNeg (i + 2))), .ref (ca E 59)]) (rest := []) X I J hd hl (c_L_tenant hlt hn h1) yw_L_tenant tw_1254 ⟨rfl, rfl, Nat.le_of_ble_eq_true rfl, Nat.le_of_ble_eq_true rfl⟩ rfl rfl (Nat.le_of_ble_eq_true rfl) ⟨Nat.le_trans (Nat.add_le_add_left (Nat.le_of_ble_eq_true rfl) cells) hc, Nat.le_trans (Nat.add_le_add_left (Nat.le_of_ble_eq_true rfl) slots) hs⟩ dL_law_480 (fun H locs I J => ?_)
  refine W.widen (k := cells + 4) (n := slots + 24) (Nat.add_le_add_left (Nat.le_of_ble_eq_true rfl) cells) (Nat.add_le_add_left (Nat.le_of_ble_eq_true rfl) slots) ?_
  have hcs : cells + 4 ≤ room_1.cells ∧ slots + 24 ≤ room_1.slots := ⟨hc, hs⟩
  refine lv_istore (lv' := [(5, .int q), (0, .ref b), (1, .ref (ca E 0)), (2, .ref (ra E2 0)), (3, .ref (ca E 59)), (4, .int i)]) hx hb dL_law_483 hl (by decide) rfl (fun ls hl => ?_)
  refine lv_aload_n hx hb dL_law_485 rfl (lv_at hl 3 rfl) ?_
  refine lv_aload_n hx hb dL_law_486 rfl (lv_at hl 1 rfl) ?_
  refine lv_iload hx hb dL_law_487 (lv_at hl 5 rfl) ?_
  refine lv_iconst (v := 1) hx hb dL_law_489 (by decide) ?_
  refine lv_iadd hx hb dL_law_490 ?_
  refine va_sld hx hb hX hbl hbA I.2.2.2.1 hi1 dL_law_491 ?_
  refine lv_aload_n hx hb dL_law_492 rfl (lv_at hl 1 rfl) ?_
  refine lv_iload hx hb dL_law_493 (lv_at hl 5 rfl) ?_
  refine lv_iconst (v := 2) hx hb dL_law_495 (by decide) ?_
  refine lv_iadd hx hb dL_law_496 ?_
  refine va_sld hx hb hX hbl hbA I.2.2.2.1 hi2 dL_law_497 ?_
  refine r2VI (V := vR E2) (V' := vC E) (k := 0) (As := [.int (xs (Int32.toNatClampNeg (i + 1))), .int (xs (Int32.toNatClampNeg (i + 2)))]) (rest := []) X J I hd.symm hl (c_X11_tenant h2) yv_X11_tenant tw_1258 ⟨rfl, rfl, Nat.le_of_ble_eq_true rfl, Nat.le_of_ble_eq_true rfl⟩ (Nat.le_of_ble_eq_true rfl) rfl rfl rfl rfl (Nat.le_of_ble_eq_true rfl) hcs dL_law_498 (fun H locs J I => ?_)
  refine lv_istore (lv' := [(6, .int b1), (5, .int q), (0, .ref b), (1, .ref (ca E 0)), (2, .ref (ra E2 0)), (3, .ref (ca E 59)), (4, .int i)]) hx hb dL_law_501 hl (by decide) rfl (fun ls hl => ?_)
  refine lv_aload_n hx hb dL_law_503 rfl (lv_at hl 4 rfl) ?_
  refine r2VI (V := vR E2) (V' := vC E) (k := 0) (As := []) (rest := []) X J I hd.symm hl (c_X11_thrown (l := l) (E := E2) (σ := τ1) (q := τ1 0 5) rfl) yv_X11_thrown tw_1221 ⟨rfl, rfl, Nat.le_of_ble_eq_true rfl, Nat.le_of_ble_eq_true rfl⟩ (Nat.le_of_ble_eq_true rfl) rfl rfl rfl rfl (Nat.le_of_ble_eq_true rfl) hcs dL_law_504 (fun H locs J I => ?_)
  refine lv_iload hx hb dL_law_507 (lv_at hl 1 rfl) ?_
  refine lv_icmp_eq (tgt := 514) hx hb dL_law_509 (by decide) (fun _ => ?_) (fun c9 => absurd h3 c9)
  refine lv_iload hx hb dL_law_514 (lv_at hl 1 rfl) ?_
  refine lv_if_ne (tgt := 531) hx hb dL_law_516 (by decide) (fun c1 => ?_) (fun c1 => ?_)
  · skip
    refine lv_goto (tgt := 2286) hx hb dL_law_531 (by decide) ?_
    exact kend σ1 τ1 h5 H locs ls I J (lv_sub hl [2, 3, 4, 5, 6] rfl)
  · skip
    refine lv_aload_n hx hb dL_law_519 rfl (lv_at hl 5 rfl) ?_
    refine lv_iconst (v := 0) hx hb dL_law_520 (by decide) ?_
    refine jaldC X I (kC_59 E hn) (show vp_in (0 : Int32) 1 from vp_in_nI (n := 0) (by decide) (by decide)) dL_law_521 ?_
    refine lv_iload hx hb dL_law_522 (lv_at hl 0 rfl) ?_
    refine lv_i2l hx hb dL_law_524 rfl ?_
    refine W.lcmp hx hb dL_law_525 ?_
    refine lv_if_eq (tgt := 531) hx hb dL_law_526 (by decide) (fun _ => ?_) (fun c9 => absurd (show lg_cmp (Int32.toInt64 (σ1 59 0)) (Int32.toInt64 b1) = 0 by rw [h4 c1]; exact lg_self _) c9)
    refine lv_goto (tgt := 2286) hx hb dL_law_531 (by decide) ?_
    exact kend σ1 τ1 h5 H locs ls I J (lv_sub hl [2, 3, 4, 5, 6] rfl)
set_option maxHeartbeats 4000000 in
set_option maxRecDepth 100000 in
theorem lc_quarters {p : Program} {l : Launch} {e : Env} {s : State} {m : MethodId} {below : List Frame} {meth : Method} {c : Code} {b L : Nat} {xs : Nat → Int32} {E : CE} {E2 : RE} {Rel : Mem → Mem → Prop} (hlt : l.stackTraces = false) (hn : 0 < E.2.2.2.2.2.2) (hSim : SIM_quarters Rel) (X : CX p s m meth c #[Value.ref b] cL_law 7 RL (some .boolean)) (hX : va_X b L xs s s.heap) (hbl : b < s.heap.size) (hd : DJ (vC E) (vR E2)) {i : Int32} (hi1 : vp_in (i + 1) L) (hi2 : vp_in (i + 2) L) (hi3 : vp_in (i + 3) L) (hi4 : vp_in (i + 4) L) (hi5 : vp_in (i + 5) L) {σ τ : Mem} (hR : Rel σ τ) {cells slots : Nat} (hc : cells + 4 ≤ 601024) (hs : slots + 24 ≤ 7293034) {H : Heap} {locs : List Loc} (I : WI (vC E) (fun q : Nat => s.heap.size ≤ q) s H locs σ) (J : WI (vR E2) (fun q : Nat => s.heap.size ≤ q) s H locs τ) {ls : Array Slot} (hl : lv_has ls 7 [(0, .ref b), (1, .ref (ca E 0)), (2, .ref (ra E2 0)), (3, .ref (ca E 59)), (4, .int i)])
    (kend : ∀ (σ1 τ1 : Mem), Rel σ1 τ1 → ∀ (H : Heap) (locs : List Loc) (ls : Array Slot), WI (vC E) (fun q : Nat => s.heap.size ≤ q) s H locs σ1 → WI (vR E2) (fun q : Nat => s.heap.size ≤ q) s H locs τ1 → lv_has ls 7 [(0, .ref b), (1, .ref (ca E 0)), (2, .ref (ra E2 0)), (3, .ref (ca E 59)), (4, .int i)] → W p l e room_1 s m #[Value.ref b] below meth c H locs (cells + 4) (slots + 24) (lw_Z below #[Value.ref b] s) (F0 m 2286 ls [])) : W p l e room_1 s m #[Value.ref b] below meth c H locs cells slots (lw_Z below #[Value.ref b] s) (F0 m 534 ls []) := by
  have hx := X.1
  have hb := X.2.1
  have hbA : ¬ (fun q : Nat => s.heap.size ≤ q) b := Nat.not_le.mpr hbl
  have hcs : cells ≤ room_1.cells ∧ slots ≤ room_1.slots := ⟨Nat.le_trans (Nat.le_add_right _ 4) hc, Nat.le_trans (Nat.le_add_right _ 24) hs⟩
  refine lv_aload_n hx hb dL_law_534 rfl (lv_at hl 1 rfl) ?_
  refine lv_aload_n hx hb dL_law_535 rfl (lv_at hl 0 rfl) ?_
  refine lv_iload hx hb dL_law_536 (lv_at hl 4 rfl) ?_
  refine lv_iconst (v := 1) hx hb dL_law_538 (by decide) ?_
  refine lv_iadd hx hb dL_law_539 ?_
  refine va_sld hx hb hX hbl hbA I.2.2.2.1 hi1 dL_law_540 ?_
  obtain ⟨w, σ1, τ1, h1, h2, h5⟩ := hSim σ τ (xs (Int32.toNatClampNeg (i + 1))) hR
  refine r2VI (V := vC E) (V' := vR E2) (k := 0) (As := [.int (xs (Int32.toNatClampNeg (i + 1)))]) (rest := []) X I J hd hl (c_X10_quarters h1) yv_X10_quarters tw_1263 ⟨rfl, rfl, Nat.le_of_ble_eq_true rfl, Nat.le_of_ble_eq_true rfl⟩ (kC_0 E).1 rfl rfl rfl rfl (Nat.le_of_ble_eq_true rfl) hcs dL_law_541 (fun H locs I J => ?_)
  refine lv_aload_n hx hb dL_law_544 rfl (lv_at hl 2 rfl) ?_
  refine lv_aload_n hx hb dL_law_545 rfl (lv_at hl 0 rfl) ?_
  refine lv_iload hx hb dL_law_546 (lv_at hl 4 rfl) ?_
  refine lv_iconst (v := 1) hx hb dL_law_548 (by decide) ?_
  refine lv_iadd hx hb dL_law_549 ?_
  refine va_sld hx hb hX hbl hbA I.2.2.2.1 hi1 dL_law_550 ?_
  refine r2VI (V := vR E2) (V' := vC E) (k := 0) (As := [.int (xs (Int32.toNatClampNeg (i + 1)))]) (rest := [.int w]) X J I hd.symm hl (c_X11_quarters h2) yv_X11_quarters tw_1268 ⟨rfl, rfl, Nat.le_of_ble_eq_true rfl, Nat.le_of_ble_eq_true rfl⟩ (Nat.le_of_ble_eq_true rfl) rfl rfl rfl rfl (Nat.le_of_ble_eq_true rfl) hcs dL_law_551 (fun H locs J I => ?_)
  refine lv_icmp_eq (tgt := 2286) hx hb dL_law_554 (by decide) (fun _ => ?_) (fun c9 => absurd rfl c9)
  refine W.widen (k := cells + 4) (n := slots + 24) (Nat.le_add_right _ _) (Nat.le_add_right _ _) ?_
  exact kend σ1 τ1 h5 H locs ls I J (lv_sub hl [0, 1, 2, 3, 4] rfl)
set_option maxHeartbeats 4000000 in
set_option maxRecDepth 100000 in
theorem lc_buy {p : Program} {l : Launch} {e : Env} {s : State} {m : MethodId} {below : List Frame} {meth : Method} {c : Code} {b L : Nat} {xs : Nat → Int32} {E : CE} {E2 : RE} {Rel : Mem → Mem → Prop} (hlt : l.stackTraces = false) (hn : 0 < E.2.2.2.2.2.2) (hSim : SIM_buy Rel) (X : CX p s m meth c #[Value.ref b] cL_law 7 RL (some .boolean)) (hX : va_X b L xs s s.heap) (hbl : b < s.heap.size) (hd : DJ (vC E) (vR E2)) {i : Int32} (hi1 : vp_in (i + 1) L) (hi2 : vp_in (i + 2) L) (hi3 : vp_in (i + 3) L) (hi4 : vp_in (i + 4) L) (hi5 : vp_in (i + 5) L) {σ τ : Mem} (hR : Rel σ τ) {cells slots : Nat} (hc : cells + 4 ≤ 601024) (hs : slots + 24 ≤ 7293034) {H : Heap} {locs : List Loc} (I : WI (vC E) (fun q : Nat => s.heap.size ≤ q) s H locs σ) (J : WI (vR E2) (fun q : Nat => s.heap.size ≤ q) s H locs τ) {ls : Array Slot} (hl : lv_has ls 7 [(0, .ref b), (1, .ref (ca E 0)), (2, .ref (ra E2 0)), (3, .ref (ca E 59)), (4, .int i)])
    (kend : ∀ (σ1 τ1 : Mem), Rel σ1 τ1 → ∀ (H : Heap) (locs : List Loc) (ls : Array Slot), WI (vC E) (fun q : Nat => s.heap.size ≤ q) s H locs σ1 → WI (vR E2) (fun q : Nat => s.heap.size ≤ q) s H locs τ1 → lv_has ls 7 [(0, .ref b), (1, .ref (ca E 0)), (2, .ref (ra E2 0)), (3, .ref (ca E 59)), (4, .int i)] → W p l e room_1 s m #[Value.ref b] below meth c H locs (cells + 4) (slots + 24) (lw_Z below #[Value.ref b] s) (F0 m 2286 ls [])) : W p l e room_1 s m #[Value.ref b] below meth c H locs cells slots (lw_Z below #[Value.ref b] s) (F0 m 559 ls []) := by
  have hx := X.1
  have hb := X.2.1
  have hbA : ¬ (fun q : Nat => s.heap.size ≤ q) b := Nat.not_le.mpr hbl
  have hcs : cells ≤ room_1.cells ∧ slots ≤ room_1.slots := ⟨Nat.le_trans (Nat.le_add_right _ 4) hc, Nat.le_trans (Nat.le_add_right _ 24) hs⟩
  refine lv_aload_n hx hb dL_law_559 rfl (lv_at hl 1 rfl) ?_
  refine lv_aload_n hx hb dL_law_560 rfl (lv_at hl 0 rfl) ?_
  refine lv_iload hx hb dL_law_561 (lv_at hl 4 rfl) ?_
  refine lv_iconst (v := 1) hx hb dL_law_563 (by decide) ?_
  refine lv_iadd hx hb dL_law_564 ?_
  refine va_sld hx hb hX hbl hbA I.2.2.2.1 hi1 dL_law_565 ?_
  refine lv_aload_n hx hb dL_law_566 rfl (lv_at hl 0 rfl) ?_
  refine lv_iload hx hb dL_law_567 (lv_at hl 4 rfl) ?_
  refine lv_iconst (v := 2) hx hb dL_law_569 (by decide) ?_
  refine lv_iadd hx hb dL_law_570 ?_
  refine va_sld hx hb hX hbl hbA I.2.2.2.1 hi2 dL_law_571 ?_
  refine lv_aload_n hx hb dL_law_572 rfl (lv_at hl 3 rfl) ?_
  obtain ⟨q, σ1, b1, τ1, h1, h2, h3, h4, h5⟩ := hSim σ τ (xs (Int32.toNatClampNeg (i + 1))) (xs (Int32.toNatClampNeg (i + 2))) hR
  refine r2SI (V := vC E) (V' := vR E2) (As := [.ref (ca E 0), .int (xs (Int32.toNatClampNeg (i + 1))), .int (xs (Int32.toNatClampNeg (i + 2))), .ref (ca E 59)]) (rest := []) X I J hd hl (c_L_buy hlt hn h1) yw_L_buy tw_1273 ⟨rfl, rfl, Nat.le_of_ble_eq_true rfl, Nat.le_of_ble_eq_true rfl⟩ rfl rfl (Nat.le_of_ble_eq_true rfl) ⟨Nat.le_trans (Nat.add_le_add_left (Nat.le_of_ble_eq_true rfl) cells) hc, Nat.le_trans (Nat.add_le_add_left (Nat.le_of_ble_eq_true rfl) slots) hs⟩ dL_law_573 (fun H locs I J => ?_)
  refine W.widen (k := cells + 4) (n := slots + 24) (Nat.add_le_add_left (Nat.le_of_ble_eq_true rfl) cells) (Nat.add_le_add_left (Nat.le_of_ble_eq_true rfl) slots) ?_
  have hcs : cells + 4 ≤ room_1.cells ∧ slots + 24 ≤ room_1.slots := ⟨hc, hs⟩
  refine lv_istore (lv' := [(5, .int q), (0, .ref b), (1, .ref (ca E 0)), (2, .ref (ra E2 0)), (3, .ref (ca E 59)), (4, .int i)]) hx hb dL_law_576 hl (by decide) rfl (fun ls hl => ?_)
  refine lv_aload_n hx hb dL_law_578 rfl (lv_at hl 3 rfl) ?_
  refine lv_aload_n hx hb dL_law_579 rfl (lv_at hl 1 rfl) ?_
  refine lv_iload hx hb dL_law_580 (lv_at hl 5 rfl) ?_
  refine lv_iconst (v := 1) hx hb dL_law_582 (by decide) ?_
  refine lv_iadd hx hb dL_law_583 ?_
  refine va_sld hx hb hX hbl hbA I.2.2.2.1 hi1 dL_law_584 ?_
  refine lv_aload_n hx hb dL_law_585 rfl (lv_at hl 1 rfl) ?_
  refine lv_iload hx hb dL_law_586 (lv_at hl 5 rfl) ?_
  refine lv_iconst (v := 2) hx hb dL_law_588 (by decide) ?_
  refine lv_iadd hx hb dL_law_589 ?_
  refine va_sld hx hb hX hbl hbA I.2.2.2.1 hi2 dL_law_590 ?_
  refine r2VI (V := vR E2) (V' := vC E) (k := 0) (As := [.int (xs (Int32.toNatClampNeg (i + 1))), .int (xs (Int32.toNatClampNeg (i + 2)))]) (rest := []) X J I hd.symm hl (c_X11_buy h2) yv_X11_buy tw_1277 ⟨rfl, rfl, Nat.le_of_ble_eq_true rfl, Nat.le_of_ble_eq_true rfl⟩ (Nat.le_of_ble_eq_true rfl) rfl rfl rfl rfl (Nat.le_of_ble_eq_true rfl) hcs dL_law_591 (fun H locs J I => ?_)
  refine lv_istore (lv' := [(6, .int b1), (5, .int q), (0, .ref b), (1, .ref (ca E 0)), (2, .ref (ra E2 0)), (3, .ref (ca E 59)), (4, .int i)]) hx hb dL_law_594 hl (by decide) rfl (fun ls hl => ?_)
  refine lv_aload_n hx hb dL_law_596 rfl (lv_at hl 4 rfl) ?_
  refine r2VI (V := vR E2) (V' := vC E) (k := 0) (As := []) (rest := []) X J I hd.symm hl (c_X11_thrown (l := l) (E := E2) (σ := τ1) (q := τ1 0 5) rfl) yv_X11_thrown tw_1221 ⟨rfl, rfl, Nat.le_of_ble_eq_true rfl, Nat.le_of_ble_eq_true rfl⟩ (Nat.le_of_ble_eq_true rfl) rfl rfl rfl rfl (Nat.le_of_ble_eq_true rfl) hcs dL_law_597 (fun H locs J I => ?_)
  refine lv_iload hx hb dL_law_600 (lv_at hl 1 rfl) ?_
  refine lv_icmp_eq (tgt := 607) hx hb dL_law_602 (by decide) (fun _ => ?_) (fun c9 => absurd h3 c9)
  refine lv_iload hx hb dL_law_607 (lv_at hl 1 rfl) ?_
  refine lv_if_ne (tgt := 624) hx hb dL_law_609 (by decide) (fun c1 => ?_) (fun c1 => ?_)
  · skip
    refine lv_goto (tgt := 2286) hx hb dL_law_624 (by decide) ?_
    exact kend σ1 τ1 h5 H locs ls I J (lv_sub hl [2, 3, 4, 5, 6] rfl)
  · skip
    refine lv_aload_n hx hb dL_law_612 rfl (lv_at hl 5 rfl) ?_
    refine lv_iconst (v := 0) hx hb dL_law_613 (by decide) ?_
    refine jaldC X I (kC_59 E hn) (show vp_in (0 : Int32) 1 from vp_in_nI (n := 0) (by decide) (by decide)) dL_law_614 ?_
    refine lv_iload hx hb dL_law_615 (lv_at hl 0 rfl) ?_
    refine lv_i2l hx hb dL_law_617 rfl ?_
    refine W.lcmp hx hb dL_law_618 ?_
    refine lv_if_eq (tgt := 624) hx hb dL_law_619 (by decide) (fun _ => ?_) (fun c9 => absurd (show lg_cmp (Int32.toInt64 (σ1 59 0)) (Int32.toInt64 b1) = 0 by rw [h4 c1]; exact lg_self _) c9)
    refine lv_goto (tgt := 2286) hx hb dL_law_624 (by decide) ?_
    exact kend σ1 τ1 h5 H locs ls I J (lv_sub hl [2, 3, 4, 5, 6] rfl)
set_option maxHeartbeats 4000000 in
set_option maxRecDepth 100000 in
theorem lc_cats {p : Program} {l : Launch} {e : Env} {s : State} {m : MethodId} {below : List Frame} {meth : Method} {c : Code} {b L : Nat} {xs : Nat → Int32} {E : CE} {E2 : RE} {Rel : Mem → Mem → Prop} (hlt : l.stackTraces = false) (hn : 0 < E.2.2.2.2.2.2) (hSim : SIM_cats Rel) (X : CX p s m meth c #[Value.ref b] cL_law 7 RL (some .boolean)) (hX : va_X b L xs s s.heap) (hbl : b < s.heap.size) (hd : DJ (vC E) (vR E2)) {i : Int32} (hi1 : vp_in (i + 1) L) (hi2 : vp_in (i + 2) L) (hi3 : vp_in (i + 3) L) (hi4 : vp_in (i + 4) L) (hi5 : vp_in (i + 5) L) {σ τ : Mem} (hR : Rel σ τ) {cells slots : Nat} (hc : cells + 4 ≤ 601024) (hs : slots + 24 ≤ 7293034) {H : Heap} {locs : List Loc} (I : WI (vC E) (fun q : Nat => s.heap.size ≤ q) s H locs σ) (J : WI (vR E2) (fun q : Nat => s.heap.size ≤ q) s H locs τ) {ls : Array Slot} (hl : lv_has ls 7 [(0, .ref b), (1, .ref (ca E 0)), (2, .ref (ra E2 0)), (3, .ref (ca E 59)), (4, .int i)])
    (kend : ∀ (σ1 τ1 : Mem), Rel σ1 τ1 → ∀ (H : Heap) (locs : List Loc) (ls : Array Slot), WI (vC E) (fun q : Nat => s.heap.size ≤ q) s H locs σ1 → WI (vR E2) (fun q : Nat => s.heap.size ≤ q) s H locs τ1 → lv_has ls 7 [(0, .ref b), (1, .ref (ca E 0)), (2, .ref (ra E2 0)), (3, .ref (ca E 59)), (4, .int i)] → W p l e room_1 s m #[Value.ref b] below meth c H locs (cells + 4) (slots + 24) (lw_Z below #[Value.ref b] s) (F0 m 2286 ls [])) : W p l e room_1 s m #[Value.ref b] below meth c H locs cells slots (lw_Z below #[Value.ref b] s) (F0 m 627 ls []) := by
  have hx := X.1
  have hb := X.2.1
  have hbA : ¬ (fun q : Nat => s.heap.size ≤ q) b := Nat.not_le.mpr hbl
  have hcs : cells ≤ room_1.cells ∧ slots ≤ room_1.slots := ⟨Nat.le_trans (Nat.le_add_right _ 4) hc, Nat.le_trans (Nat.le_add_right _ 24) hs⟩
  refine lv_aload_n hx hb dL_law_627 rfl (lv_at hl 1 rfl) ?_
  refine lv_aload_n hx hb dL_law_628 rfl (lv_at hl 0 rfl) ?_
  refine lv_iload hx hb dL_law_629 (lv_at hl 4 rfl) ?_
  refine lv_iconst (v := 1) hx hb dL_law_631 (by decide) ?_
  refine lv_iadd hx hb dL_law_632 ?_
  refine va_sld hx hb hX hbl hbA I.2.2.2.1 hi1 dL_law_633 ?_
  refine lv_aload_n hx hb dL_law_634 rfl (lv_at hl 0 rfl) ?_
  refine lv_iload hx hb dL_law_635 (lv_at hl 4 rfl) ?_
  refine lv_iconst (v := 2) hx hb dL_law_637 (by decide) ?_
  refine lv_iadd hx hb dL_law_638 ?_
  refine va_sld hx hb hX hbl hbA I.2.2.2.1 hi2 dL_law_639 ?_
  refine lv_aload_n hx hb dL_law_640 rfl (lv_at hl 3 rfl) ?_
  obtain ⟨q, σ1, b1, τ1, h1, h2, h3, h4, h5⟩ := hSim σ τ (xs (Int32.toNatClampNeg (i + 1))) (xs (Int32.toNatClampNeg (i + 2))) hR
  refine r2SI (V := vC E) (V' := vR E2) (As := [.ref (ca E 0), .int (xs (Int32.toNatClampNeg (i + 1))), .int (xs (Int32.toNatClampNeg (i + 2))), .ref (ca E 59)]) (rest := []) X I J hd hl (c_L_cats hlt hn h1) yw_L_cats tw_1282 ⟨rfl, rfl, Nat.le_of_ble_eq_true rfl, Nat.le_of_ble_eq_true rfl⟩ rfl rfl (Nat.le_of_ble_eq_true rfl) ⟨Nat.le_trans (Nat.add_le_add_left (Nat.le_of_ble_eq_true rfl) cells) hc, Nat.le_trans (Nat.add_le_add_left (Nat.le_of_ble_eq_true rfl) slots) hs⟩ dL_law_641 (fun H locs I J => ?_)
  refine W.widen (k := cells + 4) (n := slots + 24) (Nat.add_le_add_left (Nat.le_of_ble_eq_true rfl) cells) (Nat.add_le_add_left (Nat.le_of_ble_eq_true rfl) slots) ?_
  have hcs : cells + 4 ≤ room_1.cells ∧ slots + 24 ≤ room_1.slots := ⟨hc, hs⟩
  refine lv_istore (lv' := [(5, .int q), (0, .ref b), (1, .ref (ca E 0)), (2, .ref (ra E2 0)), (3, .ref (ca E 59)), (4, .int i)]) hx hb dL_law_644 hl (by decide) rfl (fun ls hl => ?_)
  refine lv_aload_n hx hb dL_law_646 rfl (lv_at hl 3 rfl) ?_
  refine lv_aload_n hx hb dL_law_647 rfl (lv_at hl 1 rfl) ?_
  refine lv_iload hx hb dL_law_648 (lv_at hl 5 rfl) ?_
  refine lv_iconst (v := 1) hx hb dL_law_650 (by decide) ?_
  refine lv_iadd hx hb dL_law_651 ?_
  refine va_sld hx hb hX hbl hbA I.2.2.2.1 hi1 dL_law_652 ?_
  refine lv_aload_n hx hb dL_law_653 rfl (lv_at hl 1 rfl) ?_
  refine lv_iload hx hb dL_law_654 (lv_at hl 5 rfl) ?_
  refine lv_iconst (v := 2) hx hb dL_law_656 (by decide) ?_
  refine lv_iadd hx hb dL_law_657 ?_
  refine va_sld hx hb hX hbl hbA I.2.2.2.1 hi2 dL_law_658 ?_
  refine r2VI (V := vR E2) (V' := vC E) (k := 0) (As := [.int (xs (Int32.toNatClampNeg (i + 1))), .int (xs (Int32.toNatClampNeg (i + 2)))]) (rest := []) X J I hd.symm hl (c_X11_cats h2) yv_X11_cats tw_1286 ⟨rfl, rfl, Nat.le_of_ble_eq_true rfl, Nat.le_of_ble_eq_true rfl⟩ (Nat.le_of_ble_eq_true rfl) rfl rfl rfl rfl (Nat.le_of_ble_eq_true rfl) hcs dL_law_659 (fun H locs J I => ?_)
  refine lv_istore (lv' := [(6, .int b1), (5, .int q), (0, .ref b), (1, .ref (ca E 0)), (2, .ref (ra E2 0)), (3, .ref (ca E 59)), (4, .int i)]) hx hb dL_law_662 hl (by decide) rfl (fun ls hl => ?_)
  refine lv_aload_n hx hb dL_law_664 rfl (lv_at hl 4 rfl) ?_
  refine r2VI (V := vR E2) (V' := vC E) (k := 0) (As := []) (rest := []) X J I hd.symm hl (c_X11_thrown (l := l) (E := E2) (σ := τ1) (q := τ1 0 5) rfl) yv_X11_thrown tw_1221 ⟨rfl, rfl, Nat.le_of_ble_eq_true rfl, Nat.le_of_ble_eq_true rfl⟩ (Nat.le_of_ble_eq_true rfl) rfl rfl rfl rfl (Nat.le_of_ble_eq_true rfl) hcs dL_law_665 (fun H locs J I => ?_)
  refine lv_iload hx hb dL_law_668 (lv_at hl 1 rfl) ?_
  refine lv_icmp_eq (tgt := 675) hx hb dL_law_670 (by decide) (fun _ => ?_) (fun c9 => absurd h3 c9)
  refine lv_iload hx hb dL_law_675 (lv_at hl 1 rfl) ?_
  refine lv_if_ne (tgt := 692) hx hb dL_law_677 (by decide) (fun c1 => ?_) (fun c1 => ?_)
  · skip
    refine lv_goto (tgt := 2286) hx hb dL_law_692 (by decide) ?_
    exact kend σ1 τ1 h5 H locs ls I J (lv_sub hl [2, 3, 4, 5, 6] rfl)
  · skip
    refine lv_aload_n hx hb dL_law_680 rfl (lv_at hl 5 rfl) ?_
    refine lv_iconst (v := 0) hx hb dL_law_681 (by decide) ?_
    refine jaldC X I (kC_59 E hn) (show vp_in (0 : Int32) 1 from vp_in_nI (n := 0) (by decide) (by decide)) dL_law_682 ?_
    refine lv_iload hx hb dL_law_683 (lv_at hl 0 rfl) ?_
    refine lv_i2l hx hb dL_law_685 rfl ?_
    refine W.lcmp hx hb dL_law_686 ?_
    refine lv_if_eq (tgt := 692) hx hb dL_law_687 (by decide) (fun _ => ?_) (fun c9 => absurd (show lg_cmp (Int32.toInt64 (σ1 59 0)) (Int32.toInt64 b1) = 0 by rw [h4 c1]; exact lg_self _) c9)
    refine lv_goto (tgt := 2286) hx hb dL_law_692 (by decide) ?_
    exact kend σ1 τ1 h5 H locs ls I J (lv_sub hl [2, 3, 4, 5, 6] rfl)
set_option maxHeartbeats 4000000 in
set_option maxRecDepth 100000 in
theorem lc_lead {p : Program} {l : Launch} {e : Env} {s : State} {m : MethodId} {below : List Frame} {meth : Method} {c : Code} {b L : Nat} {xs : Nat → Int32} {E : CE} {E2 : RE} {Rel : Mem → Mem → Prop} (hlt : l.stackTraces = false) (hn : 0 < E.2.2.2.2.2.2) (hSim : SIM_lead Rel) (X : CX p s m meth c #[Value.ref b] cL_law 7 RL (some .boolean)) (hX : va_X b L xs s s.heap) (hbl : b < s.heap.size) (hd : DJ (vC E) (vR E2)) {i : Int32} (hi1 : vp_in (i + 1) L) (hi2 : vp_in (i + 2) L) (hi3 : vp_in (i + 3) L) (hi4 : vp_in (i + 4) L) (hi5 : vp_in (i + 5) L) {σ τ : Mem} (hR : Rel σ τ) {cells slots : Nat} (hc : cells + 4 ≤ 601024) (hs : slots + 24 ≤ 7293034) {H : Heap} {locs : List Loc} (I : WI (vC E) (fun q : Nat => s.heap.size ≤ q) s H locs σ) (J : WI (vR E2) (fun q : Nat => s.heap.size ≤ q) s H locs τ) {ls : Array Slot} (hl : lv_has ls 7 [(0, .ref b), (1, .ref (ca E 0)), (2, .ref (ra E2 0)), (3, .ref (ca E 59)), (4, .int i)])
    (kend : ∀ (σ1 τ1 : Mem), Rel σ1 τ1 → ∀ (H : Heap) (locs : List Loc) (ls : Array Slot), WI (vC E) (fun q : Nat => s.heap.size ≤ q) s H locs σ1 → WI (vR E2) (fun q : Nat => s.heap.size ≤ q) s H locs τ1 → lv_has ls 7 [(0, .ref b), (1, .ref (ca E 0)), (2, .ref (ra E2 0)), (3, .ref (ca E 59)), (4, .int i)] → W p l e room_1 s m #[Value.ref b] below meth c H locs (cells + 4) (slots + 24) (lw_Z below #[Value.ref b] s) (F0 m 2286 ls [])) : W p l e room_1 s m #[Value.ref b] below meth c H locs cells slots (lw_Z below #[Value.ref b] s) (F0 m 695 ls []) := by
  have hx := X.1
  have hb := X.2.1
  have hbA : ¬ (fun q : Nat => s.heap.size ≤ q) b := Nat.not_le.mpr hbl
  have hcs : cells ≤ room_1.cells ∧ slots ≤ room_1.slots := ⟨Nat.le_trans (Nat.le_add_right _ 4) hc, Nat.le_trans (Nat.le_add_right _ 24) hs⟩
  refine lv_aload_n hx hb dL_law_695 rfl (lv_at hl 1 rfl) ?_
  refine lv_aload_n hx hb dL_law_696 rfl (lv_at hl 0 rfl) ?_
  refine lv_iload hx hb dL_law_697 (lv_at hl 4 rfl) ?_
  refine lv_iconst (v := 1) hx hb dL_law_699 (by decide) ?_
  refine lv_iadd hx hb dL_law_700 ?_
  refine va_sld hx hb hX hbl hbA I.2.2.2.1 hi1 dL_law_701 ?_
  refine lv_aload_n hx hb dL_law_702 rfl (lv_at hl 0 rfl) ?_
  refine lv_iload hx hb dL_law_703 (lv_at hl 4 rfl) ?_
  refine lv_iconst (v := 2) hx hb dL_law_705 (by decide) ?_
  refine lv_iadd hx hb dL_law_706 ?_
  refine va_sld hx hb hX hbl hbA I.2.2.2.1 hi2 dL_law_707 ?_
  refine lv_if_eq (tgt := 715) hx hb dL_law_708 (by decide) (fun c1 => ?_) (fun c1 => ?_)
  · skip
    refine lv_iconst (v := 0) hx hb dL_law_715 (by decide) ?_
    refine lv_aload_n hx hb dL_law_716 rfl (lv_at hl 3 rfl) ?_
    obtain ⟨q, σ1, b1, τ1, h1, h2, h3, h4, h5, h6⟩ := hSim σ τ (xs (Int32.toNatClampNeg (i + 1))) (0 : Int32) hR (by decide)
    refine r2SI (V := vC E) (V' := vR E2) (As := [.ref (ca E 0), .int (xs (Int32.toNatClampNeg (i + 1))), .int (0 : Int32), .ref (ca E 59)]) (rest := []) X I J hd hl (c_L_lead hlt hn h1) yw_L_lead tw_1291 ⟨rfl, rfl, Nat.le_of_ble_eq_true rfl, Nat.le_of_ble_eq_true rfl⟩ rfl rfl (Nat.le_of_ble_eq_true rfl) ⟨Nat.le_trans (Nat.add_le_add_left (Nat.le_of_ble_eq_true rfl) cells) hc, Nat.le_trans (Nat.add_le_add_left (Nat.le_of_ble_eq_true rfl) slots) hs⟩ dL_law_717 (fun H locs I J => ?_)
    refine W.widen (k := cells + 4) (n := slots + 24) (Nat.add_le_add_left (Nat.le_of_ble_eq_true rfl) cells) (Nat.add_le_add_left (Nat.le_of_ble_eq_true rfl) slots) ?_
    have hcs : cells + 4 ≤ room_1.cells ∧ slots + 24 ≤ room_1.slots := ⟨hc, hs⟩
    refine lv_istore (lv' := [(5, .int q), (0, .ref b), (1, .ref (ca E 0)), (2, .ref (ra E2 0)), (3, .ref (ca E 59)), (4, .int i)]) hx hb dL_law_720 hl (by decide) rfl (fun ls hl => ?_)
    refine lv_aload_n hx hb dL_law_722 rfl (lv_at hl 3 rfl) ?_
    refine lv_aload_n hx hb dL_law_723 rfl (lv_at hl 1 rfl) ?_
    refine lv_iload hx hb dL_law_724 (lv_at hl 5 rfl) ?_
    refine lv_iconst (v := 1) hx hb dL_law_726 (by decide) ?_
    refine lv_iadd hx hb dL_law_727 ?_
    refine va_sld hx hb hX hbl hbA I.2.2.2.1 hi1 dL_law_728 ?_
    refine lv_aload_n hx hb dL_law_729 rfl (lv_at hl 1 rfl) ?_
    refine lv_iload hx hb dL_law_730 (lv_at hl 5 rfl) ?_
    refine lv_iconst (v := 2) hx hb dL_law_732 (by decide) ?_
    refine lv_iadd hx hb dL_law_733 ?_
    refine va_sld hx hb hX hbl hbA I.2.2.2.1 hi2 dL_law_734 ?_
    refine lv_if_eq (tgt := 742) hx hb dL_law_735 (by decide) (fun _ => ?_) (fun c9 => absurd c1 c9)
    refine lv_iconst (v := 0) hx hb dL_law_742 (by decide) ?_
    refine r2VI (V := vR E2) (V' := vC E) (k := 0) (As := [.int (xs (Int32.toNatClampNeg (i + 1))), .int (0 : Int32)]) (rest := []) X J I hd.symm hl (c_X11_lead h2) yv_X11_lead tw_1295 ⟨rfl, rfl, Nat.le_of_ble_eq_true rfl, Nat.le_of_ble_eq_true rfl⟩ (Nat.le_of_ble_eq_true rfl) rfl rfl rfl rfl (Nat.le_of_ble_eq_true rfl) hcs dL_law_743 (fun H locs J I => ?_)
    refine lv_istore (lv' := [(6, .int b1), (5, .int q), (0, .ref b), (1, .ref (ca E 0)), (2, .ref (ra E2 0)), (3, .ref (ca E 59)), (4, .int i)]) hx hb dL_law_746 hl (by decide) rfl (fun ls hl => ?_)
    refine lv_aload_n hx hb dL_law_748 rfl (lv_at hl 4 rfl) ?_
    refine r2VI (V := vR E2) (V' := vC E) (k := 0) (As := []) (rest := []) X J I hd.symm hl (c_X11_thrown (l := l) (E := E2) (σ := τ1) (q := τ1 0 5) rfl) yv_X11_thrown tw_1221 ⟨rfl, rfl, Nat.le_of_ble_eq_true rfl, Nat.le_of_ble_eq_true rfl⟩ (Nat.le_of_ble_eq_true rfl) rfl rfl rfl rfl (Nat.le_of_ble_eq_true rfl) hcs dL_law_749 (fun H locs J I => ?_)
    refine lv_iload hx hb dL_law_752 (lv_at hl 1 rfl) ?_
    refine lv_icmp_eq (tgt := 759) hx hb dL_law_754 (by decide) (fun _ => ?_) (fun c9 => absurd h3 c9)
    refine lv_iload hx hb dL_law_759 (lv_at hl 1 rfl) ?_
    refine lv_if_ne (tgt := 783) hx hb dL_law_761 (by decide) (fun c2 => ?_) (fun c2 => ?_)
    · skip
      refine lv_goto (tgt := 2286) hx hb dL_law_783 (by decide) ?_
      exact kend σ1 τ1 h5 H locs ls I J (lv_sub hl [2, 3, 4, 5, 6] rfl)
    · skip
      refine lv_aload_n hx hb dL_law_764 rfl (lv_at hl 5 rfl) ?_
      refine lv_iconst (v := 0) hx hb dL_law_765 (by decide) ?_
      refine jaldC X I (kC_59 E hn) (show vp_in (0 : Int32) 1 from vp_in_nI (n := 0) (by decide) (by decide)) dL_law_766 ?_
      refine lv_iload hx hb dL_law_767 (lv_at hl 0 rfl) ?_
      refine lv_if_eq (tgt := 776) hx hb dL_law_769 (by decide) (fun c3 => ?_) (fun c3 => ?_)
      · skip
        refine lv_lconst (v := 0) hx hb dL_law_776 (by decide) ?_
        refine W.lcmp hx hb dL_law_777 ?_
        refine lv_if_eq (tgt := 783) hx hb dL_law_778 (by decide) (fun _ => ?_) (fun c9 => absurd (show lg_cmp (Int32.toInt64 (σ1 59 0)) 0 = 0 by rw [h4 c2]; rw [c3]; exact lg_self _) c9)
        refine lv_goto (tgt := 2286) hx hb dL_law_783 (by decide) ?_
        exact kend σ1 τ1 h5 H locs ls I J (lv_sub hl [2, 3, 4, 5, 6] rfl)
      · skip
        refine lv_lconst (v := 1) hx hb dL_law_772 (by decide) ?_
        refine lv_goto (tgt := 777) hx hb dL_law_773 (by decide) ?_
        refine W.lcmp hx hb dL_law_777 ?_
        refine lv_if_eq (tgt := 783) hx hb dL_law_778 (by decide) (fun _ => ?_) (fun c9 => absurd (show lg_cmp (Int32.toInt64 (σ1 59 0)) 1 = 0 by rw [h4 c2]; rw [(h6.resolve_left c3)]; exact lg_self _) c9)
        refine lv_goto (tgt := 2286) hx hb dL_law_783 (by decide) ?_
        exact kend σ1 τ1 h5 H locs ls I J (lv_sub hl [2, 3, 4, 5, 6] rfl)
  · skip
    refine lv_iconst (v := 1) hx hb dL_law_711 (by decide) ?_
    refine lv_goto (tgt := 716) hx hb dL_law_712 (by decide) ?_
    refine lv_aload_n hx hb dL_law_716 rfl (lv_at hl 3 rfl) ?_
    obtain ⟨q, σ1, b1, τ1, h1, h2, h3, h4, h5, h6⟩ := hSim σ τ (xs (Int32.toNatClampNeg (i + 1))) (1 : Int32) hR (by decide)
    refine r2SI (V := vC E) (V' := vR E2) (As := [.ref (ca E 0), .int (xs (Int32.toNatClampNeg (i + 1))), .int (1 : Int32), .ref (ca E 59)]) (rest := []) X I J hd hl (c_L_lead hlt hn h1) yw_L_lead tw_1291 ⟨rfl, rfl, Nat.le_of_ble_eq_true rfl, Nat.le_of_ble_eq_true rfl⟩ rfl rfl (Nat.le_of_ble_eq_true rfl) ⟨Nat.le_trans (Nat.add_le_add_left (Nat.le_of_ble_eq_true rfl) cells) hc, Nat.le_trans (Nat.add_le_add_left (Nat.le_of_ble_eq_true rfl) slots) hs⟩ dL_law_717 (fun H locs I J => ?_)
    refine W.widen (k := cells + 4) (n := slots + 24) (Nat.add_le_add_left (Nat.le_of_ble_eq_true rfl) cells) (Nat.add_le_add_left (Nat.le_of_ble_eq_true rfl) slots) ?_
    have hcs : cells + 4 ≤ room_1.cells ∧ slots + 24 ≤ room_1.slots := ⟨hc, hs⟩
    refine lv_istore (lv' := [(5, .int q), (0, .ref b), (1, .ref (ca E 0)), (2, .ref (ra E2 0)), (3, .ref (ca E 59)), (4, .int i)]) hx hb dL_law_720 hl (by decide) rfl (fun ls hl => ?_)
    refine lv_aload_n hx hb dL_law_722 rfl (lv_at hl 3 rfl) ?_
    refine lv_aload_n hx hb dL_law_723 rfl (lv_at hl 1 rfl) ?_
    refine lv_iload hx hb dL_law_724 (lv_at hl 5 rfl) ?_
    refine lv_iconst (v := 1) hx hb dL_law_726 (by decide) ?_
    refine lv_iadd hx hb dL_law_727 ?_
    refine va_sld hx hb hX hbl hbA I.2.2.2.1 hi1 dL_law_728 ?_
    refine lv_aload_n hx hb dL_law_729 rfl (lv_at hl 1 rfl) ?_
    refine lv_iload hx hb dL_law_730 (lv_at hl 5 rfl) ?_
    refine lv_iconst (v := 2) hx hb dL_law_732 (by decide) ?_
    refine lv_iadd hx hb dL_law_733 ?_
    refine va_sld hx hb hX hbl hbA I.2.2.2.1 hi2 dL_law_734 ?_
    refine lv_if_eq (tgt := 742) hx hb dL_law_735 (by decide) (fun c9 => absurd c9 c1) (fun _ => ?_)
    refine lv_iconst (v := 1) hx hb dL_law_738 (by decide) ?_
    refine lv_goto (tgt := 743) hx hb dL_law_739 (by decide) ?_
    refine r2VI (V := vR E2) (V' := vC E) (k := 0) (As := [.int (xs (Int32.toNatClampNeg (i + 1))), .int (1 : Int32)]) (rest := []) X J I hd.symm hl (c_X11_lead h2) yv_X11_lead tw_1295 ⟨rfl, rfl, Nat.le_of_ble_eq_true rfl, Nat.le_of_ble_eq_true rfl⟩ (Nat.le_of_ble_eq_true rfl) rfl rfl rfl rfl (Nat.le_of_ble_eq_true rfl) hcs dL_law_743 (fun H locs J I => ?_)
    refine lv_istore (lv' := [(6, .int b1), (5, .int q), (0, .ref b), (1, .ref (ca E 0)), (2, .ref (ra E2 0)), (3, .ref (ca E 59)), (4, .int i)]) hx hb dL_law_746 hl (by decide) rfl (fun ls hl => ?_)
    refine lv_aload_n hx hb dL_law_748 rfl (lv_at hl 4 rfl) ?_
    refine r2VI (V := vR E2) (V' := vC E) (k := 0) (As := []) (rest := []) X J I hd.symm hl (c_X11_thrown (l := l) (E := E2) (σ := τ1) (q := τ1 0 5) rfl) yv_X11_thrown tw_1221 ⟨rfl, rfl, Nat.le_of_ble_eq_true rfl, Nat.le_of_ble_eq_true rfl⟩ (Nat.le_of_ble_eq_true rfl) rfl rfl rfl rfl (Nat.le_of_ble_eq_true rfl) hcs dL_law_749 (fun H locs J I => ?_)
    refine lv_iload hx hb dL_law_752 (lv_at hl 1 rfl) ?_
    refine lv_icmp_eq (tgt := 759) hx hb dL_law_754 (by decide) (fun _ => ?_) (fun c9 => absurd h3 c9)
    refine lv_iload hx hb dL_law_759 (lv_at hl 1 rfl) ?_
    refine lv_if_ne (tgt := 783) hx hb dL_law_761 (by decide) (fun c4 => ?_) (fun c4 => ?_)
    · skip
      refine lv_goto (tgt := 2286) hx hb dL_law_783 (by decide) ?_
      exact kend σ1 τ1 h5 H locs ls I J (lv_sub hl [2, 3, 4, 5, 6] rfl)
    · skip
      refine lv_aload_n hx hb dL_law_764 rfl (lv_at hl 5 rfl) ?_
      refine lv_iconst (v := 0) hx hb dL_law_765 (by decide) ?_
      refine jaldC X I (kC_59 E hn) (show vp_in (0 : Int32) 1 from vp_in_nI (n := 0) (by decide) (by decide)) dL_law_766 ?_
      refine lv_iload hx hb dL_law_767 (lv_at hl 0 rfl) ?_
      refine lv_if_eq (tgt := 776) hx hb dL_law_769 (by decide) (fun c5 => ?_) (fun c5 => ?_)
      · skip
        refine lv_lconst (v := 0) hx hb dL_law_776 (by decide) ?_
        refine W.lcmp hx hb dL_law_777 ?_
        refine lv_if_eq (tgt := 783) hx hb dL_law_778 (by decide) (fun _ => ?_) (fun c9 => absurd (show lg_cmp (Int32.toInt64 (σ1 59 0)) 0 = 0 by rw [h4 c4]; rw [c5]; exact lg_self _) c9)
        refine lv_goto (tgt := 2286) hx hb dL_law_783 (by decide) ?_
        exact kend σ1 τ1 h5 H locs ls I J (lv_sub hl [2, 3, 4, 5, 6] rfl)
      · skip
        refine lv_lconst (v := 1) hx hb dL_law_772 (by decide) ?_
        refine lv_goto (tgt := 777) hx hb dL_law_773 (by decide) ?_
        refine W.lcmp hx hb dL_law_777 ?_
        refine lv_if_eq (tgt := 783) hx hb dL_law_778 (by decide) (fun _ => ?_) (fun c9 => absurd (show lg_cmp (Int32.toInt64 (σ1 59 0)) 1 = 0 by rw [h4 c4]; rw [(h6.resolve_left c5)]; exact lg_self _) c9)
        refine lv_goto (tgt := 2286) hx hb dL_law_783 (by decide) ?_
        exact kend σ1 τ1 h5 H locs ls I J (lv_sub hl [2, 3, 4, 5, 6] rfl)
set_option maxHeartbeats 4000000 in
set_option maxRecDepth 100000 in
theorem lc_temper {p : Program} {l : Launch} {e : Env} {s : State} {m : MethodId} {below : List Frame} {meth : Method} {c : Code} {b L : Nat} {xs : Nat → Int32} {E : CE} {E2 : RE} {Rel : Mem → Mem → Prop} (hlt : l.stackTraces = false) (hn : 0 < E.2.2.2.2.2.2) (hSim : SIM_temper Rel) (X : CX p s m meth c #[Value.ref b] cL_law 7 RL (some .boolean)) (hX : va_X b L xs s s.heap) (hbl : b < s.heap.size) (hd : DJ (vC E) (vR E2)) {i : Int32} (hi1 : vp_in (i + 1) L) (hi2 : vp_in (i + 2) L) (hi3 : vp_in (i + 3) L) (hi4 : vp_in (i + 4) L) (hi5 : vp_in (i + 5) L) {σ τ : Mem} (hR : Rel σ τ) {cells slots : Nat} (hc : cells + 4 ≤ 601024) (hs : slots + 24 ≤ 7293034) {H : Heap} {locs : List Loc} (I : WI (vC E) (fun q : Nat => s.heap.size ≤ q) s H locs σ) (J : WI (vR E2) (fun q : Nat => s.heap.size ≤ q) s H locs τ) {ls : Array Slot} (hl : lv_has ls 7 [(0, .ref b), (1, .ref (ca E 0)), (2, .ref (ra E2 0)), (3, .ref (ca E 59)), (4, .int i)])
    (kend : ∀ (σ1 τ1 : Mem), Rel σ1 τ1 → ∀ (H : Heap) (locs : List Loc) (ls : Array Slot), WI (vC E) (fun q : Nat => s.heap.size ≤ q) s H locs σ1 → WI (vR E2) (fun q : Nat => s.heap.size ≤ q) s H locs τ1 → lv_has ls 7 [(0, .ref b), (1, .ref (ca E 0)), (2, .ref (ra E2 0)), (3, .ref (ca E 59)), (4, .int i)] → W p l e room_1 s m #[Value.ref b] below meth c H locs (cells + 4) (slots + 24) (lw_Z below #[Value.ref b] s) (F0 m 2286 ls [])) : W p l e room_1 s m #[Value.ref b] below meth c H locs cells slots (lw_Z below #[Value.ref b] s) (F0 m 786 ls []) := by
  have hx := X.1
  have hb := X.2.1
  have hbA : ¬ (fun q : Nat => s.heap.size ≤ q) b := Nat.not_le.mpr hbl
  have hcs : cells ≤ room_1.cells ∧ slots ≤ room_1.slots := ⟨Nat.le_trans (Nat.le_add_right _ 4) hc, Nat.le_trans (Nat.le_add_right _ 24) hs⟩
  refine lv_aload_n hx hb dL_law_786 rfl (lv_at hl 1 rfl) ?_
  refine lv_aload_n hx hb dL_law_787 rfl (lv_at hl 0 rfl) ?_
  refine lv_iload hx hb dL_law_788 (lv_at hl 4 rfl) ?_
  refine lv_iconst (v := 1) hx hb dL_law_790 (by decide) ?_
  refine lv_iadd hx hb dL_law_791 ?_
  refine va_sld hx hb hX hbl hbA I.2.2.2.1 hi1 dL_law_792 ?_
  refine lv_aload_n hx hb dL_law_793 rfl (lv_at hl 0 rfl) ?_
  refine lv_iload hx hb dL_law_794 (lv_at hl 4 rfl) ?_
  refine lv_iconst (v := 2) hx hb dL_law_796 (by decide) ?_
  refine lv_iadd hx hb dL_law_797 ?_
  refine va_sld hx hb hX hbl hbA I.2.2.2.1 hi2 dL_law_798 ?_
  refine lv_aload_n hx hb dL_law_799 rfl (lv_at hl 3 rfl) ?_
  obtain ⟨q, σ1, b1, τ1, h1, h2, h3, h4, h5⟩ := hSim σ τ (xs (Int32.toNatClampNeg (i + 1))) (xs (Int32.toNatClampNeg (i + 2))) hR
  refine r2SI (V := vC E) (V' := vR E2) (As := [.ref (ca E 0), .int (xs (Int32.toNatClampNeg (i + 1))), .int (xs (Int32.toNatClampNeg (i + 2))), .ref (ca E 59)]) (rest := []) X I J hd hl (c_L_temper hlt hn h1) yw_L_temper tw_1300 ⟨rfl, rfl, Nat.le_of_ble_eq_true rfl, Nat.le_of_ble_eq_true rfl⟩ rfl rfl (Nat.le_of_ble_eq_true rfl) ⟨Nat.le_trans (Nat.add_le_add_left (Nat.le_of_ble_eq_true rfl) cells) hc, Nat.le_trans (Nat.add_le_add_left (Nat.le_of_ble_eq_true rfl) slots) hs⟩ dL_law_800 (fun H locs I J => ?_)
  refine W.widen (k := cells + 4) (n := slots + 24) (Nat.add_le_add_left (Nat.le_of_ble_eq_true rfl) cells) (Nat.add_le_add_left (Nat.le_of_ble_eq_true rfl) slots) ?_
  have hcs : cells + 4 ≤ room_1.cells ∧ slots + 24 ≤ room_1.slots := ⟨hc, hs⟩
  refine lv_istore (lv' := [(5, .int q), (0, .ref b), (1, .ref (ca E 0)), (2, .ref (ra E2 0)), (3, .ref (ca E 59)), (4, .int i)]) hx hb dL_law_803 hl (by decide) rfl (fun ls hl => ?_)
  refine lv_aload_n hx hb dL_law_805 rfl (lv_at hl 3 rfl) ?_
  refine lv_aload_n hx hb dL_law_806 rfl (lv_at hl 1 rfl) ?_
  refine lv_iload hx hb dL_law_807 (lv_at hl 5 rfl) ?_
  refine lv_iconst (v := 1) hx hb dL_law_809 (by decide) ?_
  refine lv_iadd hx hb dL_law_810 ?_
  refine va_sld hx hb hX hbl hbA I.2.2.2.1 hi1 dL_law_811 ?_
  refine lv_aload_n hx hb dL_law_812 rfl (lv_at hl 1 rfl) ?_
  refine lv_iload hx hb dL_law_813 (lv_at hl 5 rfl) ?_
  refine lv_iconst (v := 2) hx hb dL_law_815 (by decide) ?_
  refine lv_iadd hx hb dL_law_816 ?_
  refine va_sld hx hb hX hbl hbA I.2.2.2.1 hi2 dL_law_817 ?_
  refine r2VI (V := vR E2) (V' := vC E) (k := 0) (As := [.int (xs (Int32.toNatClampNeg (i + 1))), .int (xs (Int32.toNatClampNeg (i + 2)))]) (rest := []) X J I hd.symm hl (c_X11_temper h2) yv_X11_temper tw_1304 ⟨rfl, rfl, Nat.le_of_ble_eq_true rfl, Nat.le_of_ble_eq_true rfl⟩ (Nat.le_of_ble_eq_true rfl) rfl rfl rfl rfl (Nat.le_of_ble_eq_true rfl) hcs dL_law_818 (fun H locs J I => ?_)
  refine lv_istore (lv' := [(6, .int b1), (5, .int q), (0, .ref b), (1, .ref (ca E 0)), (2, .ref (ra E2 0)), (3, .ref (ca E 59)), (4, .int i)]) hx hb dL_law_821 hl (by decide) rfl (fun ls hl => ?_)
  refine lv_aload_n hx hb dL_law_823 rfl (lv_at hl 4 rfl) ?_
  refine r2VI (V := vR E2) (V' := vC E) (k := 0) (As := []) (rest := []) X J I hd.symm hl (c_X11_thrown (l := l) (E := E2) (σ := τ1) (q := τ1 0 5) rfl) yv_X11_thrown tw_1221 ⟨rfl, rfl, Nat.le_of_ble_eq_true rfl, Nat.le_of_ble_eq_true rfl⟩ (Nat.le_of_ble_eq_true rfl) rfl rfl rfl rfl (Nat.le_of_ble_eq_true rfl) hcs dL_law_824 (fun H locs J I => ?_)
  refine lv_iload hx hb dL_law_827 (lv_at hl 1 rfl) ?_
  refine lv_icmp_eq (tgt := 834) hx hb dL_law_829 (by decide) (fun _ => ?_) (fun c9 => absurd h3 c9)
  refine lv_iload hx hb dL_law_834 (lv_at hl 1 rfl) ?_
  refine lv_if_ne (tgt := 851) hx hb dL_law_836 (by decide) (fun c1 => ?_) (fun c1 => ?_)
  · skip
    refine lv_goto (tgt := 2286) hx hb dL_law_851 (by decide) ?_
    exact kend σ1 τ1 h5 H locs ls I J (lv_sub hl [2, 3, 4, 5, 6] rfl)
  · skip
    refine lv_aload_n hx hb dL_law_839 rfl (lv_at hl 5 rfl) ?_
    refine lv_iconst (v := 0) hx hb dL_law_840 (by decide) ?_
    refine jaldC X I (kC_59 E hn) (show vp_in (0 : Int32) 1 from vp_in_nI (n := 0) (by decide) (by decide)) dL_law_841 ?_
    refine lv_iload hx hb dL_law_842 (lv_at hl 0 rfl) ?_
    refine lv_i2l hx hb dL_law_844 rfl ?_
    refine W.lcmp hx hb dL_law_845 ?_
    refine lv_if_eq (tgt := 851) hx hb dL_law_846 (by decide) (fun _ => ?_) (fun c9 => absurd (show lg_cmp (Int32.toInt64 (σ1 59 0)) (Int32.toInt64 b1) = 0 by rw [h4 c1]; exact lg_self _) c9)
    refine lv_goto (tgt := 2286) hx hb dL_law_851 (by decide) ?_
    exact kend σ1 τ1 h5 H locs ls I J (lv_sub hl [2, 3, 4, 5, 6] rfl)
set_option maxHeartbeats 4000000 in
set_option maxRecDepth 100000 in
theorem lc_undo {p : Program} {l : Launch} {e : Env} {s : State} {m : MethodId} {below : List Frame} {meth : Method} {c : Code} {b L : Nat} {xs : Nat → Int32} {E : CE} {E2 : RE} {Rel : Mem → Mem → Prop} (hlt : l.stackTraces = false) (hn : 0 < E.2.2.2.2.2.2) (hSim : SIM_undo Rel) (X : CX p s m meth c #[Value.ref b] cL_law 7 RL (some .boolean)) (hX : va_X b L xs s s.heap) (hbl : b < s.heap.size) (hd : DJ (vC E) (vR E2)) {i : Int32} (hi1 : vp_in (i + 1) L) (hi2 : vp_in (i + 2) L) (hi3 : vp_in (i + 3) L) (hi4 : vp_in (i + 4) L) (hi5 : vp_in (i + 5) L) {σ τ : Mem} (hR : Rel σ τ) {cells slots : Nat} (hc : cells + 4 ≤ 601024) (hs : slots + 24 ≤ 7293034) {H : Heap} {locs : List Loc} (I : WI (vC E) (fun q : Nat => s.heap.size ≤ q) s H locs σ) (J : WI (vR E2) (fun q : Nat => s.heap.size ≤ q) s H locs τ) {ls : Array Slot} (hl : lv_has ls 7 [(0, .ref b), (1, .ref (ca E 0)), (2, .ref (ra E2 0)), (3, .ref (ca E 59)), (4, .int i)])
    (kend : ∀ (σ1 τ1 : Mem), Rel σ1 τ1 → ∀ (H : Heap) (locs : List Loc) (ls : Array Slot), WI (vC E) (fun q : Nat => s.heap.size ≤ q) s H locs σ1 → WI (vR E2) (fun q : Nat => s.heap.size ≤ q) s H locs τ1 → lv_has ls 7 [(0, .ref b), (1, .ref (ca E 0)), (2, .ref (ra E2 0)), (3, .ref (ca E 59)), (4, .int i)] → W p l e room_1 s m #[Value.ref b] below meth c H locs (cells + 4) (slots + 24) (lw_Z below #[Value.ref b] s) (F0 m 2286 ls [])) : W p l e room_1 s m #[Value.ref b] below meth c H locs cells slots (lw_Z below #[Value.ref b] s) (F0 m 854 ls []) := by
  have hx := X.1
  have hb := X.2.1
  have hbA : ¬ (fun q : Nat => s.heap.size ≤ q) b := Nat.not_le.mpr hbl
  have hcs : cells ≤ room_1.cells ∧ slots ≤ room_1.slots := ⟨Nat.le_trans (Nat.le_add_right _ 4) hc, Nat.le_trans (Nat.le_add_right _ 24) hs⟩
  refine lv_aload_n hx hb dL_law_854 rfl (lv_at hl 1 rfl) ?_
  obtain ⟨w, σ1, τ1, h1, h2, h5⟩ := hSim σ τ  hR
  refine r2VI (V := vC E) (V' := vR E2) (k := 0) (As := []) (rest := []) X I J hd hl (c_X10_undo h1) yv_X10_undo tw_1309 ⟨rfl, rfl, Nat.le_of_ble_eq_true rfl, Nat.le_of_ble_eq_true rfl⟩ (kC_0 E).1 rfl rfl rfl rfl (Nat.le_of_ble_eq_true rfl) hcs dL_law_855 (fun H locs I J => ?_)
  refine lv_aload_n hx hb dL_law_858 rfl (lv_at hl 2 rfl) ?_
  refine r2VI (V := vR E2) (V' := vC E) (k := 0) (As := []) (rest := [.int w]) X J I hd.symm hl (c_X11_undo h2) yv_X11_undo tw_1314 ⟨rfl, rfl, Nat.le_of_ble_eq_true rfl, Nat.le_of_ble_eq_true rfl⟩ (Nat.le_of_ble_eq_true rfl) rfl rfl rfl rfl (Nat.le_of_ble_eq_true rfl) hcs dL_law_859 (fun H locs J I => ?_)
  refine lv_icmp_eq (tgt := 2286) hx hb dL_law_862 (by decide) (fun _ => ?_) (fun c9 => absurd rfl c9)
  refine W.widen (k := cells + 4) (n := slots + 24) (Nat.le_add_right _ _) (Nat.le_add_right _ _) ?_
  exact kend σ1 τ1 h5 H locs ls I J (lv_sub hl [0, 1, 2, 3, 4] rfl)
set_option maxHeartbeats 4000000 in
set_option maxRecDepth 100000 in
theorem lc_then {p : Program} {l : Launch} {e : Env} {s : State} {m : MethodId} {below : List Frame} {meth : Method} {c : Code} {b L : Nat} {xs : Nat → Int32} {E : CE} {E2 : RE} {Rel : Mem → Mem → Prop} (hlt : l.stackTraces = false) (hn : 0 < E.2.2.2.2.2.2) (hSim : SIM_then Rel) (X : CX p s m meth c #[Value.ref b] cL_law 7 RL (some .boolean)) (hX : va_X b L xs s s.heap) (hbl : b < s.heap.size) (hd : DJ (vC E) (vR E2)) {i : Int32} (hi1 : vp_in (i + 1) L) (hi2 : vp_in (i + 2) L) (hi3 : vp_in (i + 3) L) (hi4 : vp_in (i + 4) L) (hi5 : vp_in (i + 5) L) {σ τ : Mem} (hR : Rel σ τ) {cells slots : Nat} (hc : cells + 4 ≤ 601024) (hs : slots + 24 ≤ 7293034) {H : Heap} {locs : List Loc} (I : WI (vC E) (fun q : Nat => s.heap.size ≤ q) s H locs σ) (J : WI (vR E2) (fun q : Nat => s.heap.size ≤ q) s H locs τ) {ls : Array Slot} (hl : lv_has ls 7 [(0, .ref b), (1, .ref (ca E 0)), (2, .ref (ra E2 0)), (3, .ref (ca E 59)), (4, .int i)])
    (kend : ∀ (σ1 τ1 : Mem), Rel σ1 τ1 → ∀ (H : Heap) (locs : List Loc) (ls : Array Slot), WI (vC E) (fun q : Nat => s.heap.size ≤ q) s H locs σ1 → WI (vR E2) (fun q : Nat => s.heap.size ≤ q) s H locs τ1 → lv_has ls 7 [(0, .ref b), (1, .ref (ca E 0)), (2, .ref (ra E2 0)), (3, .ref (ca E 59)), (4, .int i)] → W p l e room_1 s m #[Value.ref b] below meth c H locs (cells + 4) (slots + 24) (lw_Z below #[Value.ref b] s) (F0 m 2286 ls [])) : W p l e room_1 s m #[Value.ref b] below meth c H locs cells slots (lw_Z below #[Value.ref b] s) (F0 m 867 ls []) := by
  have hx := X.1
  have hb := X.2.1
  have hbA : ¬ (fun q : Nat => s.heap.size ≤ q) b := Nat.not_le.mpr hbl
  have hcs : cells ≤ room_1.cells ∧ slots ≤ room_1.slots := ⟨Nat.le_trans (Nat.le_add_right _ 4) hc, Nat.le_trans (Nat.le_add_right _ 24) hs⟩
  refine lv_aload_n hx hb dL_law_867 rfl (lv_at hl 1 rfl) ?_
  refine lv_aload_n hx hb dL_law_868 rfl (lv_at hl 0 rfl) ?_
  refine lv_iload hx hb dL_law_869 (lv_at hl 4 rfl) ?_
  refine lv_iconst (v := 1) hx hb dL_law_871 (by decide) ?_
  refine lv_iadd hx hb dL_law_872 ?_
  refine va_sld hx hb hX hbl hbA I.2.2.2.1 hi1 dL_law_873 ?_
  refine lv_aload_n hx hb dL_law_874 rfl (lv_at hl 0 rfl) ?_
  refine lv_iload hx hb dL_law_875 (lv_at hl 4 rfl) ?_
  refine lv_iconst (v := 2) hx hb dL_law_877 (by decide) ?_
  refine lv_iadd hx hb dL_law_878 ?_
  refine va_sld hx hb hX hbl hbA I.2.2.2.1 hi2 dL_law_879 ?_
  refine lv_aload_n hx hb dL_law_880 rfl (lv_at hl 3 rfl) ?_
  obtain ⟨q, σ1, b1, τ1, h1, h2, h3, h4, h5⟩ := hSim σ τ (xs (Int32.toNatClampNeg (i + 1))) (xs (Int32.toNatClampNeg (i + 2))) hR
  refine r2SI (V := vC E) (V' := vR E2) (As := [.ref (ca E 0), .int (xs (Int32.toNatClampNeg (i + 1))), .int (xs (Int32.toNatClampNeg (i + 2))), .ref (ca E 59)]) (rest := []) X I J hd hl (c_L_then hlt hn h1) yw_L_then tw_1319 ⟨rfl, rfl, Nat.le_of_ble_eq_true rfl, Nat.le_of_ble_eq_true rfl⟩ rfl rfl (Nat.le_of_ble_eq_true rfl) ⟨Nat.le_trans (Nat.add_le_add_left (Nat.le_of_ble_eq_true rfl) cells) hc, Nat.le_trans (Nat.add_le_add_left (Nat.le_of_ble_eq_true rfl) slots) hs⟩ dL_law_881 (fun H locs I J => ?_)
  refine W.widen (k := cells + 4) (n := slots + 24) (Nat.add_le_add_left (Nat.le_of_ble_eq_true rfl) cells) (Nat.add_le_add_left (Nat.le_of_ble_eq_true rfl) slots) ?_
  have hcs : cells + 4 ≤ room_1.cells ∧ slots + 24 ≤ room_1.slots := ⟨hc, hs⟩
  refine lv_istore (lv' := [(5, .int q), (0, .ref b), (1, .ref (ca E 0)), (2, .ref (ra E2 0)), (3, .ref (ca E 59)), (4, .int i)]) hx hb dL_law_884 hl (by decide) rfl (fun ls hl => ?_)
  refine lv_aload_n hx hb dL_law_886 rfl (lv_at hl 3 rfl) ?_
  refine lv_aload_n hx hb dL_law_887 rfl (lv_at hl 1 rfl) ?_
  refine lv_iload hx hb dL_law_888 (lv_at hl 5 rfl) ?_
  refine lv_iconst (v := 1) hx hb dL_law_890 (by decide) ?_
  refine lv_iadd hx hb dL_law_891 ?_
  refine va_sld hx hb hX hbl hbA I.2.2.2.1 hi1 dL_law_892 ?_
  refine lv_aload_n hx hb dL_law_893 rfl (lv_at hl 1 rfl) ?_
  refine lv_iload hx hb dL_law_894 (lv_at hl 5 rfl) ?_
  refine lv_iconst (v := 2) hx hb dL_law_896 (by decide) ?_
  refine lv_iadd hx hb dL_law_897 ?_
  refine va_sld hx hb hX hbl hbA I.2.2.2.1 hi2 dL_law_898 ?_
  refine r2VI (V := vR E2) (V' := vC E) (k := 0) (As := [.int (xs (Int32.toNatClampNeg (i + 1))), .int (xs (Int32.toNatClampNeg (i + 2)))]) (rest := []) X J I hd.symm hl (c_X11_then h2) yv_X11_then tw_1323 ⟨rfl, rfl, Nat.le_of_ble_eq_true rfl, Nat.le_of_ble_eq_true rfl⟩ (Nat.le_of_ble_eq_true rfl) rfl rfl rfl rfl (Nat.le_of_ble_eq_true rfl) hcs dL_law_899 (fun H locs J I => ?_)
  refine lv_istore (lv' := [(6, .int b1), (5, .int q), (0, .ref b), (1, .ref (ca E 0)), (2, .ref (ra E2 0)), (3, .ref (ca E 59)), (4, .int i)]) hx hb dL_law_902 hl (by decide) rfl (fun ls hl => ?_)
  refine lv_aload_n hx hb dL_law_904 rfl (lv_at hl 4 rfl) ?_
  refine r2VI (V := vR E2) (V' := vC E) (k := 0) (As := []) (rest := []) X J I hd.symm hl (c_X11_thrown (l := l) (E := E2) (σ := τ1) (q := τ1 0 5) rfl) yv_X11_thrown tw_1221 ⟨rfl, rfl, Nat.le_of_ble_eq_true rfl, Nat.le_of_ble_eq_true rfl⟩ (Nat.le_of_ble_eq_true rfl) rfl rfl rfl rfl (Nat.le_of_ble_eq_true rfl) hcs dL_law_905 (fun H locs J I => ?_)
  refine lv_iload hx hb dL_law_908 (lv_at hl 1 rfl) ?_
  refine lv_icmp_eq (tgt := 915) hx hb dL_law_910 (by decide) (fun _ => ?_) (fun c9 => absurd h3 c9)
  refine lv_iload hx hb dL_law_915 (lv_at hl 1 rfl) ?_
  refine lv_if_ne (tgt := 932) hx hb dL_law_917 (by decide) (fun c1 => ?_) (fun c1 => ?_)
  · skip
    refine lv_goto (tgt := 2286) hx hb dL_law_932 (by decide) ?_
    exact kend σ1 τ1 h5 H locs ls I J (lv_sub hl [2, 3, 4, 5, 6] rfl)
  · skip
    refine lv_aload_n hx hb dL_law_920 rfl (lv_at hl 5 rfl) ?_
    refine lv_iconst (v := 0) hx hb dL_law_921 (by decide) ?_
    refine jaldC X I (kC_59 E hn) (show vp_in (0 : Int32) 1 from vp_in_nI (n := 0) (by decide) (by decide)) dL_law_922 ?_
    refine lv_iload hx hb dL_law_923 (lv_at hl 0 rfl) ?_
    refine lv_i2l hx hb dL_law_925 rfl ?_
    refine W.lcmp hx hb dL_law_926 ?_
    refine lv_if_eq (tgt := 932) hx hb dL_law_927 (by decide) (fun _ => ?_) (fun c9 => absurd (show lg_cmp (Int32.toInt64 (σ1 59 0)) (Int32.toInt64 b1) = 0 by rw [h4 c1]; exact lg_self _) c9)
    refine lv_goto (tgt := 2286) hx hb dL_law_932 (by decide) ?_
    exact kend σ1 τ1 h5 H locs ls I J (lv_sub hl [2, 3, 4, 5, 6] rfl)
set_option maxHeartbeats 4000000 in
set_option maxRecDepth 100000 in
theorem lc_purse {p : Program} {l : Launch} {e : Env} {s : State} {m : MethodId} {below : List Frame} {meth : Method} {c : Code} {b L : Nat} {xs : Nat → Int32} {E : CE} {E2 : RE} {Rel : Mem → Mem → Prop} (hlt : l.stackTraces = false) (hn : 0 < E.2.2.2.2.2.2) (hSim : SIM_purse Rel) (X : CX p s m meth c #[Value.ref b] cL_law 7 RL (some .boolean)) (hX : va_X b L xs s s.heap) (hbl : b < s.heap.size) (hd : DJ (vC E) (vR E2)) {i : Int32} (hi1 : vp_in (i + 1) L) (hi2 : vp_in (i + 2) L) (hi3 : vp_in (i + 3) L) (hi4 : vp_in (i + 4) L) (hi5 : vp_in (i + 5) L) {σ τ : Mem} (hR : Rel σ τ) {cells slots : Nat} (hc : cells + 4 ≤ 601024) (hs : slots + 24 ≤ 7293034) {H : Heap} {locs : List Loc} (I : WI (vC E) (fun q : Nat => s.heap.size ≤ q) s H locs σ) (J : WI (vR E2) (fun q : Nat => s.heap.size ≤ q) s H locs τ) {ls : Array Slot} (hl : lv_has ls 7 [(0, .ref b), (1, .ref (ca E 0)), (2, .ref (ra E2 0)), (3, .ref (ca E 59)), (4, .int i)])
    (kend : ∀ (σ1 τ1 : Mem), Rel σ1 τ1 → ∀ (H : Heap) (locs : List Loc) (ls : Array Slot), WI (vC E) (fun q : Nat => s.heap.size ≤ q) s H locs σ1 → WI (vR E2) (fun q : Nat => s.heap.size ≤ q) s H locs τ1 → lv_has ls 7 [(0, .ref b), (1, .ref (ca E 0)), (2, .ref (ra E2 0)), (3, .ref (ca E 59)), (4, .int i)] → W p l e room_1 s m #[Value.ref b] below meth c H locs (cells + 4) (slots + 24) (lw_Z below #[Value.ref b] s) (F0 m 2286 ls [])) : W p l e room_1 s m #[Value.ref b] below meth c H locs cells slots (lw_Z below #[Value.ref b] s) (F0 m 935 ls []) := by
  have hx := X.1
  have hb := X.2.1
  have hbA : ¬ (fun q : Nat => s.heap.size ≤ q) b := Nat.not_le.mpr hbl
  have hcs : cells ≤ room_1.cells ∧ slots ≤ room_1.slots := ⟨Nat.le_trans (Nat.le_add_right _ 4) hc, Nat.le_trans (Nat.le_add_right _ 24) hs⟩
  refine lv_aload_n hx hb dL_law_935 rfl (lv_at hl 1 rfl) ?_
  refine lv_aload_n hx hb dL_law_936 rfl (lv_at hl 0 rfl) ?_
  refine lv_iload hx hb dL_law_937 (lv_at hl 4 rfl) ?_
  refine lv_iconst (v := 1) hx hb dL_law_939 (by decide) ?_
  refine lv_iadd hx hb dL_law_940 ?_
  refine va_sld hx hb hX hbl hbA I.2.2.2.1 hi1 dL_law_941 ?_
  refine lv_aload_n hx hb dL_law_942 rfl (lv_at hl 0 rfl) ?_
  refine lv_iload hx hb dL_law_943 (lv_at hl 4 rfl) ?_
  refine lv_iconst (v := 2) hx hb dL_law_945 (by decide) ?_
  refine lv_iadd hx hb dL_law_946 ?_
  refine va_sld hx hb hX hbl hbA I.2.2.2.1 hi2 dL_law_947 ?_
  refine lv_aload_n hx hb dL_law_948 rfl (lv_at hl 0 rfl) ?_
  refine lv_iload hx hb dL_law_949 (lv_at hl 4 rfl) ?_
  refine lv_iconst (v := 3) hx hb dL_law_951 (by decide) ?_
  refine lv_iadd hx hb dL_law_952 ?_
  refine va_sld hx hb hX hbl hbA I.2.2.2.1 hi3 dL_law_953 ?_
  refine lv_aload_n hx hb dL_law_954 rfl (lv_at hl 3 rfl) ?_
  obtain ⟨q, σ1, b1, τ1, h1, h2, h3, h4, h5⟩ := hSim σ τ (xs (Int32.toNatClampNeg (i + 1))) (xs (Int32.toNatClampNeg (i + 2))) (xs (Int32.toNatClampNeg (i + 3))) hR
  refine r2SI (V := vC E) (V' := vR E2) (As := [.ref (ca E 0), .int (xs (Int32.toNatClampNeg (i + 1))), .int (xs (Int32.toNatClampNeg (i + 2))), .int (xs (Int32.toNatClampNeg (i + 3))), .ref (ca E 59)]) (rest := []) X I J hd hl (c_L_purse hlt hn h1) yw_L_purse tw_1328 ⟨rfl, rfl, Nat.le_of_ble_eq_true rfl, Nat.le_of_ble_eq_true rfl⟩ rfl rfl (Nat.le_of_ble_eq_true rfl) ⟨Nat.le_trans (Nat.add_le_add_left (Nat.le_of_ble_eq_true rfl) cells) hc, Nat.le_trans (Nat.add_le_add_left (Nat.le_of_ble_eq_true rfl) slots) hs⟩ dL_law_955 (fun H locs I J => ?_)
  refine W.widen (k := cells + 4) (n := slots + 24) (Nat.add_le_add_left (Nat.le_of_ble_eq_true rfl) cells) (Nat.add_le_add_left (Nat.le_of_ble_eq_true rfl) slots) ?_
  have hcs : cells + 4 ≤ room_1.cells ∧ slots + 24 ≤ room_1.slots := ⟨hc, hs⟩
  refine lv_istore (lv' := [(5, .int q), (0, .ref b), (1, .ref (ca E 0)), (2, .ref (ra E2 0)), (3, .ref (ca E 59)), (4, .int i)]) hx hb dL_law_958 hl (by decide) rfl (fun ls hl => ?_)
  refine lv_aload_n hx hb dL_law_960 rfl (lv_at hl 3 rfl) ?_
  refine lv_aload_n hx hb dL_law_961 rfl (lv_at hl 1 rfl) ?_
  refine lv_iload hx hb dL_law_962 (lv_at hl 5 rfl) ?_
  refine lv_iconst (v := 1) hx hb dL_law_964 (by decide) ?_
  refine lv_iadd hx hb dL_law_965 ?_
  refine va_sld hx hb hX hbl hbA I.2.2.2.1 hi1 dL_law_966 ?_
  refine lv_aload_n hx hb dL_law_967 rfl (lv_at hl 1 rfl) ?_
  refine lv_iload hx hb dL_law_968 (lv_at hl 5 rfl) ?_
  refine lv_iconst (v := 2) hx hb dL_law_970 (by decide) ?_
  refine lv_iadd hx hb dL_law_971 ?_
  refine va_sld hx hb hX hbl hbA I.2.2.2.1 hi2 dL_law_972 ?_
  refine lv_aload_n hx hb dL_law_973 rfl (lv_at hl 1 rfl) ?_
  refine lv_iload hx hb dL_law_974 (lv_at hl 5 rfl) ?_
  refine lv_iconst (v := 3) hx hb dL_law_976 (by decide) ?_
  refine lv_iadd hx hb dL_law_977 ?_
  refine va_sld hx hb hX hbl hbA I.2.2.2.1 hi3 dL_law_978 ?_
  refine r2VI (V := vR E2) (V' := vC E) (k := 0) (As := [.int (xs (Int32.toNatClampNeg (i + 1))), .int (xs (Int32.toNatClampNeg (i + 2))), .int (xs (Int32.toNatClampNeg (i + 3)))]) (rest := []) X J I hd.symm hl (c_X11_purse h2) yv_X11_purse tw_1332 ⟨rfl, rfl, Nat.le_of_ble_eq_true rfl, Nat.le_of_ble_eq_true rfl⟩ (Nat.le_of_ble_eq_true rfl) rfl rfl rfl rfl (Nat.le_of_ble_eq_true rfl) hcs dL_law_979 (fun H locs J I => ?_)
  refine lv_istore (lv' := [(6, .int b1), (5, .int q), (0, .ref b), (1, .ref (ca E 0)), (2, .ref (ra E2 0)), (3, .ref (ca E 59)), (4, .int i)]) hx hb dL_law_982 hl (by decide) rfl (fun ls hl => ?_)
  refine lv_aload_n hx hb dL_law_984 rfl (lv_at hl 4 rfl) ?_
  refine r2VI (V := vR E2) (V' := vC E) (k := 0) (As := []) (rest := []) X J I hd.symm hl (c_X11_thrown (l := l) (E := E2) (σ := τ1) (q := τ1 0 5) rfl) yv_X11_thrown tw_1221 ⟨rfl, rfl, Nat.le_of_ble_eq_true rfl, Nat.le_of_ble_eq_true rfl⟩ (Nat.le_of_ble_eq_true rfl) rfl rfl rfl rfl (Nat.le_of_ble_eq_true rfl) hcs dL_law_985 (fun H locs J I => ?_)
  refine lv_iload hx hb dL_law_988 (lv_at hl 1 rfl) ?_
  refine lv_icmp_eq (tgt := 995) hx hb dL_law_990 (by decide) (fun _ => ?_) (fun c9 => absurd h3 c9)
  refine lv_iload hx hb dL_law_995 (lv_at hl 1 rfl) ?_
  refine lv_if_ne (tgt := 1012) hx hb dL_law_997 (by decide) (fun c1 => ?_) (fun c1 => ?_)
  · skip
    refine lv_goto (tgt := 2286) hx hb dL_law_1012 (by decide) ?_
    exact kend σ1 τ1 h5 H locs ls I J (lv_sub hl [2, 3, 4, 5, 6] rfl)
  · skip
    refine lv_aload_n hx hb dL_law_1000 rfl (lv_at hl 5 rfl) ?_
    refine lv_iconst (v := 0) hx hb dL_law_1001 (by decide) ?_
    refine jaldC X I (kC_59 E hn) (show vp_in (0 : Int32) 1 from vp_in_nI (n := 0) (by decide) (by decide)) dL_law_1002 ?_
    refine lv_iload hx hb dL_law_1003 (lv_at hl 0 rfl) ?_
    refine lv_i2l hx hb dL_law_1005 rfl ?_
    refine W.lcmp hx hb dL_law_1006 ?_
    refine lv_if_eq (tgt := 1012) hx hb dL_law_1007 (by decide) (fun _ => ?_) (fun c9 => absurd (show lg_cmp (Int32.toInt64 (σ1 59 0)) (Int32.toInt64 b1) = 0 by rw [h4 c1]; exact lg_self _) c9)
    refine lv_goto (tgt := 2286) hx hb dL_law_1012 (by decide) ?_
    exact kend σ1 τ1 h5 H locs ls I J (lv_sub hl [2, 3, 4, 5, 6] rfl)
set_option maxHeartbeats 4000000 in
set_option maxRecDepth 100000 in
theorem lc_sealed {p : Program} {l : Launch} {e : Env} {s : State} {m : MethodId} {below : List Frame} {meth : Method} {c : Code} {b L : Nat} {xs : Nat → Int32} {E : CE} {E2 : RE} {Rel : Mem → Mem → Prop} (hlt : l.stackTraces = false) (hn : 0 < E.2.2.2.2.2.2) (hSim : SIM_sealed Rel) (X : CX p s m meth c #[Value.ref b] cL_law 7 RL (some .boolean)) (hX : va_X b L xs s s.heap) (hbl : b < s.heap.size) (hd : DJ (vC E) (vR E2)) {i : Int32} (hi1 : vp_in (i + 1) L) (hi2 : vp_in (i + 2) L) (hi3 : vp_in (i + 3) L) (hi4 : vp_in (i + 4) L) (hi5 : vp_in (i + 5) L) {σ τ : Mem} (hR : Rel σ τ) {cells slots : Nat} (hc : cells + 4 ≤ 601024) (hs : slots + 24 ≤ 7293034) {H : Heap} {locs : List Loc} (I : WI (vC E) (fun q : Nat => s.heap.size ≤ q) s H locs σ) (J : WI (vR E2) (fun q : Nat => s.heap.size ≤ q) s H locs τ) {ls : Array Slot} (hl : lv_has ls 7 [(0, .ref b), (1, .ref (ca E 0)), (2, .ref (ra E2 0)), (3, .ref (ca E 59)), (4, .int i)])
    (kend : ∀ (σ1 τ1 : Mem), Rel σ1 τ1 → ∀ (H : Heap) (locs : List Loc) (ls : Array Slot), WI (vC E) (fun q : Nat => s.heap.size ≤ q) s H locs σ1 → WI (vR E2) (fun q : Nat => s.heap.size ≤ q) s H locs τ1 → lv_has ls 7 [(0, .ref b), (1, .ref (ca E 0)), (2, .ref (ra E2 0)), (3, .ref (ca E 59)), (4, .int i)] → W p l e room_1 s m #[Value.ref b] below meth c H locs (cells + 4) (slots + 24) (lw_Z below #[Value.ref b] s) (F0 m 2286 ls [])) : W p l e room_1 s m #[Value.ref b] below meth c H locs cells slots (lw_Z below #[Value.ref b] s) (F0 m 1015 ls []) := by
  have hx := X.1
  have hb := X.2.1
  have hbA : ¬ (fun q : Nat => s.heap.size ≤ q) b := Nat.not_le.mpr hbl
  have hcs : cells ≤ room_1.cells ∧ slots ≤ room_1.slots := ⟨Nat.le_trans (Nat.le_add_right _ 4) hc, Nat.le_trans (Nat.le_add_right _ 24) hs⟩
  refine lv_aload_n hx hb dL_law_1015 rfl (lv_at hl 1 rfl) ?_
  refine lv_aload_n hx hb dL_law_1016 rfl (lv_at hl 0 rfl) ?_
  refine lv_iload hx hb dL_law_1017 (lv_at hl 4 rfl) ?_
  refine lv_iconst (v := 1) hx hb dL_law_1019 (by decide) ?_
  refine lv_iadd hx hb dL_law_1020 ?_
  refine va_sld hx hb hX hbl hbA I.2.2.2.1 hi1 dL_law_1021 ?_
  refine lv_aload_n hx hb dL_law_1022 rfl (lv_at hl 3 rfl) ?_
  obtain ⟨q, σ1, b1, τ1, h1, h2, h3, h4, h5⟩ := hSim σ τ (xs (Int32.toNatClampNeg (i + 1))) hR
  refine r2SI (V := vC E) (V' := vR E2) (As := [.ref (ca E 0), .int (xs (Int32.toNatClampNeg (i + 1))), .ref (ca E 59)]) (rest := []) X I J hd hl (c_L_sealed hlt hn h1) yw_L_sealed tw_1337 ⟨rfl, rfl, Nat.le_of_ble_eq_true rfl, Nat.le_of_ble_eq_true rfl⟩ rfl rfl (Nat.le_of_ble_eq_true rfl) ⟨Nat.le_trans (Nat.add_le_add_left (Nat.le_of_ble_eq_true rfl) cells) hc, Nat.le_trans (Nat.add_le_add_left (Nat.le_of_ble_eq_true rfl) slots) hs⟩ dL_law_1023 (fun H locs I J => ?_)
  refine W.widen (k := cells + 4) (n := slots + 24) (Nat.add_le_add_left (Nat.le_of_ble_eq_true rfl) cells) (Nat.add_le_add_left (Nat.le_of_ble_eq_true rfl) slots) ?_
  have hcs : cells + 4 ≤ room_1.cells ∧ slots + 24 ≤ room_1.slots := ⟨hc, hs⟩
  refine lv_istore (lv' := [(5, .int q), (0, .ref b), (1, .ref (ca E 0)), (2, .ref (ra E2 0)), (3, .ref (ca E 59)), (4, .int i)]) hx hb dL_law_1026 hl (by decide) rfl (fun ls hl => ?_)
  refine lv_aload_n hx hb dL_law_1028 rfl (lv_at hl 3 rfl) ?_
  refine lv_aload_n hx hb dL_law_1029 rfl (lv_at hl 1 rfl) ?_
  refine lv_iload hx hb dL_law_1030 (lv_at hl 5 rfl) ?_
  refine lv_iconst (v := 1) hx hb dL_law_1032 (by decide) ?_
  refine lv_iadd hx hb dL_law_1033 ?_
  refine va_sld hx hb hX hbl hbA I.2.2.2.1 hi1 dL_law_1034 ?_
  refine r2VI (V := vR E2) (V' := vC E) (k := 0) (As := [.int (xs (Int32.toNatClampNeg (i + 1)))]) (rest := []) X J I hd.symm hl (c_X11_sealed h2) yv_X11_sealed tw_1341 ⟨rfl, rfl, Nat.le_of_ble_eq_true rfl, Nat.le_of_ble_eq_true rfl⟩ (Nat.le_of_ble_eq_true rfl) rfl rfl rfl rfl (Nat.le_of_ble_eq_true rfl) hcs dL_law_1035 (fun H locs J I => ?_)
  refine lv_istore (lv' := [(6, .int b1), (5, .int q), (0, .ref b), (1, .ref (ca E 0)), (2, .ref (ra E2 0)), (3, .ref (ca E 59)), (4, .int i)]) hx hb dL_law_1038 hl (by decide) rfl (fun ls hl => ?_)
  refine lv_aload_n hx hb dL_law_1040 rfl (lv_at hl 4 rfl) ?_
  refine r2VI (V := vR E2) (V' := vC E) (k := 0) (As := []) (rest := []) X J I hd.symm hl (c_X11_thrown (l := l) (E := E2) (σ := τ1) (q := τ1 0 5) rfl) yv_X11_thrown tw_1221 ⟨rfl, rfl, Nat.le_of_ble_eq_true rfl, Nat.le_of_ble_eq_true rfl⟩ (Nat.le_of_ble_eq_true rfl) rfl rfl rfl rfl (Nat.le_of_ble_eq_true rfl) hcs dL_law_1041 (fun H locs J I => ?_)
  refine lv_iload hx hb dL_law_1044 (lv_at hl 1 rfl) ?_
  refine lv_icmp_eq (tgt := 1051) hx hb dL_law_1046 (by decide) (fun _ => ?_) (fun c9 => absurd h3 c9)
  refine lv_iload hx hb dL_law_1051 (lv_at hl 1 rfl) ?_
  refine lv_if_ne (tgt := 1068) hx hb dL_law_1053 (by decide) (fun c1 => ?_) (fun c1 => ?_)
  · skip
    refine lv_goto (tgt := 2286) hx hb dL_law_1068 (by decide) ?_
    exact kend σ1 τ1 h5 H locs ls I J (lv_sub hl [2, 3, 4, 5, 6] rfl)
  · skip
    refine lv_aload_n hx hb dL_law_1056 rfl (lv_at hl 5 rfl) ?_
    refine lv_iconst (v := 0) hx hb dL_law_1057 (by decide) ?_
    refine jaldC X I (kC_59 E hn) (show vp_in (0 : Int32) 1 from vp_in_nI (n := 0) (by decide) (by decide)) dL_law_1058 ?_
    refine lv_iload hx hb dL_law_1059 (lv_at hl 0 rfl) ?_
    refine lv_i2l hx hb dL_law_1061 rfl ?_
    refine W.lcmp hx hb dL_law_1062 ?_
    refine lv_if_eq (tgt := 1068) hx hb dL_law_1063 (by decide) (fun _ => ?_) (fun c9 => absurd (show lg_cmp (Int32.toInt64 (σ1 59 0)) (Int32.toInt64 b1) = 0 by rw [h4 c1]; exact lg_self _) c9)
    refine lv_goto (tgt := 2286) hx hb dL_law_1068 (by decide) ?_
    exact kend σ1 τ1 h5 H locs ls I J (lv_sub hl [2, 3, 4, 5, 6] rfl)
set_option maxHeartbeats 4000000 in
set_option maxRecDepth 100000 in
theorem lc_gets {p : Program} {l : Launch} {e : Env} {s : State} {m : MethodId} {below : List Frame} {meth : Method} {c : Code} {b L : Nat} {xs : Nat → Int32} {E : CE} {E2 : RE} {Rel : Mem → Mem → Prop} (hlt : l.stackTraces = false) (hn : 0 < E.2.2.2.2.2.2) (hSim : SIM_gets Rel) (X : CX p s m meth c #[Value.ref b] cL_law 7 RL (some .boolean)) (hX : va_X b L xs s s.heap) (hbl : b < s.heap.size) (hd : DJ (vC E) (vR E2)) {i : Int32} (hi1 : vp_in (i + 1) L) (hi2 : vp_in (i + 2) L) (hi3 : vp_in (i + 3) L) (hi4 : vp_in (i + 4) L) (hi5 : vp_in (i + 5) L) {σ τ : Mem} (hR : Rel σ τ) {cells slots : Nat} (hc : cells + 4 ≤ 601024) (hs : slots + 24 ≤ 7293034) {H : Heap} {locs : List Loc} (I : WI (vC E) (fun q : Nat => s.heap.size ≤ q) s H locs σ) (J : WI (vR E2) (fun q : Nat => s.heap.size ≤ q) s H locs τ) {ls : Array Slot} (hl : lv_has ls 7 [(0, .ref b), (1, .ref (ca E 0)), (2, .ref (ra E2 0)), (3, .ref (ca E 59)), (4, .int i)])
    (kend : ∀ (σ1 τ1 : Mem), Rel σ1 τ1 → ∀ (H : Heap) (locs : List Loc) (ls : Array Slot), WI (vC E) (fun q : Nat => s.heap.size ≤ q) s H locs σ1 → WI (vR E2) (fun q : Nat => s.heap.size ≤ q) s H locs τ1 → lv_has ls 7 [(0, .ref b), (1, .ref (ca E 0)), (2, .ref (ra E2 0)), (3, .ref (ca E 59)), (4, .int i)] → W p l e room_1 s m #[Value.ref b] below meth c H locs (cells + 4) (slots + 24) (lw_Z below #[Value.ref b] s) (F0 m 2286 ls [])) : W p l e room_1 s m #[Value.ref b] below meth c H locs cells slots (lw_Z below #[Value.ref b] s) (F0 m 1071 ls []) := by
  have hx := X.1
  have hb := X.2.1
  have hbA : ¬ (fun q : Nat => s.heap.size ≤ q) b := Nat.not_le.mpr hbl
  have hcs : cells ≤ room_1.cells ∧ slots ≤ room_1.slots := ⟨Nat.le_trans (Nat.le_add_right _ 4) hc, Nat.le_trans (Nat.le_add_right _ 24) hs⟩
  refine lv_aload_n hx hb dL_law_1071 rfl (lv_at hl 1 rfl) ?_
  refine lv_aload_n hx hb dL_law_1072 rfl (lv_at hl 0 rfl) ?_
  refine lv_iload hx hb dL_law_1073 (lv_at hl 4 rfl) ?_
  refine lv_iconst (v := 1) hx hb dL_law_1075 (by decide) ?_
  refine lv_iadd hx hb dL_law_1076 ?_
  refine va_sld hx hb hX hbl hbA I.2.2.2.1 hi1 dL_law_1077 ?_
  refine lv_aload_n hx hb dL_law_1078 rfl (lv_at hl 0 rfl) ?_
  refine lv_iload hx hb dL_law_1079 (lv_at hl 4 rfl) ?_
  refine lv_iconst (v := 2) hx hb dL_law_1081 (by decide) ?_
  refine lv_iadd hx hb dL_law_1082 ?_
  refine va_sld hx hb hX hbl hbA I.2.2.2.1 hi2 dL_law_1083 ?_
  refine lv_aload_n hx hb dL_law_1084 rfl (lv_at hl 3 rfl) ?_
  obtain ⟨q, σ1, b1, τ1, h1, h2, h3, h4, h5⟩ := hSim σ τ (xs (Int32.toNatClampNeg (i + 1))) (xs (Int32.toNatClampNeg (i + 2))) hR
  refine r2SI (V := vC E) (V' := vR E2) (As := [.ref (ca E 0), .int (xs (Int32.toNatClampNeg (i + 1))), .int (xs (Int32.toNatClampNeg (i + 2))), .ref (ca E 59)]) (rest := []) X I J hd hl (c_L_gets hlt hn h1) yw_L_gets tw_1346 ⟨rfl, rfl, Nat.le_of_ble_eq_true rfl, Nat.le_of_ble_eq_true rfl⟩ rfl rfl (Nat.le_of_ble_eq_true rfl) ⟨Nat.le_trans (Nat.add_le_add_left (Nat.le_of_ble_eq_true rfl) cells) hc, Nat.le_trans (Nat.add_le_add_left (Nat.le_of_ble_eq_true rfl) slots) hs⟩ dL_law_1085 (fun H locs I J => ?_)
  refine W.widen (k := cells + 4) (n := slots + 24) (Nat.add_le_add_left (Nat.le_of_ble_eq_true rfl) cells) (Nat.add_le_add_left (Nat.le_of_ble_eq_true rfl) slots) ?_
  have hcs : cells + 4 ≤ room_1.cells ∧ slots + 24 ≤ room_1.slots := ⟨hc, hs⟩
  refine lv_istore (lv' := [(5, .int q), (0, .ref b), (1, .ref (ca E 0)), (2, .ref (ra E2 0)), (3, .ref (ca E 59)), (4, .int i)]) hx hb dL_law_1088 hl (by decide) rfl (fun ls hl => ?_)
  refine lv_aload_n hx hb dL_law_1090 rfl (lv_at hl 3 rfl) ?_
  refine lv_aload_n hx hb dL_law_1091 rfl (lv_at hl 1 rfl) ?_
  refine lv_iload hx hb dL_law_1092 (lv_at hl 5 rfl) ?_
  refine lv_iconst (v := 1) hx hb dL_law_1094 (by decide) ?_
  refine lv_iadd hx hb dL_law_1095 ?_
  refine va_sld hx hb hX hbl hbA I.2.2.2.1 hi1 dL_law_1096 ?_
  refine lv_aload_n hx hb dL_law_1097 rfl (lv_at hl 1 rfl) ?_
  refine lv_iload hx hb dL_law_1098 (lv_at hl 5 rfl) ?_
  refine lv_iconst (v := 2) hx hb dL_law_1100 (by decide) ?_
  refine lv_iadd hx hb dL_law_1101 ?_
  refine va_sld hx hb hX hbl hbA I.2.2.2.1 hi2 dL_law_1102 ?_
  refine r2VI (V := vR E2) (V' := vC E) (k := 0) (As := [.int (xs (Int32.toNatClampNeg (i + 1))), .int (xs (Int32.toNatClampNeg (i + 2)))]) (rest := []) X J I hd.symm hl (c_X11_gets h2) yv_X11_gets tw_1350 ⟨rfl, rfl, Nat.le_of_ble_eq_true rfl, Nat.le_of_ble_eq_true rfl⟩ (Nat.le_of_ble_eq_true rfl) rfl rfl rfl rfl (Nat.le_of_ble_eq_true rfl) hcs dL_law_1103 (fun H locs J I => ?_)
  refine lv_istore (lv' := [(6, .int b1), (5, .int q), (0, .ref b), (1, .ref (ca E 0)), (2, .ref (ra E2 0)), (3, .ref (ca E 59)), (4, .int i)]) hx hb dL_law_1106 hl (by decide) rfl (fun ls hl => ?_)
  refine lv_aload_n hx hb dL_law_1108 rfl (lv_at hl 4 rfl) ?_
  refine r2VI (V := vR E2) (V' := vC E) (k := 0) (As := []) (rest := []) X J I hd.symm hl (c_X11_thrown (l := l) (E := E2) (σ := τ1) (q := τ1 0 5) rfl) yv_X11_thrown tw_1221 ⟨rfl, rfl, Nat.le_of_ble_eq_true rfl, Nat.le_of_ble_eq_true rfl⟩ (Nat.le_of_ble_eq_true rfl) rfl rfl rfl rfl (Nat.le_of_ble_eq_true rfl) hcs dL_law_1109 (fun H locs J I => ?_)
  refine lv_iload hx hb dL_law_1112 (lv_at hl 1 rfl) ?_
  refine lv_icmp_eq (tgt := 1119) hx hb dL_law_1114 (by decide) (fun _ => ?_) (fun c9 => absurd h3 c9)
  refine lv_iload hx hb dL_law_1119 (lv_at hl 1 rfl) ?_
  refine lv_if_ne (tgt := 1136) hx hb dL_law_1121 (by decide) (fun c1 => ?_) (fun c1 => ?_)
  · skip
    refine lv_goto (tgt := 2286) hx hb dL_law_1136 (by decide) ?_
    exact kend σ1 τ1 h5 H locs ls I J (lv_sub hl [2, 3, 4, 5, 6] rfl)
  · skip
    refine lv_aload_n hx hb dL_law_1124 rfl (lv_at hl 5 rfl) ?_
    refine lv_iconst (v := 0) hx hb dL_law_1125 (by decide) ?_
    refine jaldC X I (kC_59 E hn) (show vp_in (0 : Int32) 1 from vp_in_nI (n := 0) (by decide) (by decide)) dL_law_1126 ?_
    refine lv_iload hx hb dL_law_1127 (lv_at hl 0 rfl) ?_
    refine lv_i2l hx hb dL_law_1129 rfl ?_
    refine W.lcmp hx hb dL_law_1130 ?_
    refine lv_if_eq (tgt := 1136) hx hb dL_law_1131 (by decide) (fun _ => ?_) (fun c9 => absurd (show lg_cmp (Int32.toInt64 (σ1 59 0)) (Int32.toInt64 b1) = 0 by rw [h4 c1]; exact lg_self _) c9)
    refine lv_goto (tgt := 2286) hx hb dL_law_1136 (by decide) ?_
    exact kend σ1 τ1 h5 H locs ls I J (lv_sub hl [2, 3, 4, 5, 6] rfl)
set_option maxHeartbeats 4000000 in
set_option maxRecDepth 100000 in
theorem lc_loses {p : Program} {l : Launch} {e : Env} {s : State} {m : MethodId} {below : List Frame} {meth : Method} {c : Code} {b L : Nat} {xs : Nat → Int32} {E : CE} {E2 : RE} {Rel : Mem → Mem → Prop} (hlt : l.stackTraces = false) (hn : 0 < E.2.2.2.2.2.2) (hSim : SIM_loses Rel) (X : CX p s m meth c #[Value.ref b] cL_law 7 RL (some .boolean)) (hX : va_X b L xs s s.heap) (hbl : b < s.heap.size) (hd : DJ (vC E) (vR E2)) {i : Int32} (hi1 : vp_in (i + 1) L) (hi2 : vp_in (i + 2) L) (hi3 : vp_in (i + 3) L) (hi4 : vp_in (i + 4) L) (hi5 : vp_in (i + 5) L) {σ τ : Mem} (hR : Rel σ τ) {cells slots : Nat} (hc : cells + 4 ≤ 601024) (hs : slots + 24 ≤ 7293034) {H : Heap} {locs : List Loc} (I : WI (vC E) (fun q : Nat => s.heap.size ≤ q) s H locs σ) (J : WI (vR E2) (fun q : Nat => s.heap.size ≤ q) s H locs τ) {ls : Array Slot} (hl : lv_has ls 7 [(0, .ref b), (1, .ref (ca E 0)), (2, .ref (ra E2 0)), (3, .ref (ca E 59)), (4, .int i)])
    (kend : ∀ (σ1 τ1 : Mem), Rel σ1 τ1 → ∀ (H : Heap) (locs : List Loc) (ls : Array Slot), WI (vC E) (fun q : Nat => s.heap.size ≤ q) s H locs σ1 → WI (vR E2) (fun q : Nat => s.heap.size ≤ q) s H locs τ1 → lv_has ls 7 [(0, .ref b), (1, .ref (ca E 0)), (2, .ref (ra E2 0)), (3, .ref (ca E 59)), (4, .int i)] → W p l e room_1 s m #[Value.ref b] below meth c H locs (cells + 4) (slots + 24) (lw_Z below #[Value.ref b] s) (F0 m 2286 ls [])) : W p l e room_1 s m #[Value.ref b] below meth c H locs cells slots (lw_Z below #[Value.ref b] s) (F0 m 1139 ls []) := by
  have hx := X.1
  have hb := X.2.1
  have hbA : ¬ (fun q : Nat => s.heap.size ≤ q) b := Nat.not_le.mpr hbl
  have hcs : cells ≤ room_1.cells ∧ slots ≤ room_1.slots := ⟨Nat.le_trans (Nat.le_add_right _ 4) hc, Nat.le_trans (Nat.le_add_right _ 24) hs⟩
  refine lv_aload_n hx hb dL_law_1139 rfl (lv_at hl 1 rfl) ?_
  refine lv_aload_n hx hb dL_law_1140 rfl (lv_at hl 0 rfl) ?_
  refine lv_iload hx hb dL_law_1141 (lv_at hl 4 rfl) ?_
  refine lv_iconst (v := 1) hx hb dL_law_1143 (by decide) ?_
  refine lv_iadd hx hb dL_law_1144 ?_
  refine va_sld hx hb hX hbl hbA I.2.2.2.1 hi1 dL_law_1145 ?_
  refine lv_aload_n hx hb dL_law_1146 rfl (lv_at hl 3 rfl) ?_
  obtain ⟨q, σ1, b1, τ1, h1, h2, h3, h4, h5⟩ := hSim σ τ (xs (Int32.toNatClampNeg (i + 1))) hR
  refine r2SI (V := vC E) (V' := vR E2) (As := [.ref (ca E 0), .int (xs (Int32.toNatClampNeg (i + 1))), .ref (ca E 59)]) (rest := []) X I J hd hl (c_L_loses hlt hn h1) yw_L_loses tw_1355 ⟨rfl, rfl, Nat.le_of_ble_eq_true rfl, Nat.le_of_ble_eq_true rfl⟩ rfl rfl (Nat.le_of_ble_eq_true rfl) ⟨Nat.le_trans (Nat.add_le_add_left (Nat.le_of_ble_eq_true rfl) cells) hc, Nat.le_trans (Nat.add_le_add_left (Nat.le_of_ble_eq_true rfl) slots) hs⟩ dL_law_1147 (fun H locs I J => ?_)
  refine W.widen (k := cells + 4) (n := slots + 24) (Nat.add_le_add_left (Nat.le_of_ble_eq_true rfl) cells) (Nat.add_le_add_left (Nat.le_of_ble_eq_true rfl) slots) ?_
  have hcs : cells + 4 ≤ room_1.cells ∧ slots + 24 ≤ room_1.slots := ⟨hc, hs⟩
  refine lv_istore (lv' := [(5, .int q), (0, .ref b), (1, .ref (ca E 0)), (2, .ref (ra E2 0)), (3, .ref (ca E 59)), (4, .int i)]) hx hb dL_law_1150 hl (by decide) rfl (fun ls hl => ?_)
  refine lv_aload_n hx hb dL_law_1152 rfl (lv_at hl 3 rfl) ?_
  refine lv_aload_n hx hb dL_law_1153 rfl (lv_at hl 1 rfl) ?_
  refine lv_iload hx hb dL_law_1154 (lv_at hl 5 rfl) ?_
  refine lv_iconst (v := 1) hx hb dL_law_1156 (by decide) ?_
  refine lv_iadd hx hb dL_law_1157 ?_
  refine va_sld hx hb hX hbl hbA I.2.2.2.1 hi1 dL_law_1158 ?_
  refine r2VI (V := vR E2) (V' := vC E) (k := 0) (As := [.int (xs (Int32.toNatClampNeg (i + 1)))]) (rest := []) X J I hd.symm hl (c_X11_loses h2) yv_X11_loses tw_1359 ⟨rfl, rfl, Nat.le_of_ble_eq_true rfl, Nat.le_of_ble_eq_true rfl⟩ (Nat.le_of_ble_eq_true rfl) rfl rfl rfl rfl (Nat.le_of_ble_eq_true rfl) hcs dL_law_1159 (fun H locs J I => ?_)
  refine lv_istore (lv' := [(6, .int b1), (5, .int q), (0, .ref b), (1, .ref (ca E 0)), (2, .ref (ra E2 0)), (3, .ref (ca E 59)), (4, .int i)]) hx hb dL_law_1162 hl (by decide) rfl (fun ls hl => ?_)
  refine lv_aload_n hx hb dL_law_1164 rfl (lv_at hl 4 rfl) ?_
  refine r2VI (V := vR E2) (V' := vC E) (k := 0) (As := []) (rest := []) X J I hd.symm hl (c_X11_thrown (l := l) (E := E2) (σ := τ1) (q := τ1 0 5) rfl) yv_X11_thrown tw_1221 ⟨rfl, rfl, Nat.le_of_ble_eq_true rfl, Nat.le_of_ble_eq_true rfl⟩ (Nat.le_of_ble_eq_true rfl) rfl rfl rfl rfl (Nat.le_of_ble_eq_true rfl) hcs dL_law_1165 (fun H locs J I => ?_)
  refine lv_iload hx hb dL_law_1168 (lv_at hl 1 rfl) ?_
  refine lv_icmp_eq (tgt := 1175) hx hb dL_law_1170 (by decide) (fun _ => ?_) (fun c9 => absurd h3 c9)
  refine lv_iload hx hb dL_law_1175 (lv_at hl 1 rfl) ?_
  refine lv_if_ne (tgt := 1192) hx hb dL_law_1177 (by decide) (fun c1 => ?_) (fun c1 => ?_)
  · skip
    refine lv_goto (tgt := 2286) hx hb dL_law_1192 (by decide) ?_
    exact kend σ1 τ1 h5 H locs ls I J (lv_sub hl [2, 3, 4, 5, 6] rfl)
  · skip
    refine lv_aload_n hx hb dL_law_1180 rfl (lv_at hl 5 rfl) ?_
    refine lv_iconst (v := 0) hx hb dL_law_1181 (by decide) ?_
    refine jaldC X I (kC_59 E hn) (show vp_in (0 : Int32) 1 from vp_in_nI (n := 0) (by decide) (by decide)) dL_law_1182 ?_
    refine lv_iload hx hb dL_law_1183 (lv_at hl 0 rfl) ?_
    refine lv_i2l hx hb dL_law_1185 rfl ?_
    refine W.lcmp hx hb dL_law_1186 ?_
    refine lv_if_eq (tgt := 1192) hx hb dL_law_1187 (by decide) (fun _ => ?_) (fun c9 => absurd (show lg_cmp (Int32.toInt64 (σ1 59 0)) (Int32.toInt64 b1) = 0 by rw [h4 c1]; exact lg_self _) c9)
    refine lv_goto (tgt := 2286) hx hb dL_law_1192 (by decide) ?_
    exact kend σ1 τ1 h5 H locs ls I J (lv_sub hl [2, 3, 4, 5, 6] rfl)
set_option maxHeartbeats 4000000 in
set_option maxRecDepth 100000 in
theorem lc_most {p : Program} {l : Launch} {e : Env} {s : State} {m : MethodId} {below : List Frame} {meth : Method} {c : Code} {b L : Nat} {xs : Nat → Int32} {E : CE} {E2 : RE} {Rel : Mem → Mem → Prop} (hlt : l.stackTraces = false) (hn : 0 < E.2.2.2.2.2.2) (hSim : SIM_most Rel) (X : CX p s m meth c #[Value.ref b] cL_law 7 RL (some .boolean)) (hX : va_X b L xs s s.heap) (hbl : b < s.heap.size) (hd : DJ (vC E) (vR E2)) {i : Int32} (hi1 : vp_in (i + 1) L) (hi2 : vp_in (i + 2) L) (hi3 : vp_in (i + 3) L) (hi4 : vp_in (i + 4) L) (hi5 : vp_in (i + 5) L) {σ τ : Mem} (hR : Rel σ τ) {cells slots : Nat} (hc : cells + 4 ≤ 601024) (hs : slots + 24 ≤ 7293034) {H : Heap} {locs : List Loc} (I : WI (vC E) (fun q : Nat => s.heap.size ≤ q) s H locs σ) (J : WI (vR E2) (fun q : Nat => s.heap.size ≤ q) s H locs τ) {ls : Array Slot} (hl : lv_has ls 7 [(0, .ref b), (1, .ref (ca E 0)), (2, .ref (ra E2 0)), (3, .ref (ca E 59)), (4, .int i)])
    (kend : ∀ (σ1 τ1 : Mem), Rel σ1 τ1 → ∀ (H : Heap) (locs : List Loc) (ls : Array Slot), WI (vC E) (fun q : Nat => s.heap.size ≤ q) s H locs σ1 → WI (vR E2) (fun q : Nat => s.heap.size ≤ q) s H locs τ1 → lv_has ls 7 [(0, .ref b), (1, .ref (ca E 0)), (2, .ref (ra E2 0)), (3, .ref (ca E 59)), (4, .int i)] → W p l e room_1 s m #[Value.ref b] below meth c H locs (cells + 4) (slots + 24) (lw_Z below #[Value.ref b] s) (F0 m 2286 ls [])) : W p l e room_1 s m #[Value.ref b] below meth c H locs cells slots (lw_Z below #[Value.ref b] s) (F0 m 1195 ls []) := by
  have hx := X.1
  have hb := X.2.1
  have hbA : ¬ (fun q : Nat => s.heap.size ≤ q) b := Nat.not_le.mpr hbl
  have hcs : cells ≤ room_1.cells ∧ slots ≤ room_1.slots := ⟨Nat.le_trans (Nat.le_add_right _ 4) hc, Nat.le_trans (Nat.le_add_right _ 24) hs⟩
  refine lv_aload_n hx hb dL_law_1195 rfl (lv_at hl 1 rfl) ?_
  refine lv_aload_n hx hb dL_law_1196 rfl (lv_at hl 0 rfl) ?_
  refine lv_iload hx hb dL_law_1197 (lv_at hl 4 rfl) ?_
  refine lv_iconst (v := 1) hx hb dL_law_1199 (by decide) ?_
  refine lv_iadd hx hb dL_law_1200 ?_
  refine va_sld hx hb hX hbl hbA I.2.2.2.1 hi1 dL_law_1201 ?_
  refine lv_aload_n hx hb dL_law_1202 rfl (lv_at hl 3 rfl) ?_
  obtain ⟨q, σ1, b1, τ1, h1, h2, h3, h4, h5⟩ := hSim σ τ (xs (Int32.toNatClampNeg (i + 1))) hR
  refine r2SI (V := vC E) (V' := vR E2) (As := [.ref (ca E 0), .int (xs (Int32.toNatClampNeg (i + 1))), .ref (ca E 59)]) (rest := []) X I J hd hl (c_L_most hlt hn h1) yw_L_most tw_1364 ⟨rfl, rfl, Nat.le_of_ble_eq_true rfl, Nat.le_of_ble_eq_true rfl⟩ rfl rfl (Nat.le_of_ble_eq_true rfl) ⟨Nat.le_trans (Nat.add_le_add_left (Nat.le_of_ble_eq_true rfl) cells) hc, Nat.le_trans (Nat.add_le_add_left (Nat.le_of_ble_eq_true rfl) slots) hs⟩ dL_law_1203 (fun H locs I J => ?_)
  refine W.widen (k := cells + 4) (n := slots + 24) (Nat.add_le_add_left (Nat.le_of_ble_eq_true rfl) cells) (Nat.add_le_add_left (Nat.le_of_ble_eq_true rfl) slots) ?_
  have hcs : cells + 4 ≤ room_1.cells ∧ slots + 24 ≤ room_1.slots := ⟨hc, hs⟩
  refine lv_istore (lv' := [(5, .int q), (0, .ref b), (1, .ref (ca E 0)), (2, .ref (ra E2 0)), (3, .ref (ca E 59)), (4, .int i)]) hx hb dL_law_1206 hl (by decide) rfl (fun ls hl => ?_)
  refine lv_aload_n hx hb dL_law_1208 rfl (lv_at hl 3 rfl) ?_
  refine lv_aload_n hx hb dL_law_1209 rfl (lv_at hl 1 rfl) ?_
  refine lv_iload hx hb dL_law_1210 (lv_at hl 5 rfl) ?_
  refine lv_iconst (v := 1) hx hb dL_law_1212 (by decide) ?_
  refine lv_iadd hx hb dL_law_1213 ?_
  refine va_sld hx hb hX hbl hbA I.2.2.2.1 hi1 dL_law_1214 ?_
  refine r2VI (V := vR E2) (V' := vC E) (k := 0) (As := [.int (xs (Int32.toNatClampNeg (i + 1)))]) (rest := []) X J I hd.symm hl (c_X11_most h2) yv_X11_most tw_1368 ⟨rfl, rfl, Nat.le_of_ble_eq_true rfl, Nat.le_of_ble_eq_true rfl⟩ (Nat.le_of_ble_eq_true rfl) rfl rfl rfl rfl (Nat.le_of_ble_eq_true rfl) hcs dL_law_1215 (fun H locs J I => ?_)
  refine lv_istore (lv' := [(6, .int b1), (5, .int q), (0, .ref b), (1, .ref (ca E 0)), (2, .ref (ra E2 0)), (3, .ref (ca E 59)), (4, .int i)]) hx hb dL_law_1218 hl (by decide) rfl (fun ls hl => ?_)
  refine lv_aload_n hx hb dL_law_1220 rfl (lv_at hl 4 rfl) ?_
  refine r2VI (V := vR E2) (V' := vC E) (k := 0) (As := []) (rest := []) X J I hd.symm hl (c_X11_thrown (l := l) (E := E2) (σ := τ1) (q := τ1 0 5) rfl) yv_X11_thrown tw_1221 ⟨rfl, rfl, Nat.le_of_ble_eq_true rfl, Nat.le_of_ble_eq_true rfl⟩ (Nat.le_of_ble_eq_true rfl) rfl rfl rfl rfl (Nat.le_of_ble_eq_true rfl) hcs dL_law_1221 (fun H locs J I => ?_)
  refine lv_iload hx hb dL_law_1224 (lv_at hl 1 rfl) ?_
  refine lv_icmp_eq (tgt := 1231) hx hb dL_law_1226 (by decide) (fun _ => ?_) (fun c9 => absurd h3 c9)
  refine lv_iload hx hb dL_law_1231 (lv_at hl 1 rfl) ?_
  refine lv_if_ne (tgt := 1248) hx hb dL_law_1233 (by decide) (fun c1 => ?_) (fun c1 => ?_)
  · skip
    refine lv_goto (tgt := 2286) hx hb dL_law_1248 (by decide) ?_
    exact kend σ1 τ1 h5 H locs ls I J (lv_sub hl [2, 3, 4, 5, 6] rfl)
  · skip
    refine lv_aload_n hx hb dL_law_1236 rfl (lv_at hl 5 rfl) ?_
    refine lv_iconst (v := 0) hx hb dL_law_1237 (by decide) ?_
    refine jaldC X I (kC_59 E hn) (show vp_in (0 : Int32) 1 from vp_in_nI (n := 0) (by decide) (by decide)) dL_law_1238 ?_
    refine lv_iload hx hb dL_law_1239 (lv_at hl 0 rfl) ?_
    refine lv_i2l hx hb dL_law_1241 rfl ?_
    refine W.lcmp hx hb dL_law_1242 ?_
    refine lv_if_eq (tgt := 1248) hx hb dL_law_1243 (by decide) (fun _ => ?_) (fun c9 => absurd (show lg_cmp (Int32.toInt64 (σ1 59 0)) (Int32.toInt64 b1) = 0 by rw [h4 c1]; exact lg_self _) c9)
    refine lv_goto (tgt := 2286) hx hb dL_law_1248 (by decide) ?_
    exact kend σ1 τ1 h5 H locs ls I J (lv_sub hl [2, 3, 4, 5, 6] rfl)
set_option maxHeartbeats 4000000 in
set_option maxRecDepth 100000 in
theorem lc_row {p : Program} {l : Launch} {e : Env} {s : State} {m : MethodId} {below : List Frame} {meth : Method} {c : Code} {b L : Nat} {xs : Nat → Int32} {E : CE} {E2 : RE} {Rel : Mem → Mem → Prop} (hlt : l.stackTraces = false) (hn : 0 < E.2.2.2.2.2.2) (hSim : SIM_row Rel) (X : CX p s m meth c #[Value.ref b] cL_law 7 RL (some .boolean)) (hX : va_X b L xs s s.heap) (hbl : b < s.heap.size) (hd : DJ (vC E) (vR E2)) {i : Int32} (hi1 : vp_in (i + 1) L) (hi2 : vp_in (i + 2) L) (hi3 : vp_in (i + 3) L) (hi4 : vp_in (i + 4) L) (hi5 : vp_in (i + 5) L) {σ τ : Mem} (hR : Rel σ τ) {cells slots : Nat} (hc : cells + 4 ≤ 601024) (hs : slots + 24 ≤ 7293034) {H : Heap} {locs : List Loc} (I : WI (vC E) (fun q : Nat => s.heap.size ≤ q) s H locs σ) (J : WI (vR E2) (fun q : Nat => s.heap.size ≤ q) s H locs τ) {ls : Array Slot} (hl : lv_has ls 7 [(0, .ref b), (1, .ref (ca E 0)), (2, .ref (ra E2 0)), (3, .ref (ca E 59)), (4, .int i)])
    (kend : ∀ (σ1 τ1 : Mem), Rel σ1 τ1 → ∀ (H : Heap) (locs : List Loc) (ls : Array Slot), WI (vC E) (fun q : Nat => s.heap.size ≤ q) s H locs σ1 → WI (vR E2) (fun q : Nat => s.heap.size ≤ q) s H locs τ1 → lv_has ls 7 [(0, .ref b), (1, .ref (ca E 0)), (2, .ref (ra E2 0)), (3, .ref (ca E 59)), (4, .int i)] → W p l e room_1 s m #[Value.ref b] below meth c H locs (cells + 4) (slots + 24) (lw_Z below #[Value.ref b] s) (F0 m 2286 ls [])) : W p l e room_1 s m #[Value.ref b] below meth c H locs cells slots (lw_Z below #[Value.ref b] s) (F0 m 1251 ls []) := by
  have hx := X.1
  have hb := X.2.1
  have hbA : ¬ (fun q : Nat => s.heap.size ≤ q) b := Nat.not_le.mpr hbl
  have hcs : cells ≤ room_1.cells ∧ slots ≤ room_1.slots := ⟨Nat.le_trans (Nat.le_add_right _ 4) hc, Nat.le_trans (Nat.le_add_right _ 24) hs⟩
  refine lv_aload_n hx hb dL_law_1251 rfl (lv_at hl 1 rfl) ?_
  refine lv_aload_n hx hb dL_law_1252 rfl (lv_at hl 0 rfl) ?_
  refine lv_iload hx hb dL_law_1253 (lv_at hl 4 rfl) ?_
  refine lv_iconst (v := 1) hx hb dL_law_1255 (by decide) ?_
  refine lv_iadd hx hb dL_law_1256 ?_
  refine va_sld hx hb hX hbl hbA I.2.2.2.1 hi1 dL_law_1257 ?_
  refine lv_aload_n hx hb dL_law_1258 rfl (lv_at hl 0 rfl) ?_
  refine lv_iload hx hb dL_law_1259 (lv_at hl 4 rfl) ?_
  refine lv_iconst (v := 2) hx hb dL_law_1261 (by decide) ?_
  refine lv_iadd hx hb dL_law_1262 ?_
  refine va_sld hx hb hX hbl hbA I.2.2.2.1 hi2 dL_law_1263 ?_
  refine lv_aload_n hx hb dL_law_1264 rfl (lv_at hl 3 rfl) ?_
  obtain ⟨q, σ1, b1, τ1, h1, h2, h3, h4, h5⟩ := hSim σ τ (xs (Int32.toNatClampNeg (i + 1))) (xs (Int32.toNatClampNeg (i + 2))) hR
  refine r2SI (V := vC E) (V' := vR E2) (As := [.ref (ca E 0), .int (xs (Int32.toNatClampNeg (i + 1))), .int (xs (Int32.toNatClampNeg (i + 2))), .ref (ca E 59)]) (rest := []) X I J hd hl (c_L_row hlt hn h1) yw_L_row tw_1373 ⟨rfl, rfl, Nat.le_of_ble_eq_true rfl, Nat.le_of_ble_eq_true rfl⟩ rfl rfl (Nat.le_of_ble_eq_true rfl) ⟨Nat.le_trans (Nat.add_le_add_left (Nat.le_of_ble_eq_true rfl) cells) hc, Nat.le_trans (Nat.add_le_add_left (Nat.le_of_ble_eq_true rfl) slots) hs⟩ dL_law_1265 (fun H locs I J => ?_)
  refine W.widen (k := cells + 4) (n := slots + 24) (Nat.add_le_add_left (Nat.le_of_ble_eq_true rfl) cells) (Nat.add_le_add_left (Nat.le_of_ble_eq_true rfl) slots) ?_
  have hcs : cells + 4 ≤ room_1.cells ∧ slots + 24 ≤ room_1.slots := ⟨hc, hs⟩
  refine lv_istore (lv' := [(5, .int q), (0, .ref b), (1, .ref (ca E 0)), (2, .ref (ra E2 0)), (3, .ref (ca E 59)), (4, .int i)]) hx hb dL_law_1268 hl (by decide) rfl (fun ls hl => ?_)
  refine lv_aload_n hx hb dL_law_1270 rfl (lv_at hl 3 rfl) ?_
  refine lv_aload_n hx hb dL_law_1271 rfl (lv_at hl 1 rfl) ?_
  refine lv_iload hx hb dL_law_1272 (lv_at hl 5 rfl) ?_
  refine lv_iconst (v := 1) hx hb dL_law_1274 (by decide) ?_
  refine lv_iadd hx hb dL_law_1275 ?_
  refine va_sld hx hb hX hbl hbA I.2.2.2.1 hi1 dL_law_1276 ?_
  refine lv_aload_n hx hb dL_law_1277 rfl (lv_at hl 1 rfl) ?_
  refine lv_iload hx hb dL_law_1278 (lv_at hl 5 rfl) ?_
  refine lv_iconst (v := 2) hx hb dL_law_1280 (by decide) ?_
  refine lv_iadd hx hb dL_law_1281 ?_
  refine va_sld hx hb hX hbl hbA I.2.2.2.1 hi2 dL_law_1282 ?_
  refine r2VI (V := vR E2) (V' := vC E) (k := 0) (As := [.int (xs (Int32.toNatClampNeg (i + 1))), .int (xs (Int32.toNatClampNeg (i + 2)))]) (rest := []) X J I hd.symm hl (c_X11_row h2) yv_X11_row tw_1377 ⟨rfl, rfl, Nat.le_of_ble_eq_true rfl, Nat.le_of_ble_eq_true rfl⟩ (Nat.le_of_ble_eq_true rfl) rfl rfl rfl rfl (Nat.le_of_ble_eq_true rfl) hcs dL_law_1283 (fun H locs J I => ?_)
  refine lv_istore (lv' := [(6, .int b1), (5, .int q), (0, .ref b), (1, .ref (ca E 0)), (2, .ref (ra E2 0)), (3, .ref (ca E 59)), (4, .int i)]) hx hb dL_law_1286 hl (by decide) rfl (fun ls hl => ?_)
  refine lv_aload_n hx hb dL_law_1288 rfl (lv_at hl 4 rfl) ?_
  refine r2VI (V := vR E2) (V' := vC E) (k := 0) (As := []) (rest := []) X J I hd.symm hl (c_X11_thrown (l := l) (E := E2) (σ := τ1) (q := τ1 0 5) rfl) yv_X11_thrown tw_1221 ⟨rfl, rfl, Nat.le_of_ble_eq_true rfl, Nat.le_of_ble_eq_true rfl⟩ (Nat.le_of_ble_eq_true rfl) rfl rfl rfl rfl (Nat.le_of_ble_eq_true rfl) hcs dL_law_1289 (fun H locs J I => ?_)
  refine lv_iload hx hb dL_law_1292 (lv_at hl 1 rfl) ?_
  refine lv_icmp_eq (tgt := 1299) hx hb dL_law_1294 (by decide) (fun _ => ?_) (fun c9 => absurd h3 c9)
  refine lv_iload hx hb dL_law_1299 (lv_at hl 1 rfl) ?_
  refine lv_if_ne (tgt := 1316) hx hb dL_law_1301 (by decide) (fun c1 => ?_) (fun c1 => ?_)
  · skip
    refine lv_goto (tgt := 2286) hx hb dL_law_1316 (by decide) ?_
    exact kend σ1 τ1 h5 H locs ls I J (lv_sub hl [2, 3, 4, 5, 6] rfl)
  · skip
    refine lv_aload_n hx hb dL_law_1304 rfl (lv_at hl 5 rfl) ?_
    refine lv_iconst (v := 0) hx hb dL_law_1305 (by decide) ?_
    refine jaldC X I (kC_59 E hn) (show vp_in (0 : Int32) 1 from vp_in_nI (n := 0) (by decide) (by decide)) dL_law_1306 ?_
    refine lv_iload hx hb dL_law_1307 (lv_at hl 0 rfl) ?_
    refine lv_i2l hx hb dL_law_1309 rfl ?_
    refine W.lcmp hx hb dL_law_1310 ?_
    refine lv_if_eq (tgt := 1316) hx hb dL_law_1311 (by decide) (fun _ => ?_) (fun c9 => absurd (show lg_cmp (Int32.toInt64 (σ1 59 0)) (Int32.toInt64 b1) = 0 by rw [h4 c1]; exact lg_self _) c9)
    refine lv_goto (tgt := 2286) hx hb dL_law_1316 (by decide) ?_
    exact kend σ1 τ1 h5 H locs ls I J (lv_sub hl [2, 3, 4, 5, 6] rfl)
set_option maxHeartbeats 4000000 in
set_option maxRecDepth 100000 in
theorem lc_empty {p : Program} {l : Launch} {e : Env} {s : State} {m : MethodId} {below : List Frame} {meth : Method} {c : Code} {b L : Nat} {xs : Nat → Int32} {E : CE} {E2 : RE} {Rel : Mem → Mem → Prop} (hlt : l.stackTraces = false) (hn : 0 < E.2.2.2.2.2.2) (hSim : SIM_empty Rel) (X : CX p s m meth c #[Value.ref b] cL_law 7 RL (some .boolean)) (hX : va_X b L xs s s.heap) (hbl : b < s.heap.size) (hd : DJ (vC E) (vR E2)) {i : Int32} (hi1 : vp_in (i + 1) L) (hi2 : vp_in (i + 2) L) (hi3 : vp_in (i + 3) L) (hi4 : vp_in (i + 4) L) (hi5 : vp_in (i + 5) L) {σ τ : Mem} (hR : Rel σ τ) {cells slots : Nat} (hc : cells + 4 ≤ 601024) (hs : slots + 24 ≤ 7293034) {H : Heap} {locs : List Loc} (I : WI (vC E) (fun q : Nat => s.heap.size ≤ q) s H locs σ) (J : WI (vR E2) (fun q : Nat => s.heap.size ≤ q) s H locs τ) {ls : Array Slot} (hl : lv_has ls 7 [(0, .ref b), (1, .ref (ca E 0)), (2, .ref (ra E2 0)), (3, .ref (ca E 59)), (4, .int i)])
    (kend : ∀ (σ1 τ1 : Mem), Rel σ1 τ1 → ∀ (H : Heap) (locs : List Loc) (ls : Array Slot), WI (vC E) (fun q : Nat => s.heap.size ≤ q) s H locs σ1 → WI (vR E2) (fun q : Nat => s.heap.size ≤ q) s H locs τ1 → lv_has ls 7 [(0, .ref b), (1, .ref (ca E 0)), (2, .ref (ra E2 0)), (3, .ref (ca E 59)), (4, .int i)] → W p l e room_1 s m #[Value.ref b] below meth c H locs (cells + 4) (slots + 24) (lw_Z below #[Value.ref b] s) (F0 m 2286 ls [])) : W p l e room_1 s m #[Value.ref b] below meth c H locs cells slots (lw_Z below #[Value.ref b] s) (F0 m 1319 ls []) := by
  have hx := X.1
  have hb := X.2.1
  have hbA : ¬ (fun q : Nat => s.heap.size ≤ q) b := Nat.not_le.mpr hbl
  have hcs : cells ≤ room_1.cells ∧ slots ≤ room_1.slots := ⟨Nat.le_trans (Nat.le_add_right _ 4) hc, Nat.le_trans (Nat.le_add_right _ 24) hs⟩
  refine lv_aload_n hx hb dL_law_1319 rfl (lv_at hl 1 rfl) ?_
  refine lv_aload_n hx hb dL_law_1320 rfl (lv_at hl 0 rfl) ?_
  refine lv_iload hx hb dL_law_1321 (lv_at hl 4 rfl) ?_
  refine lv_iconst (v := 1) hx hb dL_law_1323 (by decide) ?_
  refine lv_iadd hx hb dL_law_1324 ?_
  refine va_sld hx hb hX hbl hbA I.2.2.2.1 hi1 dL_law_1325 ?_
  refine lv_aload_n hx hb dL_law_1326 rfl (lv_at hl 3 rfl) ?_
  obtain ⟨q, σ1, b1, τ1, h1, h2, h3, h4, h5⟩ := hSim σ τ (xs (Int32.toNatClampNeg (i + 1))) hR
  refine r2SI (V := vC E) (V' := vR E2) (As := [.ref (ca E 0), .int (xs (Int32.toNatClampNeg (i + 1))), .ref (ca E 59)]) (rest := []) X I J hd hl (c_L_empty hlt hn h1) yw_L_empty tw_1382 ⟨rfl, rfl, Nat.le_of_ble_eq_true rfl, Nat.le_of_ble_eq_true rfl⟩ rfl rfl (Nat.le_of_ble_eq_true rfl) ⟨Nat.le_trans (Nat.add_le_add_left (Nat.le_of_ble_eq_true rfl) cells) hc, Nat.le_trans (Nat.add_le_add_left (Nat.le_of_ble_eq_true rfl) slots) hs⟩ dL_law_1327 (fun H locs I J => ?_)
  refine W.widen (k := cells + 4) (n := slots + 24) (Nat.add_le_add_left (Nat.le_of_ble_eq_true rfl) cells) (Nat.add_le_add_left (Nat.le_of_ble_eq_true rfl) slots) ?_
  have hcs : cells + 4 ≤ room_1.cells ∧ slots + 24 ≤ room_1.slots := ⟨hc, hs⟩
  refine lv_istore (lv' := [(5, .int q), (0, .ref b), (1, .ref (ca E 0)), (2, .ref (ra E2 0)), (3, .ref (ca E 59)), (4, .int i)]) hx hb dL_law_1330 hl (by decide) rfl (fun ls hl => ?_)
  refine lv_aload_n hx hb dL_law_1332 rfl (lv_at hl 3 rfl) ?_
  refine lv_aload_n hx hb dL_law_1333 rfl (lv_at hl 1 rfl) ?_
  refine lv_iload hx hb dL_law_1334 (lv_at hl 5 rfl) ?_
  refine lv_iconst (v := 1) hx hb dL_law_1336 (by decide) ?_
  refine lv_iadd hx hb dL_law_1337 ?_
  refine va_sld hx hb hX hbl hbA I.2.2.2.1 hi1 dL_law_1338 ?_
  refine r2VI (V := vR E2) (V' := vC E) (k := 0) (As := [.int (xs (Int32.toNatClampNeg (i + 1)))]) (rest := []) X J I hd.symm hl (c_X11_empty h2) yv_X11_empty tw_1386 ⟨rfl, rfl, Nat.le_of_ble_eq_true rfl, Nat.le_of_ble_eq_true rfl⟩ (Nat.le_of_ble_eq_true rfl) rfl rfl rfl rfl (Nat.le_of_ble_eq_true rfl) hcs dL_law_1339 (fun H locs J I => ?_)
  refine lv_istore (lv' := [(6, .int b1), (5, .int q), (0, .ref b), (1, .ref (ca E 0)), (2, .ref (ra E2 0)), (3, .ref (ca E 59)), (4, .int i)]) hx hb dL_law_1342 hl (by decide) rfl (fun ls hl => ?_)
  refine lv_aload_n hx hb dL_law_1344 rfl (lv_at hl 4 rfl) ?_
  refine r2VI (V := vR E2) (V' := vC E) (k := 0) (As := []) (rest := []) X J I hd.symm hl (c_X11_thrown (l := l) (E := E2) (σ := τ1) (q := τ1 0 5) rfl) yv_X11_thrown tw_1221 ⟨rfl, rfl, Nat.le_of_ble_eq_true rfl, Nat.le_of_ble_eq_true rfl⟩ (Nat.le_of_ble_eq_true rfl) rfl rfl rfl rfl (Nat.le_of_ble_eq_true rfl) hcs dL_law_1345 (fun H locs J I => ?_)
  refine lv_iload hx hb dL_law_1348 (lv_at hl 1 rfl) ?_
  refine lv_icmp_eq (tgt := 1355) hx hb dL_law_1350 (by decide) (fun _ => ?_) (fun c9 => absurd h3 c9)
  refine lv_iload hx hb dL_law_1355 (lv_at hl 1 rfl) ?_
  refine lv_if_ne (tgt := 1372) hx hb dL_law_1357 (by decide) (fun c1 => ?_) (fun c1 => ?_)
  · skip
    refine lv_goto (tgt := 2286) hx hb dL_law_1372 (by decide) ?_
    exact kend σ1 τ1 h5 H locs ls I J (lv_sub hl [2, 3, 4, 5, 6] rfl)
  · skip
    refine lv_aload_n hx hb dL_law_1360 rfl (lv_at hl 5 rfl) ?_
    refine lv_iconst (v := 0) hx hb dL_law_1361 (by decide) ?_
    refine jaldC X I (kC_59 E hn) (show vp_in (0 : Int32) 1 from vp_in_nI (n := 0) (by decide) (by decide)) dL_law_1362 ?_
    refine lv_iload hx hb dL_law_1363 (lv_at hl 0 rfl) ?_
    refine lv_i2l hx hb dL_law_1365 rfl ?_
    refine W.lcmp hx hb dL_law_1366 ?_
    refine lv_if_eq (tgt := 1372) hx hb dL_law_1367 (by decide) (fun _ => ?_) (fun c9 => absurd (show lg_cmp (Int32.toInt64 (σ1 59 0)) (Int32.toInt64 b1) = 0 by rw [h4 c1]; exact lg_self _) c9)
    refine lv_goto (tgt := 2286) hx hb dL_law_1372 (by decide) ?_
    exact kend σ1 τ1 h5 H locs ls I J (lv_sub hl [2, 3, 4, 5, 6] rfl)
set_option maxHeartbeats 4000000 in
set_option maxRecDepth 100000 in
theorem lc_liking {p : Program} {l : Launch} {e : Env} {s : State} {m : MethodId} {below : List Frame} {meth : Method} {c : Code} {b L : Nat} {xs : Nat → Int32} {E : CE} {E2 : RE} {Rel : Mem → Mem → Prop} (hlt : l.stackTraces = false) (hn : 0 < E.2.2.2.2.2.2) (hSim : SIM_liking Rel) (X : CX p s m meth c #[Value.ref b] cL_law 7 RL (some .boolean)) (hX : va_X b L xs s s.heap) (hbl : b < s.heap.size) (hd : DJ (vC E) (vR E2)) {i : Int32} (hi1 : vp_in (i + 1) L) (hi2 : vp_in (i + 2) L) (hi3 : vp_in (i + 3) L) (hi4 : vp_in (i + 4) L) (hi5 : vp_in (i + 5) L) {σ τ : Mem} (hR : Rel σ τ) {cells slots : Nat} (hc : cells + 4 ≤ 601024) (hs : slots + 24 ≤ 7293034) {H : Heap} {locs : List Loc} (I : WI (vC E) (fun q : Nat => s.heap.size ≤ q) s H locs σ) (J : WI (vR E2) (fun q : Nat => s.heap.size ≤ q) s H locs τ) {ls : Array Slot} (hl : lv_has ls 7 [(0, .ref b), (1, .ref (ca E 0)), (2, .ref (ra E2 0)), (3, .ref (ca E 59)), (4, .int i)])
    (kend : ∀ (σ1 τ1 : Mem), Rel σ1 τ1 → ∀ (H : Heap) (locs : List Loc) (ls : Array Slot), WI (vC E) (fun q : Nat => s.heap.size ≤ q) s H locs σ1 → WI (vR E2) (fun q : Nat => s.heap.size ≤ q) s H locs τ1 → lv_has ls 7 [(0, .ref b), (1, .ref (ca E 0)), (2, .ref (ra E2 0)), (3, .ref (ca E 59)), (4, .int i)] → W p l e room_1 s m #[Value.ref b] below meth c H locs (cells + 4) (slots + 24) (lw_Z below #[Value.ref b] s) (F0 m 2286 ls [])) : W p l e room_1 s m #[Value.ref b] below meth c H locs cells slots (lw_Z below #[Value.ref b] s) (F0 m 1375 ls []) := by
  have hx := X.1
  have hb := X.2.1
  have hbA : ¬ (fun q : Nat => s.heap.size ≤ q) b := Nat.not_le.mpr hbl
  have hcs : cells ≤ room_1.cells ∧ slots ≤ room_1.slots := ⟨Nat.le_trans (Nat.le_add_right _ 4) hc, Nat.le_trans (Nat.le_add_right _ 24) hs⟩
  refine lv_aload_n hx hb dL_law_1375 rfl (lv_at hl 1 rfl) ?_
  refine lv_aload_n hx hb dL_law_1376 rfl (lv_at hl 0 rfl) ?_
  refine lv_iload hx hb dL_law_1377 (lv_at hl 4 rfl) ?_
  refine lv_iconst (v := 1) hx hb dL_law_1379 (by decide) ?_
  refine lv_iadd hx hb dL_law_1380 ?_
  refine va_sld hx hb hX hbl hbA I.2.2.2.1 hi1 dL_law_1381 ?_
  refine lv_aload_n hx hb dL_law_1382 rfl (lv_at hl 0 rfl) ?_
  refine lv_iload hx hb dL_law_1383 (lv_at hl 4 rfl) ?_
  refine lv_iconst (v := 2) hx hb dL_law_1385 (by decide) ?_
  refine lv_iadd hx hb dL_law_1386 ?_
  refine va_sld hx hb hX hbl hbA I.2.2.2.1 hi2 dL_law_1387 ?_
  refine lv_aload_n hx hb dL_law_1388 rfl (lv_at hl 3 rfl) ?_
  obtain ⟨q, σ1, b1, τ1, h1, h2, h3, h4, h5⟩ := hSim σ τ (xs (Int32.toNatClampNeg (i + 1))) (xs (Int32.toNatClampNeg (i + 2))) hR
  refine r2SI (V := vC E) (V' := vR E2) (As := [.ref (ca E 0), .int (xs (Int32.toNatClampNeg (i + 1))), .int (xs (Int32.toNatClampNeg (i + 2))), .ref (ca E 59)]) (rest := []) X I J hd hl (c_L_liking hlt hn h1) yw_L_liking tw_1391 ⟨rfl, rfl, Nat.le_of_ble_eq_true rfl, Nat.le_of_ble_eq_true rfl⟩ rfl rfl (Nat.le_of_ble_eq_true rfl) ⟨Nat.le_trans (Nat.add_le_add_left (Nat.le_of_ble_eq_true rfl) cells) hc, Nat.le_trans (Nat.add_le_add_left (Nat.le_of_ble_eq_true rfl) slots) hs⟩ dL_law_1389 (fun H locs I J => ?_)
  refine W.widen (k := cells + 4) (n := slots + 24) (Nat.add_le_add_left (Nat.le_of_ble_eq_true rfl) cells) (Nat.add_le_add_left (Nat.le_of_ble_eq_true rfl) slots) ?_
  have hcs : cells + 4 ≤ room_1.cells ∧ slots + 24 ≤ room_1.slots := ⟨hc, hs⟩
  refine lv_istore (lv' := [(5, .int q), (0, .ref b), (1, .ref (ca E 0)), (2, .ref (ra E2 0)), (3, .ref (ca E 59)), (4, .int i)]) hx hb dL_law_1392 hl (by decide) rfl (fun ls hl => ?_)
  refine lv_aload_n hx hb dL_law_1394 rfl (lv_at hl 3 rfl) ?_
  refine lv_aload_n hx hb dL_law_1395 rfl (lv_at hl 1 rfl) ?_
  refine lv_iload hx hb dL_law_1396 (lv_at hl 5 rfl) ?_
  refine lv_iconst (v := 1) hx hb dL_law_1398 (by decide) ?_
  refine lv_iadd hx hb dL_law_1399 ?_
  refine va_sld hx hb hX hbl hbA I.2.2.2.1 hi1 dL_law_1400 ?_
  refine lv_aload_n hx hb dL_law_1401 rfl (lv_at hl 1 rfl) ?_
  refine lv_iload hx hb dL_law_1402 (lv_at hl 5 rfl) ?_
  refine lv_iconst (v := 2) hx hb dL_law_1404 (by decide) ?_
  refine lv_iadd hx hb dL_law_1405 ?_
  refine va_sld hx hb hX hbl hbA I.2.2.2.1 hi2 dL_law_1406 ?_
  refine r2VI (V := vR E2) (V' := vC E) (k := 0) (As := [.int (xs (Int32.toNatClampNeg (i + 1))), .int (xs (Int32.toNatClampNeg (i + 2)))]) (rest := []) X J I hd.symm hl (c_X11_liking h2) yv_X11_liking tw_1395 ⟨rfl, rfl, Nat.le_of_ble_eq_true rfl, Nat.le_of_ble_eq_true rfl⟩ (Nat.le_of_ble_eq_true rfl) rfl rfl rfl rfl (Nat.le_of_ble_eq_true rfl) hcs dL_law_1407 (fun H locs J I => ?_)
  refine lv_istore (lv' := [(6, .int b1), (5, .int q), (0, .ref b), (1, .ref (ca E 0)), (2, .ref (ra E2 0)), (3, .ref (ca E 59)), (4, .int i)]) hx hb dL_law_1410 hl (by decide) rfl (fun ls hl => ?_)
  refine lv_aload_n hx hb dL_law_1412 rfl (lv_at hl 4 rfl) ?_
  refine r2VI (V := vR E2) (V' := vC E) (k := 0) (As := []) (rest := []) X J I hd.symm hl (c_X11_thrown (l := l) (E := E2) (σ := τ1) (q := τ1 0 5) rfl) yv_X11_thrown tw_1221 ⟨rfl, rfl, Nat.le_of_ble_eq_true rfl, Nat.le_of_ble_eq_true rfl⟩ (Nat.le_of_ble_eq_true rfl) rfl rfl rfl rfl (Nat.le_of_ble_eq_true rfl) hcs dL_law_1413 (fun H locs J I => ?_)
  refine lv_iload hx hb dL_law_1416 (lv_at hl 1 rfl) ?_
  refine lv_icmp_eq (tgt := 1423) hx hb dL_law_1418 (by decide) (fun _ => ?_) (fun c9 => absurd h3 c9)
  refine lv_iload hx hb dL_law_1423 (lv_at hl 1 rfl) ?_
  refine lv_if_ne (tgt := 1440) hx hb dL_law_1425 (by decide) (fun c1 => ?_) (fun c1 => ?_)
  · skip
    refine lv_goto (tgt := 2286) hx hb dL_law_1440 (by decide) ?_
    exact kend σ1 τ1 h5 H locs ls I J (lv_sub hl [2, 3, 4, 5, 6] rfl)
  · skip
    refine lv_aload_n hx hb dL_law_1428 rfl (lv_at hl 5 rfl) ?_
    refine lv_iconst (v := 0) hx hb dL_law_1429 (by decide) ?_
    refine jaldC X I (kC_59 E hn) (show vp_in (0 : Int32) 1 from vp_in_nI (n := 0) (by decide) (by decide)) dL_law_1430 ?_
    refine lv_iload hx hb dL_law_1431 (lv_at hl 0 rfl) ?_
    refine lv_i2l hx hb dL_law_1433 rfl ?_
    refine W.lcmp hx hb dL_law_1434 ?_
    refine lv_if_eq (tgt := 1440) hx hb dL_law_1435 (by decide) (fun _ => ?_) (fun c9 => absurd (show lg_cmp (Int32.toInt64 (σ1 59 0)) (Int32.toInt64 b1) = 0 by rw [h4 c1]; exact lg_self _) c9)
    refine lv_goto (tgt := 2286) hx hb dL_law_1440 (by decide) ?_
    exact kend σ1 τ1 h5 H locs ls I J (lv_sub hl [2, 3, 4, 5, 6] rfl)
set_option maxHeartbeats 4000000 in
set_option maxRecDepth 100000 in
theorem lc_leastChops {p : Program} {l : Launch} {e : Env} {s : State} {m : MethodId} {below : List Frame} {meth : Method} {c : Code} {b L : Nat} {xs : Nat → Int32} {E : CE} {E2 : RE} {Rel : Mem → Mem → Prop} (hlt : l.stackTraces = false) (hn : 0 < E.2.2.2.2.2.2) (hSim : SIM_leastChops Rel) (X : CX p s m meth c #[Value.ref b] cL_law 7 RL (some .boolean)) (hX : va_X b L xs s s.heap) (hbl : b < s.heap.size) (hd : DJ (vC E) (vR E2)) {i : Int32} (hi1 : vp_in (i + 1) L) (hi2 : vp_in (i + 2) L) (hi3 : vp_in (i + 3) L) (hi4 : vp_in (i + 4) L) (hi5 : vp_in (i + 5) L) {σ τ : Mem} (hR : Rel σ τ) {cells slots : Nat} (hc : cells + 4 ≤ 601024) (hs : slots + 24 ≤ 7293034) {H : Heap} {locs : List Loc} (I : WI (vC E) (fun q : Nat => s.heap.size ≤ q) s H locs σ) (J : WI (vR E2) (fun q : Nat => s.heap.size ≤ q) s H locs τ) {ls : Array Slot} (hl : lv_has ls 7 [(0, .ref b), (1, .ref (ca E 0)), (2, .ref (ra E2 0)), (3, .ref (ca E 59)), (4, .int i)])
    (kend : ∀ (σ1 τ1 : Mem), Rel σ1 τ1 → ∀ (H : Heap) (locs : List Loc) (ls : Array Slot), WI (vC E) (fun q : Nat => s.heap.size ≤ q) s H locs σ1 → WI (vR E2) (fun q : Nat => s.heap.size ≤ q) s H locs τ1 → lv_has ls 7 [(0, .ref b), (1, .ref (ca E 0)), (2, .ref (ra E2 0)), (3, .ref (ca E 59)), (4, .int i)] → W p l e room_1 s m #[Value.ref b] below meth c H locs (cells + 4) (slots + 24) (lw_Z below #[Value.ref b] s) (F0 m 2286 ls [])) : W p l e room_1 s m #[Value.ref b] below meth c H locs cells slots (lw_Z below #[Value.ref b] s) (F0 m 1443 ls []) := by
  have hx := X.1
  have hb := X.2.1
  have hbA : ¬ (fun q : Nat => s.heap.size ≤ q) b := Nat.not_le.mpr hbl
  have hcs : cells ≤ room_1.cells ∧ slots ≤ room_1.slots := ⟨Nat.le_trans (Nat.le_add_right _ 4) hc, Nat.le_trans (Nat.le_add_right _ 24) hs⟩
  refine lv_aload_n hx hb dL_law_1443 rfl (lv_at hl 1 rfl) ?_
  refine lv_aload_n hx hb dL_law_1444 rfl (lv_at hl 0 rfl) ?_
  refine lv_iload hx hb dL_law_1445 (lv_at hl 4 rfl) ?_
  refine lv_iconst (v := 1) hx hb dL_law_1447 (by decide) ?_
  refine lv_iadd hx hb dL_law_1448 ?_
  refine va_sld hx hb hX hbl hbA I.2.2.2.1 hi1 dL_law_1449 ?_
  refine lv_aload_n hx hb dL_law_1450 rfl (lv_at hl 0 rfl) ?_
  refine lv_iload hx hb dL_law_1451 (lv_at hl 4 rfl) ?_
  refine lv_iconst (v := 2) hx hb dL_law_1453 (by decide) ?_
  refine lv_iadd hx hb dL_law_1454 ?_
  refine va_sld hx hb hX hbl hbA I.2.2.2.1 hi2 dL_law_1455 ?_
  refine lv_aload_n hx hb dL_law_1456 rfl (lv_at hl 3 rfl) ?_
  obtain ⟨q, σ1, b1, τ1, h1, h2, h3, h4, h5⟩ := hSim σ τ (xs (Int32.toNatClampNeg (i + 1))) (xs (Int32.toNatClampNeg (i + 2))) hR
  refine r2SI (V := vC E) (V' := vR E2) (As := [.ref (ca E 0), .int (xs (Int32.toNatClampNeg (i + 1))), .int (xs (Int32.toNatClampNeg (i + 2))), .ref (ca E 59)]) (rest := []) X I J hd hl (c_L_leastChops hlt hn h1) yw_L_leastChops tw_1400 ⟨rfl, rfl, Nat.le_of_ble_eq_true rfl, Nat.le_of_ble_eq_true rfl⟩ rfl rfl (Nat.le_of_ble_eq_true rfl) ⟨Nat.le_trans (Nat.add_le_add_left (Nat.le_of_ble_eq_true rfl) cells) hc, Nat.le_trans (Nat.add_le_add_left (Nat.le_of_ble_eq_true rfl) slots) hs⟩ dL_law_1457 (fun H locs I J => ?_)
  refine W.widen (k := cells + 4) (n := slots + 24) (Nat.add_le_add_left (Nat.le_of_ble_eq_true rfl) cells) (Nat.add_le_add_left (Nat.le_of_ble_eq_true rfl) slots) ?_
  have hcs : cells + 4 ≤ room_1.cells ∧ slots + 24 ≤ room_1.slots := ⟨hc, hs⟩
  refine lv_istore (lv' := [(5, .int q), (0, .ref b), (1, .ref (ca E 0)), (2, .ref (ra E2 0)), (3, .ref (ca E 59)), (4, .int i)]) hx hb dL_law_1460 hl (by decide) rfl (fun ls hl => ?_)
  refine lv_aload_n hx hb dL_law_1462 rfl (lv_at hl 3 rfl) ?_
  refine lv_aload_n hx hb dL_law_1463 rfl (lv_at hl 1 rfl) ?_
  refine lv_iload hx hb dL_law_1464 (lv_at hl 5 rfl) ?_
  refine lv_iconst (v := 1) hx hb dL_law_1466 (by decide) ?_
  refine lv_iadd hx hb dL_law_1467 ?_
  refine va_sld hx hb hX hbl hbA I.2.2.2.1 hi1 dL_law_1468 ?_
  refine lv_aload_n hx hb dL_law_1469 rfl (lv_at hl 1 rfl) ?_
  refine lv_iload hx hb dL_law_1470 (lv_at hl 5 rfl) ?_
  refine lv_iconst (v := 2) hx hb dL_law_1472 (by decide) ?_
  refine lv_iadd hx hb dL_law_1473 ?_
  refine va_sld hx hb hX hbl hbA I.2.2.2.1 hi2 dL_law_1474 ?_
  refine r2VI (V := vR E2) (V' := vC E) (k := 0) (As := [.int (xs (Int32.toNatClampNeg (i + 1))), .int (xs (Int32.toNatClampNeg (i + 2)))]) (rest := []) X J I hd.symm hl (c_X11_leastChops h2) yv_X11_leastChops tw_1404 ⟨rfl, rfl, Nat.le_of_ble_eq_true rfl, Nat.le_of_ble_eq_true rfl⟩ (Nat.le_of_ble_eq_true rfl) rfl rfl rfl rfl (Nat.le_of_ble_eq_true rfl) hcs dL_law_1475 (fun H locs J I => ?_)
  refine lv_istore (lv' := [(6, .int b1), (5, .int q), (0, .ref b), (1, .ref (ca E 0)), (2, .ref (ra E2 0)), (3, .ref (ca E 59)), (4, .int i)]) hx hb dL_law_1478 hl (by decide) rfl (fun ls hl => ?_)
  refine lv_aload_n hx hb dL_law_1480 rfl (lv_at hl 4 rfl) ?_
  refine r2VI (V := vR E2) (V' := vC E) (k := 0) (As := []) (rest := []) X J I hd.symm hl (c_X11_thrown (l := l) (E := E2) (σ := τ1) (q := τ1 0 5) rfl) yv_X11_thrown tw_1221 ⟨rfl, rfl, Nat.le_of_ble_eq_true rfl, Nat.le_of_ble_eq_true rfl⟩ (Nat.le_of_ble_eq_true rfl) rfl rfl rfl rfl (Nat.le_of_ble_eq_true rfl) hcs dL_law_1481 (fun H locs J I => ?_)
  refine lv_iload hx hb dL_law_1484 (lv_at hl 1 rfl) ?_
  refine lv_icmp_eq (tgt := 1491) hx hb dL_law_1486 (by decide) (fun _ => ?_) (fun c9 => absurd h3 c9)
  refine lv_iload hx hb dL_law_1491 (lv_at hl 1 rfl) ?_
  refine lv_if_ne (tgt := 1508) hx hb dL_law_1493 (by decide) (fun c1 => ?_) (fun c1 => ?_)
  · skip
    refine lv_goto (tgt := 2286) hx hb dL_law_1508 (by decide) ?_
    exact kend σ1 τ1 h5 H locs ls I J (lv_sub hl [2, 3, 4, 5, 6] rfl)
  · skip
    refine lv_aload_n hx hb dL_law_1496 rfl (lv_at hl 5 rfl) ?_
    refine lv_iconst (v := 0) hx hb dL_law_1497 (by decide) ?_
    refine jaldC X I (kC_59 E hn) (show vp_in (0 : Int32) 1 from vp_in_nI (n := 0) (by decide) (by decide)) dL_law_1498 ?_
    refine lv_iload hx hb dL_law_1499 (lv_at hl 0 rfl) ?_
    refine lv_i2l hx hb dL_law_1501 rfl ?_
    refine W.lcmp hx hb dL_law_1502 ?_
    refine lv_if_eq (tgt := 1508) hx hb dL_law_1503 (by decide) (fun _ => ?_) (fun c9 => absurd (show lg_cmp (Int32.toInt64 (σ1 59 0)) (Int32.toInt64 b1) = 0 by rw [h4 c1]; exact lg_self _) c9)
    refine lv_goto (tgt := 2286) hx hb dL_law_1508 (by decide) ?_
    exact kend σ1 τ1 h5 H locs ls I J (lv_sub hl [2, 3, 4, 5, 6] rfl)
set_option maxHeartbeats 4000000 in
set_option maxRecDepth 100000 in
theorem lc_toWin {p : Program} {l : Launch} {e : Env} {s : State} {m : MethodId} {below : List Frame} {meth : Method} {c : Code} {b L : Nat} {xs : Nat → Int32} {E : CE} {E2 : RE} {Rel : Mem → Mem → Prop} (hlt : l.stackTraces = false) (hn : 0 < E.2.2.2.2.2.2) (hSim : SIM_toWin Rel) (X : CX p s m meth c #[Value.ref b] cL_law 7 RL (some .boolean)) (hX : va_X b L xs s s.heap) (hbl : b < s.heap.size) (hd : DJ (vC E) (vR E2)) {i : Int32} (hi1 : vp_in (i + 1) L) (hi2 : vp_in (i + 2) L) (hi3 : vp_in (i + 3) L) (hi4 : vp_in (i + 4) L) (hi5 : vp_in (i + 5) L) {σ τ : Mem} (hR : Rel σ τ) {cells slots : Nat} (hc : cells + 4 ≤ 601024) (hs : slots + 24 ≤ 7293034) {H : Heap} {locs : List Loc} (I : WI (vC E) (fun q : Nat => s.heap.size ≤ q) s H locs σ) (J : WI (vR E2) (fun q : Nat => s.heap.size ≤ q) s H locs τ) {ls : Array Slot} (hl : lv_has ls 7 [(0, .ref b), (1, .ref (ca E 0)), (2, .ref (ra E2 0)), (3, .ref (ca E 59)), (4, .int i)])
    (kend : ∀ (σ1 τ1 : Mem), Rel σ1 τ1 → ∀ (H : Heap) (locs : List Loc) (ls : Array Slot), WI (vC E) (fun q : Nat => s.heap.size ≤ q) s H locs σ1 → WI (vR E2) (fun q : Nat => s.heap.size ≤ q) s H locs τ1 → lv_has ls 7 [(0, .ref b), (1, .ref (ca E 0)), (2, .ref (ra E2 0)), (3, .ref (ca E 59)), (4, .int i)] → W p l e room_1 s m #[Value.ref b] below meth c H locs (cells + 4) (slots + 24) (lw_Z below #[Value.ref b] s) (F0 m 2286 ls [])) : W p l e room_1 s m #[Value.ref b] below meth c H locs cells slots (lw_Z below #[Value.ref b] s) (F0 m 1511 ls []) := by
  have hx := X.1
  have hb := X.2.1
  have hbA : ¬ (fun q : Nat => s.heap.size ≤ q) b := Nat.not_le.mpr hbl
  have hcs : cells ≤ room_1.cells ∧ slots ≤ room_1.slots := ⟨Nat.le_trans (Nat.le_add_right _ 4) hc, Nat.le_trans (Nat.le_add_right _ 24) hs⟩
  refine lv_aload_n hx hb dL_law_1511 rfl (lv_at hl 1 rfl) ?_
  refine lv_aload_n hx hb dL_law_1512 rfl (lv_at hl 0 rfl) ?_
  refine lv_iload hx hb dL_law_1513 (lv_at hl 4 rfl) ?_
  refine lv_iconst (v := 1) hx hb dL_law_1515 (by decide) ?_
  refine lv_iadd hx hb dL_law_1516 ?_
  refine va_sld hx hb hX hbl hbA I.2.2.2.1 hi1 dL_law_1517 ?_
  refine lv_aload_n hx hb dL_law_1518 rfl (lv_at hl 0 rfl) ?_
  refine lv_iload hx hb dL_law_1519 (lv_at hl 4 rfl) ?_
  refine lv_iconst (v := 2) hx hb dL_law_1521 (by decide) ?_
  refine lv_iadd hx hb dL_law_1522 ?_
  refine va_sld hx hb hX hbl hbA I.2.2.2.1 hi2 dL_law_1523 ?_
  refine lv_aload_n hx hb dL_law_1524 rfl (lv_at hl 3 rfl) ?_
  obtain ⟨q, σ1, b1, τ1, h1, h2, h3, h4, h5⟩ := hSim σ τ (xs (Int32.toNatClampNeg (i + 1))) (xs (Int32.toNatClampNeg (i + 2))) hR
  refine r2SI (V := vC E) (V' := vR E2) (As := [.ref (ca E 0), .int (xs (Int32.toNatClampNeg (i + 1))), .int (xs (Int32.toNatClampNeg (i + 2))), .ref (ca E 59)]) (rest := []) X I J hd hl (c_L_toWin hlt hn h1) yw_L_toWin tw_1409 ⟨rfl, rfl, Nat.le_of_ble_eq_true rfl, Nat.le_of_ble_eq_true rfl⟩ rfl rfl (Nat.le_of_ble_eq_true rfl) ⟨Nat.le_trans (Nat.add_le_add_left (Nat.le_of_ble_eq_true rfl) cells) hc, Nat.le_trans (Nat.add_le_add_left (Nat.le_of_ble_eq_true rfl) slots) hs⟩ dL_law_1525 (fun H locs I J => ?_)
  refine W.widen (k := cells + 4) (n := slots + 24) (Nat.add_le_add_left (Nat.le_of_ble_eq_true rfl) cells) (Nat.add_le_add_left (Nat.le_of_ble_eq_true rfl) slots) ?_
  have hcs : cells + 4 ≤ room_1.cells ∧ slots + 24 ≤ room_1.slots := ⟨hc, hs⟩
  refine lv_istore (lv' := [(5, .int q), (0, .ref b), (1, .ref (ca E 0)), (2, .ref (ra E2 0)), (3, .ref (ca E 59)), (4, .int i)]) hx hb dL_law_1528 hl (by decide) rfl (fun ls hl => ?_)
  refine lv_aload_n hx hb dL_law_1530 rfl (lv_at hl 3 rfl) ?_
  refine lv_aload_n hx hb dL_law_1531 rfl (lv_at hl 1 rfl) ?_
  refine lv_iload hx hb dL_law_1532 (lv_at hl 5 rfl) ?_
  refine lv_iconst (v := 1) hx hb dL_law_1534 (by decide) ?_
  refine lv_iadd hx hb dL_law_1535 ?_
  refine va_sld hx hb hX hbl hbA I.2.2.2.1 hi1 dL_law_1536 ?_
  refine lv_aload_n hx hb dL_law_1537 rfl (lv_at hl 1 rfl) ?_
  refine lv_iload hx hb dL_law_1538 (lv_at hl 5 rfl) ?_
  refine lv_iconst (v := 2) hx hb dL_law_1540 (by decide) ?_
  refine lv_iadd hx hb dL_law_1541 ?_
  refine va_sld hx hb hX hbl hbA I.2.2.2.1 hi2 dL_law_1542 ?_
  refine r2VI (V := vR E2) (V' := vC E) (k := 0) (As := [.int (xs (Int32.toNatClampNeg (i + 1))), .int (xs (Int32.toNatClampNeg (i + 2)))]) (rest := []) X J I hd.symm hl (c_X11_toWin h2) yv_X11_toWin tw_1413 ⟨rfl, rfl, Nat.le_of_ble_eq_true rfl, Nat.le_of_ble_eq_true rfl⟩ (Nat.le_of_ble_eq_true rfl) rfl rfl rfl rfl (Nat.le_of_ble_eq_true rfl) hcs dL_law_1543 (fun H locs J I => ?_)
  refine lv_istore (lv' := [(6, .int b1), (5, .int q), (0, .ref b), (1, .ref (ca E 0)), (2, .ref (ra E2 0)), (3, .ref (ca E 59)), (4, .int i)]) hx hb dL_law_1546 hl (by decide) rfl (fun ls hl => ?_)
  refine lv_aload_n hx hb dL_law_1548 rfl (lv_at hl 4 rfl) ?_
  refine r2VI (V := vR E2) (V' := vC E) (k := 0) (As := []) (rest := []) X J I hd.symm hl (c_X11_thrown (l := l) (E := E2) (σ := τ1) (q := τ1 0 5) rfl) yv_X11_thrown tw_1221 ⟨rfl, rfl, Nat.le_of_ble_eq_true rfl, Nat.le_of_ble_eq_true rfl⟩ (Nat.le_of_ble_eq_true rfl) rfl rfl rfl rfl (Nat.le_of_ble_eq_true rfl) hcs dL_law_1549 (fun H locs J I => ?_)
  refine lv_iload hx hb dL_law_1552 (lv_at hl 1 rfl) ?_
  refine lv_icmp_eq (tgt := 1559) hx hb dL_law_1554 (by decide) (fun _ => ?_) (fun c9 => absurd h3 c9)
  refine lv_iload hx hb dL_law_1559 (lv_at hl 1 rfl) ?_
  refine lv_if_ne (tgt := 1576) hx hb dL_law_1561 (by decide) (fun c1 => ?_) (fun c1 => ?_)
  · skip
    refine lv_goto (tgt := 2286) hx hb dL_law_1576 (by decide) ?_
    exact kend σ1 τ1 h5 H locs ls I J (lv_sub hl [2, 3, 4, 5, 6] rfl)
  · skip
    refine lv_aload_n hx hb dL_law_1564 rfl (lv_at hl 5 rfl) ?_
    refine lv_iconst (v := 0) hx hb dL_law_1565 (by decide) ?_
    refine jaldC X I (kC_59 E hn) (show vp_in (0 : Int32) 1 from vp_in_nI (n := 0) (by decide) (by decide)) dL_law_1566 ?_
    refine lv_iload hx hb dL_law_1567 (lv_at hl 0 rfl) ?_
    refine lv_i2l hx hb dL_law_1569 rfl ?_
    refine W.lcmp hx hb dL_law_1570 ?_
    refine lv_if_eq (tgt := 1576) hx hb dL_law_1571 (by decide) (fun _ => ?_) (fun c9 => absurd (show lg_cmp (Int32.toInt64 (σ1 59 0)) (Int32.toInt64 b1) = 0 by rw [h4 c1]; exact lg_self _) c9)
    refine lv_goto (tgt := 2286) hx hb dL_law_1576 (by decide) ?_
    exact kend σ1 τ1 h5 H locs ls I J (lv_sub hl [2, 3, 4, 5, 6] rfl)
set_option maxHeartbeats 4000000 in
set_option maxRecDepth 100000 in
theorem lc_ruin {p : Program} {l : Launch} {e : Env} {s : State} {m : MethodId} {below : List Frame} {meth : Method} {c : Code} {b L : Nat} {xs : Nat → Int32} {E : CE} {E2 : RE} {Rel : Mem → Mem → Prop} (hlt : l.stackTraces = false) (hn : 0 < E.2.2.2.2.2.2) (hSim : SIM_ruin Rel) (X : CX p s m meth c #[Value.ref b] cL_law 7 RL (some .boolean)) (hX : va_X b L xs s s.heap) (hbl : b < s.heap.size) (hd : DJ (vC E) (vR E2)) {i : Int32} (hi1 : vp_in (i + 1) L) (hi2 : vp_in (i + 2) L) (hi3 : vp_in (i + 3) L) (hi4 : vp_in (i + 4) L) (hi5 : vp_in (i + 5) L) {σ τ : Mem} (hR : Rel σ τ) {cells slots : Nat} (hc : cells + 4 ≤ 601024) (hs : slots + 24 ≤ 7293034) {H : Heap} {locs : List Loc} (I : WI (vC E) (fun q : Nat => s.heap.size ≤ q) s H locs σ) (J : WI (vR E2) (fun q : Nat => s.heap.size ≤ q) s H locs τ) {ls : Array Slot} (hl : lv_has ls 7 [(0, .ref b), (1, .ref (ca E 0)), (2, .ref (ra E2 0)), (3, .ref (ca E 59)), (4, .int i)])
    (kend : ∀ (σ1 τ1 : Mem), Rel σ1 τ1 → ∀ (H : Heap) (locs : List Loc) (ls : Array Slot), WI (vC E) (fun q : Nat => s.heap.size ≤ q) s H locs σ1 → WI (vR E2) (fun q : Nat => s.heap.size ≤ q) s H locs τ1 → lv_has ls 7 [(0, .ref b), (1, .ref (ca E 0)), (2, .ref (ra E2 0)), (3, .ref (ca E 59)), (4, .int i)] → W p l e room_1 s m #[Value.ref b] below meth c H locs (cells + 4) (slots + 24) (lw_Z below #[Value.ref b] s) (F0 m 2286 ls [])) : W p l e room_1 s m #[Value.ref b] below meth c H locs cells slots (lw_Z below #[Value.ref b] s) (F0 m 1579 ls []) := by
  have hx := X.1
  have hb := X.2.1
  have hbA : ¬ (fun q : Nat => s.heap.size ≤ q) b := Nat.not_le.mpr hbl
  have hcs : cells ≤ room_1.cells ∧ slots ≤ room_1.slots := ⟨Nat.le_trans (Nat.le_add_right _ 4) hc, Nat.le_trans (Nat.le_add_right _ 24) hs⟩
  refine lv_aload_n hx hb dL_law_1579 rfl (lv_at hl 1 rfl) ?_
  refine lv_aload_n hx hb dL_law_1580 rfl (lv_at hl 0 rfl) ?_
  refine lv_iload hx hb dL_law_1581 (lv_at hl 4 rfl) ?_
  refine lv_iconst (v := 1) hx hb dL_law_1583 (by decide) ?_
  refine lv_iadd hx hb dL_law_1584 ?_
  refine va_sld hx hb hX hbl hbA I.2.2.2.1 hi1 dL_law_1585 ?_
  refine lv_aload_n hx hb dL_law_1586 rfl (lv_at hl 3 rfl) ?_
  obtain ⟨q, σ1, b1, τ1, h1, h2, h3, h4, h5⟩ := hSim σ τ (xs (Int32.toNatClampNeg (i + 1))) hR
  refine r2SI (V := vC E) (V' := vR E2) (As := [.ref (ca E 0), .int (xs (Int32.toNatClampNeg (i + 1))), .ref (ca E 59)]) (rest := []) X I J hd hl (c_L_ruin hlt hn h1) yw_L_ruin tw_1418 ⟨rfl, rfl, Nat.le_of_ble_eq_true rfl, Nat.le_of_ble_eq_true rfl⟩ rfl rfl (Nat.le_of_ble_eq_true rfl) ⟨Nat.le_trans (Nat.add_le_add_left (Nat.le_of_ble_eq_true rfl) cells) hc, Nat.le_trans (Nat.add_le_add_left (Nat.le_of_ble_eq_true rfl) slots) hs⟩ dL_law_1587 (fun H locs I J => ?_)
  refine W.widen (k := cells + 4) (n := slots + 24) (Nat.add_le_add_left (Nat.le_of_ble_eq_true rfl) cells) (Nat.add_le_add_left (Nat.le_of_ble_eq_true rfl) slots) ?_
  have hcs : cells + 4 ≤ room_1.cells ∧ slots + 24 ≤ room_1.slots := ⟨hc, hs⟩
  refine lv_istore (lv' := [(5, .int q), (0, .ref b), (1, .ref (ca E 0)), (2, .ref (ra E2 0)), (3, .ref (ca E 59)), (4, .int i)]) hx hb dL_law_1590 hl (by decide) rfl (fun ls hl => ?_)
  refine lv_aload_n hx hb dL_law_1592 rfl (lv_at hl 3 rfl) ?_
  refine lv_aload_n hx hb dL_law_1593 rfl (lv_at hl 1 rfl) ?_
  refine lv_iload hx hb dL_law_1594 (lv_at hl 5 rfl) ?_
  refine lv_iconst (v := 1) hx hb dL_law_1596 (by decide) ?_
  refine lv_iadd hx hb dL_law_1597 ?_
  refine va_sld hx hb hX hbl hbA I.2.2.2.1 hi1 dL_law_1598 ?_
  refine r2VI (V := vR E2) (V' := vC E) (k := 0) (As := [.int (xs (Int32.toNatClampNeg (i + 1)))]) (rest := []) X J I hd.symm hl (c_X11_ruin h2) yv_X11_ruin tw_1422 ⟨rfl, rfl, Nat.le_of_ble_eq_true rfl, Nat.le_of_ble_eq_true rfl⟩ (Nat.le_of_ble_eq_true rfl) rfl rfl rfl rfl (Nat.le_of_ble_eq_true rfl) hcs dL_law_1599 (fun H locs J I => ?_)
  refine lv_istore (lv' := [(6, .int b1), (5, .int q), (0, .ref b), (1, .ref (ca E 0)), (2, .ref (ra E2 0)), (3, .ref (ca E 59)), (4, .int i)]) hx hb dL_law_1602 hl (by decide) rfl (fun ls hl => ?_)
  refine lv_aload_n hx hb dL_law_1604 rfl (lv_at hl 4 rfl) ?_
  refine r2VI (V := vR E2) (V' := vC E) (k := 0) (As := []) (rest := []) X J I hd.symm hl (c_X11_thrown (l := l) (E := E2) (σ := τ1) (q := τ1 0 5) rfl) yv_X11_thrown tw_1221 ⟨rfl, rfl, Nat.le_of_ble_eq_true rfl, Nat.le_of_ble_eq_true rfl⟩ (Nat.le_of_ble_eq_true rfl) rfl rfl rfl rfl (Nat.le_of_ble_eq_true rfl) hcs dL_law_1605 (fun H locs J I => ?_)
  refine lv_iload hx hb dL_law_1608 (lv_at hl 1 rfl) ?_
  refine lv_icmp_eq (tgt := 1615) hx hb dL_law_1610 (by decide) (fun _ => ?_) (fun c9 => absurd h3 c9)
  refine lv_iload hx hb dL_law_1615 (lv_at hl 1 rfl) ?_
  refine lv_if_ne (tgt := 1632) hx hb dL_law_1617 (by decide) (fun c1 => ?_) (fun c1 => ?_)
  · skip
    refine lv_goto (tgt := 2286) hx hb dL_law_1632 (by decide) ?_
    exact kend σ1 τ1 h5 H locs ls I J (lv_sub hl [2, 3, 4, 5, 6] rfl)
  · skip
    refine lv_aload_n hx hb dL_law_1620 rfl (lv_at hl 5 rfl) ?_
    refine lv_iconst (v := 0) hx hb dL_law_1621 (by decide) ?_
    refine jaldC X I (kC_59 E hn) (show vp_in (0 : Int32) 1 from vp_in_nI (n := 0) (by decide) (by decide)) dL_law_1622 ?_
    refine lv_iload hx hb dL_law_1623 (lv_at hl 0 rfl) ?_
    refine lv_i2l hx hb dL_law_1625 rfl ?_
    refine W.lcmp hx hb dL_law_1626 ?_
    refine lv_if_eq (tgt := 1632) hx hb dL_law_1627 (by decide) (fun _ => ?_) (fun c9 => absurd (show lg_cmp (Int32.toInt64 (σ1 59 0)) (Int32.toInt64 b1) = 0 by rw [h4 c1]; exact lg_self _) c9)
    refine lv_goto (tgt := 2286) hx hb dL_law_1632 (by decide) ?_
    exact kend σ1 τ1 h5 H locs ls I J (lv_sub hl [2, 3, 4, 5, 6] rfl)
set_option maxHeartbeats 4000000 in
set_option maxRecDepth 100000 in
theorem lc_share {p : Program} {l : Launch} {e : Env} {s : State} {m : MethodId} {below : List Frame} {meth : Method} {c : Code} {b L : Nat} {xs : Nat → Int32} {E : CE} {E2 : RE} {Rel : Mem → Mem → Prop} (hlt : l.stackTraces = false) (hn : 0 < E.2.2.2.2.2.2) (hSim : SIM_share Rel) (X : CX p s m meth c #[Value.ref b] cL_law 7 RL (some .boolean)) (hX : va_X b L xs s s.heap) (hbl : b < s.heap.size) (hd : DJ (vC E) (vR E2)) {i : Int32} (hi1 : vp_in (i + 1) L) (hi2 : vp_in (i + 2) L) (hi3 : vp_in (i + 3) L) (hi4 : vp_in (i + 4) L) (hi5 : vp_in (i + 5) L) {σ τ : Mem} (hR : Rel σ τ) {cells slots : Nat} (hc : cells + 4 ≤ 601024) (hs : slots + 24 ≤ 7293034) {H : Heap} {locs : List Loc} (I : WI (vC E) (fun q : Nat => s.heap.size ≤ q) s H locs σ) (J : WI (vR E2) (fun q : Nat => s.heap.size ≤ q) s H locs τ) {ls : Array Slot} (hl : lv_has ls 7 [(0, .ref b), (1, .ref (ca E 0)), (2, .ref (ra E2 0)), (3, .ref (ca E 59)), (4, .int i)])
    (kend : ∀ (σ1 τ1 : Mem), Rel σ1 τ1 → ∀ (H : Heap) (locs : List Loc) (ls : Array Slot), WI (vC E) (fun q : Nat => s.heap.size ≤ q) s H locs σ1 → WI (vR E2) (fun q : Nat => s.heap.size ≤ q) s H locs τ1 → lv_has ls 7 [(0, .ref b), (1, .ref (ca E 0)), (2, .ref (ra E2 0)), (3, .ref (ca E 59)), (4, .int i)] → W p l e room_1 s m #[Value.ref b] below meth c H locs (cells + 4) (slots + 24) (lw_Z below #[Value.ref b] s) (F0 m 2286 ls [])) : W p l e room_1 s m #[Value.ref b] below meth c H locs cells slots (lw_Z below #[Value.ref b] s) (F0 m 1635 ls []) := by
  have hx := X.1
  have hb := X.2.1
  have hbA : ¬ (fun q : Nat => s.heap.size ≤ q) b := Nat.not_le.mpr hbl
  have hcs : cells ≤ room_1.cells ∧ slots ≤ room_1.slots := ⟨Nat.le_trans (Nat.le_add_right _ 4) hc, Nat.le_trans (Nat.le_add_right _ 24) hs⟩
  refine lv_aload_n hx hb dL_law_1635 rfl (lv_at hl 1 rfl) ?_
  refine lv_aload_n hx hb dL_law_1636 rfl (lv_at hl 0 rfl) ?_
  refine lv_iload hx hb dL_law_1637 (lv_at hl 4 rfl) ?_
  refine lv_iconst (v := 1) hx hb dL_law_1639 (by decide) ?_
  refine lv_iadd hx hb dL_law_1640 ?_
  refine va_sld hx hb hX hbl hbA I.2.2.2.1 hi1 dL_law_1641 ?_
  refine lv_aload_n hx hb dL_law_1642 rfl (lv_at hl 0 rfl) ?_
  refine lv_iload hx hb dL_law_1643 (lv_at hl 4 rfl) ?_
  refine lv_iconst (v := 2) hx hb dL_law_1645 (by decide) ?_
  refine lv_iadd hx hb dL_law_1646 ?_
  refine va_sld hx hb hX hbl hbA I.2.2.2.1 hi2 dL_law_1647 ?_
  refine lv_aload_n hx hb dL_law_1648 rfl (lv_at hl 3 rfl) ?_
  obtain ⟨q, σ1, b1, τ1, h1, h2, h3, h4, h5⟩ := hSim σ τ (xs (Int32.toNatClampNeg (i + 1))) (xs (Int32.toNatClampNeg (i + 2))) hR
  refine r2SI (V := vC E) (V' := vR E2) (As := [.ref (ca E 0), .int (xs (Int32.toNatClampNeg (i + 1))), .int (xs (Int32.toNatClampNeg (i + 2))), .ref (ca E 59)]) (rest := []) X I J hd hl (c_L_share hlt hn h1) yw_L_share tw_1427 ⟨rfl, rfl, Nat.le_of_ble_eq_true rfl, Nat.le_of_ble_eq_true rfl⟩ rfl rfl (Nat.le_of_ble_eq_true rfl) ⟨Nat.le_trans (Nat.add_le_add_left (Nat.le_of_ble_eq_true rfl) cells) hc, Nat.le_trans (Nat.add_le_add_left (Nat.le_of_ble_eq_true rfl) slots) hs⟩ dL_law_1649 (fun H locs I J => ?_)
  refine W.widen (k := cells + 4) (n := slots + 24) (Nat.add_le_add_left (Nat.le_of_ble_eq_true rfl) cells) (Nat.add_le_add_left (Nat.le_of_ble_eq_true rfl) slots) ?_
  have hcs : cells + 4 ≤ room_1.cells ∧ slots + 24 ≤ room_1.slots := ⟨hc, hs⟩
  refine lv_istore (lv' := [(5, .int q), (0, .ref b), (1, .ref (ca E 0)), (2, .ref (ra E2 0)), (3, .ref (ca E 59)), (4, .int i)]) hx hb dL_law_1652 hl (by decide) rfl (fun ls hl => ?_)
  refine lv_aload_n hx hb dL_law_1654 rfl (lv_at hl 3 rfl) ?_
  refine lv_aload_n hx hb dL_law_1655 rfl (lv_at hl 1 rfl) ?_
  refine lv_iload hx hb dL_law_1656 (lv_at hl 5 rfl) ?_
  refine lv_iconst (v := 1) hx hb dL_law_1658 (by decide) ?_
  refine lv_iadd hx hb dL_law_1659 ?_
  refine va_sld hx hb hX hbl hbA I.2.2.2.1 hi1 dL_law_1660 ?_
  refine lv_aload_n hx hb dL_law_1661 rfl (lv_at hl 1 rfl) ?_
  refine lv_iload hx hb dL_law_1662 (lv_at hl 5 rfl) ?_
  refine lv_iconst (v := 2) hx hb dL_law_1664 (by decide) ?_
  refine lv_iadd hx hb dL_law_1665 ?_
  refine va_sld hx hb hX hbl hbA I.2.2.2.1 hi2 dL_law_1666 ?_
  refine r2VI (V := vR E2) (V' := vC E) (k := 0) (As := [.int (xs (Int32.toNatClampNeg (i + 1))), .int (xs (Int32.toNatClampNeg (i + 2)))]) (rest := []) X J I hd.symm hl (c_X11_share h2) yv_X11_share tw_1431 ⟨rfl, rfl, Nat.le_of_ble_eq_true rfl, Nat.le_of_ble_eq_true rfl⟩ (Nat.le_of_ble_eq_true rfl) rfl rfl rfl rfl (Nat.le_of_ble_eq_true rfl) hcs dL_law_1667 (fun H locs J I => ?_)
  refine lv_istore (lv' := [(6, .int b1), (5, .int q), (0, .ref b), (1, .ref (ca E 0)), (2, .ref (ra E2 0)), (3, .ref (ca E 59)), (4, .int i)]) hx hb dL_law_1670 hl (by decide) rfl (fun ls hl => ?_)
  refine lv_aload_n hx hb dL_law_1672 rfl (lv_at hl 4 rfl) ?_
  refine r2VI (V := vR E2) (V' := vC E) (k := 0) (As := []) (rest := []) X J I hd.symm hl (c_X11_thrown (l := l) (E := E2) (σ := τ1) (q := τ1 0 5) rfl) yv_X11_thrown tw_1221 ⟨rfl, rfl, Nat.le_of_ble_eq_true rfl, Nat.le_of_ble_eq_true rfl⟩ (Nat.le_of_ble_eq_true rfl) rfl rfl rfl rfl (Nat.le_of_ble_eq_true rfl) hcs dL_law_1673 (fun H locs J I => ?_)
  refine lv_iload hx hb dL_law_1676 (lv_at hl 1 rfl) ?_
  refine lv_icmp_eq (tgt := 1683) hx hb dL_law_1678 (by decide) (fun _ => ?_) (fun c9 => absurd h3 c9)
  refine lv_iload hx hb dL_law_1683 (lv_at hl 1 rfl) ?_
  refine lv_if_ne (tgt := 1700) hx hb dL_law_1685 (by decide) (fun c1 => ?_) (fun c1 => ?_)
  · skip
    refine lv_goto (tgt := 2286) hx hb dL_law_1700 (by decide) ?_
    exact kend σ1 τ1 h5 H locs ls I J (lv_sub hl [2, 3, 4, 5, 6] rfl)
  · skip
    refine lv_aload_n hx hb dL_law_1688 rfl (lv_at hl 5 rfl) ?_
    refine lv_iconst (v := 0) hx hb dL_law_1689 (by decide) ?_
    refine jaldC X I (kC_59 E hn) (show vp_in (0 : Int32) 1 from vp_in_nI (n := 0) (by decide) (by decide)) dL_law_1690 ?_
    refine lv_iload hx hb dL_law_1691 (lv_at hl 0 rfl) ?_
    refine lv_i2l hx hb dL_law_1693 rfl ?_
    refine W.lcmp hx hb dL_law_1694 ?_
    refine lv_if_eq (tgt := 1700) hx hb dL_law_1695 (by decide) (fun _ => ?_) (fun c9 => absurd (show lg_cmp (Int32.toInt64 (σ1 59 0)) (Int32.toInt64 b1) = 0 by rw [h4 c1]; exact lg_self _) c9)
    refine lv_goto (tgt := 2286) hx hb dL_law_1700 (by decide) ?_
    exact kend σ1 τ1 h5 H locs ls I J (lv_sub hl [2, 3, 4, 5, 6] rfl)
set_option maxHeartbeats 4000000 in
set_option maxRecDepth 100000 in
theorem lc_beside {p : Program} {l : Launch} {e : Env} {s : State} {m : MethodId} {below : List Frame} {meth : Method} {c : Code} {b L : Nat} {xs : Nat → Int32} {E : CE} {E2 : RE} {Rel : Mem → Mem → Prop} (hlt : l.stackTraces = false) (hn : 0 < E.2.2.2.2.2.2) (hSim : SIM_beside Rel) (X : CX p s m meth c #[Value.ref b] cL_law 7 RL (some .boolean)) (hX : va_X b L xs s s.heap) (hbl : b < s.heap.size) (hd : DJ (vC E) (vR E2)) {i : Int32} (hi1 : vp_in (i + 1) L) (hi2 : vp_in (i + 2) L) (hi3 : vp_in (i + 3) L) (hi4 : vp_in (i + 4) L) (hi5 : vp_in (i + 5) L) {σ τ : Mem} (hR : Rel σ τ) {cells slots : Nat} (hc : cells + 4 ≤ 601024) (hs : slots + 24 ≤ 7293034) {H : Heap} {locs : List Loc} (I : WI (vC E) (fun q : Nat => s.heap.size ≤ q) s H locs σ) (J : WI (vR E2) (fun q : Nat => s.heap.size ≤ q) s H locs τ) {ls : Array Slot} (hl : lv_has ls 7 [(0, .ref b), (1, .ref (ca E 0)), (2, .ref (ra E2 0)), (3, .ref (ca E 59)), (4, .int i)])
    (kend : ∀ (σ1 τ1 : Mem), Rel σ1 τ1 → ∀ (H : Heap) (locs : List Loc) (ls : Array Slot), WI (vC E) (fun q : Nat => s.heap.size ≤ q) s H locs σ1 → WI (vR E2) (fun q : Nat => s.heap.size ≤ q) s H locs τ1 → lv_has ls 7 [(0, .ref b), (1, .ref (ca E 0)), (2, .ref (ra E2 0)), (3, .ref (ca E 59)), (4, .int i)] → W p l e room_1 s m #[Value.ref b] below meth c H locs (cells + 4) (slots + 24) (lw_Z below #[Value.ref b] s) (F0 m 2286 ls [])) : W p l e room_1 s m #[Value.ref b] below meth c H locs cells slots (lw_Z below #[Value.ref b] s) (F0 m 1703 ls []) := by
  have hx := X.1
  have hb := X.2.1
  have hbA : ¬ (fun q : Nat => s.heap.size ≤ q) b := Nat.not_le.mpr hbl
  have hcs : cells ≤ room_1.cells ∧ slots ≤ room_1.slots := ⟨Nat.le_trans (Nat.le_add_right _ 4) hc, Nat.le_trans (Nat.le_add_right _ 24) hs⟩
  refine lv_aload_n hx hb dL_law_1703 rfl (lv_at hl 1 rfl) ?_
  refine lv_aload_n hx hb dL_law_1704 rfl (lv_at hl 0 rfl) ?_
  refine lv_iload hx hb dL_law_1705 (lv_at hl 4 rfl) ?_
  refine lv_iconst (v := 1) hx hb dL_law_1707 (by decide) ?_
  refine lv_iadd hx hb dL_law_1708 ?_
  refine va_sld hx hb hX hbl hbA I.2.2.2.1 hi1 dL_law_1709 ?_
  refine lv_aload_n hx hb dL_law_1710 rfl (lv_at hl 3 rfl) ?_
  obtain ⟨q, σ1, b1, τ1, h1, h2, h3, h4, h5⟩ := hSim σ τ (xs (Int32.toNatClampNeg (i + 1))) hR
  refine r2SI (V := vC E) (V' := vR E2) (As := [.ref (ca E 0), .int (xs (Int32.toNatClampNeg (i + 1))), .ref (ca E 59)]) (rest := []) X I J hd hl (c_L_beside hlt hn h1) yw_L_beside tw_1436 ⟨rfl, rfl, Nat.le_of_ble_eq_true rfl, Nat.le_of_ble_eq_true rfl⟩ rfl rfl (Nat.le_of_ble_eq_true rfl) ⟨Nat.le_trans (Nat.add_le_add_left (Nat.le_of_ble_eq_true rfl) cells) hc, Nat.le_trans (Nat.add_le_add_left (Nat.le_of_ble_eq_true rfl) slots) hs⟩ dL_law_1711 (fun H locs I J => ?_)
  refine W.widen (k := cells + 4) (n := slots + 24) (Nat.add_le_add_left (Nat.le_of_ble_eq_true rfl) cells) (Nat.add_le_add_left (Nat.le_of_ble_eq_true rfl) slots) ?_
  have hcs : cells + 4 ≤ room_1.cells ∧ slots + 24 ≤ room_1.slots := ⟨hc, hs⟩
  refine lv_istore (lv' := [(5, .int q), (0, .ref b), (1, .ref (ca E 0)), (2, .ref (ra E2 0)), (3, .ref (ca E 59)), (4, .int i)]) hx hb dL_law_1714 hl (by decide) rfl (fun ls hl => ?_)
  refine lv_aload_n hx hb dL_law_1716 rfl (lv_at hl 3 rfl) ?_
  refine lv_aload_n hx hb dL_law_1717 rfl (lv_at hl 1 rfl) ?_
  refine lv_iload hx hb dL_law_1718 (lv_at hl 5 rfl) ?_
  refine lv_iconst (v := 1) hx hb dL_law_1720 (by decide) ?_
  refine lv_iadd hx hb dL_law_1721 ?_
  refine va_sld hx hb hX hbl hbA I.2.2.2.1 hi1 dL_law_1722 ?_
  refine r2VI (V := vR E2) (V' := vC E) (k := 0) (As := [.int (xs (Int32.toNatClampNeg (i + 1)))]) (rest := []) X J I hd.symm hl (c_X11_beside h2) yv_X11_beside tw_1440 ⟨rfl, rfl, Nat.le_of_ble_eq_true rfl, Nat.le_of_ble_eq_true rfl⟩ (Nat.le_of_ble_eq_true rfl) rfl rfl rfl rfl (Nat.le_of_ble_eq_true rfl) hcs dL_law_1723 (fun H locs J I => ?_)
  refine lv_istore (lv' := [(6, .int b1), (5, .int q), (0, .ref b), (1, .ref (ca E 0)), (2, .ref (ra E2 0)), (3, .ref (ca E 59)), (4, .int i)]) hx hb dL_law_1726 hl (by decide) rfl (fun ls hl => ?_)
  refine lv_aload_n hx hb dL_law_1728 rfl (lv_at hl 4 rfl) ?_
  refine r2VI (V := vR E2) (V' := vC E) (k := 0) (As := []) (rest := []) X J I hd.symm hl (c_X11_thrown (l := l) (E := E2) (σ := τ1) (q := τ1 0 5) rfl) yv_X11_thrown tw_1221 ⟨rfl, rfl, Nat.le_of_ble_eq_true rfl, Nat.le_of_ble_eq_true rfl⟩ (Nat.le_of_ble_eq_true rfl) rfl rfl rfl rfl (Nat.le_of_ble_eq_true rfl) hcs dL_law_1729 (fun H locs J I => ?_)
  refine lv_iload hx hb dL_law_1732 (lv_at hl 1 rfl) ?_
  refine lv_icmp_eq (tgt := 1739) hx hb dL_law_1734 (by decide) (fun _ => ?_) (fun c9 => absurd h3 c9)
  refine lv_iload hx hb dL_law_1739 (lv_at hl 1 rfl) ?_
  refine lv_if_ne (tgt := 1756) hx hb dL_law_1741 (by decide) (fun c1 => ?_) (fun c1 => ?_)
  · skip
    refine lv_goto (tgt := 2286) hx hb dL_law_1756 (by decide) ?_
    exact kend σ1 τ1 h5 H locs ls I J (lv_sub hl [2, 3, 4, 5, 6] rfl)
  · skip
    refine lv_aload_n hx hb dL_law_1744 rfl (lv_at hl 5 rfl) ?_
    refine lv_iconst (v := 0) hx hb dL_law_1745 (by decide) ?_
    refine jaldC X I (kC_59 E hn) (show vp_in (0 : Int32) 1 from vp_in_nI (n := 0) (by decide) (by decide)) dL_law_1746 ?_
    refine lv_iload hx hb dL_law_1747 (lv_at hl 0 rfl) ?_
    refine lv_i2l hx hb dL_law_1749 rfl ?_
    refine W.lcmp hx hb dL_law_1750 ?_
    refine lv_if_eq (tgt := 1756) hx hb dL_law_1751 (by decide) (fun _ => ?_) (fun c9 => absurd (show lg_cmp (Int32.toInt64 (σ1 59 0)) (Int32.toInt64 b1) = 0 by rw [h4 c1]; exact lg_self _) c9)
    refine lv_goto (tgt := 2286) hx hb dL_law_1756 (by decide) ?_
    exact kend σ1 τ1 h5 H locs ls I J (lv_sub hl [2, 3, 4, 5, 6] rfl)
set_option maxHeartbeats 4000000 in
set_option maxRecDepth 100000 in
theorem lc_oldest {p : Program} {l : Launch} {e : Env} {s : State} {m : MethodId} {below : List Frame} {meth : Method} {c : Code} {b L : Nat} {xs : Nat → Int32} {E : CE} {E2 : RE} {Rel : Mem → Mem → Prop} (hlt : l.stackTraces = false) (hn : 0 < E.2.2.2.2.2.2) (hSim : SIM_oldest Rel) (X : CX p s m meth c #[Value.ref b] cL_law 7 RL (some .boolean)) (hX : va_X b L xs s s.heap) (hbl : b < s.heap.size) (hd : DJ (vC E) (vR E2)) {i : Int32} (hi1 : vp_in (i + 1) L) (hi2 : vp_in (i + 2) L) (hi3 : vp_in (i + 3) L) (hi4 : vp_in (i + 4) L) (hi5 : vp_in (i + 5) L) {σ τ : Mem} (hR : Rel σ τ) {cells slots : Nat} (hc : cells + 4 ≤ 601024) (hs : slots + 24 ≤ 7293034) {H : Heap} {locs : List Loc} (I : WI (vC E) (fun q : Nat => s.heap.size ≤ q) s H locs σ) (J : WI (vR E2) (fun q : Nat => s.heap.size ≤ q) s H locs τ) {ls : Array Slot} (hl : lv_has ls 7 [(0, .ref b), (1, .ref (ca E 0)), (2, .ref (ra E2 0)), (3, .ref (ca E 59)), (4, .int i)])
    (kend : ∀ (σ1 τ1 : Mem), Rel σ1 τ1 → ∀ (H : Heap) (locs : List Loc) (ls : Array Slot), WI (vC E) (fun q : Nat => s.heap.size ≤ q) s H locs σ1 → WI (vR E2) (fun q : Nat => s.heap.size ≤ q) s H locs τ1 → lv_has ls 7 [(0, .ref b), (1, .ref (ca E 0)), (2, .ref (ra E2 0)), (3, .ref (ca E 59)), (4, .int i)] → W p l e room_1 s m #[Value.ref b] below meth c H locs (cells + 4) (slots + 24) (lw_Z below #[Value.ref b] s) (F0 m 2286 ls [])) : W p l e room_1 s m #[Value.ref b] below meth c H locs cells slots (lw_Z below #[Value.ref b] s) (F0 m 1759 ls []) := by
  have hx := X.1
  have hb := X.2.1
  have hbA : ¬ (fun q : Nat => s.heap.size ≤ q) b := Nat.not_le.mpr hbl
  have hcs : cells ≤ room_1.cells ∧ slots ≤ room_1.slots := ⟨Nat.le_trans (Nat.le_add_right _ 4) hc, Nat.le_trans (Nat.le_add_right _ 24) hs⟩
  refine lv_aload_n hx hb dL_law_1759 rfl (lv_at hl 1 rfl) ?_
  refine lv_aload_n hx hb dL_law_1760 rfl (lv_at hl 0 rfl) ?_
  refine lv_iload hx hb dL_law_1761 (lv_at hl 4 rfl) ?_
  refine lv_iconst (v := 1) hx hb dL_law_1763 (by decide) ?_
  refine lv_iadd hx hb dL_law_1764 ?_
  refine va_sld hx hb hX hbl hbA I.2.2.2.1 hi1 dL_law_1765 ?_
  refine lv_aload_n hx hb dL_law_1766 rfl (lv_at hl 3 rfl) ?_
  obtain ⟨q, σ1, b1, τ1, h1, h2, h3, h4, h5⟩ := hSim σ τ (xs (Int32.toNatClampNeg (i + 1))) hR
  refine r2SI (V := vC E) (V' := vR E2) (As := [.ref (ca E 0), .int (xs (Int32.toNatClampNeg (i + 1))), .ref (ca E 59)]) (rest := []) X I J hd hl (c_L_oldest hlt hn h1) yw_L_oldest tw_1445 ⟨rfl, rfl, Nat.le_of_ble_eq_true rfl, Nat.le_of_ble_eq_true rfl⟩ rfl rfl (Nat.le_of_ble_eq_true rfl) ⟨Nat.le_trans (Nat.add_le_add_left (Nat.le_of_ble_eq_true rfl) cells) hc, Nat.le_trans (Nat.add_le_add_left (Nat.le_of_ble_eq_true rfl) slots) hs⟩ dL_law_1767 (fun H locs I J => ?_)
  refine W.widen (k := cells + 4) (n := slots + 24) (Nat.add_le_add_left (Nat.le_of_ble_eq_true rfl) cells) (Nat.add_le_add_left (Nat.le_of_ble_eq_true rfl) slots) ?_
  have hcs : cells + 4 ≤ room_1.cells ∧ slots + 24 ≤ room_1.slots := ⟨hc, hs⟩
  refine lv_istore (lv' := [(5, .int q), (0, .ref b), (1, .ref (ca E 0)), (2, .ref (ra E2 0)), (3, .ref (ca E 59)), (4, .int i)]) hx hb dL_law_1770 hl (by decide) rfl (fun ls hl => ?_)
  refine lv_aload_n hx hb dL_law_1772 rfl (lv_at hl 3 rfl) ?_
  refine lv_aload_n hx hb dL_law_1773 rfl (lv_at hl 1 rfl) ?_
  refine lv_iload hx hb dL_law_1774 (lv_at hl 5 rfl) ?_
  refine lv_iconst (v := 1) hx hb dL_law_1776 (by decide) ?_
  refine lv_iadd hx hb dL_law_1777 ?_
  refine va_sld hx hb hX hbl hbA I.2.2.2.1 hi1 dL_law_1778 ?_
  refine r2VI (V := vR E2) (V' := vC E) (k := 0) (As := [.int (xs (Int32.toNatClampNeg (i + 1)))]) (rest := []) X J I hd.symm hl (c_X11_oldest h2) yv_X11_oldest tw_1449 ⟨rfl, rfl, Nat.le_of_ble_eq_true rfl, Nat.le_of_ble_eq_true rfl⟩ (Nat.le_of_ble_eq_true rfl) rfl rfl rfl rfl (Nat.le_of_ble_eq_true rfl) hcs dL_law_1779 (fun H locs J I => ?_)
  refine lv_istore (lv' := [(6, .int b1), (5, .int q), (0, .ref b), (1, .ref (ca E 0)), (2, .ref (ra E2 0)), (3, .ref (ca E 59)), (4, .int i)]) hx hb dL_law_1782 hl (by decide) rfl (fun ls hl => ?_)
  refine lv_aload_n hx hb dL_law_1784 rfl (lv_at hl 4 rfl) ?_
  refine r2VI (V := vR E2) (V' := vC E) (k := 0) (As := []) (rest := []) X J I hd.symm hl (c_X11_thrown (l := l) (E := E2) (σ := τ1) (q := τ1 0 5) rfl) yv_X11_thrown tw_1221 ⟨rfl, rfl, Nat.le_of_ble_eq_true rfl, Nat.le_of_ble_eq_true rfl⟩ (Nat.le_of_ble_eq_true rfl) rfl rfl rfl rfl (Nat.le_of_ble_eq_true rfl) hcs dL_law_1785 (fun H locs J I => ?_)
  refine lv_iload hx hb dL_law_1788 (lv_at hl 1 rfl) ?_
  refine lv_icmp_eq (tgt := 1795) hx hb dL_law_1790 (by decide) (fun _ => ?_) (fun c9 => absurd h3 c9)
  refine lv_iload hx hb dL_law_1795 (lv_at hl 1 rfl) ?_
  refine lv_if_ne (tgt := 1812) hx hb dL_law_1797 (by decide) (fun c1 => ?_) (fun c1 => ?_)
  · skip
    refine lv_goto (tgt := 2286) hx hb dL_law_1812 (by decide) ?_
    exact kend σ1 τ1 h5 H locs ls I J (lv_sub hl [2, 3, 4, 5, 6] rfl)
  · skip
    refine lv_aload_n hx hb dL_law_1800 rfl (lv_at hl 5 rfl) ?_
    refine lv_iconst (v := 0) hx hb dL_law_1801 (by decide) ?_
    refine jaldC X I (kC_59 E hn) (show vp_in (0 : Int32) 1 from vp_in_nI (n := 0) (by decide) (by decide)) dL_law_1802 ?_
    refine lv_iload hx hb dL_law_1803 (lv_at hl 0 rfl) ?_
    refine lv_i2l hx hb dL_law_1805 rfl ?_
    refine W.lcmp hx hb dL_law_1806 ?_
    refine lv_if_eq (tgt := 1812) hx hb dL_law_1807 (by decide) (fun _ => ?_) (fun c9 => absurd (show lg_cmp (Int32.toInt64 (σ1 59 0)) (Int32.toInt64 b1) = 0 by rw [h4 c1]; exact lg_self _) c9)
    refine lv_goto (tgt := 2286) hx hb dL_law_1812 (by decide) ?_
    exact kend σ1 τ1 h5 H locs ls I J (lv_sub hl [2, 3, 4, 5, 6] rfl)
set_option maxHeartbeats 4000000 in
set_option maxRecDepth 100000 in
theorem lc_envy {p : Program} {l : Launch} {e : Env} {s : State} {m : MethodId} {below : List Frame} {meth : Method} {c : Code} {b L : Nat} {xs : Nat → Int32} {E : CE} {E2 : RE} {Rel : Mem → Mem → Prop} (hlt : l.stackTraces = false) (hn : 0 < E.2.2.2.2.2.2) (hSim : SIM_envy Rel) (X : CX p s m meth c #[Value.ref b] cL_law 7 RL (some .boolean)) (hX : va_X b L xs s s.heap) (hbl : b < s.heap.size) (hd : DJ (vC E) (vR E2)) {i : Int32} (hi1 : vp_in (i + 1) L) (hi2 : vp_in (i + 2) L) (hi3 : vp_in (i + 3) L) (hi4 : vp_in (i + 4) L) (hi5 : vp_in (i + 5) L) {σ τ : Mem} (hR : Rel σ τ) {cells slots : Nat} (hc : cells + 4 ≤ 601024) (hs : slots + 24 ≤ 7293034) {H : Heap} {locs : List Loc} (I : WI (vC E) (fun q : Nat => s.heap.size ≤ q) s H locs σ) (J : WI (vR E2) (fun q : Nat => s.heap.size ≤ q) s H locs τ) {ls : Array Slot} (hl : lv_has ls 7 [(0, .ref b), (1, .ref (ca E 0)), (2, .ref (ra E2 0)), (3, .ref (ca E 59)), (4, .int i)])
    (kend : ∀ (σ1 τ1 : Mem), Rel σ1 τ1 → ∀ (H : Heap) (locs : List Loc) (ls : Array Slot), WI (vC E) (fun q : Nat => s.heap.size ≤ q) s H locs σ1 → WI (vR E2) (fun q : Nat => s.heap.size ≤ q) s H locs τ1 → lv_has ls 7 [(0, .ref b), (1, .ref (ca E 0)), (2, .ref (ra E2 0)), (3, .ref (ca E 59)), (4, .int i)] → W p l e room_1 s m #[Value.ref b] below meth c H locs (cells + 4) (slots + 24) (lw_Z below #[Value.ref b] s) (F0 m 2286 ls [])) : W p l e room_1 s m #[Value.ref b] below meth c H locs cells slots (lw_Z below #[Value.ref b] s) (F0 m 1815 ls []) := by
  have hx := X.1
  have hb := X.2.1
  have hbA : ¬ (fun q : Nat => s.heap.size ≤ q) b := Nat.not_le.mpr hbl
  have hcs : cells ≤ room_1.cells ∧ slots ≤ room_1.slots := ⟨Nat.le_trans (Nat.le_add_right _ 4) hc, Nat.le_trans (Nat.le_add_right _ 24) hs⟩
  refine lv_aload_n hx hb dL_law_1815 rfl (lv_at hl 1 rfl) ?_
  refine lv_aload_n hx hb dL_law_1816 rfl (lv_at hl 0 rfl) ?_
  refine lv_iload hx hb dL_law_1817 (lv_at hl 4 rfl) ?_
  refine lv_iconst (v := 1) hx hb dL_law_1819 (by decide) ?_
  refine lv_iadd hx hb dL_law_1820 ?_
  refine va_sld hx hb hX hbl hbA I.2.2.2.1 hi1 dL_law_1821 ?_
  refine lv_aload_n hx hb dL_law_1822 rfl (lv_at hl 3 rfl) ?_
  obtain ⟨q, σ1, b1, τ1, h1, h2, h3, h4, h5⟩ := hSim σ τ (xs (Int32.toNatClampNeg (i + 1))) hR
  refine r2SI (V := vC E) (V' := vR E2) (As := [.ref (ca E 0), .int (xs (Int32.toNatClampNeg (i + 1))), .ref (ca E 59)]) (rest := []) X I J hd hl (c_L_envy hlt hn h1) yw_L_envy tw_1454 ⟨rfl, rfl, Nat.le_of_ble_eq_true rfl, Nat.le_of_ble_eq_true rfl⟩ rfl rfl (Nat.le_of_ble_eq_true rfl) ⟨Nat.le_trans (Nat.add_le_add_left (Nat.le_of_ble_eq_true rfl) cells) hc, Nat.le_trans (Nat.add_le_add_left (Nat.le_of_ble_eq_true rfl) slots) hs⟩ dL_law_1823 (fun H locs I J => ?_)
  refine W.widen (k := cells + 4) (n := slots + 24) (Nat.add_le_add_left (Nat.le_of_ble_eq_true rfl) cells) (Nat.add_le_add_left (Nat.le_of_ble_eq_true rfl) slots) ?_
  have hcs : cells + 4 ≤ room_1.cells ∧ slots + 24 ≤ room_1.slots := ⟨hc, hs⟩
  refine lv_istore (lv' := [(5, .int q), (0, .ref b), (1, .ref (ca E 0)), (2, .ref (ra E2 0)), (3, .ref (ca E 59)), (4, .int i)]) hx hb dL_law_1826 hl (by decide) rfl (fun ls hl => ?_)
  refine lv_aload_n hx hb dL_law_1828 rfl (lv_at hl 3 rfl) ?_
  refine lv_aload_n hx hb dL_law_1829 rfl (lv_at hl 1 rfl) ?_
  refine lv_iload hx hb dL_law_1830 (lv_at hl 5 rfl) ?_
  refine lv_iconst (v := 1) hx hb dL_law_1832 (by decide) ?_
  refine lv_iadd hx hb dL_law_1833 ?_
  refine va_sld hx hb hX hbl hbA I.2.2.2.1 hi1 dL_law_1834 ?_
  refine r2VI (V := vR E2) (V' := vC E) (k := 0) (As := [.int (xs (Int32.toNatClampNeg (i + 1)))]) (rest := []) X J I hd.symm hl (c_X11_envy h2) yv_X11_envy tw_1458 ⟨rfl, rfl, Nat.le_of_ble_eq_true rfl, Nat.le_of_ble_eq_true rfl⟩ (Nat.le_of_ble_eq_true rfl) rfl rfl rfl rfl (Nat.le_of_ble_eq_true rfl) hcs dL_law_1835 (fun H locs J I => ?_)
  refine lv_istore (lv' := [(6, .int b1), (5, .int q), (0, .ref b), (1, .ref (ca E 0)), (2, .ref (ra E2 0)), (3, .ref (ca E 59)), (4, .int i)]) hx hb dL_law_1838 hl (by decide) rfl (fun ls hl => ?_)
  refine lv_aload_n hx hb dL_law_1840 rfl (lv_at hl 4 rfl) ?_
  refine r2VI (V := vR E2) (V' := vC E) (k := 0) (As := []) (rest := []) X J I hd.symm hl (c_X11_thrown (l := l) (E := E2) (σ := τ1) (q := τ1 0 5) rfl) yv_X11_thrown tw_1221 ⟨rfl, rfl, Nat.le_of_ble_eq_true rfl, Nat.le_of_ble_eq_true rfl⟩ (Nat.le_of_ble_eq_true rfl) rfl rfl rfl rfl (Nat.le_of_ble_eq_true rfl) hcs dL_law_1841 (fun H locs J I => ?_)
  refine lv_iload hx hb dL_law_1844 (lv_at hl 1 rfl) ?_
  refine lv_icmp_eq (tgt := 1851) hx hb dL_law_1846 (by decide) (fun _ => ?_) (fun c9 => absurd h3 c9)
  refine lv_iload hx hb dL_law_1851 (lv_at hl 1 rfl) ?_
  refine lv_if_ne (tgt := 1868) hx hb dL_law_1853 (by decide) (fun c1 => ?_) (fun c1 => ?_)
  · skip
    refine lv_goto (tgt := 2286) hx hb dL_law_1868 (by decide) ?_
    exact kend σ1 τ1 h5 H locs ls I J (lv_sub hl [2, 3, 4, 5, 6] rfl)
  · skip
    refine lv_aload_n hx hb dL_law_1856 rfl (lv_at hl 5 rfl) ?_
    refine lv_iconst (v := 0) hx hb dL_law_1857 (by decide) ?_
    refine jaldC X I (kC_59 E hn) (show vp_in (0 : Int32) 1 from vp_in_nI (n := 0) (by decide) (by decide)) dL_law_1858 ?_
    refine lv_iload hx hb dL_law_1859 (lv_at hl 0 rfl) ?_
    refine lv_i2l hx hb dL_law_1861 rfl ?_
    refine W.lcmp hx hb dL_law_1862 ?_
    refine lv_if_eq (tgt := 1868) hx hb dL_law_1863 (by decide) (fun _ => ?_) (fun c9 => absurd (show lg_cmp (Int32.toInt64 (σ1 59 0)) (Int32.toInt64 b1) = 0 by rw [h4 c1]; exact lg_self _) c9)
    refine lv_goto (tgt := 2286) hx hb dL_law_1868 (by decide) ?_
    exact kend σ1 τ1 h5 H locs ls I J (lv_sub hl [2, 3, 4, 5, 6] rfl)
set_option maxHeartbeats 4000000 in
set_option maxRecDepth 100000 in
theorem lc_see {p : Program} {l : Launch} {e : Env} {s : State} {m : MethodId} {below : List Frame} {meth : Method} {c : Code} {b L : Nat} {xs : Nat → Int32} {E : CE} {E2 : RE} {Rel : Mem → Mem → Prop} (hlt : l.stackTraces = false) (hn : 0 < E.2.2.2.2.2.2) (hSim : SIM_see Rel) (X : CX p s m meth c #[Value.ref b] cL_law 7 RL (some .boolean)) (hX : va_X b L xs s s.heap) (hbl : b < s.heap.size) (hd : DJ (vC E) (vR E2)) {i : Int32} (hi1 : vp_in (i + 1) L) (hi2 : vp_in (i + 2) L) (hi3 : vp_in (i + 3) L) (hi4 : vp_in (i + 4) L) (hi5 : vp_in (i + 5) L) {σ τ : Mem} (hR : Rel σ τ) {cells slots : Nat} (hc : cells + 4 ≤ 601024) (hs : slots + 24 ≤ 7293034) {H : Heap} {locs : List Loc} (I : WI (vC E) (fun q : Nat => s.heap.size ≤ q) s H locs σ) (J : WI (vR E2) (fun q : Nat => s.heap.size ≤ q) s H locs τ) {ls : Array Slot} (hl : lv_has ls 7 [(0, .ref b), (1, .ref (ca E 0)), (2, .ref (ra E2 0)), (3, .ref (ca E 59)), (4, .int i)])
    (kend : ∀ (σ1 τ1 : Mem), Rel σ1 τ1 → ∀ (H : Heap) (locs : List Loc) (ls : Array Slot), WI (vC E) (fun q : Nat => s.heap.size ≤ q) s H locs σ1 → WI (vR E2) (fun q : Nat => s.heap.size ≤ q) s H locs τ1 → lv_has ls 7 [(0, .ref b), (1, .ref (ca E 0)), (2, .ref (ra E2 0)), (3, .ref (ca E 59)), (4, .int i)] → W p l e room_1 s m #[Value.ref b] below meth c H locs (cells + 4) (slots + 24) (lw_Z below #[Value.ref b] s) (F0 m 2286 ls [])) : W p l e room_1 s m #[Value.ref b] below meth c H locs cells slots (lw_Z below #[Value.ref b] s) (F0 m 1871 ls []) := by
  have hx := X.1
  have hb := X.2.1
  have hbA : ¬ (fun q : Nat => s.heap.size ≤ q) b := Nat.not_le.mpr hbl
  have hcs : cells ≤ room_1.cells ∧ slots ≤ room_1.slots := ⟨Nat.le_trans (Nat.le_add_right _ 4) hc, Nat.le_trans (Nat.le_add_right _ 24) hs⟩
  refine lv_aload_n hx hb dL_law_1871 rfl (lv_at hl 1 rfl) ?_
  refine lv_aload_n hx hb dL_law_1872 rfl (lv_at hl 0 rfl) ?_
  refine lv_iload hx hb dL_law_1873 (lv_at hl 4 rfl) ?_
  refine lv_iconst (v := 1) hx hb dL_law_1875 (by decide) ?_
  refine lv_iadd hx hb dL_law_1876 ?_
  refine va_sld hx hb hX hbl hbA I.2.2.2.1 hi1 dL_law_1877 ?_
  refine lv_aload_n hx hb dL_law_1878 rfl (lv_at hl 0 rfl) ?_
  refine lv_iload hx hb dL_law_1879 (lv_at hl 4 rfl) ?_
  refine lv_iconst (v := 2) hx hb dL_law_1881 (by decide) ?_
  refine lv_iadd hx hb dL_law_1882 ?_
  refine va_sld hx hb hX hbl hbA I.2.2.2.1 hi2 dL_law_1883 ?_
  refine lv_aload_n hx hb dL_law_1884 rfl (lv_at hl 0 rfl) ?_
  refine lv_iload hx hb dL_law_1885 (lv_at hl 4 rfl) ?_
  refine lv_iconst (v := 3) hx hb dL_law_1887 (by decide) ?_
  refine lv_iadd hx hb dL_law_1888 ?_
  refine va_sld hx hb hX hbl hbA I.2.2.2.1 hi3 dL_law_1889 ?_
  refine lv_aload_n hx hb dL_law_1890 rfl (lv_at hl 0 rfl) ?_
  refine lv_iload hx hb dL_law_1891 (lv_at hl 4 rfl) ?_
  refine lv_iconst (v := 4) hx hb dL_law_1893 (by decide) ?_
  refine lv_iadd hx hb dL_law_1894 ?_
  refine va_sld hx hb hX hbl hbA I.2.2.2.1 hi4 dL_law_1895 ?_
  refine lv_if_eq (tgt := 1903) hx hb dL_law_1896 (by decide) (fun c1 => ?_) (fun c1 => ?_)
  · skip
    refine lv_iconst (v := 0) hx hb dL_law_1903 (by decide) ?_
    refine lv_aload_n hx hb dL_law_1904 rfl (lv_at hl 3 rfl) ?_
    obtain ⟨q, σ1, b1, τ1, h1, h2, h3, h4, h5⟩ := hSim σ τ (xs (Int32.toNatClampNeg (i + 1))) (xs (Int32.toNatClampNeg (i + 2))) (xs (Int32.toNatClampNeg (i + 3))) (0 : Int32) hR (by decide)
    refine r2SI (V := vC E) (V' := vR E2) (As := [.ref (ca E 0), .int (xs (Int32.toNatClampNeg (i + 1))), .int (xs (Int32.toNatClampNeg (i + 2))), .int (xs (Int32.toNatClampNeg (i + 3))), .int (0 : Int32), .ref (ca E 59)]) (rest := []) X I J hd hl (c_L_see hlt hn h1) yw_L_see tw_1463 ⟨rfl, rfl, Nat.le_of_ble_eq_true rfl, Nat.le_of_ble_eq_true rfl⟩ rfl rfl (Nat.le_of_ble_eq_true rfl) ⟨Nat.le_trans (Nat.add_le_add_left (Nat.le_of_ble_eq_true rfl) cells) hc, Nat.le_trans (Nat.add_le_add_left (Nat.le_of_ble_eq_true rfl) slots) hs⟩ dL_law_1905 (fun H locs I J => ?_)
    refine W.widen (k := cells + 4) (n := slots + 24) (Nat.add_le_add_left (Nat.le_of_ble_eq_true rfl) cells) (Nat.add_le_add_left (Nat.le_of_ble_eq_true rfl) slots) ?_
    have hcs : cells + 4 ≤ room_1.cells ∧ slots + 24 ≤ room_1.slots := ⟨hc, hs⟩
    refine lv_istore (lv' := [(5, .int q), (0, .ref b), (1, .ref (ca E 0)), (2, .ref (ra E2 0)), (3, .ref (ca E 59)), (4, .int i)]) hx hb dL_law_1908 hl (by decide) rfl (fun ls hl => ?_)
    refine lv_aload_n hx hb dL_law_1910 rfl (lv_at hl 3 rfl) ?_
    refine lv_aload_n hx hb dL_law_1911 rfl (lv_at hl 1 rfl) ?_
    refine lv_iload hx hb dL_law_1912 (lv_at hl 5 rfl) ?_
    refine lv_iconst (v := 1) hx hb dL_law_1914 (by decide) ?_
    refine lv_iadd hx hb dL_law_1915 ?_
    refine va_sld hx hb hX hbl hbA I.2.2.2.1 hi1 dL_law_1916 ?_
    refine lv_aload_n hx hb dL_law_1917 rfl (lv_at hl 1 rfl) ?_
    refine lv_iload hx hb dL_law_1918 (lv_at hl 5 rfl) ?_
    refine lv_iconst (v := 2) hx hb dL_law_1920 (by decide) ?_
    refine lv_iadd hx hb dL_law_1921 ?_
    refine va_sld hx hb hX hbl hbA I.2.2.2.1 hi2 dL_law_1922 ?_
    refine lv_aload_n hx hb dL_law_1923 rfl (lv_at hl 1 rfl) ?_
    refine lv_iload hx hb dL_law_1924 (lv_at hl 5 rfl) ?_
    refine lv_iconst (v := 3) hx hb dL_law_1926 (by decide) ?_
    refine lv_iadd hx hb dL_law_1927 ?_
    refine va_sld hx hb hX hbl hbA I.2.2.2.1 hi3 dL_law_1928 ?_
    refine lv_aload_n hx hb dL_law_1929 rfl (lv_at hl 1 rfl) ?_
    refine lv_iload hx hb dL_law_1930 (lv_at hl 5 rfl) ?_
    refine lv_iconst (v := 4) hx hb dL_law_1932 (by decide) ?_
    refine lv_iadd hx hb dL_law_1933 ?_
    refine va_sld hx hb hX hbl hbA I.2.2.2.1 hi4 dL_law_1934 ?_
    refine lv_if_eq (tgt := 1942) hx hb dL_law_1935 (by decide) (fun _ => ?_) (fun c9 => absurd c1 c9)
    refine lv_iconst (v := 0) hx hb dL_law_1942 (by decide) ?_
    refine r2VI (V := vR E2) (V' := vC E) (k := 0) (As := [.int (xs (Int32.toNatClampNeg (i + 1))), .int (xs (Int32.toNatClampNeg (i + 2))), .int (xs (Int32.toNatClampNeg (i + 3))), .int (0 : Int32)]) (rest := []) X J I hd.symm hl (c_X11_see h2) yv_X11_see tw_1467 ⟨rfl, rfl, Nat.le_of_ble_eq_true rfl, Nat.le_of_ble_eq_true rfl⟩ (Nat.le_of_ble_eq_true rfl) rfl rfl rfl rfl (Nat.le_of_ble_eq_true rfl) hcs dL_law_1943 (fun H locs J I => ?_)
    refine lv_istore (lv' := [(6, .int b1), (5, .int q), (0, .ref b), (1, .ref (ca E 0)), (2, .ref (ra E2 0)), (3, .ref (ca E 59)), (4, .int i)]) hx hb dL_law_1946 hl (by decide) rfl (fun ls hl => ?_)
    refine lv_aload_n hx hb dL_law_1948 rfl (lv_at hl 4 rfl) ?_
    refine r2VI (V := vR E2) (V' := vC E) (k := 0) (As := []) (rest := []) X J I hd.symm hl (c_X11_thrown (l := l) (E := E2) (σ := τ1) (q := τ1 0 5) rfl) yv_X11_thrown tw_1221 ⟨rfl, rfl, Nat.le_of_ble_eq_true rfl, Nat.le_of_ble_eq_true rfl⟩ (Nat.le_of_ble_eq_true rfl) rfl rfl rfl rfl (Nat.le_of_ble_eq_true rfl) hcs dL_law_1949 (fun H locs J I => ?_)
    refine lv_iload hx hb dL_law_1952 (lv_at hl 1 rfl) ?_
    refine lv_icmp_eq (tgt := 1959) hx hb dL_law_1954 (by decide) (fun _ => ?_) (fun c9 => absurd h3 c9)
    refine lv_iload hx hb dL_law_1959 (lv_at hl 1 rfl) ?_
    refine lv_if_ne (tgt := 1976) hx hb dL_law_1961 (by decide) (fun c2 => ?_) (fun c2 => ?_)
    · skip
      refine lv_goto (tgt := 2286) hx hb dL_law_1976 (by decide) ?_
      exact kend σ1 τ1 h5 H locs ls I J (lv_sub hl [2, 3, 4, 5, 6] rfl)
    · skip
      refine lv_aload_n hx hb dL_law_1964 rfl (lv_at hl 5 rfl) ?_
      refine lv_iconst (v := 0) hx hb dL_law_1965 (by decide) ?_
      refine jaldC X I (kC_59 E hn) (show vp_in (0 : Int32) 1 from vp_in_nI (n := 0) (by decide) (by decide)) dL_law_1966 ?_
      refine lv_iload hx hb dL_law_1967 (lv_at hl 0 rfl) ?_
      refine lv_i2l hx hb dL_law_1969 rfl ?_
      refine W.lcmp hx hb dL_law_1970 ?_
      refine lv_if_eq (tgt := 1976) hx hb dL_law_1971 (by decide) (fun _ => ?_) (fun c9 => absurd (show lg_cmp (Int32.toInt64 (σ1 59 0)) (Int32.toInt64 b1) = 0 by rw [h4 c2]; exact lg_self _) c9)
      refine lv_goto (tgt := 2286) hx hb dL_law_1976 (by decide) ?_
      exact kend σ1 τ1 h5 H locs ls I J (lv_sub hl [2, 3, 4, 5, 6] rfl)
  · skip
    refine lv_iconst (v := 1) hx hb dL_law_1899 (by decide) ?_
    refine lv_goto (tgt := 1904) hx hb dL_law_1900 (by decide) ?_
    refine lv_aload_n hx hb dL_law_1904 rfl (lv_at hl 3 rfl) ?_
    obtain ⟨q, σ1, b1, τ1, h1, h2, h3, h4, h5⟩ := hSim σ τ (xs (Int32.toNatClampNeg (i + 1))) (xs (Int32.toNatClampNeg (i + 2))) (xs (Int32.toNatClampNeg (i + 3))) (1 : Int32) hR (by decide)
    refine r2SI (V := vC E) (V' := vR E2) (As := [.ref (ca E 0), .int (xs (Int32.toNatClampNeg (i + 1))), .int (xs (Int32.toNatClampNeg (i + 2))), .int (xs (Int32.toNatClampNeg (i + 3))), .int (1 : Int32), .ref (ca E 59)]) (rest := []) X I J hd hl (c_L_see hlt hn h1) yw_L_see tw_1463 ⟨rfl, rfl, Nat.le_of_ble_eq_true rfl, Nat.le_of_ble_eq_true rfl⟩ rfl rfl (Nat.le_of_ble_eq_true rfl) ⟨Nat.le_trans (Nat.add_le_add_left (Nat.le_of_ble_eq_true rfl) cells) hc, Nat.le_trans (Nat.add_le_add_left (Nat.le_of_ble_eq_true rfl) slots) hs⟩ dL_law_1905 (fun H locs I J => ?_)
    refine W.widen (k := cells + 4) (n := slots + 24) (Nat.add_le_add_left (Nat.le_of_ble_eq_true rfl) cells) (Nat.add_le_add_left (Nat.le_of_ble_eq_true rfl) slots) ?_
    have hcs : cells + 4 ≤ room_1.cells ∧ slots + 24 ≤ room_1.slots := ⟨hc, hs⟩
    refine lv_istore (lv' := [(5, .int q), (0, .ref b), (1, .ref (ca E 0)), (2, .ref (ra E2 0)), (3, .ref (ca E 59)), (4, .int i)]) hx hb dL_law_1908 hl (by decide) rfl (fun ls hl => ?_)
    refine lv_aload_n hx hb dL_law_1910 rfl (lv_at hl 3 rfl) ?_
    refine lv_aload_n hx hb dL_law_1911 rfl (lv_at hl 1 rfl) ?_
    refine lv_iload hx hb dL_law_1912 (lv_at hl 5 rfl) ?_
    refine lv_iconst (v := 1) hx hb dL_law_1914 (by decide) ?_
    refine lv_iadd hx hb dL_law_1915 ?_
    refine va_sld hx hb hX hbl hbA I.2.2.2.1 hi1 dL_law_1916 ?_
    refine lv_aload_n hx hb dL_law_1917 rfl (lv_at hl 1 rfl) ?_
    refine lv_iload hx hb dL_law_1918 (lv_at hl 5 rfl) ?_
    refine lv_iconst (v := 2) hx hb dL_law_1920 (by decide) ?_
    refine lv_iadd hx hb dL_law_1921 ?_
    refine va_sld hx hb hX hbl hbA I.2.2.2.1 hi2 dL_law_1922 ?_
    refine lv_aload_n hx hb dL_law_1923 rfl (lv_at hl 1 rfl) ?_
    refine lv_iload hx hb dL_law_1924 (lv_at hl 5 rfl) ?_
    refine lv_iconst (v := 3) hx hb dL_law_1926 (by decide) ?_
    refine lv_iadd hx hb dL_law_1927 ?_
    refine va_sld hx hb hX hbl hbA I.2.2.2.1 hi3 dL_law_1928 ?_
    refine lv_aload_n hx hb dL_law_1929 rfl (lv_at hl 1 rfl) ?_
    refine lv_iload hx hb dL_law_1930 (lv_at hl 5 rfl) ?_
    refine lv_iconst (v := 4) hx hb dL_law_1932 (by decide) ?_
    refine lv_iadd hx hb dL_law_1933 ?_
    refine va_sld hx hb hX hbl hbA I.2.2.2.1 hi4 dL_law_1934 ?_
    refine lv_if_eq (tgt := 1942) hx hb dL_law_1935 (by decide) (fun c9 => absurd c9 c1) (fun _ => ?_)
    refine lv_iconst (v := 1) hx hb dL_law_1938 (by decide) ?_
    refine lv_goto (tgt := 1943) hx hb dL_law_1939 (by decide) ?_
    refine r2VI (V := vR E2) (V' := vC E) (k := 0) (As := [.int (xs (Int32.toNatClampNeg (i + 1))), .int (xs (Int32.toNatClampNeg (i + 2))), .int (xs (Int32.toNatClampNeg (i + 3))), .int (1 : Int32)]) (rest := []) X J I hd.symm hl (c_X11_see h2) yv_X11_see tw_1467 ⟨rfl, rfl, Nat.le_of_ble_eq_true rfl, Nat.le_of_ble_eq_true rfl⟩ (Nat.le_of_ble_eq_true rfl) rfl rfl rfl rfl (Nat.le_of_ble_eq_true rfl) hcs dL_law_1943 (fun H locs J I => ?_)
    refine lv_istore (lv' := [(6, .int b1), (5, .int q), (0, .ref b), (1, .ref (ca E 0)), (2, .ref (ra E2 0)), (3, .ref (ca E 59)), (4, .int i)]) hx hb dL_law_1946 hl (by decide) rfl (fun ls hl => ?_)
    refine lv_aload_n hx hb dL_law_1948 rfl (lv_at hl 4 rfl) ?_
    refine r2VI (V := vR E2) (V' := vC E) (k := 0) (As := []) (rest := []) X J I hd.symm hl (c_X11_thrown (l := l) (E := E2) (σ := τ1) (q := τ1 0 5) rfl) yv_X11_thrown tw_1221 ⟨rfl, rfl, Nat.le_of_ble_eq_true rfl, Nat.le_of_ble_eq_true rfl⟩ (Nat.le_of_ble_eq_true rfl) rfl rfl rfl rfl (Nat.le_of_ble_eq_true rfl) hcs dL_law_1949 (fun H locs J I => ?_)
    refine lv_iload hx hb dL_law_1952 (lv_at hl 1 rfl) ?_
    refine lv_icmp_eq (tgt := 1959) hx hb dL_law_1954 (by decide) (fun _ => ?_) (fun c9 => absurd h3 c9)
    refine lv_iload hx hb dL_law_1959 (lv_at hl 1 rfl) ?_
    refine lv_if_ne (tgt := 1976) hx hb dL_law_1961 (by decide) (fun c3 => ?_) (fun c3 => ?_)
    · skip
      refine lv_goto (tgt := 2286) hx hb dL_law_1976 (by decide) ?_
      exact kend σ1 τ1 h5 H locs ls I J (lv_sub hl [2, 3, 4, 5, 6] rfl)
    · skip
      refine lv_aload_n hx hb dL_law_1964 rfl (lv_at hl 5 rfl) ?_
      refine lv_iconst (v := 0) hx hb dL_law_1965 (by decide) ?_
      refine jaldC X I (kC_59 E hn) (show vp_in (0 : Int32) 1 from vp_in_nI (n := 0) (by decide) (by decide)) dL_law_1966 ?_
      refine lv_iload hx hb dL_law_1967 (lv_at hl 0 rfl) ?_
      refine lv_i2l hx hb dL_law_1969 rfl ?_
      refine W.lcmp hx hb dL_law_1970 ?_
      refine lv_if_eq (tgt := 1976) hx hb dL_law_1971 (by decide) (fun _ => ?_) (fun c9 => absurd (show lg_cmp (Int32.toInt64 (σ1 59 0)) (Int32.toInt64 b1) = 0 by rw [h4 c3]; exact lg_self _) c9)
      refine lv_goto (tgt := 2286) hx hb dL_law_1976 (by decide) ?_
      exact kend σ1 τ1 h5 H locs ls I J (lv_sub hl [2, 3, 4, 5, 6] rfl)
set_option maxHeartbeats 4000000 in
set_option maxRecDepth 100000 in
theorem lc_pockets {p : Program} {l : Launch} {e : Env} {s : State} {m : MethodId} {below : List Frame} {meth : Method} {c : Code} {b L : Nat} {xs : Nat → Int32} {E : CE} {E2 : RE} {Rel : Mem → Mem → Prop} (hlt : l.stackTraces = false) (hn : 0 < E.2.2.2.2.2.2) (hSim : SIM_pockets Rel) (X : CX p s m meth c #[Value.ref b] cL_law 7 RL (some .boolean)) (hX : va_X b L xs s s.heap) (hbl : b < s.heap.size) (hd : DJ (vC E) (vR E2)) {i : Int32} (hi1 : vp_in (i + 1) L) (hi2 : vp_in (i + 2) L) (hi3 : vp_in (i + 3) L) (hi4 : vp_in (i + 4) L) (hi5 : vp_in (i + 5) L) {σ τ : Mem} (hR : Rel σ τ) {cells slots : Nat} (hc : cells + 4 ≤ 601024) (hs : slots + 24 ≤ 7293034) {H : Heap} {locs : List Loc} (I : WI (vC E) (fun q : Nat => s.heap.size ≤ q) s H locs σ) (J : WI (vR E2) (fun q : Nat => s.heap.size ≤ q) s H locs τ) {ls : Array Slot} (hl : lv_has ls 7 [(0, .ref b), (1, .ref (ca E 0)), (2, .ref (ra E2 0)), (3, .ref (ca E 59)), (4, .int i)])
    (kend : ∀ (σ1 τ1 : Mem), Rel σ1 τ1 → ∀ (H : Heap) (locs : List Loc) (ls : Array Slot), WI (vC E) (fun q : Nat => s.heap.size ≤ q) s H locs σ1 → WI (vR E2) (fun q : Nat => s.heap.size ≤ q) s H locs τ1 → lv_has ls 7 [(0, .ref b), (1, .ref (ca E 0)), (2, .ref (ra E2 0)), (3, .ref (ca E 59)), (4, .int i)] → W p l e room_1 s m #[Value.ref b] below meth c H locs (cells + 4) (slots + 24) (lw_Z below #[Value.ref b] s) (F0 m 2286 ls [])) : W p l e room_1 s m #[Value.ref b] below meth c H locs cells slots (lw_Z below #[Value.ref b] s) (F0 m 1979 ls []) := by
  have hx := X.1
  have hb := X.2.1
  have hbA : ¬ (fun q : Nat => s.heap.size ≤ q) b := Nat.not_le.mpr hbl
  have hcs : cells ≤ room_1.cells ∧ slots ≤ room_1.slots := ⟨Nat.le_trans (Nat.le_add_right _ 4) hc, Nat.le_trans (Nat.le_add_right _ 24) hs⟩
  refine lv_aload_n hx hb dL_law_1979 rfl (lv_at hl 1 rfl) ?_
  refine lv_aload_n hx hb dL_law_1980 rfl (lv_at hl 0 rfl) ?_
  refine lv_iload hx hb dL_law_1981 (lv_at hl 4 rfl) ?_
  refine lv_iconst (v := 1) hx hb dL_law_1983 (by decide) ?_
  refine lv_iadd hx hb dL_law_1984 ?_
  refine va_sld hx hb hX hbl hbA I.2.2.2.1 hi1 dL_law_1985 ?_
  refine lv_aload_n hx hb dL_law_1986 rfl (lv_at hl 3 rfl) ?_
  obtain ⟨q, σ1, b1, τ1, h1, h2, h3, h4, h5⟩ := hSim σ τ (xs (Int32.toNatClampNeg (i + 1))) hR
  refine r2SI (V := vC E) (V' := vR E2) (As := [.ref (ca E 0), .int (xs (Int32.toNatClampNeg (i + 1))), .ref (ca E 59)]) (rest := []) X I J hd hl (c_L_pockets hlt hn h1) yw_L_pockets tw_1472 ⟨rfl, rfl, Nat.le_of_ble_eq_true rfl, Nat.le_of_ble_eq_true rfl⟩ rfl rfl (Nat.le_of_ble_eq_true rfl) ⟨Nat.le_trans (Nat.add_le_add_left (Nat.le_of_ble_eq_true rfl) cells) hc, Nat.le_trans (Nat.add_le_add_left (Nat.le_of_ble_eq_true rfl) slots) hs⟩ dL_law_1987 (fun H locs I J => ?_)
  refine W.widen (k := cells + 4) (n := slots + 24) (Nat.add_le_add_left (Nat.le_of_ble_eq_true rfl) cells) (Nat.add_le_add_left (Nat.le_of_ble_eq_true rfl) slots) ?_
  have hcs : cells + 4 ≤ room_1.cells ∧ slots + 24 ≤ room_1.slots := ⟨hc, hs⟩
  refine lv_istore (lv' := [(5, .int q), (0, .ref b), (1, .ref (ca E 0)), (2, .ref (ra E2 0)), (3, .ref (ca E 59)), (4, .int i)]) hx hb dL_law_1990 hl (by decide) rfl (fun ls hl => ?_)
  refine lv_aload_n hx hb dL_law_1992 rfl (lv_at hl 3 rfl) ?_
  refine lv_aload_n hx hb dL_law_1993 rfl (lv_at hl 1 rfl) ?_
  refine lv_iload hx hb dL_law_1994 (lv_at hl 5 rfl) ?_
  refine lv_iconst (v := 1) hx hb dL_law_1996 (by decide) ?_
  refine lv_iadd hx hb dL_law_1997 ?_
  refine va_sld hx hb hX hbl hbA I.2.2.2.1 hi1 dL_law_1998 ?_
  refine r2VI (V := vR E2) (V' := vC E) (k := 0) (As := [.int (xs (Int32.toNatClampNeg (i + 1)))]) (rest := []) X J I hd.symm hl (c_X11_pockets h2) yv_X11_pockets tw_1476 ⟨rfl, rfl, Nat.le_of_ble_eq_true rfl, Nat.le_of_ble_eq_true rfl⟩ (Nat.le_of_ble_eq_true rfl) rfl rfl rfl rfl (Nat.le_of_ble_eq_true rfl) hcs dL_law_1999 (fun H locs J I => ?_)
  refine lv_istore (lv' := [(6, .int b1), (5, .int q), (0, .ref b), (1, .ref (ca E 0)), (2, .ref (ra E2 0)), (3, .ref (ca E 59)), (4, .int i)]) hx hb dL_law_2002 hl (by decide) rfl (fun ls hl => ?_)
  refine lv_aload_n hx hb dL_law_2004 rfl (lv_at hl 4 rfl) ?_
  refine r2VI (V := vR E2) (V' := vC E) (k := 0) (As := []) (rest := []) X J I hd.symm hl (c_X11_thrown (l := l) (E := E2) (σ := τ1) (q := τ1 0 5) rfl) yv_X11_thrown tw_1221 ⟨rfl, rfl, Nat.le_of_ble_eq_true rfl, Nat.le_of_ble_eq_true rfl⟩ (Nat.le_of_ble_eq_true rfl) rfl rfl rfl rfl (Nat.le_of_ble_eq_true rfl) hcs dL_law_2005 (fun H locs J I => ?_)
  refine lv_iload hx hb dL_law_2008 (lv_at hl 1 rfl) ?_
  refine lv_icmp_eq (tgt := 2015) hx hb dL_law_2010 (by decide) (fun _ => ?_) (fun c9 => absurd h3 c9)
  refine lv_iload hx hb dL_law_2015 (lv_at hl 1 rfl) ?_
  refine lv_if_ne (tgt := 2032) hx hb dL_law_2017 (by decide) (fun c1 => ?_) (fun c1 => ?_)
  · skip
    refine lv_goto (tgt := 2286) hx hb dL_law_2032 (by decide) ?_
    exact kend σ1 τ1 h5 H locs ls I J (lv_sub hl [2, 3, 4, 5, 6] rfl)
  · skip
    refine lv_aload_n hx hb dL_law_2020 rfl (lv_at hl 5 rfl) ?_
    refine lv_iconst (v := 0) hx hb dL_law_2021 (by decide) ?_
    refine jaldC X I (kC_59 E hn) (show vp_in (0 : Int32) 1 from vp_in_nI (n := 0) (by decide) (by decide)) dL_law_2022 ?_
    refine lv_iload hx hb dL_law_2023 (lv_at hl 0 rfl) ?_
    refine lv_i2l hx hb dL_law_2025 rfl ?_
    refine W.lcmp hx hb dL_law_2026 ?_
    refine lv_if_eq (tgt := 2032) hx hb dL_law_2027 (by decide) (fun _ => ?_) (fun c9 => absurd (show lg_cmp (Int32.toInt64 (σ1 59 0)) (Int32.toInt64 b1) = 0 by rw [h4 c1]; exact lg_self _) c9)
    refine lv_goto (tgt := 2286) hx hb dL_law_2032 (by decide) ?_
    exact kend σ1 τ1 h5 H locs ls I J (lv_sub hl [2, 3, 4, 5, 6] rfl)
set_option maxHeartbeats 4000000 in
set_option maxRecDepth 100000 in
theorem lc_look {p : Program} {l : Launch} {e : Env} {s : State} {m : MethodId} {below : List Frame} {meth : Method} {c : Code} {b L : Nat} {xs : Nat → Int32} {E : CE} {E2 : RE} {Rel : Mem → Mem → Prop} (hlt : l.stackTraces = false) (hn : 0 < E.2.2.2.2.2.2) (hSim : SIM_look Rel) (X : CX p s m meth c #[Value.ref b] cL_law 7 RL (some .boolean)) (hX : va_X b L xs s s.heap) (hbl : b < s.heap.size) (hd : DJ (vC E) (vR E2)) {i : Int32} (hi1 : vp_in (i + 1) L) (hi2 : vp_in (i + 2) L) (hi3 : vp_in (i + 3) L) (hi4 : vp_in (i + 4) L) (hi5 : vp_in (i + 5) L) {σ τ : Mem} (hR : Rel σ τ) {cells slots : Nat} (hc : cells + 4 ≤ 601024) (hs : slots + 24 ≤ 7293034) {H : Heap} {locs : List Loc} (I : WI (vC E) (fun q : Nat => s.heap.size ≤ q) s H locs σ) (J : WI (vR E2) (fun q : Nat => s.heap.size ≤ q) s H locs τ) {ls : Array Slot} (hl : lv_has ls 7 [(0, .ref b), (1, .ref (ca E 0)), (2, .ref (ra E2 0)), (3, .ref (ca E 59)), (4, .int i)])
    (kend : ∀ (σ1 τ1 : Mem), Rel σ1 τ1 → ∀ (H : Heap) (locs : List Loc) (ls : Array Slot), WI (vC E) (fun q : Nat => s.heap.size ≤ q) s H locs σ1 → WI (vR E2) (fun q : Nat => s.heap.size ≤ q) s H locs τ1 → lv_has ls 7 [(0, .ref b), (1, .ref (ca E 0)), (2, .ref (ra E2 0)), (3, .ref (ca E 59)), (4, .int i)] → W p l e room_1 s m #[Value.ref b] below meth c H locs (cells + 4) (slots + 24) (lw_Z below #[Value.ref b] s) (F0 m 2286 ls [])) : W p l e room_1 s m #[Value.ref b] below meth c H locs cells slots (lw_Z below #[Value.ref b] s) (F0 m 2035 ls []) := by
  have hx := X.1
  have hb := X.2.1
  have hbA : ¬ (fun q : Nat => s.heap.size ≤ q) b := Nat.not_le.mpr hbl
  have hcs : cells ≤ room_1.cells ∧ slots ≤ room_1.slots := ⟨Nat.le_trans (Nat.le_add_right _ 4) hc, Nat.le_trans (Nat.le_add_right _ 24) hs⟩
  refine lv_aload_n hx hb dL_law_2035 rfl (lv_at hl 1 rfl) ?_
  refine lv_aload_n hx hb dL_law_2036 rfl (lv_at hl 0 rfl) ?_
  refine lv_iload hx hb dL_law_2037 (lv_at hl 4 rfl) ?_
  refine lv_iconst (v := 1) hx hb dL_law_2039 (by decide) ?_
  refine lv_iadd hx hb dL_law_2040 ?_
  refine va_sld hx hb hX hbl hbA I.2.2.2.1 hi1 dL_law_2041 ?_
  refine lv_aload_n hx hb dL_law_2042 rfl (lv_at hl 3 rfl) ?_
  obtain ⟨q, σ1, b1, τ1, h1, h2, h3, h4, h5⟩ := hSim σ τ (xs (Int32.toNatClampNeg (i + 1))) hR
  refine r2SI (V := vC E) (V' := vR E2) (As := [.ref (ca E 0), .int (xs (Int32.toNatClampNeg (i + 1))), .ref (ca E 59)]) (rest := []) X I J hd hl (c_L_look hlt hn h1) yw_L_look tw_1481 ⟨rfl, rfl, Nat.le_of_ble_eq_true rfl, Nat.le_of_ble_eq_true rfl⟩ rfl rfl (Nat.le_of_ble_eq_true rfl) ⟨Nat.le_trans (Nat.add_le_add_left (Nat.le_of_ble_eq_true rfl) cells) hc, Nat.le_trans (Nat.add_le_add_left (Nat.le_of_ble_eq_true rfl) slots) hs⟩ dL_law_2043 (fun H locs I J => ?_)
  refine W.widen (k := cells + 4) (n := slots + 24) (Nat.add_le_add_left (Nat.le_of_ble_eq_true rfl) cells) (Nat.add_le_add_left (Nat.le_of_ble_eq_true rfl) slots) ?_
  have hcs : cells + 4 ≤ room_1.cells ∧ slots + 24 ≤ room_1.slots := ⟨hc, hs⟩
  refine lv_istore (lv' := [(5, .int q), (0, .ref b), (1, .ref (ca E 0)), (2, .ref (ra E2 0)), (3, .ref (ca E 59)), (4, .int i)]) hx hb dL_law_2046 hl (by decide) rfl (fun ls hl => ?_)
  refine lv_aload_n hx hb dL_law_2048 rfl (lv_at hl 3 rfl) ?_
  refine lv_aload_n hx hb dL_law_2049 rfl (lv_at hl 1 rfl) ?_
  refine lv_iload hx hb dL_law_2050 (lv_at hl 5 rfl) ?_
  refine lv_iconst (v := 1) hx hb dL_law_2052 (by decide) ?_
  refine lv_iadd hx hb dL_law_2053 ?_
  refine va_sld hx hb hX hbl hbA I.2.2.2.1 hi1 dL_law_2054 ?_
  refine r2VI (V := vR E2) (V' := vC E) (k := 0) (As := [.int (xs (Int32.toNatClampNeg (i + 1)))]) (rest := []) X J I hd.symm hl (c_X11_look h2) yv_X11_look tw_1485 ⟨rfl, rfl, Nat.le_of_ble_eq_true rfl, Nat.le_of_ble_eq_true rfl⟩ (Nat.le_of_ble_eq_true rfl) rfl rfl rfl rfl (Nat.le_of_ble_eq_true rfl) hcs dL_law_2055 (fun H locs J I => ?_)
  refine lv_istore (lv' := [(6, .int b1), (5, .int q), (0, .ref b), (1, .ref (ca E 0)), (2, .ref (ra E2 0)), (3, .ref (ca E 59)), (4, .int i)]) hx hb dL_law_2058 hl (by decide) rfl (fun ls hl => ?_)
  refine lv_aload_n hx hb dL_law_2060 rfl (lv_at hl 4 rfl) ?_
  refine r2VI (V := vR E2) (V' := vC E) (k := 0) (As := []) (rest := []) X J I hd.symm hl (c_X11_thrown (l := l) (E := E2) (σ := τ1) (q := τ1 0 5) rfl) yv_X11_thrown tw_1221 ⟨rfl, rfl, Nat.le_of_ble_eq_true rfl, Nat.le_of_ble_eq_true rfl⟩ (Nat.le_of_ble_eq_true rfl) rfl rfl rfl rfl (Nat.le_of_ble_eq_true rfl) hcs dL_law_2061 (fun H locs J I => ?_)
  refine lv_iload hx hb dL_law_2064 (lv_at hl 1 rfl) ?_
  refine lv_icmp_eq (tgt := 2071) hx hb dL_law_2066 (by decide) (fun _ => ?_) (fun c9 => absurd h3 c9)
  refine lv_iload hx hb dL_law_2071 (lv_at hl 1 rfl) ?_
  refine lv_if_ne (tgt := 2088) hx hb dL_law_2073 (by decide) (fun c1 => ?_) (fun c1 => ?_)
  · skip
    refine lv_goto (tgt := 2286) hx hb dL_law_2088 (by decide) ?_
    exact kend σ1 τ1 h5 H locs ls I J (lv_sub hl [2, 3, 4, 5, 6] rfl)
  · skip
    refine lv_aload_n hx hb dL_law_2076 rfl (lv_at hl 5 rfl) ?_
    refine lv_iconst (v := 0) hx hb dL_law_2077 (by decide) ?_
    refine jaldC X I (kC_59 E hn) (show vp_in (0 : Int32) 1 from vp_in_nI (n := 0) (by decide) (by decide)) dL_law_2078 ?_
    refine lv_iload hx hb dL_law_2079 (lv_at hl 0 rfl) ?_
    refine lv_i2l hx hb dL_law_2081 rfl ?_
    refine W.lcmp hx hb dL_law_2082 ?_
    refine lv_if_eq (tgt := 2088) hx hb dL_law_2083 (by decide) (fun _ => ?_) (fun c9 => absurd (show lg_cmp (Int32.toInt64 (σ1 59 0)) (Int32.toInt64 b1) = 0 by rw [h4 c1]; exact lg_self _) c9)
    refine lv_goto (tgt := 2286) hx hb dL_law_2088 (by decide) ?_
    exact kend σ1 τ1 h5 H locs ls I J (lv_sub hl [2, 3, 4, 5, 6] rfl)
set_option maxHeartbeats 4000000 in
set_option maxRecDepth 100000 in
theorem lc_forget {p : Program} {l : Launch} {e : Env} {s : State} {m : MethodId} {below : List Frame} {meth : Method} {c : Code} {b L : Nat} {xs : Nat → Int32} {E : CE} {E2 : RE} {Rel : Mem → Mem → Prop} (hlt : l.stackTraces = false) (hn : 0 < E.2.2.2.2.2.2) (hSim : SIM_forget Rel) (X : CX p s m meth c #[Value.ref b] cL_law 7 RL (some .boolean)) (hX : va_X b L xs s s.heap) (hbl : b < s.heap.size) (hd : DJ (vC E) (vR E2)) {i : Int32} (hi1 : vp_in (i + 1) L) (hi2 : vp_in (i + 2) L) (hi3 : vp_in (i + 3) L) (hi4 : vp_in (i + 4) L) (hi5 : vp_in (i + 5) L) {σ τ : Mem} (hR : Rel σ τ) {cells slots : Nat} (hc : cells + 4 ≤ 601024) (hs : slots + 24 ≤ 7293034) {H : Heap} {locs : List Loc} (I : WI (vC E) (fun q : Nat => s.heap.size ≤ q) s H locs σ) (J : WI (vR E2) (fun q : Nat => s.heap.size ≤ q) s H locs τ) {ls : Array Slot} (hl : lv_has ls 7 [(0, .ref b), (1, .ref (ca E 0)), (2, .ref (ra E2 0)), (3, .ref (ca E 59)), (4, .int i)])
    (kend : ∀ (σ1 τ1 : Mem), Rel σ1 τ1 → ∀ (H : Heap) (locs : List Loc) (ls : Array Slot), WI (vC E) (fun q : Nat => s.heap.size ≤ q) s H locs σ1 → WI (vR E2) (fun q : Nat => s.heap.size ≤ q) s H locs τ1 → lv_has ls 7 [(0, .ref b), (1, .ref (ca E 0)), (2, .ref (ra E2 0)), (3, .ref (ca E 59)), (4, .int i)] → W p l e room_1 s m #[Value.ref b] below meth c H locs (cells + 4) (slots + 24) (lw_Z below #[Value.ref b] s) (F0 m 2286 ls [])) : W p l e room_1 s m #[Value.ref b] below meth c H locs cells slots (lw_Z below #[Value.ref b] s) (F0 m 2091 ls []) := by
  have hx := X.1
  have hb := X.2.1
  have hbA : ¬ (fun q : Nat => s.heap.size ≤ q) b := Nat.not_le.mpr hbl
  have hcs : cells ≤ room_1.cells ∧ slots ≤ room_1.slots := ⟨Nat.le_trans (Nat.le_add_right _ 4) hc, Nat.le_trans (Nat.le_add_right _ 24) hs⟩
  refine lv_aload_n hx hb dL_law_2091 rfl (lv_at hl 1 rfl) ?_
  obtain ⟨σ1, τ1, h1, h2, h5⟩ := hSim σ τ hR
  refine r2VV (V := vC E) (V' := vR E2) (k := 0) (As := []) (rest := []) X I J hd hl (c_X10_forget h1) yv_X10_forget tw_1490 ⟨rfl, rfl, Nat.le_of_ble_eq_true rfl, Nat.le_of_ble_eq_true rfl⟩ (kC_0 E).1 rfl rfl rfl rfl (Nat.le_of_ble_eq_true rfl) hcs dL_law_2092 (fun H locs I J => ?_)
  refine lv_aload_n hx hb dL_law_2095 rfl (lv_at hl 2 rfl) ?_
  refine r2VV (V := vR E2) (V' := vC E) (k := 0) (As := []) (rest := []) X J I hd.symm hl (c_X11_forget h2) yv_X11_forget tw_1495 ⟨rfl, rfl, Nat.le_of_ble_eq_true rfl, Nat.le_of_ble_eq_true rfl⟩ (Nat.le_of_ble_eq_true rfl) rfl rfl rfl rfl (Nat.le_of_ble_eq_true rfl) hcs dL_law_2096 (fun H locs J I => ?_)
  refine lv_goto (tgt := 2286) hx hb dL_law_2099 (by decide) ?_
  refine W.widen (k := cells + 4) (n := slots + 24) (Nat.le_add_right _ _) (Nat.le_add_right _ _) ?_
  exact kend σ1 τ1 h5 H locs ls I J (lv_sub hl [0, 1, 2, 3, 4] rfl)
set_option maxHeartbeats 4000000 in
set_option maxRecDepth 100000 in
theorem lc_game {p : Program} {l : Launch} {e : Env} {s : State} {m : MethodId} {below : List Frame} {meth : Method} {c : Code} {b L : Nat} {xs : Nat → Int32} {E : CE} {E2 : RE} {Rel : Mem → Mem → Prop} (hlt : l.stackTraces = false) (hn : 0 < E.2.2.2.2.2.2) (hSim : SIM_game Rel) (X : CX p s m meth c #[Value.ref b] cL_law 7 RL (some .boolean)) (hX : va_X b L xs s s.heap) (hbl : b < s.heap.size) (hd : DJ (vC E) (vR E2)) {i : Int32} (hi1 : vp_in (i + 1) L) (hi2 : vp_in (i + 2) L) (hi3 : vp_in (i + 3) L) (hi4 : vp_in (i + 4) L) (hi5 : vp_in (i + 5) L) {σ τ : Mem} (hR : Rel σ τ) {cells slots : Nat} (hc : cells + 4 ≤ 601024) (hs : slots + 24 ≤ 7293034) {H : Heap} {locs : List Loc} (I : WI (vC E) (fun q : Nat => s.heap.size ≤ q) s H locs σ) (J : WI (vR E2) (fun q : Nat => s.heap.size ≤ q) s H locs τ) {ls : Array Slot} (hl : lv_has ls 7 [(0, .ref b), (1, .ref (ca E 0)), (2, .ref (ra E2 0)), (3, .ref (ca E 59)), (4, .int i)])
    (kend : ∀ (σ1 τ1 : Mem), Rel σ1 τ1 → ∀ (H : Heap) (locs : List Loc) (ls : Array Slot), WI (vC E) (fun q : Nat => s.heap.size ≤ q) s H locs σ1 → WI (vR E2) (fun q : Nat => s.heap.size ≤ q) s H locs τ1 → lv_has ls 7 [(0, .ref b), (1, .ref (ca E 0)), (2, .ref (ra E2 0)), (3, .ref (ca E 59)), (4, .int i)] → W p l e room_1 s m #[Value.ref b] below meth c H locs (cells + 4) (slots + 24) (lw_Z below #[Value.ref b] s) (F0 m 2286 ls [])) : W p l e room_1 s m #[Value.ref b] below meth c H locs cells slots (lw_Z below #[Value.ref b] s) (F0 m 2102 ls []) := by
  have hx := X.1
  have hb := X.2.1
  have hbA : ¬ (fun q : Nat => s.heap.size ≤ q) b := Nat.not_le.mpr hbl
  have hcs : cells ≤ room_1.cells ∧ slots ≤ room_1.slots := ⟨Nat.le_trans (Nat.le_add_right _ 4) hc, Nat.le_trans (Nat.le_add_right _ 24) hs⟩
  refine lv_aload_n hx hb dL_law_2102 rfl (lv_at hl 1 rfl) ?_
  refine lv_aload_n hx hb dL_law_2103 rfl (lv_at hl 0 rfl) ?_
  refine lv_iload hx hb dL_law_2104 (lv_at hl 4 rfl) ?_
  refine lv_iconst (v := 1) hx hb dL_law_2106 (by decide) ?_
  refine lv_iadd hx hb dL_law_2107 ?_
  refine va_sld hx hb hX hbl hbA I.2.2.2.1 hi1 dL_law_2108 ?_
  refine lv_aload_n hx hb dL_law_2109 rfl (lv_at hl 0 rfl) ?_
  refine lv_iload hx hb dL_law_2110 (lv_at hl 4 rfl) ?_
  refine lv_iconst (v := 2) hx hb dL_law_2112 (by decide) ?_
  refine lv_iadd hx hb dL_law_2113 ?_
  refine va_sld hx hb hX hbl hbA I.2.2.2.1 hi2 dL_law_2114 ?_
  refine lv_aload_n hx hb dL_law_2115 rfl (lv_at hl 0 rfl) ?_
  refine lv_iload hx hb dL_law_2116 (lv_at hl 4 rfl) ?_
  refine lv_iconst (v := 3) hx hb dL_law_2118 (by decide) ?_
  refine lv_iadd hx hb dL_law_2119 ?_
  refine va_sld hx hb hX hbl hbA I.2.2.2.1 hi3 dL_law_2120 ?_
  refine lv_aload_n hx hb dL_law_2121 rfl (lv_at hl 3 rfl) ?_
  obtain ⟨q, σ1, b1, τ1, h1, h2, h3, h4, h5⟩ := hSim σ τ (xs (Int32.toNatClampNeg (i + 1))) (xs (Int32.toNatClampNeg (i + 2))) (xs (Int32.toNatClampNeg (i + 3))) hR
  refine r2SI (V := vC E) (V' := vR E2) (As := [.ref (ca E 0), .int (xs (Int32.toNatClampNeg (i + 1))), .int (xs (Int32.toNatClampNeg (i + 2))), .int (xs (Int32.toNatClampNeg (i + 3))), .ref (ca E 59)]) (rest := []) X I J hd hl (c_L_game hlt hn h1) yw_L_game tw_1500 ⟨rfl, rfl, Nat.le_of_ble_eq_true rfl, Nat.le_of_ble_eq_true rfl⟩ rfl rfl (Nat.le_of_ble_eq_true rfl) ⟨Nat.le_trans (Nat.add_le_add_left (Nat.le_of_ble_eq_true rfl) cells) hc, Nat.le_trans (Nat.add_le_add_left (Nat.le_of_ble_eq_true rfl) slots) hs⟩ dL_law_2122 (fun H locs I J => ?_)
  refine W.widen (k := cells + 4) (n := slots + 24) (Nat.add_le_add_left (Nat.le_of_ble_eq_true rfl) cells) (Nat.add_le_add_left (Nat.le_of_ble_eq_true rfl) slots) ?_
  have hcs : cells + 4 ≤ room_1.cells ∧ slots + 24 ≤ room_1.slots := ⟨hc, hs⟩
  refine lv_istore (lv' := [(5, .int q), (0, .ref b), (1, .ref (ca E 0)), (2, .ref (ra E2 0)), (3, .ref (ca E 59)), (4, .int i)]) hx hb dL_law_2125 hl (by decide) rfl (fun ls hl => ?_)
  refine lv_aload_n hx hb dL_law_2127 rfl (lv_at hl 3 rfl) ?_
  refine lv_aload_n hx hb dL_law_2128 rfl (lv_at hl 1 rfl) ?_
  refine lv_iload hx hb dL_law_2129 (lv_at hl 5 rfl) ?_
  refine lv_iconst (v := 1) hx hb dL_law_2131 (by decide) ?_
  refine lv_iadd hx hb dL_law_2132 ?_
  refine va_sld hx hb hX hbl hbA I.2.2.2.1 hi1 dL_law_2133 ?_
  refine lv_aload_n hx hb dL_law_2134 rfl (lv_at hl 1 rfl) ?_
  refine lv_iload hx hb dL_law_2135 (lv_at hl 5 rfl) ?_
  refine lv_iconst (v := 2) hx hb dL_law_2137 (by decide) ?_
  refine lv_iadd hx hb dL_law_2138 ?_
  refine va_sld hx hb hX hbl hbA I.2.2.2.1 hi2 dL_law_2139 ?_
  refine lv_aload_n hx hb dL_law_2140 rfl (lv_at hl 1 rfl) ?_
  refine lv_iload hx hb dL_law_2141 (lv_at hl 5 rfl) ?_
  refine lv_iconst (v := 3) hx hb dL_law_2143 (by decide) ?_
  refine lv_iadd hx hb dL_law_2144 ?_
  refine va_sld hx hb hX hbl hbA I.2.2.2.1 hi3 dL_law_2145 ?_
  refine r2VI (V := vR E2) (V' := vC E) (k := 0) (As := [.int (xs (Int32.toNatClampNeg (i + 1))), .int (xs (Int32.toNatClampNeg (i + 2))), .int (xs (Int32.toNatClampNeg (i + 3)))]) (rest := []) X J I hd.symm hl (c_X11_game h2) yv_X11_game tw_1504 ⟨rfl, rfl, Nat.le_of_ble_eq_true rfl, Nat.le_of_ble_eq_true rfl⟩ (Nat.le_of_ble_eq_true rfl) rfl rfl rfl rfl (Nat.le_of_ble_eq_true rfl) hcs dL_law_2146 (fun H locs J I => ?_)
  refine lv_istore (lv' := [(6, .int b1), (5, .int q), (0, .ref b), (1, .ref (ca E 0)), (2, .ref (ra E2 0)), (3, .ref (ca E 59)), (4, .int i)]) hx hb dL_law_2149 hl (by decide) rfl (fun ls hl => ?_)
  refine lv_aload_n hx hb dL_law_2151 rfl (lv_at hl 4 rfl) ?_
  refine r2VI (V := vR E2) (V' := vC E) (k := 0) (As := []) (rest := []) X J I hd.symm hl (c_X11_thrown (l := l) (E := E2) (σ := τ1) (q := τ1 0 5) rfl) yv_X11_thrown tw_1221 ⟨rfl, rfl, Nat.le_of_ble_eq_true rfl, Nat.le_of_ble_eq_true rfl⟩ (Nat.le_of_ble_eq_true rfl) rfl rfl rfl rfl (Nat.le_of_ble_eq_true rfl) hcs dL_law_2152 (fun H locs J I => ?_)
  refine lv_iload hx hb dL_law_2155 (lv_at hl 1 rfl) ?_
  refine lv_icmp_eq (tgt := 2162) hx hb dL_law_2157 (by decide) (fun _ => ?_) (fun c9 => absurd h3 c9)
  refine lv_iload hx hb dL_law_2162 (lv_at hl 1 rfl) ?_
  refine lv_if_ne (tgt := 2179) hx hb dL_law_2164 (by decide) (fun c1 => ?_) (fun c1 => ?_)
  · skip
    refine lv_goto (tgt := 2286) hx hb dL_law_2179 (by decide) ?_
    exact kend σ1 τ1 h5 H locs ls I J (lv_sub hl [2, 3, 4, 5, 6] rfl)
  · skip
    refine lv_aload_n hx hb dL_law_2167 rfl (lv_at hl 5 rfl) ?_
    refine lv_iconst (v := 0) hx hb dL_law_2168 (by decide) ?_
    refine jaldC X I (kC_59 E hn) (show vp_in (0 : Int32) 1 from vp_in_nI (n := 0) (by decide) (by decide)) dL_law_2169 ?_
    refine lv_iload hx hb dL_law_2170 (lv_at hl 0 rfl) ?_
    refine lv_i2l hx hb dL_law_2172 rfl ?_
    refine W.lcmp hx hb dL_law_2173 ?_
    refine lv_if_eq (tgt := 2179) hx hb dL_law_2174 (by decide) (fun _ => ?_) (fun c9 => absurd (show lg_cmp (Int32.toInt64 (σ1 59 0)) (Int32.toInt64 b1) = 0 by rw [h4 c1]; exact lg_self _) c9)
    refine lv_goto (tgt := 2286) hx hb dL_law_2179 (by decide) ?_
    exact kend σ1 τ1 h5 H locs ls I J (lv_sub hl [2, 3, 4, 5, 6] rfl)
set_option maxHeartbeats 4000000 in
set_option maxRecDepth 100000 in
theorem lc_years {p : Program} {l : Launch} {e : Env} {s : State} {m : MethodId} {below : List Frame} {meth : Method} {c : Code} {b L : Nat} {xs : Nat → Int32} {E : CE} {E2 : RE} {Rel : Mem → Mem → Prop} (hlt : l.stackTraces = false) (hn : 0 < E.2.2.2.2.2.2) (hSim : SIM_years Rel) (X : CX p s m meth c #[Value.ref b] cL_law 7 RL (some .boolean)) (hX : va_X b L xs s s.heap) (hbl : b < s.heap.size) (hd : DJ (vC E) (vR E2)) {i : Int32} (hi1 : vp_in (i + 1) L) (hi2 : vp_in (i + 2) L) (hi3 : vp_in (i + 3) L) (hi4 : vp_in (i + 4) L) (hi5 : vp_in (i + 5) L) {σ τ : Mem} (hR : Rel σ τ) {cells slots : Nat} (hc : cells + 4 ≤ 601024) (hs : slots + 24 ≤ 7293034) {H : Heap} {locs : List Loc} (I : WI (vC E) (fun q : Nat => s.heap.size ≤ q) s H locs σ) (J : WI (vR E2) (fun q : Nat => s.heap.size ≤ q) s H locs τ) {ls : Array Slot} (hl : lv_has ls 7 [(0, .ref b), (1, .ref (ca E 0)), (2, .ref (ra E2 0)), (3, .ref (ca E 59)), (4, .int i)])
    (kend : ∀ (σ1 τ1 : Mem), Rel σ1 τ1 → ∀ (H : Heap) (locs : List Loc) (ls : Array Slot), WI (vC E) (fun q : Nat => s.heap.size ≤ q) s H locs σ1 → WI (vR E2) (fun q : Nat => s.heap.size ≤ q) s H locs τ1 → lv_has ls 7 [(0, .ref b), (1, .ref (ca E 0)), (2, .ref (ra E2 0)), (3, .ref (ca E 59)), (4, .int i)] → W p l e room_1 s m #[Value.ref b] below meth c H locs (cells + 4) (slots + 24) (lw_Z below #[Value.ref b] s) (F0 m 2286 ls [])) : W p l e room_1 s m #[Value.ref b] below meth c H locs cells slots (lw_Z below #[Value.ref b] s) (F0 m 2182 ls []) := by
  have hx := X.1
  have hb := X.2.1
  have hbA : ¬ (fun q : Nat => s.heap.size ≤ q) b := Nat.not_le.mpr hbl
  have hcs : cells ≤ room_1.cells ∧ slots ≤ room_1.slots := ⟨Nat.le_trans (Nat.le_add_right _ 4) hc, Nat.le_trans (Nat.le_add_right _ 24) hs⟩
  refine lv_aload_n hx hb dL_law_2182 rfl (lv_at hl 1 rfl) ?_
  refine lv_aload_n hx hb dL_law_2183 rfl (lv_at hl 0 rfl) ?_
  refine lv_iload hx hb dL_law_2184 (lv_at hl 4 rfl) ?_
  refine lv_iconst (v := 1) hx hb dL_law_2186 (by decide) ?_
  refine lv_iadd hx hb dL_law_2187 ?_
  refine va_sld hx hb hX hbl hbA I.2.2.2.1 hi1 dL_law_2188 ?_
  refine lv_aload_n hx hb dL_law_2189 rfl (lv_at hl 0 rfl) ?_
  refine lv_iload hx hb dL_law_2190 (lv_at hl 4 rfl) ?_
  refine lv_iconst (v := 2) hx hb dL_law_2192 (by decide) ?_
  refine lv_iadd hx hb dL_law_2193 ?_
  refine va_sld hx hb hX hbl hbA I.2.2.2.1 hi2 dL_law_2194 ?_
  refine lv_aload_n hx hb dL_law_2195 rfl (lv_at hl 0 rfl) ?_
  refine lv_iload hx hb dL_law_2196 (lv_at hl 4 rfl) ?_
  refine lv_iconst (v := 3) hx hb dL_law_2198 (by decide) ?_
  refine lv_iadd hx hb dL_law_2199 ?_
  refine va_sld hx hb hX hbl hbA I.2.2.2.1 hi3 dL_law_2200 ?_
  refine lv_aload_n hx hb dL_law_2201 rfl (lv_at hl 3 rfl) ?_
  obtain ⟨q, σ1, b1, τ1, h1, h2, h3, h4, h5⟩ := hSim σ τ (xs (Int32.toNatClampNeg (i + 1))) (xs (Int32.toNatClampNeg (i + 2))) (xs (Int32.toNatClampNeg (i + 3))) hR
  refine r2SI (V := vC E) (V' := vR E2) (As := [.ref (ca E 0), .int (xs (Int32.toNatClampNeg (i + 1))), .int (xs (Int32.toNatClampNeg (i + 2))), .int (xs (Int32.toNatClampNeg (i + 3))), .ref (ca E 59)]) (rest := []) X I J hd hl (c_L_years hlt hn h1) yw_L_years tw_1509 ⟨rfl, rfl, Nat.le_of_ble_eq_true rfl, Nat.le_of_ble_eq_true rfl⟩ rfl rfl (Nat.le_of_ble_eq_true rfl) ⟨Nat.le_trans (Nat.add_le_add_left (Nat.le_of_ble_eq_true rfl) cells) hc, Nat.le_trans (Nat.add_le_add_left (Nat.le_of_ble_eq_true rfl) slots) hs⟩ dL_law_2202 (fun H locs I J => ?_)
  refine W.widen (k := cells + 4) (n := slots + 24) (Nat.add_le_add_left (Nat.le_of_ble_eq_true rfl) cells) (Nat.add_le_add_left (Nat.le_of_ble_eq_true rfl) slots) ?_
  have hcs : cells + 4 ≤ room_1.cells ∧ slots + 24 ≤ room_1.slots := ⟨hc, hs⟩
  refine lv_istore (lv' := [(5, .int q), (0, .ref b), (1, .ref (ca E 0)), (2, .ref (ra E2 0)), (3, .ref (ca E 59)), (4, .int i)]) hx hb dL_law_2205 hl (by decide) rfl (fun ls hl => ?_)
  refine lv_aload_n hx hb dL_law_2207 rfl (lv_at hl 3 rfl) ?_
  refine lv_aload_n hx hb dL_law_2208 rfl (lv_at hl 1 rfl) ?_
  refine lv_iload hx hb dL_law_2209 (lv_at hl 5 rfl) ?_
  refine lv_iconst (v := 1) hx hb dL_law_2211 (by decide) ?_
  refine lv_iadd hx hb dL_law_2212 ?_
  refine va_sld hx hb hX hbl hbA I.2.2.2.1 hi1 dL_law_2213 ?_
  refine lv_aload_n hx hb dL_law_2214 rfl (lv_at hl 1 rfl) ?_
  refine lv_iload hx hb dL_law_2215 (lv_at hl 5 rfl) ?_
  refine lv_iconst (v := 2) hx hb dL_law_2217 (by decide) ?_
  refine lv_iadd hx hb dL_law_2218 ?_
  refine va_sld hx hb hX hbl hbA I.2.2.2.1 hi2 dL_law_2219 ?_
  refine lv_aload_n hx hb dL_law_2220 rfl (lv_at hl 1 rfl) ?_
  refine lv_iload hx hb dL_law_2221 (lv_at hl 5 rfl) ?_
  refine lv_iconst (v := 3) hx hb dL_law_2223 (by decide) ?_
  refine lv_iadd hx hb dL_law_2224 ?_
  refine va_sld hx hb hX hbl hbA I.2.2.2.1 hi3 dL_law_2225 ?_
  refine r2VI (V := vR E2) (V' := vC E) (k := 0) (As := [.int (xs (Int32.toNatClampNeg (i + 1))), .int (xs (Int32.toNatClampNeg (i + 2))), .int (xs (Int32.toNatClampNeg (i + 3)))]) (rest := []) X J I hd.symm hl (c_X11_years h2) yv_X11_years tw_1513 ⟨rfl, rfl, Nat.le_of_ble_eq_true rfl, Nat.le_of_ble_eq_true rfl⟩ (Nat.le_of_ble_eq_true rfl) rfl rfl rfl rfl (Nat.le_of_ble_eq_true rfl) hcs dL_law_2226 (fun H locs J I => ?_)
  refine lv_istore (lv' := [(6, .int b1), (5, .int q), (0, .ref b), (1, .ref (ca E 0)), (2, .ref (ra E2 0)), (3, .ref (ca E 59)), (4, .int i)]) hx hb dL_law_2229 hl (by decide) rfl (fun ls hl => ?_)
  refine lv_aload_n hx hb dL_law_2231 rfl (lv_at hl 4 rfl) ?_
  refine r2VI (V := vR E2) (V' := vC E) (k := 0) (As := []) (rest := []) X J I hd.symm hl (c_X11_thrown (l := l) (E := E2) (σ := τ1) (q := τ1 0 5) rfl) yv_X11_thrown tw_1221 ⟨rfl, rfl, Nat.le_of_ble_eq_true rfl, Nat.le_of_ble_eq_true rfl⟩ (Nat.le_of_ble_eq_true rfl) rfl rfl rfl rfl (Nat.le_of_ble_eq_true rfl) hcs dL_law_2232 (fun H locs J I => ?_)
  refine lv_iload hx hb dL_law_2235 (lv_at hl 1 rfl) ?_
  refine lv_icmp_eq (tgt := 2242) hx hb dL_law_2237 (by decide) (fun _ => ?_) (fun c9 => absurd h3 c9)
  refine lv_iload hx hb dL_law_2242 (lv_at hl 1 rfl) ?_
  refine lv_if_ne (tgt := 2259) hx hb dL_law_2244 (by decide) (fun c1 => ?_) (fun c1 => ?_)
  · skip
    refine lv_goto (tgt := 2286) hx hb dL_law_2259 (by decide) ?_
    exact kend σ1 τ1 h5 H locs ls I J (lv_sub hl [2, 3, 4, 5, 6] rfl)
  · skip
    refine lv_aload_n hx hb dL_law_2247 rfl (lv_at hl 5 rfl) ?_
    refine lv_iconst (v := 0) hx hb dL_law_2248 (by decide) ?_
    refine jaldC X I (kC_59 E hn) (show vp_in (0 : Int32) 1 from vp_in_nI (n := 0) (by decide) (by decide)) dL_law_2249 ?_
    refine lv_iload hx hb dL_law_2250 (lv_at hl 0 rfl) ?_
    refine lv_i2l hx hb dL_law_2252 rfl ?_
    refine W.lcmp hx hb dL_law_2253 ?_
    refine lv_if_eq (tgt := 2259) hx hb dL_law_2254 (by decide) (fun _ => ?_) (fun c9 => absurd (show lg_cmp (Int32.toInt64 (σ1 59 0)) (Int32.toInt64 b1) = 0 by rw [h4 c1]; exact lg_self _) c9)
    refine lv_goto (tgt := 2286) hx hb dL_law_2259 (by decide) ?_
    exact kend σ1 τ1 h5 H locs ls I J (lv_sub hl [2, 3, 4, 5, 6] rfl)
set_option maxHeartbeats 4000000 in
set_option maxRecDepth 100000 in
theorem lc_image {p : Program} {l : Launch} {e : Env} {s : State} {m : MethodId} {below : List Frame} {meth : Method} {c : Code} {b L : Nat} {xs : Nat → Int32} {E : CE} {E2 : RE} {Rel : Mem → Mem → Prop} (hlt : l.stackTraces = false) (hn : 0 < E.2.2.2.2.2.2) (hSim : SIM_image Rel) (X : CX p s m meth c #[Value.ref b] cL_law 7 RL (some .boolean)) (hX : va_X b L xs s s.heap) (hbl : b < s.heap.size) (hd : DJ (vC E) (vR E2)) {i : Int32} (hi1 : vp_in (i + 1) L) (hi2 : vp_in (i + 2) L) (hi3 : vp_in (i + 3) L) (hi4 : vp_in (i + 4) L) (hi5 : vp_in (i + 5) L) {σ τ : Mem} (hR : Rel σ τ) {cells slots : Nat} (hc : cells + 4 ≤ 601024) (hs : slots + 24 ≤ 7293034) {H : Heap} {locs : List Loc} (I : WI (vC E) (fun q : Nat => s.heap.size ≤ q) s H locs σ) (J : WI (vR E2) (fun q : Nat => s.heap.size ≤ q) s H locs τ) {ls : Array Slot} (hl : lv_has ls 7 [(0, .ref b), (1, .ref (ca E 0)), (2, .ref (ra E2 0)), (3, .ref (ca E 59)), (4, .int i)])
    (kend : ∀ (σ1 τ1 : Mem), Rel σ1 τ1 → ∀ (H : Heap) (locs : List Loc) (ls : Array Slot), WI (vC E) (fun q : Nat => s.heap.size ≤ q) s H locs σ1 → WI (vR E2) (fun q : Nat => s.heap.size ≤ q) s H locs τ1 → lv_has ls 7 [(0, .ref b), (1, .ref (ca E 0)), (2, .ref (ra E2 0)), (3, .ref (ca E 59)), (4, .int i)] → W p l e room_1 s m #[Value.ref b] below meth c H locs (cells + 4) (slots + 24) (lw_Z below #[Value.ref b] s) (F0 m 2286 ls [])) : W p l e room_1 s m #[Value.ref b] below meth c H locs cells slots (lw_Z below #[Value.ref b] s) (F0 m 2262 ls []) := by
  have hx := X.1
  have hb := X.2.1
  have hbA : ¬ (fun q : Nat => s.heap.size ≤ q) b := Nat.not_le.mpr hbl
  have hcs : cells ≤ room_1.cells ∧ slots ≤ room_1.slots := ⟨Nat.le_trans (Nat.le_add_right _ 4) hc, Nat.le_trans (Nat.le_add_right _ 24) hs⟩
  refine lv_aload_n hx hb dL_law_2262 rfl (lv_at hl 1 rfl) ?_
  obtain ⟨σ1, τ1, h1, h2, h5⟩ := hSim σ τ hR
  refine r2VV (V := vC E) (V' := vR E2) (k := 0) (As := []) (rest := []) X I J hd hl (c_X10_image h1) yv_X10_image tw_1518 ⟨rfl, rfl, Nat.le_of_ble_eq_true rfl, Nat.le_of_ble_eq_true rfl⟩ (kC_0 E).1 rfl rfl rfl rfl (Nat.le_of_ble_eq_true rfl) hcs dL_law_2263 (fun H locs I J => ?_)
  refine lv_aload_n hx hb dL_law_2266 rfl (lv_at hl 2 rfl) ?_
  refine r2VV (V := vR E2) (V' := vC E) (k := 0) (As := []) (rest := []) X J I hd.symm hl (c_X11_image h2) yv_X11_image tw_1523 ⟨rfl, rfl, Nat.le_of_ble_eq_true rfl, Nat.le_of_ble_eq_true rfl⟩ (Nat.le_of_ble_eq_true rfl) rfl rfl rfl rfl (Nat.le_of_ble_eq_true rfl) hcs dL_law_2267 (fun H locs J I => ?_)
  refine lv_goto (tgt := 2286) hx hb dL_law_2270 (by decide) ?_
  refine W.widen (k := cells + 4) (n := slots + 24) (Nat.le_add_right _ _) (Nat.le_add_right _ _) ?_
  exact kend σ1 τ1 h5 H locs ls I J (lv_sub hl [0, 1, 2, 3, 4] rfl)
set_option maxHeartbeats 4000000 in
set_option maxRecDepth 100000 in
theorem lc_restore {p : Program} {l : Launch} {e : Env} {s : State} {m : MethodId} {below : List Frame} {meth : Method} {c : Code} {b L : Nat} {xs : Nat → Int32} {E : CE} {E2 : RE} {Rel : Mem → Mem → Prop} (hlt : l.stackTraces = false) (hn : 0 < E.2.2.2.2.2.2) (hSim : SIM_restore Rel) (X : CX p s m meth c #[Value.ref b] cL_law 7 RL (some .boolean)) (hX : va_X b L xs s s.heap) (hbl : b < s.heap.size) (hd : DJ (vC E) (vR E2)) {i : Int32} (hi1 : vp_in (i + 1) L) (hi2 : vp_in (i + 2) L) (hi3 : vp_in (i + 3) L) (hi4 : vp_in (i + 4) L) (hi5 : vp_in (i + 5) L) {σ τ : Mem} (hR : Rel σ τ) {cells slots : Nat} (hc : cells + 4 ≤ 601024) (hs : slots + 24 ≤ 7293034) {H : Heap} {locs : List Loc} (I : WI (vC E) (fun q : Nat => s.heap.size ≤ q) s H locs σ) (J : WI (vR E2) (fun q : Nat => s.heap.size ≤ q) s H locs τ) {ls : Array Slot} (hl : lv_has ls 7 [(0, .ref b), (1, .ref (ca E 0)), (2, .ref (ra E2 0)), (3, .ref (ca E 59)), (4, .int i)])
    (kend : ∀ (σ1 τ1 : Mem), Rel σ1 τ1 → ∀ (H : Heap) (locs : List Loc) (ls : Array Slot), WI (vC E) (fun q : Nat => s.heap.size ≤ q) s H locs σ1 → WI (vR E2) (fun q : Nat => s.heap.size ≤ q) s H locs τ1 → lv_has ls 7 [(0, .ref b), (1, .ref (ca E 0)), (2, .ref (ra E2 0)), (3, .ref (ca E 59)), (4, .int i)] → W p l e room_1 s m #[Value.ref b] below meth c H locs (cells + 4) (slots + 24) (lw_Z below #[Value.ref b] s) (F0 m 2286 ls [])) : W p l e room_1 s m #[Value.ref b] below meth c H locs cells slots (lw_Z below #[Value.ref b] s) (F0 m 2273 ls []) := by
  have hx := X.1
  have hb := X.2.1
  have hbA : ¬ (fun q : Nat => s.heap.size ≤ q) b := Nat.not_le.mpr hbl
  have hcs : cells ≤ room_1.cells ∧ slots ≤ room_1.slots := ⟨Nat.le_trans (Nat.le_add_right _ 4) hc, Nat.le_trans (Nat.le_add_right _ 24) hs⟩
  refine lv_aload_n hx hb dL_law_2273 rfl (lv_at hl 1 rfl) ?_
  obtain ⟨w, σ1, τ1, h1, h2, h5⟩ := hSim σ τ  hR
  refine r2VI (V := vC E) (V' := vR E2) (k := 0) (As := []) (rest := []) X I J hd hl (c_X10_restore h1) yv_X10_restore tw_1528 ⟨rfl, rfl, Nat.le_of_ble_eq_true rfl, Nat.le_of_ble_eq_true rfl⟩ (kC_0 E).1 rfl rfl rfl rfl (Nat.le_of_ble_eq_true rfl) hcs dL_law_2274 (fun H locs I J => ?_)
  refine lv_aload_n hx hb dL_law_2277 rfl (lv_at hl 2 rfl) ?_
  refine r2VI (V := vR E2) (V' := vC E) (k := 0) (As := []) (rest := [.int w]) X J I hd.symm hl (c_X11_restore h2) yv_X11_restore tw_1533 ⟨rfl, rfl, Nat.le_of_ble_eq_true rfl, Nat.le_of_ble_eq_true rfl⟩ (Nat.le_of_ble_eq_true rfl) rfl rfl rfl rfl (Nat.le_of_ble_eq_true rfl) hcs dL_law_2278 (fun H locs J I => ?_)
  refine lv_icmp_eq (tgt := 2286) hx hb dL_law_2281 (by decide) (fun _ => ?_) (fun c9 => absurd rfl c9)
  refine W.widen (k := cells + 4) (n := slots + 24) (Nat.le_add_right _ _) (Nat.le_add_right _ _) ?_
  exact kend σ1 τ1 h5 H locs ls I J (lv_sub hl [0, 1, 2, 3, 4] rfl)

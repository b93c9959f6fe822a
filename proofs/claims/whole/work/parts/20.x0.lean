def fJ7_fill_d0a16_6L (a0 : Nat) (n0 : Nat) (K6 : gS → Int64 → Int32 → Int32 → Option (Unit × gS)) (S : gS) (v1 : Int64) (v3 : Int32) (v4 : Int32) : Option (Unit × gS) :=
if v4 ≤ v3 then (some ((), S)) else
gx_chk v3 n0 <|
gx_let (gJ_up S a0 (Int32.toNatClampNeg v3) v1) fun S15 =>
gx_let (v3 + (1 : Int32)) fun v3_16 =>
K6 S15 v1 v3_16 v4
def fJ7_fill_d0a16_6 (a0 : Nat) (n0 : Nat) : Nat → gS → Int64 → Int32 → Int32 → Option (Unit × gS)
  | 0, _, _, _, _ => none
  | f + 1, S, v1, v3, v4 => fJ7_fill_d0a16_6L a0 n0 (fJ7_fill_d0a16_6 a0 n0 f) S v1 v3 v4
def fJ7_fill_d0a16 (a0 : Nat) (n0 : Nat) (S : gS) (v1 : Int64) : Option (Unit × gS) :=
gx_let (nI n0) fun v4_4 =>
fJ7_fill_d0a16_6 a0 n0 gx_fuel S v1 (0 : Int32) v4_4
def rmJ7_fill_d0a16 : Room := { frames := 0, cells := 0, slots := 0, locals := 0 }
set_option maxHeartbeats 4000000 in
set_option maxRecDepth 20000 in
theorem tJ7_fill_d0a16_6L {p : Program} {l : Launch} {e : Env} {s : State} {m : MethodId} {args : Array Value} {below : List Frame} {meth : Method} {c : Code} {G : gG} {ad : Nat → Nat} {A : Nat → Prop} {a0 : Nat} {n0 : Nat} {z : Unit × gS} {K6 : gS → Int64 → Int32 → Int32 → Option (Unit × gS)} (X : gCx p s m args meth c G cJ7_fill_d0a16 RJ7 none 5) (hA : ∀ q, s.heap.size ≤ q → A q) (h0 : gisJ wdX a0 n0) (kK6 : ∀ (S : gS) (v1 : Int64) (v3 : Int32) (v4 : Int32), K6 S v1 v3 v4 = some z → ∀ (H : Heap) (locs : List Loc) (ls : Array Slot), gV wdX G ad A s.heap S H locs → lv_has ls 5 [(0, .ref (ad a0)), (1, .long v1), (3, .int v3), (4, .int v4)] → W p l e rmJ7_fill_d0a16 s m args below meth c H locs 0 0 (MQ below (gQv wdX G ad A z) args s 0 0 A) (F0 m 6 ls [])) (S : gS) (v1 : Int64) (v3 : Int32) (v4 : Int32) (h : fJ7_fill_d0a16_6L a0 n0 K6 S v1 v3 v4 = some z) {H : Heap} {locs : List Loc} {ls : Array Slot} (hV : gV wdX G ad A s.heap S H locs) (hl : lv_has ls 5 [(0, .ref (ad a0)), (1, .long v1), (3, .int v3), (4, .int v4)]) : W p l e rmJ7_fill_d0a16 s m args below meth c H locs 0 0 (MQ below (gQv wdX G ad A z) args s 0 0 A) (F0 m 6 ls []) := by
  obtain ⟨hx, hb, hr, hml, hown, hts, hlk, hK⟩ := id X
  unfold fJ7_fill_d0a16_6L at h
  refine lv_iload_n hx hb dJ7_fill_d0a16_6 rfl (lv_at hl 2 rfl) ?_
  refine lv_iload hx hb dJ7_fill_d0a16_7 (lv_at hl 3 rfl) ?_
  refine lv_icmp_ge (tgt := 22) hx hb dJ7_fill_d0a16_9 (by decide) (fun c_9 => ?_) (fun c_9 => ?_)
  · rw [if_pos c_9] at h
    exact gw_vret X hV h dJ7_fill_d0a16_22
  · rw [if_neg c_9] at h
    refine lv_aload_n hx hb dJ7_fill_d0a16_12 rfl (lv_at hl 0 rfl) ?_
    refine lv_iload_n hx hb dJ7_fill_d0a16_13 rfl (lv_at hl 2 rfl) ?_
    refine lv_lload_n hx hb dJ7_fill_d0a16_14 rfl (lv_at hl 1 rfl) ?_
    obtain ⟨c_15, h⟩ := gx_chk_e h
    refine gw_last X hV h0 c_15 dJ7_fill_d0a16_15 (fun S15 e_15 H locs hV => ?_)
    replace h := gx_let_e e_15 h
    clear e_15
    obtain ⟨v3_16, e_16⟩ : ∃ y : Int32, y = (v3 + (1 : Int32)) := ⟨_, rfl⟩
    refine lv_iinc (v := v3_16) (lv' := [(3, .int v3_16), (0, .ref (ad a0)), (1, .long v1), (4, .int v4)]) hx hb dJ7_fill_d0a16_16 hl (k := 2) rfl (by rw [e_16]; rfl) (by decide) rfl (fun ls hl => ?_)
    replace h := gx_let_e e_16 h
    clear e_16
    refine lv_goto (tgt := 6) hx hb dJ7_fill_d0a16_19 (by decide) ?_
    exact kK6 _ _ _ _ h _ _ _ hV (lv_sub hl [1, 2, 0, 3] rfl)
set_option maxHeartbeats 4000000 in
set_option maxRecDepth 20000 in
theorem tJ7_fill_d0a16_6 {p : Program} {l : Launch} {e : Env} {s : State} {m : MethodId} {args : Array Value} {below : List Frame} {meth : Method} {c : Code} {G : gG} {ad : Nat → Nat} {A : Nat → Prop} {a0 : Nat} {n0 : Nat} {z : Unit × gS} (X : gCx p s m args meth c G cJ7_fill_d0a16 RJ7 none 5) (hA : ∀ q, s.heap.size ≤ q → A q) (h0 : gisJ wdX a0 n0) : ∀ (f : Nat) (S : gS) (v1 : Int64) (v3 : Int32) (v4 : Int32) (h : fJ7_fill_d0a16_6 a0 n0 f S v1 v3 v4 = some z) (H : Heap) (locs : List Loc) (ls : Array Slot) (hV : gV wdX G ad A s.heap S H locs) (hl : lv_has ls 5 [(0, .ref (ad a0)), (1, .long v1), (3, .int v3), (4, .int v4)]), W p l e rmJ7_fill_d0a16 s m args below meth c H locs 0 0 (MQ below (gQv wdX G ad A z) args s 0 0 A) (F0 m 6 ls []) := by
  intro f
  induction f with
  | zero => intro S v1 v3 v4 h; exact absurd h (by simp [fJ7_fill_d0a16_6])
  | succ f ih => intro S v1 v3 v4 h H locs ls hV hl; exact tJ7_fill_d0a16_6L X hA h0 ih S v1 v3 v4 h hV hl
set_option maxHeartbeats 4000000 in
set_option maxRecDepth 20000 in
theorem mJ7_fill_d0a16 (l : Launch) (G : gG) (ad : Nat → Nat) (sz : Nat) (S : gS) {a0 : Nat} {n0 : Nat} {v1 : Int64} (h0 : gisJ wdX a0 n0) {r : Unit} {S' : gS} (h : fJ7_fill_d0a16 a0 n0 S v1 = some (r, S')) : gMetV l yJ7_fill_d0a16 cJ7_fill_d0a16 5 none rmJ7_fill_d0a16 wdX G ad S sz [.ref (ad a0), .long v1] r S' := by
  refine gMet_of (by decide) ?_
  intro p e s m below meth c A hA X hnm hV
  have hl := lv_entry ([.ref (ad a0), .long v1]) (n := 5) (Nat.le_of_ble_eq_true rfl)
  rw [lg_entry_eq]
  generalize (lg_sl ([.ref (ad a0), .long v1]) ++ List.replicate (5 - (lg_sl ([.ref (ad a0), .long v1])).length) Slot.unset).toArray = ls at hl ⊢
  have hl : lv_has ls 5 [(0, .ref (ad a0)), (1, .long v1)] := hl
  obtain ⟨hx, hb, hr, hml, hown, hts, hlk, hK⟩ := id X
  unfold fJ7_fill_d0a16 at h
  generalize ([.ref (ad a0), .long v1].toArray : Array Value) = args at X ⊢
  have Y : ∀ (H : Heap) (locs : List Loc), gV wdX G ad A s.heap S H locs → W p l e rmJ7_fill_d0a16 s m args below meth c H locs 0 0 (MQ below (gQv wdX G ad A (r, S')) args s 0 0 A) (F0 m 0 ls []) := by
    intro H locs hV
    refine lv_iconst (v := 0) hx hb dJ7_fill_d0a16_0 (by decide) ?_
    refine lv_istore_n (lv' := [(3, .int (0 : Int32)), (0, .ref (ad a0)), (1, .long v1)]) hx hb dJ7_fill_d0a16_1 rfl hl (by decide) rfl (fun ls hl => ?_)
    refine lv_aload_n hx hb dJ7_fill_d0a16_2 rfl (lv_at hl 1 rfl) ?_
    refine gw_alen X hV h0 dJ7_fill_d0a16_3 ?_
    refine lv_topi (fun v4_4 e_4 => ?_)
    replace h := gx_let_e e_4 h
    clear e_4
    refine lv_istore (lv' := [(4, .int v4_4), (3, .int (0 : Int32)), (0, .ref (ad a0)), (1, .long v1)]) hx hb dJ7_fill_d0a16_4 hl (by decide) rfl (fun ls hl => ?_)
    exact tJ7_fill_d0a16_6 X hA h0 gx_fuel _ _ _ _ h _ _ _ hV (lv_sub hl [2, 3, 1, 0] rfl)
  exact Y _ _ hV
theorem kc_RX0_25 : gKS RX0 25 yJ7_fill_d0a16 cJ7_fill_d0a16 5 none 2 := ⟨q_300, q_229, q_230, q_43, by decide +kernel⟩
def fX0_clear (o : Nat) (S : gS) : Option (Unit × gS) :=
gx_let (gI_up S o 3 (0 : Int32)) fun S2 =>
gx_bind (fJ7_fill_d0a16 (o + 1) 3904 S2 (0 : Int64)) fun r10 S10 =>
gx_bind (fJ7_fill_d0a16 (o + 2) 64 S10 (0 : Int64)) fun r18 S18 =>
gx_bind (fJ7_fill_d0a16 (o + 3) 305 S18 (0 : Int64)) fun r26 S26 =>
some ((), S26)
def rmX0_clear : Room := { frames := 1, cells := 0, slots := 0, locals := 24 }
set_option maxHeartbeats 4000000 in
set_option maxRecDepth 20000 in
theorem mX0_clear (l : Launch) (G : gG) (ad : Nat → Nat) (sz : Nat) (S : gS) {o : Nat} (ho : kX o = 6) {r : Unit} {S' : gS} (h : fX0_clear o S = some (r, S')) : gMetV l yX0_clear cX0_clear 1 none rmX0_clear wdX G ad S sz [.ref (ad o)] r S' := by
  refine gMet_of (by decide) ?_
  intro p e s m below meth c A hA X hnm hV
  have hl := lv_entry ([.ref (ad o)]) (n := 1) (Nat.le_of_ble_eq_true rfl)
  rw [lg_entry_eq]
  generalize (lg_sl ([.ref (ad o)]) ++ List.replicate (1 - (lg_sl ([.ref (ad o)])).length) Slot.unset).toArray = ls at hl ⊢
  have hl : lv_has ls 1 [(0, .ref (ad o))] := hl
  obtain ⟨hx, hb, hr, hml, hown, hts, hlk, hK⟩ := id X
  unfold fX0_clear at h
  generalize ([.ref (ad o)].toArray : Array Value) = args at X ⊢
  have Y : ∀ (H : Heap) (locs : List Loc), gV wdX G ad A s.heap S H locs → W p l e rmX0_clear s m args below meth c H locs 0 0 (MQ below (gQv wdX G ad A (r, S')) args s 0 0 A) (F0 m 0 ls []) := by
    intro H locs hV
    refine lv_aload_n hx hb dX0_clear_0 rfl (lv_at hl 0 rfl) ?_
    refine lv_iconst (v := 0) hx hb dX0_clear_1 (by decide) ?_
    refine gpX0_21 X hV (o := o) ho dX0_clear_2 (fun S2 e_2 H locs hV => ?_)
    replace h := gx_let_e e_2 h
    clear e_2
    refine lv_aload_n hx hb dX0_clear_5 rfl (lv_at hl 0 rfl) ?_
    refine ggX0_9 X hV (o := o) ho dX0_clear_6 ?_
    refine lv_lconst (v := 0) hx hb dX0_clear_9 (by decide) ?_
    obtain ⟨r10, S10, k_10, h⟩ := gx_bind_e h
    refine gw_callv X hA hV (gw_runS X hV (As := [.ref (ad (o + 1)), .long (0 : Int64)]) (rest := []) (mJ7_fill_d0a16 l G ad _ S2 (iXJ_7 (o := (o + 1)) (kX_6_1 ho)) k_10) kc_RX0_25 rfl hl.1 rfl (Nat.le_of_ble_eq_true rfl) ⟨rfl, rfl⟩ ⟨Nat.le_of_ble_eq_true rfl, Nat.le_of_ble_eq_true rfl⟩ ⟨Nat.le_refl _, Nat.le_refl _⟩ dX0_clear_10) (fun H locs hV => ?_)
    refine lv_aload_n hx hb dX0_clear_13 rfl (lv_at hl 0 rfl) ?_
    refine ggX0_15 X hV (o := o) ho dX0_clear_14 ?_
    refine lv_lconst (v := 0) hx hb dX0_clear_17 (by decide) ?_
    obtain ⟨r18, S18, k_18, h⟩ := gx_bind_e h
    refine gw_callv X hA hV (gw_runS X hV (As := [.ref (ad (o + 2)), .long (0 : Int64)]) (rest := []) (mJ7_fill_d0a16 l G ad _ S10 (iXJ_8 (o := (o + 2)) (kX_6_2 ho)) k_18) kc_RX0_25 rfl hl.1 rfl (Nat.le_of_ble_eq_true rfl) ⟨rfl, rfl⟩ ⟨Nat.le_of_ble_eq_true rfl, Nat.le_of_ble_eq_true rfl⟩ ⟨Nat.le_refl _, Nat.le_refl _⟩ dX0_clear_18) (fun H locs hV => ?_)
    refine lv_aload_n hx hb dX0_clear_21 rfl (lv_at hl 0 rfl) ?_
    refine ggX0_18 X hV (o := o) ho dX0_clear_22 ?_
    refine lv_lconst (v := 0) hx hb dX0_clear_25 (by decide) ?_
    obtain ⟨r26, S26, k_26, h⟩ := gx_bind_e h
    refine gw_callv X hA hV (gw_runS X hV (As := [.ref (ad (o + 3)), .long (0 : Int64)]) (rest := []) (mJ7_fill_d0a16 l G ad _ S18 (iXJ_9 (o := (o + 3)) (kX_6_3 ho)) k_26) kc_RX0_25 rfl hl.1 rfl (Nat.le_of_ble_eq_true rfl) ⟨rfl, rfl⟩ ⟨Nat.le_of_ble_eq_true rfl, Nat.le_of_ble_eq_true rfl⟩ ⟨Nat.le_refl _, Nat.le_refl _⟩ dX0_clear_26) (fun H locs hV => ?_)
    exact gw_vret X hV h dX0_clear_29
  exact Y _ _ hV
def fX0_become (o : Nat) (a1 : Nat) (S : gS) : Option (Unit × gS) :=
gx_let (gI_up S o 3 (gI S a1 3)) fun S5 =>
gx_cpyJ S5 (a1 + 1) (o + 1) 3904 3904 (0 : Int32) (0 : Int32) (3904 : Int32) fun S21 =>
gx_cpyJ S21 (a1 + 2) (o + 2) 64 64 (0 : Int32) (0 : Int32) (64 : Int32) fun S36 =>
gx_cpyJ S36 (a1 + 3) (o + 3) 305 305 (0 : Int32) (0 : Int32) (305 : Int32) fun S52 =>
some ((), S52)
def rmX0_become : Room := { frames := 1, cells := 0, slots := 0, locals := 26 }
set_option maxHeartbeats 4000000 in
set_option maxRecDepth 20000 in
theorem mX0_become (l : Launch) (G : gG) (ad : Nat → Nat) (sz : Nat) (S : gS) {o : Nat} {a1 : Nat} (ho : kX o = 6) (h1 : kX a1 = 6) {r : Unit} {S' : gS} (h : fX0_become o a1 S = some (r, S')) : gMetV l yX0_become cX0_become 2 none rmX0_become wdX G ad S sz [.ref (ad o), .ref (ad a1)] r S' := by
  refine gMet_of (by decide) ?_
  intro p e s m below meth c A hA X hnm hV
  have hl := lv_entry ([.ref (ad o), .ref (ad a1)]) (n := 2) (Nat.le_of_ble_eq_true rfl)
  rw [lg_entry_eq]
  generalize (lg_sl ([.ref (ad o), .ref (ad a1)]) ++ List.replicate (2 - (lg_sl ([.ref (ad o), .ref (ad a1)])).length) Slot.unset).toArray = ls at hl ⊢
  have hl : lv_has ls 2 [(0, .ref (ad o)), (1, .ref (ad a1))] := hl
  obtain ⟨hx, hb, hr, hml, hown, hts, hlk, hK⟩ := id X
  unfold fX0_become at h
  generalize ([.ref (ad o), .ref (ad a1)].toArray : Array Value) = args at X ⊢
  have Y : ∀ (H : Heap) (locs : List Loc), gV wdX G ad A s.heap S H locs → W p l e rmX0_become s m args below meth c H locs 0 0 (MQ below (gQv wdX G ad A (r, S')) args s 0 0 A) (F0 m 0 ls []) := by
    intro H locs hV
    refine lv_aload_n hx hb dX0_become_0 rfl (lv_at hl 0 rfl) ?_
    refine lv_aload_n hx hb dX0_become_1 rfl (lv_at hl 1 rfl) ?_
    refine ggX0_21 X hV (o := a1) h1 dX0_become_2 ?_
    refine gpX0_21 X hV (o := o) ho dX0_become_5 (fun S5 e_5 H locs hV => ?_)
    replace h := gx_let_e e_5 h
    clear e_5
    refine lv_aload_n hx hb dX0_become_8 rfl (lv_at hl 1 rfl) ?_
    refine ggX0_9 X hV (o := a1) h1 dX0_become_9 ?_
    refine lv_iconst (v := 0) hx hb dX0_become_12 (by decide) ?_
    refine lv_aload_n hx hb dX0_become_13 rfl (lv_at hl 0 rfl) ?_
    refine ggX0_9 X hV (o := o) ho dX0_become_14 ?_
    refine lv_iconst (v := 0) hx hb dX0_become_17 (by decide) ?_
    refine lv_sipush (v := 3904) hx hb dX0_become_18 (by decide) ?_
    obtain ⟨c_21, h⟩ := gx_cpyJ_e h
    refine gw_cpyJ X hV (iXJ_7 (o := (a1 + 1)) (kX_6_1 h1)) (iXJ_7 (o := (o + 1)) (kX_6_1 ho)) hl.1 q_371 q_267 q_266 q_44 c_21 (Nat.le_of_ble_eq_true rfl) (Nat.le_of_ble_eq_true rfl) dX0_become_21 (fun S21 e_21 H locs hV => ?_)
    replace h := gx_let_e e_21 h
    clear e_21
    refine lv_aload_n hx hb dX0_become_24 rfl (lv_at hl 1 rfl) ?_
    refine ggX0_15 X hV (o := a1) h1 dX0_become_25 ?_
    refine lv_iconst (v := 0) hx hb dX0_become_28 (by decide) ?_
    refine lv_aload_n hx hb dX0_become_29 rfl (lv_at hl 0 rfl) ?_
    refine ggX0_15 X hV (o := o) ho dX0_become_30 ?_
    refine lv_iconst (v := 0) hx hb dX0_become_33 (by decide) ?_
    refine lv_bipush (v := 64) hx hb dX0_become_34 (by decide) ?_
    obtain ⟨c_36, h⟩ := gx_cpyJ_e h
    refine gw_cpyJ X hV (iXJ_8 (o := (a1 + 2)) (kX_6_2 h1)) (iXJ_8 (o := (o + 2)) (kX_6_2 ho)) hl.1 q_371 q_267 q_266 q_44 c_36 (Nat.le_of_ble_eq_true rfl) (Nat.le_of_ble_eq_true rfl) dX0_become_36 (fun S36 e_36 H locs hV => ?_)
    replace h := gx_let_e e_36 h
    clear e_36
    refine lv_aload_n hx hb dX0_become_39 rfl (lv_at hl 1 rfl) ?_
    refine ggX0_18 X hV (o := a1) h1 dX0_become_40 ?_
    refine lv_iconst (v := 0) hx hb dX0_become_43 (by decide) ?_
    refine lv_aload_n hx hb dX0_become_44 rfl (lv_at hl 0 rfl) ?_
    refine ggX0_18 X hV (o := o) ho dX0_become_45 ?_
    refine lv_iconst (v := 0) hx hb dX0_become_48 (by decide) ?_
    refine lv_sipush (v := 305) hx hb dX0_become_49 (by decide) ?_
    obtain ⟨c_52, h⟩ := gx_cpyJ_e h
    refine gw_cpyJ X hV (iXJ_9 (o := (a1 + 3)) (kX_6_3 h1)) (iXJ_9 (o := (o + 3)) (kX_6_3 ho)) hl.1 q_371 q_267 q_266 q_44 c_52 (Nat.le_of_ble_eq_true rfl) (Nat.le_of_ble_eq_true rfl) dX0_become_52 (fun S52 e_52 H locs hV => ?_)
    replace h := gx_let_e e_52 h
    clear e_52
    exact gw_vret X hV h dX0_become_55
  exact Y _ _ hV
def fX0_settleAs (o : Nat) (a2 : Nat) (S : gS) (v1 : Int32) (v3 : Int32) : Option (Unit × gS) :=
gx_cpyJ S (a2 + 1) (o + 1) 3904 3904 (v3 * (61 : Int32)) (v1 * (61 : Int32)) (61 : Int32) fun S18 =>
gx_chk v3 64 <|
gx_chk v1 64 <|
gx_let (gJ_up S18 (o + 2) (Int32.toNatClampNeg v1) (gJ S18 (a2 + 2) (Int32.toNatClampNeg v3))) fun S32 =>
some ((), S32)
def rmX0_settleAs : Room := { frames := 1, cells := 0, slots := 0, locals := 26 }
set_option maxHeartbeats 4000000 in
set_option maxRecDepth 20000 in
theorem mX0_settleAs (l : Launch) (G : gG) (ad : Nat → Nat) (sz : Nat) (S : gS) {o : Nat} {a2 : Nat} {v1 : Int32} {v3 : Int32} (ho : kX o = 6) (h2 : kX a2 = 6) {r : Unit} {S' : gS} (h : fX0_settleAs o a2 S v1 v3 = some (r, S')) : gMetV l yX0_settleAs cX0_settleAs 4 none rmX0_settleAs wdX G ad S sz [.ref (ad o), .int v1, .ref (ad a2), .int v3] r S' := by
  refine gMet_of (by decide) ?_
  intro p e s m below meth c A hA X hnm hV
  have hl := lv_entry ([.ref (ad o), .int v1, .ref (ad a2), .int v3]) (n := 4) (Nat.le_of_ble_eq_true rfl)
  rw [lg_entry_eq]
  generalize (lg_sl ([.ref (ad o), .int v1, .ref (ad a2), .int v3]) ++ List.replicate (4 - (lg_sl ([.ref (ad o), .int v1, .ref (ad a2), .int v3])).length) Slot.unset).toArray = ls at hl ⊢
  have hl : lv_has ls 4 [(0, .ref (ad o)), (1, .int v1), (2, .ref (ad a2)), (3, .int v3)] := hl
  obtain ⟨hx, hb, hr, hml, hown, hts, hlk, hK⟩ := id X
  unfold fX0_settleAs at h
  generalize ([.ref (ad o), .int v1, .ref (ad a2), .int v3].toArray : Array Value) = args at X ⊢
  have Y : ∀ (H : Heap) (locs : List Loc), gV wdX G ad A s.heap S H locs → W p l e rmX0_settleAs s m args below meth c H locs 0 0 (MQ below (gQv wdX G ad A (r, S')) args s 0 0 A) (F0 m 0 ls []) := by
    intro H locs hV
    refine lv_aload_n hx hb dX0_settleAs_0 rfl (lv_at hl 2 rfl) ?_
    refine ggX0_9 X hV (o := a2) h2 dX0_settleAs_1 ?_
    refine lv_iload_n hx hb dX0_settleAs_4 rfl (lv_at hl 3 rfl) ?_
    refine lv_bipush (v := 61) hx hb dX0_settleAs_5 (by decide) ?_
    refine lv_imul hx hb dX0_settleAs_7 ?_
    refine lv_aload_n hx hb dX0_settleAs_8 rfl (lv_at hl 0 rfl) ?_
    refine ggX0_9 X hV (o := o) ho dX0_settleAs_9 ?_
    refine lv_iload_n hx hb dX0_settleAs_12 rfl (lv_at hl 1 rfl) ?_
    refine lv_bipush (v := 61) hx hb dX0_settleAs_13 (by decide) ?_
    refine lv_imul hx hb dX0_settleAs_15 ?_
    refine lv_bipush (v := 61) hx hb dX0_settleAs_16 (by decide) ?_
    obtain ⟨c_18, h⟩ := gx_cpyJ_e h
    refine gw_cpyJ X hV (iXJ_7 (o := (a2 + 1)) (kX_6_1 h2)) (iXJ_7 (o := (o + 1)) (kX_6_1 ho)) hl.1 q_371 q_267 q_266 q_44 c_18 (Nat.le_of_ble_eq_true rfl) (Nat.le_of_ble_eq_true rfl) dX0_settleAs_18 (fun S18 e_18 H locs hV => ?_)
    replace h := gx_let_e e_18 h
    clear e_18
    refine lv_aload_n hx hb dX0_settleAs_21 rfl (lv_at hl 0 rfl) ?_
    refine ggX0_15 X hV (o := o) ho dX0_settleAs_22 ?_
    refine lv_iload_n hx hb dX0_settleAs_25 rfl (lv_at hl 1 rfl) ?_
    refine lv_aload_n hx hb dX0_settleAs_26 rfl (lv_at hl 2 rfl) ?_
    refine ggX0_15 X hV (o := a2) h2 dX0_settleAs_27 ?_
    refine lv_iload_n hx hb dX0_settleAs_30 rfl (lv_at hl 3 rfl) ?_
    obtain ⟨c_31, h⟩ := gx_chk_e h
    refine gw_lald X hV (iXJ_8 (o := (a2 + 2)) (kX_6_2 h2)) c_31 dX0_settleAs_31 ?_
    obtain ⟨c_32, h⟩ := gx_chk_e h
    refine gw_last X hV (iXJ_8 (o := (o + 2)) (kX_6_2 ho)) c_32 dX0_settleAs_32 (fun S32 e_32 H locs hV => ?_)
    replace h := gx_let_e e_32 h
    clear e_32
    exact gw_vret X hV h dX0_settleAs_33
  exact Y _ _ hV
def fX0_lay (o : Nat) (S : gS) (v1 : Int32) (v2 : Int32) (v3 : Int64) : Option (Unit × gS) :=
gx_chk ((v1 * (61 : Int32)) + v2) 3904 <|
gx_chk ((v1 * (61 : Int32)) + v2) 3904 <|
gx_let (gJ_up S (o + 1) (Int32.toNatClampNeg ((v1 * (61 : Int32)) + v2)) ((gJ S (o + 1) (Int32.toNatClampNeg ((v1 * (61 : Int32)) + v2))) + v3)) fun S14 =>
gx_chk v1 64 <|
gx_chk v1 64 <|
gx_let (gJ_up S14 (o + 2) (Int32.toNatClampNeg v1) ((gJ S14 (o + 2) (Int32.toNatClampNeg v1)) + v3)) fun S24 =>
gx_chk ((0 : Int32) + v2) 305 <|
gx_chk ((0 : Int32) + v2) 305 <|
gx_let (gJ_up S24 (o + 3) (Int32.toNatClampNeg ((0 : Int32) + v2)) ((gJ S24 (o + 3) (Int32.toNatClampNeg ((0 : Int32) + v2))) + v3)) fun S36 =>
some ((), S36)
def rmX0_lay : Room := { frames := 0, cells := 0, slots := 0, locals := 0 }
set_option maxHeartbeats 4000000 in
set_option maxRecDepth 20000 in
theorem mX0_lay (l : Launch) (G : gG) (ad : Nat → Nat) (sz : Nat) (S : gS) {o : Nat} {v1 : Int32} {v2 : Int32} {v3 : Int64} (ho : kX o = 6) {r : Unit} {S' : gS} (h : fX0_lay o S v1 v2 v3 = some (r, S')) : gMetV l yX0_lay cX0_lay 5 none rmX0_lay wdX G ad S sz [.ref (ad o), .int v1, .int v2, .long v3] r S' := by
  refine gMet_of (by decide) ?_
  intro p e s m below meth c A hA X hnm hV
  have hl := lv_entry ([.ref (ad o), .int v1, .int v2, .long v3]) (n := 5) (Nat.le_of_ble_eq_true rfl)
  rw [lg_entry_eq]
  generalize (lg_sl ([.ref (ad o), .int v1, .int v2, .long v3]) ++ List.replicate (5 - (lg_sl ([.ref (ad o), .int v1, .int v2, .long v3])).length) Slot.unset).toArray = ls at hl ⊢
  have hl : lv_has ls 5 [(0, .ref (ad o)), (1, .int v1), (2, .int v2), (3, .long v3)] := hl
  obtain ⟨hx, hb, hr, hml, hown, hts, hlk, hK⟩ := id X
  unfold fX0_lay at h
  generalize ([.ref (ad o), .int v1, .int v2, .long v3].toArray : Array Value) = args at X ⊢
  have Y : ∀ (H : Heap) (locs : List Loc), gV wdX G ad A s.heap S H locs → W p l e rmX0_lay s m args below meth c H locs 0 0 (MQ below (gQv wdX G ad A (r, S')) args s 0 0 A) (F0 m 0 ls []) := by
    intro H locs hV
    refine lv_aload_n hx hb dX0_lay_0 rfl (lv_at hl 0 rfl) ?_
    refine ggX0_9 X hV (o := o) ho dX0_lay_1 ?_
    refine lv_iload_n hx hb dX0_lay_4 rfl (lv_at hl 1 rfl) ?_
    refine lv_bipush (v := 61) hx hb dX0_lay_5 (by decide) ?_
    refine lv_imul hx hb dX0_lay_7 ?_
    refine lv_iload_n hx hb dX0_lay_8 rfl (lv_at hl 2 rfl) ?_
    refine lv_iadd hx hb dX0_lay_9 ?_
    refine lv_dup2_11 hx hb dX0_lay_10 rfl rfl ?_
    obtain ⟨c_11, h⟩ := gx_chk_e h
    refine gw_lald X hV (iXJ_7 (o := (o + 1)) (kX_6_1 ho)) c_11 dX0_lay_11 ?_
    refine lv_lload_n hx hb dX0_lay_12 rfl (lv_at hl 3 rfl) ?_
    refine lv_ladd hx hb dX0_lay_13 ?_
    obtain ⟨c_14, h⟩ := gx_chk_e h
    refine gw_last X hV (iXJ_7 (o := (o + 1)) (kX_6_1 ho)) c_14 dX0_lay_14 (fun S14 e_14 H locs hV => ?_)
    replace h := gx_let_e e_14 h
    clear e_14
    refine lv_aload_n hx hb dX0_lay_15 rfl (lv_at hl 0 rfl) ?_
    refine ggX0_15 X hV (o := o) ho dX0_lay_16 ?_
    refine lv_iload_n hx hb dX0_lay_19 rfl (lv_at hl 1 rfl) ?_
    refine lv_dup2_11 hx hb dX0_lay_20 rfl rfl ?_
    obtain ⟨c_21, h⟩ := gx_chk_e h
    refine gw_lald X hV (iXJ_8 (o := (o + 2)) (kX_6_2 ho)) c_21 dX0_lay_21 ?_
    refine lv_lload_n hx hb dX0_lay_22 rfl (lv_at hl 3 rfl) ?_
    refine lv_ladd hx hb dX0_lay_23 ?_
    obtain ⟨c_24, h⟩ := gx_chk_e h
    refine gw_last X hV (iXJ_8 (o := (o + 2)) (kX_6_2 ho)) c_24 dX0_lay_24 (fun S24 e_24 H locs hV => ?_)
    replace h := gx_let_e e_24 h
    clear e_24
    refine lv_aload_n hx hb dX0_lay_25 rfl (lv_at hl 0 rfl) ?_
    refine ggX0_18 X hV (o := o) ho dX0_lay_26 ?_
    refine lv_iconst (v := 0) hx hb dX0_lay_29 (by decide) ?_
    refine lv_iload_n hx hb dX0_lay_30 rfl (lv_at hl 2 rfl) ?_
    refine lv_iadd hx hb dX0_lay_31 ?_
    refine lv_dup2_11 hx hb dX0_lay_32 rfl rfl ?_
    obtain ⟨c_33, h⟩ := gx_chk_e h
    refine gw_lald X hV (iXJ_9 (o := (o + 3)) (kX_6_3 ho)) c_33 dX0_lay_33 ?_
    refine lv_lload_n hx hb dX0_lay_34 rfl (lv_at hl 3 rfl) ?_
    refine lv_ladd hx hb dX0_lay_35 ?_
    obtain ⟨c_36, h⟩ := gx_chk_e h
    refine gw_last X hV (iXJ_9 (o := (o + 3)) (kX_6_3 ho)) c_36 dX0_lay_36 (fun S36 e_36 H locs hV => ?_)
    replace h := gx_let_e e_36 h
    clear e_36
    exact gw_vret X hV h dX0_lay_37
  exact Y _ _ hV
theorem kc_RX0_37 : gKV RX0 37 yX0_lay cX0_lay 5 none 3 := ⟨q_343, q_344, q_345, q_346, q_39, by decide +kernel⟩
def fX0_lift (o : Nat) (S : gS) (v1 : Int32) (v2 : Int32) (v3 : Int64) : Option (Unit × gS) :=
gx_bind (fX0_lay o S v1 v2 (-v3)) fun r5 S5 =>
some ((), S5)
def rmX0_lift : Room := { frames := 1, cells := 0, slots := 0, locals := 24 }
set_option maxHeartbeats 4000000 in
set_option maxRecDepth 20000 in
theorem mX0_lift (l : Launch) (G : gG) (ad : Nat → Nat) (sz : Nat) (S : gS) {o : Nat} {v1 : Int32} {v2 : Int32} {v3 : Int64} (ho : kX o = 6) {r : Unit} {S' : gS} (h : fX0_lift o S v1 v2 v3 = some (r, S')) : gMetV l yX0_lift cX0_lift 5 none rmX0_lift wdX G ad S sz [.ref (ad o), .int v1, .int v2, .long v3] r S' := by
  refine gMet_of (by decide) ?_
  intro p e s m below meth c A hA X hnm hV
  have hl := lv_entry ([.ref (ad o), .int v1, .int v2, .long v3]) (n := 5) (Nat.le_of_ble_eq_true rfl)
  rw [lg_entry_eq]
  generalize (lg_sl ([.ref (ad o), .int v1, .int v2, .long v3]) ++ List.replicate (5 - (lg_sl ([.ref (ad o), .int v1, .int v2, .long v3])).length) Slot.unset).toArray = ls at hl ⊢
  have hl : lv_has ls 5 [(0, .ref (ad o)), (1, .int v1), (2, .int v2), (3, .long v3)] := hl
  obtain ⟨hx, hb, hr, hml, hown, hts, hlk, hK⟩ := id X
  unfold fX0_lift at h
  generalize ([.ref (ad o), .int v1, .int v2, .long v3].toArray : Array Value) = args at X ⊢
  have Y : ∀ (H : Heap) (locs : List Loc), gV wdX G ad A s.heap S H locs → W p l e rmX0_lift s m args below meth c H locs 0 0 (MQ below (gQv wdX G ad A (r, S')) args s 0 0 A) (F0 m 0 ls []) := by
    intro H locs hV
    refine lv_aload_n hx hb dX0_lift_0 rfl (lv_at hl 0 rfl) ?_
    refine lv_iload_n hx hb dX0_lift_1 rfl (lv_at hl 1 rfl) ?_
    refine lv_iload_n hx hb dX0_lift_2 rfl (lv_at hl 2 rfl) ?_
    refine lv_lload_n hx hb dX0_lift_3 rfl (lv_at hl 3 rfl) ?_
    refine lv_lneg hx hb dX0_lift_4 ?_
    obtain ⟨r5, S5, k_5, h⟩ := gx_bind_e h
    refine gw_callv X hA hV (gw_runV X hV (o := o) (As := [.int v1, .int v2, .long (-v3)]) (rest := []) (mX0_lay l G ad _ S ho k_5) kc_RX0_37 (iXO_6 ho) rfl rfl rfl hl.1 rfl (Nat.le_of_ble_eq_true rfl) ⟨rfl, rfl⟩ ⟨Nat.le_of_ble_eq_true rfl, Nat.le_of_ble_eq_true rfl⟩ ⟨Nat.le_refl _, Nat.le_refl _⟩ dX0_lift_5) (fun H locs hV => ?_)
    exact gw_vret X hV h dX0_lift_8
  exact Y _ _ hV
def fX0_arrive (o : Nat) (S : gS) (v1 : Int32) (v2 : Int32) (v3 : Int64) : Option (Unit × gS) :=
gx_bind (fX0_lay o S v1 v2 v3) fun r4 S4 =>
gx_chk ((244 : Int32) + v2) 305 <|
gx_chk ((244 : Int32) + v2) 305 <|
gx_let (gJ_up S4 (o + 3) (Int32.toNatClampNeg ((244 : Int32) + v2)) ((gJ S4 (o + 3) (Int32.toNatClampNeg ((244 : Int32) + v2))) + v3)) fun S20 =>
some ((), S20)
def rmX0_arrive : Room := { frames := 1, cells := 0, slots := 0, locals := 24 }
set_option maxHeartbeats 4000000 in
set_option maxRecDepth 20000 in
theorem mX0_arrive (l : Launch) (G : gG) (ad : Nat → Nat) (sz : Nat) (S : gS) {o : Nat} {v1 : Int32} {v2 : Int32} {v3 : Int64} (ho : kX o = 6) {r : Unit} {S' : gS} (h : fX0_arrive o S v1 v2 v3 = some (r, S')) : gMetV l yX0_arrive cX0_arrive 5 none rmX0_arrive wdX G ad S sz [.ref (ad o), .int v1, .int v2, .long v3] r S' := by
  refine gMet_of (by decide) ?_
  intro p e s m below meth c A hA X hnm hV
  have hl := lv_entry ([.ref (ad o), .int v1, .int v2, .long v3]) (n := 5) (Nat.le_of_ble_eq_true rfl)
  rw [lg_entry_eq]
  generalize (lg_sl ([.ref (ad o), .int v1, .int v2, .long v3]) ++ List.replicate (5 - (lg_sl ([.ref (ad o), .int v1, .int v2, .long v3])).length) Slot.unset).toArray = ls at hl ⊢
  have hl : lv_has ls 5 [(0, .ref (ad o)), (1, .int v1), (2, .int v2), (3, .long v3)] := hl
  obtain ⟨hx, hb, hr, hml, hown, hts, hlk, hK⟩ := id X
  unfold fX0_arrive at h
  generalize ([.ref (ad o), .int v1, .int v2, .long v3].toArray : Array Value) = args at X ⊢
  have Y : ∀ (H : Heap) (locs : List Loc), gV wdX G ad A s.heap S H locs → W p l e rmX0_arrive s m args below meth c H locs 0 0 (MQ below (gQv wdX G ad A (r, S')) args s 0 0 A) (F0 m 0 ls []) := by
    intro H locs hV
    refine lv_aload_n hx hb dX0_arrive_0 rfl (lv_at hl 0 rfl) ?_
    refine lv_iload_n hx hb dX0_arrive_1 rfl (lv_at hl 1 rfl) ?_
    refine lv_iload_n hx hb dX0_arrive_2 rfl (lv_at hl 2 rfl) ?_
    refine lv_lload_n hx hb dX0_arrive_3 rfl (lv_at hl 3 rfl) ?_
    obtain ⟨r4, S4, k_4, h⟩ := gx_bind_e h
    refine gw_callv X hA hV (gw_runV X hV (o := o) (As := [.int v1, .int v2, .long v3]) (rest := []) (mX0_lay l G ad _ S ho k_4) kc_RX0_37 (iXO_6 ho) rfl rfl rfl hl.1 rfl (Nat.le_of_ble_eq_true rfl) ⟨rfl, rfl⟩ ⟨Nat.le_of_ble_eq_true rfl, Nat.le_of_ble_eq_true rfl⟩ ⟨Nat.le_refl _, Nat.le_refl _⟩ dX0_arrive_4) (fun H locs hV => ?_)
    refine lv_aload_n hx hb dX0_arrive_7 rfl (lv_at hl 0 rfl) ?_
    refine ggX0_18 X hV (o := o) ho dX0_arrive_8 ?_
    refine lv_sipush (v := 244) hx hb dX0_arrive_11 (by decide) ?_
    refine lv_iload_n hx hb dX0_arrive_14 rfl (lv_at hl 2 rfl) ?_
    refine lv_iadd hx hb dX0_arrive_15 ?_
    refine lv_dup2_11 hx hb dX0_arrive_16 rfl rfl ?_
    obtain ⟨c_17, h⟩ := gx_chk_e h
    refine gw_lald X hV (iXJ_9 (o := (o + 3)) (kX_6_3 ho)) c_17 dX0_arrive_17 ?_
    refine lv_lload_n hx hb dX0_arrive_18 rfl (lv_at hl 3 rfl) ?_
    refine lv_ladd hx hb dX0_arrive_19 ?_
    obtain ⟨c_20, h⟩ := gx_chk_e h
    refine gw_last X hV (iXJ_9 (o := (o + 3)) (kX_6_3 ho)) c_20 dX0_arrive_20 (fun S20 e_20 H locs hV => ?_)
    replace h := gx_let_e e_20 h
    clear e_20
    exact gw_vret X hV h dX0_arrive_21
  exact Y _ _ hV
theorem kc_RX0_47 : gKV RX0 47 yX0_lift cX0_lift 5 none 3 := ⟨q_392, q_393, q_394, q_395, q_39, by decide +kernel⟩
def fX0_lose_9L (o : Nat) (K9 : gS → Int32 → Int32 → Int64 → Int32 → Option (Unit × gS)) (S : gS) (v1 : Int32) (v4 : Int32) (v5 : Int64) (v7 : Int32) : Option (Unit × gS) :=
if v7 < 0 then (some ((), S)) else
if v5 ≤ (0 : Int64) then (some ((), S)) else
gx_chk ((v1 * (61 : Int32)) + v7) 3904 <|
gx_let (gmin v5 (gJ S (o + 1) (Int32.toNatClampNeg ((v1 * (61 : Int32)) + v7)))) fun v8_38 =>
gx_bind (fX0_lift o S v1 v7 v8_38) fun r46 S46 =>
gx_chk ((v4 * (61 : Int32)) + v7) 305 <|
gx_chk ((v4 * (61 : Int32)) + v7) 305 <|
gx_let (gJ_up S46 (o + 3) (Int32.toNatClampNeg ((v4 * (61 : Int32)) + v7)) ((gJ S46 (o + 3) (Int32.toNatClampNeg ((v4 * (61 : Int32)) + v7))) + v8_38)) fun S66 =>
gx_let (v5 - v8_38) fun v5_72 =>
gx_let (v7 + (-1 : Int32)) fun v7_74 =>
K9 S66 v1 v4 v5_72 v7_74
def fX0_lose_9 (o : Nat) : Nat → gS → Int32 → Int32 → Int64 → Int32 → Option (Unit × gS)
  | 0, _, _, _, _, _ => none
  | f + 1, S, v1, v4, v5, v7 => fX0_lose_9L o (fX0_lose_9 o f) S v1 v4 v5 v7
def fX0_lose (o : Nat) (S : gS) (v1 : Int32) (v2 : Int64) (v4 : Int32) : Option (Unit × gS) :=
gx_let (gI S o 3) fun v7_7 =>
fX0_lose_9 o gx_fuel S v1 v4 v2 v7_7
def rmX0_lose : Room := { frames := 2, cells := 0, slots := 0, locals := 48 }
set_option maxHeartbeats 4000000 in
set_option maxRecDepth 20000 in
theorem tX0_lose_9L {p : Program} {l : Launch} {e : Env} {s : State} {m : MethodId} {args : Array Value} {below : List Frame} {meth : Method} {c : Code} {G : gG} {ad : Nat → Nat} {A : Nat → Prop} {o : Nat} {z : Unit × gS} {K9 : gS → Int32 → Int32 → Int64 → Int32 → Option (Unit × gS)} (X : gCx p s m args meth c G cX0_lose RX0 none 10) (hA : ∀ q, s.heap.size ≤ q → A q) (ho : kX o = 6) (kK9 : ∀ (S : gS) (v1 : Int32) (v4 : Int32) (v5 : Int64) (v7 : Int32), K9 S v1 v4 v5 v7 = some z → ∀ (H : Heap) (locs : List Loc) (ls : Array Slot), gV wdX G ad A s.heap S H locs → lv_has ls 10 [(0, .ref (ad o)), (1, .int v1), (4, .int v4), (5, .long v5), (7, .int v7)] → W p l e rmX0_lose s m args below meth c H locs 0 0 (MQ below (gQv wdX G ad A z) args s 0 0 A) (F0 m 9 ls [])) (S : gS) (v1 : Int32) (v4 : Int32) (v5 : Int64) (v7 : Int32) (h : fX0_lose_9L o K9 S v1 v4 v5 v7 = some z) {H : Heap} {locs : List Loc} {ls : Array Slot} (hV : gV wdX G ad A s.heap S H locs) (hl : lv_has ls 10 [(0, .ref (ad o)), (1, .int v1), (4, .int v4), (5, .long v5), (7, .int v7)]) : W p l e rmX0_lose s m args below meth c H locs 0 0 (MQ below (gQv wdX G ad A z) args s 0 0 A) (F0 m 9 ls []) := by
  obtain ⟨hx, hb, hr, hml, hown, hts, hlk, hK⟩ := id X
  unfold fX0_lose_9L at h
  refine lv_iload hx hb dX0_lose_9 (lv_at hl 4 rfl) ?_
  refine lv_if_lt (tgt := 80) hx hb dX0_lose_11 (by decide) (fun c_11 => ?_) (fun c_11 => ?_)
  · rw [if_pos c_11] at h
    exact gw_vret X hV h dX0_lose_80
  · rw [if_neg c_11] at h
    refine lv_lload hx hb dX0_lose_14 (lv_at hl 3 rfl) ?_
    refine lv_lconst (v := 0) hx hb dX0_lose_16 (by decide) ?_
    refine gw_cmp_le (tgt := 80) X dX0_lose_17 dX0_lose_18 (by decide) (fun c_17 => ?_) (fun c_17 => ?_)
    · rw [if_pos c_17] at h
      exact gw_vret X hV h dX0_lose_80
    · rw [if_neg c_17] at h
      refine lv_lload hx hb dX0_lose_21 (lv_at hl 3 rfl) ?_
      refine lv_aload_n hx hb dX0_lose_23 rfl (lv_at hl 0 rfl) ?_
      refine ggX0_9 X hV (o := o) ho dX0_lose_24 ?_
      refine lv_iload_n hx hb dX0_lose_27 rfl (lv_at hl 1 rfl) ?_
      refine lv_bipush (v := 61) hx hb dX0_lose_28 (by decide) ?_
      refine lv_imul hx hb dX0_lose_30 ?_
      refine lv_iload hx hb dX0_lose_31 (lv_at hl 4 rfl) ?_
      refine lv_iadd hx hb dX0_lose_33 ?_
      obtain ⟨c_34, h⟩ := gx_chk_e h
      refine gw_lald X hV (iXJ_7 (o := (o + 1)) (kX_6_1 ho)) c_34 dX0_lose_34 ?_
      refine gw_min X hl.1 q_389 q_390 q_45 q_391 (Nat.le_of_ble_eq_true rfl) (Nat.le_of_ble_eq_true rfl) (Nat.zero_le _) (Nat.zero_le _) dX0_lose_35 ?_
      refine lv_topl (fun v8_38 e_38 => ?_)
      replace h := gx_let_e e_38 h
      clear e_38
      refine lv_lstore (lv' := [(8, .long v8_38), (0, .ref (ad o)), (1, .int v1), (4, .int v4), (5, .long v5), (7, .int v7)]) hx hb dX0_lose_38 hl (by decide) rfl (fun ls hl => ?_)
      refine lv_aload_n hx hb dX0_lose_40 rfl (lv_at hl 1 rfl) ?_
      refine lv_iload_n hx hb dX0_lose_41 rfl (lv_at hl 2 rfl) ?_
      refine lv_iload hx hb dX0_lose_42 (lv_at hl 5 rfl) ?_
      refine lv_lload hx hb dX0_lose_44 (lv_at hl 0 rfl) ?_
      obtain ⟨r46, S46, k_46, h⟩ := gx_bind_e h
      refine gw_callv X hA hV (gw_runV X hV (o := o) (As := [.int v1, .int v7, .long v8_38]) (rest := []) (mX0_lift l G ad _ S ho k_46) kc_RX0_47 (iXO_6 ho) rfl rfl rfl hl.1 rfl (Nat.le_of_ble_eq_true rfl) ⟨rfl, rfl⟩ ⟨Nat.le_of_ble_eq_true rfl, Nat.le_of_ble_eq_true rfl⟩ ⟨Nat.le_refl _, Nat.le_refl _⟩ dX0_lose_46) (fun H locs hV => ?_)
      refine lv_aload_n hx hb dX0_lose_49 rfl (lv_at hl 1 rfl) ?_
      refine ggX0_18 X hV (o := o) ho dX0_lose_50 ?_
      refine lv_iload hx hb dX0_lose_53 (lv_at hl 3 rfl) ?_
      refine lv_bipush (v := 61) hx hb dX0_lose_55 (by decide) ?_
      refine lv_imul hx hb dX0_lose_57 ?_
      refine lv_iload hx hb dX0_lose_58 (lv_at hl 5 rfl) ?_
      refine lv_iadd hx hb dX0_lose_60 ?_
      refine lv_dup2_11 hx hb dX0_lose_61 rfl rfl ?_
      obtain ⟨c_62, h⟩ := gx_chk_e h
      refine gw_lald X hV (iXJ_9 (o := (o + 3)) (kX_6_3 ho)) c_62 dX0_lose_62 ?_
      refine lv_lload hx hb dX0_lose_63 (lv_at hl 0 rfl) ?_
      refine lv_ladd hx hb dX0_lose_65 ?_
      obtain ⟨c_66, h⟩ := gx_chk_e h
      refine gw_last X hV (iXJ_9 (o := (o + 3)) (kX_6_3 ho)) c_66 dX0_lose_66 (fun S66 e_66 H locs hV => ?_)
      replace h := gx_let_e e_66 h
      clear e_66
      refine lv_lload hx hb dX0_lose_67 (lv_at hl 4 rfl) ?_
      refine lv_lload hx hb dX0_lose_69 (lv_at hl 0 rfl) ?_
      refine lv_lsub hx hb dX0_lose_71 ?_
      refine lv_topl (fun v5_72 e_72 => ?_)
      replace h := gx_let_e e_72 h
      clear e_72
      refine lv_lstore (lv' := [(5, .long v5_72), (8, .long v8_38), (0, .ref (ad o)), (1, .int v1), (4, .int v4), (7, .int v7)]) hx hb dX0_lose_72 hl (by decide) rfl (fun ls hl => ?_)
      obtain ⟨v7_74, e_74⟩ : ∃ y : Int32, y = (v7 + (-1 : Int32)) := ⟨_, rfl⟩
      refine lv_iinc (v := v7_74) (lv' := [(7, .int v7_74), (5, .long v5_72), (8, .long v8_38), (0, .ref (ad o)), (1, .int v1), (4, .int v4)]) hx hb dX0_lose_74 hl (k := 5) rfl (by rw [e_74]; rfl) (by decide) rfl (fun ls hl => ?_)
      replace h := gx_let_e e_74 h
      clear e_74
      refine lv_goto (tgt := 9) hx hb dX0_lose_77 (by decide) ?_
      exact kK9 _ _ _ _ _ h _ _ _ hV (lv_sub hl [3, 4, 5, 1, 0] rfl)
set_option maxHeartbeats 4000000 in
set_option maxRecDepth 20000 in
theorem tX0_lose_9 {p : Program} {l : Launch} {e : Env} {s : State} {m : MethodId} {args : Array Value} {below : List Frame} {meth : Method} {c : Code} {G : gG} {ad : Nat → Nat} {A : Nat → Prop} {o : Nat} {z : Unit × gS} (X : gCx p s m args meth c G cX0_lose RX0 none 10) (hA : ∀ q, s.heap.size ≤ q → A q) (ho : kX o = 6) : ∀ (f : Nat) (S : gS) (v1 : Int32) (v4 : Int32) (v5 : Int64) (v7 : Int32) (h : fX0_lose_9 o f S v1 v4 v5 v7 = some z) (H : Heap) (locs : List Loc) (ls : Array Slot) (hV : gV wdX G ad A s.heap S H locs) (hl : lv_has ls 10 [(0, .ref (ad o)), (1, .int v1), (4, .int v4), (5, .long v5), (7, .int v7)]), W p l e rmX0_lose s m args below meth c H locs 0 0 (MQ below (gQv wdX G ad A z) args s 0 0 A) (F0 m 9 ls []) := by
  intro f
  induction f with
  | zero => intro S v1 v4 v5 v7 h; exact absurd h (by simp [fX0_lose_9])
  | succ f ih => intro S v1 v4 v5 v7 h H locs ls hV hl; exact tX0_lose_9L X hA ho ih S v1 v4 v5 v7 h hV hl
set_option maxHeartbeats 4000000 in
set_option maxRecDepth 20000 in
theorem mX0_lose (l : Launch) (G : gG) (ad : Nat → Nat) (sz : Nat) (S : gS) {o : Nat} {v1 : Int32} {v2 : Int64} {v4 : Int32} (ho : kX o = 6) {r : Unit} {S' : gS} (h : fX0_lose o S v1 v2 v4 = some (r, S')) : gMetV l yX0_lose cX0_lose 10 none rmX0_lose wdX G ad S sz [.ref (ad o), .int v1, .long v2, .int v4] r S' := by
  refine gMet_of (by decide) ?_
  intro p e s m below meth c A hA X hnm hV
  have hl := lv_entry ([.ref (ad o), .int v1, .long v2, .int v4]) (n := 10) (Nat.le_of_ble_eq_true rfl)
  rw [lg_entry_eq]
  generalize (lg_sl ([.ref (ad o), .int v1, .long v2, .int v4]) ++ List.replicate (10 - (lg_sl ([.ref (ad o), .int v1, .long v2, .int v4])).length) Slot.unset).toArray = ls at hl ⊢
  have hl : lv_has ls 10 [(0, .ref (ad o)), (1, .int v1), (2, .long v2), (4, .int v4)] := hl
  obtain ⟨hx, hb, hr, hml, hown, hts, hlk, hK⟩ := id X
  unfold fX0_lose at h
  generalize ([.ref (ad o), .int v1, .long v2, .int v4].toArray : Array Value) = args at X ⊢
  have Y : ∀ (H : Heap) (locs : List Loc), gV wdX G ad A s.heap S H locs → W p l e rmX0_lose s m args below meth c H locs 0 0 (MQ below (gQv wdX G ad A (r, S')) args s 0 0 A) (F0 m 0 ls []) := by
    intro H locs hV
    refine lv_lload_n hx hb dX0_lose_0 rfl (lv_at hl 2 rfl) ?_
    refine lv_lstore (lv' := [(5, .long v2), (0, .ref (ad o)), (1, .int v1), (2, .long v2), (4, .int v4)]) hx hb dX0_lose_1 hl (by decide) rfl (fun ls hl => ?_)
    refine lv_aload_n hx hb dX0_lose_3 rfl (lv_at hl 1 rfl) ?_
    refine ggX0_21 X hV (o := o) ho dX0_lose_4 ?_
    refine lv_topi (fun v7_7 e_7 => ?_)
    replace h := gx_let_e e_7 h
    clear e_7
    refine lv_istore (lv' := [(7, .int v7_7), (5, .long v2), (0, .ref (ad o)), (1, .int v1), (2, .long v2), (4, .int v4)]) hx hb dX0_lose_7 hl (by decide) rfl (fun ls hl => ?_)
    exact tX0_lose_9 X hA ho gx_fuel _ _ _ _ _ h _ _ _ hV (lv_sub hl [2, 3, 5, 1, 0] rfl)
  exact Y _ _ hV
def fX0_layerCount_31 (o : Nat) (K4 : gS → Int32 → Int32 → Int32 → Option (Int32 × gS)) (S : gS) (v1 : Int32) (v2 : Int32) (v3 : Int32) : Option (Int32 × gS) :=
gx_let (v3 + (1 : Int32)) fun v3_31 =>
K4 S v1 v2 v3_31
def fX0_layerCount_4L (o : Nat) (K4 : gS → Int32 → Int32 → Int32 → Option (Int32 × gS)) (S : gS) (v1 : Int32) (v2 : Int32) (v3 : Int32) : Option (Int32 × gS) :=
if (gI S o 3) < v3 then (some (v2, S)) else
gx_chk ((v1 * (61 : Int32)) + v3) 3904 <|
if (gJ S (o + 1) (Int32.toNatClampNeg ((v1 * (61 : Int32)) + v3))) ≤ (0 : Int64) then (fX0_layerCount_31 o K4 S v1 v2 v3) else
gx_let (v2 + (1 : Int32)) fun v2_28 =>
fX0_layerCount_31 o K4 S v1 v2_28 v3
def fX0_layerCount_4 (o : Nat) : Nat → gS → Int32 → Int32 → Int32 → Option (Int32 × gS)
  | 0, _, _, _, _ => none
  | f + 1, S, v1, v2, v3 => fX0_layerCount_4L o (fX0_layerCount_4 o f) S v1 v2 v3
def fX0_layerCount (o : Nat) (S : gS) (v1 : Int32) : Option (Int32 × gS) :=
fX0_layerCount_4 o gx_fuel S v1 (0 : Int32) (0 : Int32)
def rmX0_layerCount : Room := { frames := 0, cells := 0, slots := 0, locals := 0 }
set_option maxHeartbeats 4000000 in
set_option maxRecDepth 20000 in
theorem tX0_layerCount_31 {p : Program} {l : Launch} {e : Env} {s : State} {m : MethodId} {args : Array Value} {below : List Frame} {meth : Method} {c : Code} {G : gG} {ad : Nat → Nat} {A : Nat → Prop} {o : Nat} {z : Int32 × gS} {K4 : gS → Int32 → Int32 → Int32 → Option (Int32 × gS)} (X : gCx p s m args meth c G cX0_layerCount RX0 (some .int) 4) (hA : ∀ q, s.heap.size ≤ q → A q) (ho : kX o = 6) (kK4 : ∀ (S : gS) (v1 : Int32) (v2 : Int32) (v3 : Int32), K4 S v1 v2 v3 = some z → ∀ (H : Heap) (locs : List Loc) (ls : Array Slot), gV wdX G ad A s.heap S H locs → lv_has ls 4 [(0, .ref (ad o)), (1, .int v1), (2, .int v2), (3, .int v3)] → W p l e rmX0_layerCount s m args below meth c H locs 0 0 (MQ below (gQi wdX G ad A z) args s 0 0 A) (F0 m 4 ls [])) (S : gS) (v1 : Int32) (v2 : Int32) (v3 : Int32) (h : fX0_layerCount_31 o K4 S v1 v2 v3 = some z) {H : Heap} {locs : List Loc} {ls : Array Slot} (hV : gV wdX G ad A s.heap S H locs) (hl : lv_has ls 4 [(0, .ref (ad o)), (1, .int v1), (2, .int v2), (3, .int v3)]) : W p l e rmX0_layerCount s m args below meth c H locs 0 0 (MQ below (gQi wdX G ad A z) args s 0 0 A) (F0 m 31 ls []) := by
  obtain ⟨hx, hb, hr, hml, hown, hts, hlk, hK⟩ := id X
  unfold fX0_layerCount_31 at h
  obtain ⟨v3_31, e_31⟩ : ∃ y : Int32, y = (v3 + (1 : Int32)) := ⟨_, rfl⟩
  refine lv_iinc (v := v3_31) (lv' := [(3, .int v3_31), (0, .ref (ad o)), (1, .int v1), (2, .int v2)]) hx hb dX0_layerCount_31 hl (k := 3) rfl (by rw [e_31]; rfl) (by decide) rfl (fun ls hl => ?_)
  replace h := gx_let_e e_31 h
  clear e_31
  refine lv_goto (tgt := 4) hx hb dX0_layerCount_34 (by decide) ?_
  exact kK4 _ _ _ _ h _ _ _ hV (lv_sub hl [1, 2, 3, 0] rfl)
set_option maxHeartbeats 4000000 in
set_option maxRecDepth 20000 in
theorem tX0_layerCount_4L {p : Program} {l : Launch} {e : Env} {s : State} {m : MethodId} {args : Array Value} {below : List Frame} {meth : Method} {c : Code} {G : gG} {ad : Nat → Nat} {A : Nat → Prop} {o : Nat} {z : Int32 × gS} {K4 : gS → Int32 → Int32 → Int32 → Option (Int32 × gS)} (X : gCx p s m args meth c G cX0_layerCount RX0 (some .int) 4) (hA : ∀ q, s.heap.size ≤ q → A q) (ho : kX o = 6) (kK4 : ∀ (S : gS) (v1 : Int32) (v2 : Int32) (v3 : Int32), K4 S v1 v2 v3 = some z → ∀ (H : Heap) (locs : List Loc) (ls : Array Slot), gV wdX G ad A s.heap S H locs → lv_has ls 4 [(0, .ref (ad o)), (1, .int v1), (2, .int v2), (3, .int v3)] → W p l e rmX0_layerCount s m args below meth c H locs 0 0 (MQ below (gQi wdX G ad A z) args s 0 0 A) (F0 m 4 ls [])) (S : gS) (v1 : Int32) (v2 : Int32) (v3 : Int32) (h : fX0_layerCount_4L o K4 S v1 v2 v3 = some z) {H : Heap} {locs : List Loc} {ls : Array Slot} (hV : gV wdX G ad A s.heap S H locs) (hl : lv_has ls 4 [(0, .ref (ad o)), (1, .int v1), (2, .int v2), (3, .int v3)]) : W p l e rmX0_layerCount s m args below meth c H locs 0 0 (MQ below (gQi wdX G ad A z) args s 0 0 A) (F0 m 4 ls []) := by
  obtain ⟨hx, hb, hr, hml, hown, hts, hlk, hK⟩ := id X
  unfold fX0_layerCount_4L at h
  refine lv_iload_n hx hb dX0_layerCount_4 rfl (lv_at hl 3 rfl) ?_
  refine lv_aload_n hx hb dX0_layerCount_5 rfl (lv_at hl 0 rfl) ?_
  refine ggX0_21 X hV (o := o) ho dX0_layerCount_6 ?_
  refine lv_icmp_gt (tgt := 37) hx hb dX0_layerCount_9 (by decide) (fun c_9 => ?_) (fun c_9 => ?_)
  · rw [if_pos c_9] at h
    refine lv_iload_n hx hb dX0_layerCount_37 rfl (lv_at hl 2 rfl) ?_
    exact gw_ireti X hV h dX0_layerCount_38
  · rw [if_neg c_9] at h
    refine lv_aload_n hx hb dX0_layerCount_12 rfl (lv_at hl 0 rfl) ?_
    refine ggX0_9 X hV (o := o) ho dX0_layerCount_13 ?_
    refine lv_iload_n hx hb dX0_layerCount_16 rfl (lv_at hl 1 rfl) ?_
    refine lv_bipush (v := 61) hx hb dX0_layerCount_17 (by decide) ?_
    refine lv_imul hx hb dX0_layerCount_19 ?_
    refine lv_iload_n hx hb dX0_layerCount_20 rfl (lv_at hl 3 rfl) ?_
    refine lv_iadd hx hb dX0_layerCount_21 ?_
    obtain ⟨c_22, h⟩ := gx_chk_e h
    refine gw_lald X hV (iXJ_7 (o := (o + 1)) (kX_6_1 ho)) c_22 dX0_layerCount_22 ?_
    refine lv_lconst (v := 0) hx hb dX0_layerCount_23 (by decide) ?_
    refine gw_cmp_le (tgt := 31) X dX0_layerCount_24 dX0_layerCount_25 (by decide) (fun c_24 => ?_) (fun c_24 => ?_)
    · rw [if_pos c_24] at h
      exact tX0_layerCount_31 X hA ho kK4 _ _ _ _ h hV (lv_sub hl [0, 1, 2, 3] rfl)
    · rw [if_neg c_24] at h
      obtain ⟨v2_28, e_28⟩ : ∃ y : Int32, y = (v2 + (1 : Int32)) := ⟨_, rfl⟩
      refine lv_iinc (v := v2_28) (lv' := [(2, .int v2_28), (0, .ref (ad o)), (1, .int v1), (3, .int v3)]) hx hb dX0_layerCount_28 hl (k := 2) rfl (by rw [e_28]; rfl) (by decide) rfl (fun ls hl => ?_)
      replace h := gx_let_e e_28 h
      clear e_28
      exact tX0_layerCount_31 X hA ho kK4 _ _ _ _ h hV (lv_sub hl [1, 2, 0, 3] rfl)
set_option maxHeartbeats 4000000 in
set_option maxRecDepth 20000 in
theorem tX0_layerCount_4 {p : Program} {l : Launch} {e : Env} {s : State} {m : MethodId} {args : Array Value} {below : List Frame} {meth : Method} {c : Code} {G : gG} {ad : Nat → Nat} {A : Nat → Prop} {o : Nat} {z : Int32 × gS} (X : gCx p s m args meth c G cX0_layerCount RX0 (some .int) 4) (hA : ∀ q, s.heap.size ≤ q → A q) (ho : kX o = 6) : ∀ (f : Nat) (S : gS) (v1 : Int32) (v2 : Int32) (v3 : Int32) (h : fX0_layerCount_4 o f S v1 v2 v3 = some z) (H : Heap) (locs : List Loc) (ls : Array Slot) (hV : gV wdX G ad A s.heap S H locs) (hl : lv_has ls 4 [(0, .ref (ad o)), (1, .int v1), (2, .int v2), (3, .int v3)]), W p l e rmX0_layerCount s m args below meth c H locs 0 0 (MQ below (gQi wdX G ad A z) args s 0 0 A) (F0 m 4 ls []) := by
  intro f
  induction f with
  | zero => intro S v1 v2 v3 h; exact absurd h (by simp [fX0_layerCount_4])
  | succ f ih => intro S v1 v2 v3 h H locs ls hV hl; exact tX0_layerCount_4L X hA ho ih S v1 v2 v3 h hV hl
set_option maxHeartbeats 4000000 in
set_option maxRecDepth 20000 in
theorem mX0_layerCount (l : Launch) (G : gG) (ad : Nat → Nat) (sz : Nat) (S : gS) {o : Nat} {v1 : Int32} (ho : kX o = 6) {r : Int32} {S' : gS} (h : fX0_layerCount o S v1 = some (r, S')) : gMetI l yX0_layerCount cX0_layerCount 4 (some .int) rmX0_layerCount wdX G ad S sz [.ref (ad o), .int v1] r S' := by
  refine gMet_of (by decide) ?_
  intro p e s m below meth c A hA X hnm hV
  have hl := lv_entry ([.ref (ad o), .int v1]) (n := 4) (Nat.le_of_ble_eq_true rfl)
  rw [lg_entry_eq]
  generalize (lg_sl ([.ref (ad o), .int v1]) ++ List.replicate (4 - (lg_sl ([.ref (ad o), .int v1])).length) Slot.unset).toArray = ls at hl ⊢
  have hl : lv_has ls 4 [(0, .ref (ad o)), (1, .int v1)] := hl
  obtain ⟨hx, hb, hr, hml, hown, hts, hlk, hK⟩ := id X
  unfold fX0_layerCount at h
  generalize ([.ref (ad o), .int v1].toArray : Array Value) = args at X ⊢
  have Y : ∀ (H : Heap) (locs : List Loc), gV wdX G ad A s.heap S H locs → W p l e rmX0_layerCount s m args below meth c H locs 0 0 (MQ below (gQi wdX G ad A (r, S')) args s 0 0 A) (F0 m 0 ls []) := by
    intro H locs hV
    refine lv_iconst (v := 0) hx hb dX0_layerCount_0 (by decide) ?_
    refine lv_istore_n (lv' := [(2, .int (0 : Int32)), (0, .ref (ad o)), (1, .int v1)]) hx hb dX0_layerCount_1 rfl hl (by decide) rfl (fun ls hl => ?_)
    refine lv_iconst (v := 0) hx hb dX0_layerCount_2 (by decide) ?_
    refine lv_istore_n (lv' := [(3, .int (0 : Int32)), (2, .int (0 : Int32)), (0, .ref (ad o)), (1, .int v1)]) hx hb dX0_layerCount_3 rfl hl (by decide) rfl (fun ls hl => ?_)
    exact tX0_layerCount_4 X hA ho gx_fuel _ _ _ _ h _ _ _ hV (lv_sub hl [2, 3, 1, 0] rfl)
  exact Y _ _ hV
def fX0_layerYear_41 (o : Nat) (K8 : gS → Int32 → Int32 → Int32 → Int32 → Option (Int32 × gS)) (S : gS) (v1 : Int32) (v2 : Int32) (v3 : Int32) (v4 : Int32) : Option (Int32 × gS) :=
gx_let (v4 + (-1 : Int32)) fun v4_41 =>
K8 S v1 v2 v3 v4_41
def fX0_layerYear_8L (o : Nat) (K8 : gS → Int32 → Int32 → Int32 → Int32 → Option (Int32 × gS)) (S : gS) (v1 : Int32) (v2 : Int32) (v3 : Int32) (v4 : Int32) : Option (Int32 × gS) :=
if v4 < 0 then (some ((-9 : Int32), S)) else
gx_chk ((v1 * (61 : Int32)) + v4) 3904 <|
if (gJ S (o + 1) (Int32.toNatClampNeg ((v1 * (61 : Int32)) + v4))) ≤ (0 : Int64) then (fX0_layerYear_41 o K8 S v1 v2 v3 v4) else
if v3 = v2 then (some (v4, S)) else
gx_let (v3 + (1 : Int32)) fun v3_38 =>
fX0_layerYear_41 o K8 S v1 v2 v3_38 v4
def fX0_layerYear_8 (o : Nat) : Nat → gS → Int32 → Int32 → Int32 → Int32 → Option (Int32 × gS)
  | 0, _, _, _, _, _ => none
  | f + 1, S, v1, v2, v3, v4 => fX0_layerYear_8L o (fX0_layerYear_8 o f) S v1 v2 v3 v4
def fX0_layerYear (o : Nat) (S : gS) (v1 : Int32) (v2 : Int32) : Option (Int32 × gS) :=
gx_let (gI S o 3) fun v4_6 =>
fX0_layerYear_8 o gx_fuel S v1 v2 (0 : Int32) v4_6
def rmX0_layerYear : Room := { frames := 0, cells := 0, slots := 0, locals := 0 }
set_option maxHeartbeats 4000000 in
set_option maxRecDepth 20000 in
theorem tX0_layerYear_41 {p : Program} {l : Launch} {e : Env} {s : State} {m : MethodId} {args : Array Value} {below : List Frame} {meth : Method} {c : Code} {G : gG} {ad : Nat → Nat} {A : Nat → Prop} {o : Nat} {z : Int32 × gS} {K8 : gS → Int32 → Int32 → Int32 → Int32 → Option (Int32 × gS)} (X : gCx p s m args meth c G cX0_layerYear RX0 (some .int) 5) (hA : ∀ q, s.heap.size ≤ q → A q) (ho : kX o = 6) (kK8 : ∀ (S : gS) (v1 : Int32) (v2 : Int32) (v3 : Int32) (v4 : Int32), K8 S v1 v2 v3 v4 = some z → ∀ (H : Heap) (locs : List Loc) (ls : Array Slot), gV wdX G ad A s.heap S H locs → lv_has ls 5 [(0, .ref (ad o)), (1, .int v1), (2, .int v2), (3, .int v3), (4, .int v4)] → W p l e rmX0_layerYear s m args below meth c H locs 0 0 (MQ below (gQi wdX G ad A z) args s 0 0 A) (F0 m 8 ls [])) (S : gS) (v1 : Int32) (v2 : Int32) (v3 : Int32) (v4 : Int32) (h : fX0_layerYear_41 o K8 S v1 v2 v3 v4 = some z) {H : Heap} {locs : List Loc} {ls : Array Slot} (hV : gV wdX G ad A s.heap S H locs) (hl : lv_has ls 5 [(0, .ref (ad o)), (1, .int v1), (2, .int v2), (3, .int v3), (4, .int v4)]) : W p l e rmX0_layerYear s m args below meth c H locs 0 0 (MQ below (gQi wdX G ad A z) args s 0 0 A) (F0 m 41 ls []) := by
  obtain ⟨hx, hb, hr, hml, hown, hts, hlk, hK⟩ := id X
  unfold fX0_layerYear_41 at h
  obtain ⟨v4_41, e_41⟩ : ∃ y : Int32, y = (v4 + (-1 : Int32)) := ⟨_, rfl⟩
  refine lv_iinc (v := v4_41) (lv' := [(4, .int v4_41), (0, .ref (ad o)), (1, .int v1), (2, .int v2), (3, .int v3)]) hx hb dX0_layerYear_41 hl (k := 4) rfl (by rw [e_41]; rfl) (by decide) rfl (fun ls hl => ?_)
  replace h := gx_let_e e_41 h
  clear e_41
  refine lv_goto (tgt := 8) hx hb dX0_layerYear_44 (by decide) ?_
  exact kK8 _ _ _ _ _ h _ _ _ hV (lv_sub hl [1, 2, 3, 4, 0] rfl)
set_option maxHeartbeats 4000000 in
set_option maxRecDepth 20000 in
theorem tX0_layerYear_8L {p : Program} {l : Launch} {e : Env} {s : State} {m : MethodId} {args : Array Value} {below : List Frame} {meth : Method} {c : Code} {G : gG} {ad : Nat → Nat} {A : Nat → Prop} {o : Nat} {z : Int32 × gS} {K8 : gS → Int32 → Int32 → Int32 → Int32 → Option (Int32 × gS)} (X : gCx p s m args meth c G cX0_layerYear RX0 (some .int) 5) (hA : ∀ q, s.heap.size ≤ q → A q) (ho : kX o = 6) (kK8 : ∀ (S : gS) (v1 : Int32) (v2 : Int32) (v3 : Int32) (v4 : Int32), K8 S v1 v2 v3 v4 = some z → ∀ (H : Heap) (locs : List Loc) (ls : Array Slot), gV wdX G ad A s.heap S H locs → lv_has ls 5 [(0, .ref (ad o)), (1, .int v1), (2, .int v2), (3, .int v3), (4, .int v4)] → W p l e rmX0_layerYear s m args below meth c H locs 0 0 (MQ below (gQi wdX G ad A z) args s 0 0 A) (F0 m 8 ls [])) (S : gS) (v1 : Int32) (v2 : Int32) (v3 : Int32) (v4 : Int32) (h : fX0_layerYear_8L o K8 S v1 v2 v3 v4 = some z) {H : Heap} {locs : List Loc} {ls : Array Slot} (hV : gV wdX G ad A s.heap S H locs) (hl : lv_has ls 5 [(0, .ref (ad o)), (1, .int v1), (2, .int v2), (3, .int v3), (4, .int v4)]) : W p l e rmX0_layerYear s m args below meth c H locs 0 0 (MQ below (gQi wdX G ad A z) args s 0 0 A) (F0 m 8 ls []) := by
  obtain ⟨hx, hb, hr, hml, hown, hts, hlk, hK⟩ := id X
  unfold fX0_layerYear_8L at h
  refine lv_iload hx hb dX0_layerYear_8 (lv_at hl 4 rfl) ?_
  refine lv_if_lt (tgt := 47) hx hb dX0_layerYear_10 (by decide) (fun c_10 => ?_) (fun c_10 => ?_)
  · rw [if_pos c_10] at h
    refine lv_bipush (v := -9) hx hb dX0_layerYear_47 (by decide) ?_
    exact gw_ireti X hV h dX0_layerYear_49
  · rw [if_neg c_10] at h
    refine lv_aload_n hx hb dX0_layerYear_13 rfl (lv_at hl 0 rfl) ?_
    refine ggX0_9 X hV (o := o) ho dX0_layerYear_14 ?_
    refine lv_iload_n hx hb dX0_layerYear_17 rfl (lv_at hl 1 rfl) ?_
    refine lv_bipush (v := 61) hx hb dX0_layerYear_18 (by decide) ?_
    refine lv_imul hx hb dX0_layerYear_20 ?_
    refine lv_iload hx hb dX0_layerYear_21 (lv_at hl 4 rfl) ?_
    refine lv_iadd hx hb dX0_layerYear_23 ?_
    obtain ⟨c_24, h⟩ := gx_chk_e h
    refine gw_lald X hV (iXJ_7 (o := (o + 1)) (kX_6_1 ho)) c_24 dX0_layerYear_24 ?_
    refine lv_lconst (v := 0) hx hb dX0_layerYear_25 (by decide) ?_
    refine gw_cmp_le (tgt := 41) X dX0_layerYear_26 dX0_layerYear_27 (by decide) (fun c_26 => ?_) (fun c_26 => ?_)
    · rw [if_pos c_26] at h
      exact tX0_layerYear_41 X hA ho kK8 _ _ _ _ _ h hV (lv_sub hl [0, 1, 2, 3, 4] rfl)
    · rw [if_neg c_26] at h
      refine lv_iload_n hx hb dX0_layerYear_30 rfl (lv_at hl 3 rfl) ?_
      refine lv_iload_n hx hb dX0_layerYear_31 rfl (lv_at hl 2 rfl) ?_
      refine lv_icmp_ne (tgt := 38) hx hb dX0_layerYear_32 (by decide) (fun c_32 => ?_) (fun c_32 => ?_)
      · rw [if_neg c_32] at h
        obtain ⟨v3_38, e_38⟩ : ∃ y : Int32, y = (v3 + (1 : Int32)) := ⟨_, rfl⟩
        refine lv_iinc (v := v3_38) (lv' := [(3, .int v3_38), (0, .ref (ad o)), (1, .int v1), (2, .int v2), (4, .int v4)]) hx hb dX0_layerYear_38 hl (k := 3) rfl (by rw [e_38]; rfl) (by decide) rfl (fun ls hl => ?_)
        replace h := gx_let_e e_38 h
        clear e_38
        exact tX0_layerYear_41 X hA ho kK8 _ _ _ _ _ h hV (lv_sub hl [1, 2, 3, 0, 4] rfl)
      · rw [if_pos c_32] at h
        refine lv_iload hx hb dX0_layerYear_35 (lv_at hl 4 rfl) ?_
        exact gw_ireti X hV h dX0_layerYear_37
set_option maxHeartbeats 4000000 in
set_option maxRecDepth 20000 in
theorem tX0_layerYear_8 {p : Program} {l : Launch} {e : Env} {s : State} {m : MethodId} {args : Array Value} {below : List Frame} {meth : Method} {c : Code} {G : gG} {ad : Nat → Nat} {A : Nat → Prop} {o : Nat} {z : Int32 × gS} (X : gCx p s m args meth c G cX0_layerYear RX0 (some .int) 5) (hA : ∀ q, s.heap.size ≤ q → A q) (ho : kX o = 6) : ∀ (f : Nat) (S : gS) (v1 : Int32) (v2 : Int32) (v3 : Int32) (v4 : Int32) (h : fX0_layerYear_8 o f S v1 v2 v3 v4 = some z) (H : Heap) (locs : List Loc) (ls : Array Slot) (hV : gV wdX G ad A s.heap S H locs) (hl : lv_has ls 5 [(0, .ref (ad o)), (1, .int v1), (2, .int v2), (3, .int v3), (4, .int v4)]), W p l e rmX0_layerYear s m args below meth c H locs 0 0 (MQ below (gQi wdX G ad A z) args s 0 0 A) (F0 m 8 ls []) := by
  intro f
  induction f with
  | zero => intro S v1 v2 v3 v4 h; exact absurd h (by simp [fX0_layerYear_8])
  | succ f ih => intro S v1 v2 v3 v4 h H locs ls hV hl; exact tX0_layerYear_8L X hA ho ih S v1 v2 v3 v4 h hV hl
set_option maxHeartbeats 4000000 in
set_option maxRecDepth 20000 in
theorem mX0_layerYear (l : Launch) (G : gG) (ad : Nat → Nat) (sz : Nat) (S : gS) {o : Nat} {v1 : Int32} {v2 : Int32} (ho : kX o = 6) {r : Int32} {S' : gS} (h : fX0_layerYear o S v1 v2 = some (r, S')) : gMetI l yX0_layerYear cX0_layerYear 5 (some .int) rmX0_layerYear wdX G ad S sz [.ref (ad o), .int v1, .int v2] r S' := by
  refine gMet_of (by decide) ?_
  intro p e s m below meth c A hA X hnm hV
  have hl := lv_entry ([.ref (ad o), .int v1, .int v2]) (n := 5) (Nat.le_of_ble_eq_true rfl)
  rw [lg_entry_eq]
  generalize (lg_sl ([.ref (ad o), .int v1, .int v2]) ++ List.replicate (5 - (lg_sl ([.ref (ad o), .int v1, .int v2])).length) Slot.unset).toArray = ls at hl ⊢
  have hl : lv_has ls 5 [(0, .ref (ad o)), (1, .int v1), (2, .int v2)] := hl
  obtain ⟨hx, hb, hr, hml, hown, hts, hlk, hK⟩ := id X
  unfold fX0_layerYear at h
  generalize ([.ref (ad o), .int v1, .int v2].toArray : Array Value) = args at X ⊢
  have Y : ∀ (H : Heap) (locs : List Loc), gV wdX G ad A s.heap S H locs → W p l e rmX0_layerYear s m args below meth c H locs 0 0 (MQ below (gQi wdX G ad A (r, S')) args s 0 0 A) (F0 m 0 ls []) := by
    intro H locs hV
    refine lv_iconst (v := 0) hx hb dX0_layerYear_0 (by decide) ?_
    refine lv_istore_n (lv' := [(3, .int (0 : Int32)), (0, .ref (ad o)), (1, .int v1), (2, .int v2)]) hx hb dX0_layerYear_1 rfl hl (by decide) rfl (fun ls hl => ?_)
    refine lv_aload_n hx hb dX0_layerYear_2 rfl (lv_at hl 1 rfl) ?_
    refine ggX0_21 X hV (o := o) ho dX0_layerYear_3 ?_
    refine lv_topi (fun v4_6 e_6 => ?_)
    replace h := gx_let_e e_6 h
    clear e_6
    refine lv_istore (lv' := [(4, .int v4_6), (3, .int (0 : Int32)), (0, .ref (ad o)), (1, .int v1), (2, .int v2)]) hx hb dX0_layerYear_6 hl (by decide) rfl (fun ls hl => ?_)
    exact tX0_layerYear_8 X hA ho gx_fuel _ _ _ _ _ h _ _ _ hV (lv_sub hl [2, 3, 4, 1, 0] rfl)
  exact Y _ _ hV
def fX0_oldestYear_2L (o : Nat) (K2 : gS → Int32 → Option (Int32 × gS)) (S : gS) (v1 : Int32) : Option (Int32 × gS) :=
if (gI S o 3) < v1 then (some ((-9 : Int32), S)) else
gx_chk ((0 : Int32) + v1) 305 <|
if (gJ S (o + 3) (Int32.toNatClampNeg ((0 : Int32) + v1))) ≤ (0 : Int64) then (gx_let (v1 + (1 : Int32)) fun v1_25 =>
K2 S v1_25) else
some (v1, S)
def fX0_oldestYear_2 (o : Nat) : Nat → gS → Int32 → Option (Int32 × gS)
  | 0, _, _ => none
  | f + 1, S, v1 => fX0_oldestYear_2L o (fX0_oldestYear_2 o f) S v1
def fX0_oldestYear (o : Nat) (S : gS) : Option (Int32 × gS) :=
fX0_oldestYear_2 o gx_fuel S (0 : Int32)
def rmX0_oldestYear : Room := { frames := 0, cells := 0, slots := 0, locals := 0 }
set_option maxHeartbeats 4000000 in
set_option maxRecDepth 20000 in
theorem tX0_oldestYear_2L {p : Program} {l : Launch} {e : Env} {s : State} {m : MethodId} {args : Array Value} {below : List Frame} {meth : Method} {c : Code} {G : gG} {ad : Nat → Nat} {A : Nat → Prop} {o : Nat} {z : Int32 × gS} {K2 : gS → Int32 → Option (Int32 × gS)} (X : gCx p s m args meth c G cX0_oldestYear RX0 (some .int) 2) (hA : ∀ q, s.heap.size ≤ q → A q) (ho : kX o = 6) (kK2 : ∀ (S : gS) (v1 : Int32), K2 S v1 = some z → ∀ (H : Heap) (locs : List Loc) (ls : Array Slot), gV wdX G ad A s.heap S H locs → lv_has ls 2 [(0, .ref (ad o)), (1, .int v1)] → W p l e rmX0_oldestYear s m args below meth c H locs 0 0 (MQ below (gQi wdX G ad A z) args s 0 0 A) (F0 m 2 ls [])) (S : gS) (v1 : Int32) (h : fX0_oldestYear_2L o K2 S v1 = some z) {H : Heap} {locs : List Loc} {ls : Array Slot} (hV : gV wdX G ad A s.heap S H locs) (hl : lv_has ls 2 [(0, .ref (ad o)), (1, .int v1)]) : W p l e rmX0_oldestYear s m args below meth c H locs 0 0 (MQ below (gQi wdX G ad A z) args s 0 0 A) (F0 m 2 ls []) := by
  obtain ⟨hx, hb, hr, hml, hown, hts, hlk, hK⟩ := id X
  unfold fX0_oldestYear_2L at h
  refine lv_iload_n hx hb dX0_oldestYear_2 rfl (lv_at hl 1 rfl) ?_
  refine lv_aload_n hx hb dX0_oldestYear_3 rfl (lv_at hl 0 rfl) ?_
  refine ggX0_21 X hV (o := o) ho dX0_oldestYear_4 ?_
  refine lv_icmp_gt (tgt := 31) hx hb dX0_oldestYear_7 (by decide) (fun c_7 => ?_) (fun c_7 => ?_)
  · rw [if_pos c_7] at h
    refine lv_bipush (v := -9) hx hb dX0_oldestYear_31 (by decide) ?_
    exact gw_ireti X hV h dX0_oldestYear_33
  · rw [if_neg c_7] at h
    refine lv_aload_n hx hb dX0_oldestYear_10 rfl (lv_at hl 0 rfl) ?_
    refine ggX0_18 X hV (o := o) ho dX0_oldestYear_11 ?_
    refine lv_iconst (v := 0) hx hb dX0_oldestYear_14 (by decide) ?_
    refine lv_iload_n hx hb dX0_oldestYear_15 rfl (lv_at hl 1 rfl) ?_
    refine lv_iadd hx hb dX0_oldestYear_16 ?_
    obtain ⟨c_17, h⟩ := gx_chk_e h
    refine gw_lald X hV (iXJ_9 (o := (o + 3)) (kX_6_3 ho)) c_17 dX0_oldestYear_17 ?_
    refine lv_lconst (v := 0) hx hb dX0_oldestYear_18 (by decide) ?_
    refine gw_cmp_le (tgt := 25) X dX0_oldestYear_19 dX0_oldestYear_20 (by decide) (fun c_19 => ?_) (fun c_19 => ?_)
    · rw [if_pos c_19] at h
      obtain ⟨v1_25, e_25⟩ : ∃ y : Int32, y = (v1 + (1 : Int32)) := ⟨_, rfl⟩
      refine lv_iinc (v := v1_25) (lv' := [(1, .int v1_25), (0, .ref (ad o))]) hx hb dX0_oldestYear_25 hl (k := 1) rfl (by rw [e_25]; rfl) (by decide) rfl (fun ls hl => ?_)
      replace h := gx_let_e e_25 h
      clear e_25
      refine lv_goto (tgt := 2) hx hb dX0_oldestYear_28 (by decide) ?_
      exact kK2 _ _ h _ _ _ hV (lv_sub hl [1, 0] rfl)
    · rw [if_neg c_19] at h
      refine lv_iload_n hx hb dX0_oldestYear_23 rfl (lv_at hl 1 rfl) ?_
      exact gw_ireti X hV h dX0_oldestYear_24
set_option maxHeartbeats 4000000 in
set_option maxRecDepth 20000 in
theorem tX0_oldestYear_2 {p : Program} {l : Launch} {e : Env} {s : State} {m : MethodId} {args : Array Value} {below : List Frame} {meth : Method} {c : Code} {G : gG} {ad : Nat → Nat} {A : Nat → Prop} {o : Nat} {z : Int32 × gS} (X : gCx p s m args meth c G cX0_oldestYear RX0 (some .int) 2) (hA : ∀ q, s.heap.size ≤ q → A q) (ho : kX o = 6) : ∀ (f : Nat) (S : gS) (v1 : Int32) (h : fX0_oldestYear_2 o f S v1 = some z) (H : Heap) (locs : List Loc) (ls : Array Slot) (hV : gV wdX G ad A s.heap S H locs) (hl : lv_has ls 2 [(0, .ref (ad o)), (1, .int v1)]), W p l e rmX0_oldestYear s m args below meth c H locs 0 0 (MQ below (gQi wdX G ad A z) args s 0 0 A) (F0 m 2 ls []) := by
  intro f
  induction f with
  | zero => intro S v1 h; exact absurd h (by simp [fX0_oldestYear_2])
  | succ f ih => intro S v1 h H locs ls hV hl; exact tX0_oldestYear_2L X hA ho ih S v1 h hV hl
set_option maxHeartbeats 4000000 in
set_option maxRecDepth 20000 in
theorem mX0_oldestYear (l : Launch) (G : gG) (ad : Nat → Nat) (sz : Nat) (S : gS) {o : Nat} (ho : kX o = 6) {r : Int32} {S' : gS} (h : fX0_oldestYear o S = some (r, S')) : gMetI l yX0_oldestYear cX0_oldestYear 2 (some .int) rmX0_oldestYear wdX G ad S sz [.ref (ad o)] r S' := by
  refine gMet_of (by decide) ?_
  intro p e s m below meth c A hA X hnm hV
  have hl := lv_entry ([.ref (ad o)]) (n := 2) (Nat.le_of_ble_eq_true rfl)
  rw [lg_entry_eq]
  generalize (lg_sl ([.ref (ad o)]) ++ List.replicate (2 - (lg_sl ([.ref (ad o)])).length) Slot.unset).toArray = ls at hl ⊢
  have hl : lv_has ls 2 [(0, .ref (ad o))] := hl
  obtain ⟨hx, hb, hr, hml, hown, hts, hlk, hK⟩ := id X
  unfold fX0_oldestYear at h
  generalize ([.ref (ad o)].toArray : Array Value) = args at X ⊢
  have Y : ∀ (H : Heap) (locs : List Loc), gV wdX G ad A s.heap S H locs → W p l e rmX0_oldestYear s m args below meth c H locs 0 0 (MQ below (gQi wdX G ad A (r, S')) args s 0 0 A) (F0 m 0 ls []) := by
    intro H locs hV
    refine lv_iconst (v := 0) hx hb dX0_oldestYear_0 (by decide) ?_
    refine lv_istore_n (lv' := [(1, .int (0 : Int32)), (0, .ref (ad o))]) hx hb dX0_oldestYear_1 rfl hl (by decide) rfl (fun ls hl => ?_)
    exact tX0_oldestYear_2 X hA ho gx_fuel _ _ h _ _ _ hV (lv_sub hl [1, 0] rfl)
  exact Y _ _ hV
def fX0_tallyOfAll_5L (o : Nat) (K5 : gS → Int32 → Int64 → Int32 → Option (Int64 × gS)) (S : gS) (v1 : Int32) (v2 : Int64) (v4 : Int32) : Option (Int64 × gS) :=
if (gI S o 3) < v4 then (some (v2, S)) else
gx_chk ((v1 * (61 : Int32)) + v4) 305 <|
gx_let (v2 + (gJ S (o + 3) (Int32.toNatClampNeg ((v1 * (61 : Int32)) + v4)))) fun v2_28 =>
gx_let (v4 + (1 : Int32)) fun v4_29 =>
K5 S v1 v2_28 v4_29
def fX0_tallyOfAll_5 (o : Nat) : Nat → gS → Int32 → Int64 → Int32 → Option (Int64 × gS)
  | 0, _, _, _, _ => none
  | f + 1, S, v1, v2, v4 => fX0_tallyOfAll_5L o (fX0_tallyOfAll_5 o f) S v1 v2 v4
def fX0_tallyOfAll (o : Nat) (S : gS) (v1 : Int32) : Option (Int64 × gS) :=
fX0_tallyOfAll_5 o gx_fuel S v1 (0 : Int64) (0 : Int32)
def rmX0_tallyOfAll : Room := { frames := 0, cells := 0, slots := 0, locals := 0 }
set_option maxHeartbeats 4000000 in
set_option maxRecDepth 20000 in
theorem tX0_tallyOfAll_5L {p : Program} {l : Launch} {e : Env} {s : State} {m : MethodId} {args : Array Value} {below : List Frame} {meth : Method} {c : Code} {G : gG} {ad : Nat → Nat} {A : Nat → Prop} {o : Nat} {z : Int64 × gS} {K5 : gS → Int32 → Int64 → Int32 → Option (Int64 × gS)} (X : gCx p s m args meth c G cX0_tallyOfAll RX0 (some .long) 5) (hA : ∀ q, s.heap.size ≤ q → A q) (ho : kX o = 6) (kK5 : ∀ (S : gS) (v1 : Int32) (v2 : Int64) (v4 : Int32), K5 S v1 v2 v4 = some z → ∀ (H : Heap) (locs : List Loc) (ls : Array Slot), gV wdX G ad A s.heap S H locs → lv_has ls 5 [(0, .ref (ad o)), (1, .int v1), (2, .long v2), (4, .int v4)] → W p l e rmX0_tallyOfAll s m args below meth c H locs 0 0 (MQ below (gQl wdX G ad A z) args s 0 0 A) (F0 m 5 ls [])) (S : gS) (v1 : Int32) (v2 : Int64) (v4 : Int32) (h : fX0_tallyOfAll_5L o K5 S v1 v2 v4 = some z) {H : Heap} {locs : List Loc} {ls : Array Slot} (hV : gV wdX G ad A s.heap S H locs) (hl : lv_has ls 5 [(0, .ref (ad o)), (1, .int v1), (2, .long v2), (4, .int v4)]) : W p l e rmX0_tallyOfAll s m args below meth c H locs 0 0 (MQ below (gQl wdX G ad A z) args s 0 0 A) (F0 m 5 ls []) := by
  obtain ⟨hx, hb, hr, hml, hown, hts, hlk, hK⟩ := id X
  unfold fX0_tallyOfAll_5L at h
  refine lv_iload hx hb dX0_tallyOfAll_5 (lv_at hl 3 rfl) ?_
  refine lv_aload_n hx hb dX0_tallyOfAll_7 rfl (lv_at hl 0 rfl) ?_
  refine ggX0_21 X hV (o := o) ho dX0_tallyOfAll_8 ?_
  refine lv_icmp_gt (tgt := 35) hx hb dX0_tallyOfAll_11 (by decide) (fun c_11 => ?_) (fun c_11 => ?_)
  · rw [if_pos c_11] at h
    refine lv_lload_n hx hb dX0_tallyOfAll_35 rfl (lv_at hl 2 rfl) ?_
    exact gw_lret X hV h dX0_tallyOfAll_36
  · rw [if_neg c_11] at h
    refine lv_lload_n hx hb dX0_tallyOfAll_14 rfl (lv_at hl 2 rfl) ?_
    refine lv_aload_n hx hb dX0_tallyOfAll_15 rfl (lv_at hl 0 rfl) ?_
    refine ggX0_18 X hV (o := o) ho dX0_tallyOfAll_16 ?_
    refine lv_iload_n hx hb dX0_tallyOfAll_19 rfl (lv_at hl 1 rfl) ?_
    refine lv_bipush (v := 61) hx hb dX0_tallyOfAll_20 (by decide) ?_
    refine lv_imul hx hb dX0_tallyOfAll_22 ?_
    refine lv_iload hx hb dX0_tallyOfAll_23 (lv_at hl 3 rfl) ?_
    refine lv_iadd hx hb dX0_tallyOfAll_25 ?_
    obtain ⟨c_26, h⟩ := gx_chk_e h
    refine gw_lald X hV (iXJ_9 (o := (o + 3)) (kX_6_3 ho)) c_26 dX0_tallyOfAll_26 ?_
    refine lv_ladd hx hb dX0_tallyOfAll_27 ?_
    refine lv_topl (fun v2_28 e_28 => ?_)
    replace h := gx_let_e e_28 h
    clear e_28
    refine lv_lstore_n (lv' := [(2, .long v2_28), (0, .ref (ad o)), (1, .int v1), (4, .int v4)]) hx hb dX0_tallyOfAll_28 rfl hl (by decide) rfl (fun ls hl => ?_)
    obtain ⟨v4_29, e_29⟩ : ∃ y : Int32, y = (v4 + (1 : Int32)) := ⟨_, rfl⟩
    refine lv_iinc (v := v4_29) (lv' := [(4, .int v4_29), (2, .long v2_28), (0, .ref (ad o)), (1, .int v1)]) hx hb dX0_tallyOfAll_29 hl (k := 3) rfl (by rw [e_29]; rfl) (by decide) rfl (fun ls hl => ?_)
    replace h := gx_let_e e_29 h
    clear e_29
    refine lv_goto (tgt := 5) hx hb dX0_tallyOfAll_32 (by decide) ?_
    exact kK5 _ _ _ _ h _ _ _ hV (lv_sub hl [2, 3, 1, 0] rfl)
set_option maxHeartbeats 4000000 in
set_option maxRecDepth 20000 in
theorem tX0_tallyOfAll_5 {p : Program} {l : Launch} {e : Env} {s : State} {m : MethodId} {args : Array Value} {below : List Frame} {meth : Method} {c : Code} {G : gG} {ad : Nat → Nat} {A : Nat → Prop} {o : Nat} {z : Int64 × gS} (X : gCx p s m args meth c G cX0_tallyOfAll RX0 (some .long) 5) (hA : ∀ q, s.heap.size ≤ q → A q) (ho : kX o = 6) : ∀ (f : Nat) (S : gS) (v1 : Int32) (v2 : Int64) (v4 : Int32) (h : fX0_tallyOfAll_5 o f S v1 v2 v4 = some z) (H : Heap) (locs : List Loc) (ls : Array Slot) (hV : gV wdX G ad A s.heap S H locs) (hl : lv_has ls 5 [(0, .ref (ad o)), (1, .int v1), (2, .long v2), (4, .int v4)]), W p l e rmX0_tallyOfAll s m args below meth c H locs 0 0 (MQ below (gQl wdX G ad A z) args s 0 0 A) (F0 m 5 ls []) := by
  intro f
  induction f with
  | zero => intro S v1 v2 v4 h; exact absurd h (by simp [fX0_tallyOfAll_5])
  | succ f ih => intro S v1 v2 v4 h H locs ls hV hl; exact tX0_tallyOfAll_5L X hA ho ih S v1 v2 v4 h hV hl
set_option maxHeartbeats 4000000 in
set_option maxRecDepth 20000 in
theorem mX0_tallyOfAll (l : Launch) (G : gG) (ad : Nat → Nat) (sz : Nat) (S : gS) {o : Nat} {v1 : Int32} (ho : kX o = 6) {r : Int64} {S' : gS} (h : fX0_tallyOfAll o S v1 = some (r, S')) : gMetL l yX0_tallyOfAll cX0_tallyOfAll 5 (some .long) rmX0_tallyOfAll wdX G ad S sz [.ref (ad o), .int v1] r S' := by
  refine gMet_of (by decide) ?_
  intro p e s m below meth c A hA X hnm hV
  have hl := lv_entry ([.ref (ad o), .int v1]) (n := 5) (Nat.le_of_ble_eq_true rfl)
  rw [lg_entry_eq]
  generalize (lg_sl ([.ref (ad o), .int v1]) ++ List.replicate (5 - (lg_sl ([.ref (ad o), .int v1])).length) Slot.unset).toArray = ls at hl ⊢
  have hl : lv_has ls 5 [(0, .ref (ad o)), (1, .int v1)] := hl
  obtain ⟨hx, hb, hr, hml, hown, hts, hlk, hK⟩ := id X
  unfold fX0_tallyOfAll at h
  generalize ([.ref (ad o), .int v1].toArray : Array Value) = args at X ⊢
  have Y : ∀ (H : Heap) (locs : List Loc), gV wdX G ad A s.heap S H locs → W p l e rmX0_tallyOfAll s m args below meth c H locs 0 0 (MQ below (gQl wdX G ad A (r, S')) args s 0 0 A) (F0 m 0 ls []) := by
    intro H locs hV
    refine lv_lconst (v := 0) hx hb dX0_tallyOfAll_0 (by decide) ?_
    refine lv_lstore_n (lv' := [(2, .long (0 : Int64)), (0, .ref (ad o)), (1, .int v1)]) hx hb dX0_tallyOfAll_1 rfl hl (by decide) rfl (fun ls hl => ?_)
    refine lv_iconst (v := 0) hx hb dX0_tallyOfAll_2 (by decide) ?_
    refine lv_istore (lv' := [(4, .int (0 : Int32)), (2, .long (0 : Int64)), (0, .ref (ad o)), (1, .int v1)]) hx hb dX0_tallyOfAll_3 hl (by decide) rfl (fun ls hl => ?_)
    exact tX0_tallyOfAll_5 X hA ho gx_fuel _ _ _ _ h _ _ _ hV (lv_sub hl [2, 3, 1, 0] rfl)
  exact Y _ _ hV
def fX1_lies (o : Nat) (S : gS) : Option (Int32 × gS) :=
if (gI S o 5) ≤ 0 then (some ((0 : Int32), S)) else
some ((1 : Int32), S)
def rmX1_lies : Room := { frames := 0, cells := 0, slots := 0, locals := 0 }
set_option maxHeartbeats 4000000 in
set_option maxRecDepth 20000 in
theorem mX1_lies (l : Launch) (G : gG) (ad : Nat → Nat) (sz : Nat) (S : gS) {o : Nat} (ho : kX o = 4) {r : Int32} {S' : gS} (h : fX1_lies o S = some (r, S')) : gMetI l yX1_lies cX1_lies 1 (some .boolean) rmX1_lies wdX G ad S sz [.ref (ad o)] r S' := by
  refine gMet_of (by decide) ?_
  intro p e s m below meth c A hA X hnm hV
  have hl := lv_entry ([.ref (ad o)]) (n := 1) (Nat.le_of_ble_eq_true rfl)
  rw [lg_entry_eq]
  generalize (lg_sl ([.ref (ad o)]) ++ List.replicate (1 - (lg_sl ([.ref (ad o)])).length) Slot.unset).toArray = ls at hl ⊢
  have hl : lv_has ls 1 [(0, .ref (ad o))] := hl
  obtain ⟨hx, hb, hr, hml, hown, hts, hlk, hK⟩ := id X
  unfold fX1_lies at h
  generalize ([.ref (ad o)].toArray : Array Value) = args at X ⊢
  have Y : ∀ (H : Heap) (locs : List Loc), gV wdX G ad A s.heap S H locs → W p l e rmX1_lies s m args below meth c H locs 0 0 (MQ below (gQi wdX G ad A (r, S')) args s 0 0 A) (F0 m 0 ls []) := by
    intro H locs hV
    refine lv_aload_n hx hb dX1_lies_0 rfl (lv_at hl 0 rfl) ?_
    refine ggX1_24 X hV (o := o) ho dX1_lies_1 ?_
    refine lv_if_le (tgt := 11) hx hb dX1_lies_4 (by decide) (fun c_4 => ?_) (fun c_4 => ?_)
    · rw [if_pos c_4] at h
      refine lv_iconst (v := 0) hx hb dX1_lies_11 (by decide) ?_
      exact gw_iretz X hV h g_bool0 dX1_lies_12
    · rw [if_neg c_4] at h
      refine lv_iconst (v := 1) hx hb dX1_lies_7 (by decide) ?_
      refine lv_goto (tgt := 12) hx hb dX1_lies_8 (by decide) ?_
      exact gw_iretz X hV h g_bool1 dX1_lies_12
  exact Y _ _ hV
def fX1_placeAt_33 (o : Nat) (S : gS) : Option (Int32 × gS) :=
some ((-1 : Int32), S)
def fX1_placeAt (o : Nat) (S : gS) (v1 : Int32) (v2 : Int32) : Option (Int32 × gS) :=
if v1 < 0 then (fX1_placeAt_33 o S) else
if (gI S o 5) ≤ v1 then (fX1_placeAt_33 o S) else
if v2 < 0 then (fX1_placeAt_33 o S) else
if (gI S o 6) ≤ v2 then (fX1_placeAt_33 o S) else
some (((v2 * (8 : Int32)) + v1), S)
def rmX1_placeAt : Room := { frames := 0, cells := 0, slots := 0, locals := 0 }
set_option maxHeartbeats 4000000 in
set_option maxRecDepth 20000 in
theorem tX1_placeAt_33 {p : Program} {l : Launch} {e : Env} {s : State} {m : MethodId} {args : Array Value} {below : List Frame} {meth : Method} {c : Code} {G : gG} {ad : Nat → Nat} {A : Nat → Prop} {o : Nat} {z : Int32 × gS} (X : gCx p s m args meth c G cX1_placeAt RX1 (some .int) 3) (hA : ∀ q, s.heap.size ≤ q → A q) (ho : kX o = 4) (S : gS) (h : fX1_placeAt_33 o S = some z) {H : Heap} {locs : List Loc} {ls : Array Slot} (hV : gV wdX G ad A s.heap S H locs) (hl : lv_has ls 3 []) : W p l e rmX1_placeAt s m args below meth c H locs 0 0 (MQ below (gQi wdX G ad A z) args s 0 0 A) (F0 m 33 ls []) := by
  obtain ⟨hx, hb, hr, hml, hown, hts, hlk, hK⟩ := id X
  unfold fX1_placeAt_33 at h
  refine lv_iconst (v := -1) hx hb dX1_placeAt_33 (by decide) ?_
  exact gw_ireti X hV h dX1_placeAt_34
set_option maxHeartbeats 4000000 in
set_option maxRecDepth 20000 in
theorem mX1_placeAt (l : Launch) (G : gG) (ad : Nat → Nat) (sz : Nat) (S : gS) {o : Nat} {v1 : Int32} {v2 : Int32} (ho : kX o = 4) {r : Int32} {S' : gS} (h : fX1_placeAt o S v1 v2 = some (r, S')) : gMetI l yX1_placeAt cX1_placeAt 3 (some .int) rmX1_placeAt wdX G ad S sz [.ref (ad o), .int v1, .int v2] r S' := by
  refine gMet_of (by decide) ?_
  intro p e s m below meth c A hA X hnm hV
  have hl := lv_entry ([.ref (ad o), .int v1, .int v2]) (n := 3) (Nat.le_of_ble_eq_true rfl)
  rw [lg_entry_eq]
  generalize (lg_sl ([.ref (ad o), .int v1, .int v2]) ++ List.replicate (3 - (lg_sl ([.ref (ad o), .int v1, .int v2])).length) Slot.unset).toArray = ls at hl ⊢
  have hl : lv_has ls 3 [(0, .ref (ad o)), (1, .int v1), (2, .int v2)] := hl
  obtain ⟨hx, hb, hr, hml, hown, hts, hlk, hK⟩ := id X
  unfold fX1_placeAt at h
  generalize ([.ref (ad o), .int v1, .int v2].toArray : Array Value) = args at X ⊢
  have Y : ∀ (H : Heap) (locs : List Loc), gV wdX G ad A s.heap S H locs → W p l e rmX1_placeAt s m args below meth c H locs 0 0 (MQ below (gQi wdX G ad A (r, S')) args s 0 0 A) (F0 m 0 ls []) := by
    intro H locs hV
    refine lv_iload_n hx hb dX1_placeAt_0 rfl (lv_at hl 1 rfl) ?_
    refine lv_if_lt (tgt := 33) hx hb dX1_placeAt_1 (by decide) (fun c_1 => ?_) (fun c_1 => ?_)
    · rw [if_pos c_1] at h
      exact tX1_placeAt_33 X hA ho _ h hV (lv_sub hl [] rfl)
    · rw [if_neg c_1] at h
      refine lv_iload_n hx hb dX1_placeAt_4 rfl (lv_at hl 1 rfl) ?_
      refine lv_aload_n hx hb dX1_placeAt_5 rfl (lv_at hl 0 rfl) ?_
      refine ggX1_24 X hV (o := o) ho dX1_placeAt_6 ?_
      refine lv_icmp_ge (tgt := 33) hx hb dX1_placeAt_9 (by decide) (fun c_9 => ?_) (fun c_9 => ?_)
      · rw [if_pos c_9] at h
        exact tX1_placeAt_33 X hA ho _ h hV (lv_sub hl [] rfl)
      · rw [if_neg c_9] at h
        refine lv_iload_n hx hb dX1_placeAt_12 rfl (lv_at hl 2 rfl) ?_
        refine lv_if_lt (tgt := 33) hx hb dX1_placeAt_13 (by decide) (fun c_13 => ?_) (fun c_13 => ?_)
        · rw [if_pos c_13] at h
          exact tX1_placeAt_33 X hA ho _ h hV (lv_sub hl [] rfl)
        · rw [if_neg c_13] at h
          refine lv_iload_n hx hb dX1_placeAt_16 rfl (lv_at hl 2 rfl) ?_
          refine lv_aload_n hx hb dX1_placeAt_17 rfl (lv_at hl 0 rfl) ?_
          refine ggX1_28 X hV (o := o) ho dX1_placeAt_18 ?_
          refine lv_icmp_ge (tgt := 33) hx hb dX1_placeAt_21 (by decide) (fun c_21 => ?_) (fun c_21 => ?_)
          · rw [if_pos c_21] at h
            exact tX1_placeAt_33 X hA ho _ h hV (lv_sub hl [] rfl)
          · rw [if_neg c_21] at h
            refine lv_iload_n hx hb dX1_placeAt_24 rfl (lv_at hl 2 rfl) ?_
            refine lv_bipush (v := 8) hx hb dX1_placeAt_25 (by decide) ?_
            refine lv_imul hx hb dX1_placeAt_27 ?_
            refine lv_iload_n hx hb dX1_placeAt_28 rfl (lv_at hl 1 rfl) ?_
            refine lv_iadd hx hb dX1_placeAt_29 ?_
            refine lv_goto (tgt := 34) hx hb dX1_placeAt_30 (by decide) ?_
            exact gw_ireti X hV h dX1_placeAt_34
  exact Y _ _ hV
theorem kc_RX1_31 : gKV RX1 31 yX1_placeAt cX1_placeAt 3 (some .int) 2 := ⟨q_287, q_288, q_289, q_290, q_38, by decide +kernel⟩
def fX1_neighbour (o : Nat) (S : gS) (v1 : Int32) (v2 : Int32) : Option (Int32 × gS) :=
gx_let (v1 - v1 / (8 : Int32) * (8 : Int32)) fun v3_4 =>
gx_let (v1 / (8 : Int32)) fun v4_9 =>
if v2 = 0 then (gx_bind (fX1_placeAt o S v3_4 (v4_9 - (1 : Int32))) fun r46 S46 =>
some (r46, S46)) else
if v2 = 1 then (gx_bind (fX1_placeAt o S (v3_4 + (1 : Int32)) v4_9) fun r56 S56 =>
some (r56, S56)) else
if v2 = 2 then (gx_bind (fX1_placeAt o S v3_4 (v4_9 + (1 : Int32))) fun r66 S66 =>
some (r66, S66)) else
gx_bind (fX1_placeAt o S (v3_4 - (1 : Int32)) v4_9) fun r76 S76 =>
some (r76, S76)
def rmX1_neighbour : Room := { frames := 1, cells := 0, slots := 0, locals := 22 }
set_option maxHeartbeats 4000000 in
set_option maxRecDepth 20000 in
theorem mX1_neighbour (l : Launch) (G : gG) (ad : Nat → Nat) (sz : Nat) (S : gS) {o : Nat} {v1 : Int32} {v2 : Int32} (ho : kX o = 4) {r : Int32} {S' : gS} (h : fX1_neighbour o S v1 v2 = some (r, S')) : gMetI l yX1_neighbour cX1_neighbour 5 (some .int) rmX1_neighbour wdX G ad S sz [.ref (ad o), .int v1, .int v2] r S' := by
  refine gMet_of (by decide) ?_
  intro p e s m below meth c A hA X hnm hV
  have hl := lv_entry ([.ref (ad o), .int v1, .int v2]) (n := 5) (Nat.le_of_ble_eq_true rfl)
  rw [lg_entry_eq]
  generalize (lg_sl ([.ref (ad o), .int v1, .int v2]) ++ List.replicate (5 - (lg_sl ([.ref (ad o), .int v1, .int v2])).length) Slot.unset).toArray = ls at hl ⊢
  have hl : lv_has ls 5 [(0, .ref (ad o)), (1, .int v1), (2, .int v2)] := hl
  obtain ⟨hx, hb, hr, hml, hown, hts, hlk, hK⟩ := id X
  unfold fX1_neighbour at h
  generalize ([.ref (ad o), .int v1, .int v2].toArray : Array Value) = args at X ⊢
  have Y : ∀ (H : Heap) (locs : List Loc), gV wdX G ad A s.heap S H locs → W p l e rmX1_neighbour s m args below meth c H locs 0 0 (MQ below (gQi wdX G ad A (r, S')) args s 0 0 A) (F0 m 0 ls []) := by
    intro H locs hV
    refine lv_iload_n hx hb dX1_neighbour_0 rfl (lv_at hl 1 rfl) ?_
    refine lv_bipush (v := 8) hx hb dX1_neighbour_1 (by decide) ?_
    refine lv_irem hx hb dX1_neighbour_3 (by decide) ?_
    refine lv_topi (fun v3_4 e_4 => ?_)
    replace h := gx_let_e e_4 h
    clear e_4
    refine lv_istore_n (lv' := [(3, .int v3_4), (0, .ref (ad o)), (1, .int v1), (2, .int v2)]) hx hb dX1_neighbour_4 rfl hl (by decide) rfl (fun ls hl => ?_)
    refine lv_iload_n hx hb dX1_neighbour_5 rfl (lv_at hl 2 rfl) ?_
    refine lv_bipush (v := 8) hx hb dX1_neighbour_6 (by decide) ?_
    refine lv_idiv hx hb dX1_neighbour_8 (by decide) ?_
    refine lv_topi (fun v4_9 e_9 => ?_)
    replace h := gx_let_e e_9 h
    clear e_9
    refine lv_istore (lv' := [(4, .int v4_9), (3, .int v3_4), (0, .ref (ad o)), (1, .int v1), (2, .int v2)]) hx hb dX1_neighbour_9 hl (by decide) rfl (fun ls hl => ?_)
    refine lv_iload_n hx hb dX1_neighbour_11 rfl (lv_at hl 4 rfl) ?_
    by_cases c_12_0 : v2 = 0
    · rw [if_pos c_12_0] at h
      refine lv_tableIn (off := 28) (tgt := 40) hx hb dX1_neighbour_12 (by rw [c_12_0]; decide) (by rw [c_12_0]; decide) (by rw [c_12_0]; rfl) (by decide) ?_
      refine lv_aload_n hx hb dX1_neighbour_40 rfl (lv_at hl 2 rfl) ?_
      refine lv_iload_n hx hb dX1_neighbour_41 rfl (lv_at hl 1 rfl) ?_
      refine lv_iload hx hb dX1_neighbour_42 (lv_at hl 0 rfl) ?_
      refine lv_iconst (v := 1) hx hb dX1_neighbour_44 (by decide) ?_
      refine lv_isub hx hb dX1_neighbour_45 ?_
      obtain ⟨r46, S46, k_46, h⟩ := gx_bind_e h
      refine gw_callI X hA hV (gw_runV X hV (o := o) (As := [.int v3_4, .int (v4_9 - (1 : Int32))]) (rest := []) (mX1_placeAt l G ad _ S ho k_46) kc_RX1_31 (iXO_4 ho) rfl rfl rfl hl.1 rfl (Nat.le_of_ble_eq_true rfl) ⟨rfl, rfl⟩ ⟨Nat.le_of_ble_eq_true rfl, Nat.le_of_ble_eq_true rfl⟩ ⟨Nat.le_refl _, Nat.le_refl _⟩ dX1_neighbour_46) (fun H locs hV => ?_)
      exact gw_ireti X hV h dX1_neighbour_49
    · rw [if_neg c_12_0] at h
      by_cases c_12_1 : v2 = 1
      · rw [if_pos c_12_1] at h
        refine lv_tableIn (off := 38) (tgt := 50) hx hb dX1_neighbour_12 (by rw [c_12_1]; decide) (by rw [c_12_1]; decide) (by rw [c_12_1]; rfl) (by decide) ?_
        refine lv_aload_n hx hb dX1_neighbour_50 rfl (lv_at hl 2 rfl) ?_
        refine lv_iload_n hx hb dX1_neighbour_51 rfl (lv_at hl 1 rfl) ?_
        refine lv_iconst (v := 1) hx hb dX1_neighbour_52 (by decide) ?_
        refine lv_iadd hx hb dX1_neighbour_53 ?_
        refine lv_iload hx hb dX1_neighbour_54 (lv_at hl 0 rfl) ?_
        obtain ⟨r56, S56, k_56, h⟩ := gx_bind_e h
        refine gw_callI X hA hV (gw_runV X hV (o := o) (As := [.int (v3_4 + (1 : Int32)), .int v4_9]) (rest := []) (mX1_placeAt l G ad _ S ho k_56) kc_RX1_31 (iXO_4 ho) rfl rfl rfl hl.1 rfl (Nat.le_of_ble_eq_true rfl) ⟨rfl, rfl⟩ ⟨Nat.le_of_ble_eq_true rfl, Nat.le_of_ble_eq_true rfl⟩ ⟨Nat.le_refl _, Nat.le_refl _⟩ dX1_neighbour_56) (fun H locs hV => ?_)
        exact gw_ireti X hV h dX1_neighbour_59
      · rw [if_neg c_12_1] at h
        by_cases c_12_2 : v2 = 2
        · rw [if_pos c_12_2] at h
          refine lv_tableIn (off := 48) (tgt := 60) hx hb dX1_neighbour_12 (by rw [c_12_2]; decide) (by rw [c_12_2]; decide) (by rw [c_12_2]; rfl) (by decide) ?_
          refine lv_aload_n hx hb dX1_neighbour_60 rfl (lv_at hl 2 rfl) ?_
          refine lv_iload_n hx hb dX1_neighbour_61 rfl (lv_at hl 1 rfl) ?_
          refine lv_iload hx hb dX1_neighbour_62 (lv_at hl 0 rfl) ?_
          refine lv_iconst (v := 1) hx hb dX1_neighbour_64 (by decide) ?_
          refine lv_iadd hx hb dX1_neighbour_65 ?_
          obtain ⟨r66, S66, k_66, h⟩ := gx_bind_e h
          refine gw_callI X hA hV (gw_runV X hV (o := o) (As := [.int v3_4, .int (v4_9 + (1 : Int32))]) (rest := []) (mX1_placeAt l G ad _ S ho k_66) kc_RX1_31 (iXO_4 ho) rfl rfl rfl hl.1 rfl (Nat.le_of_ble_eq_true rfl) ⟨rfl, rfl⟩ ⟨Nat.le_of_ble_eq_true rfl, Nat.le_of_ble_eq_true rfl⟩ ⟨Nat.le_refl _, Nat.le_refl _⟩ dX1_neighbour_66) (fun H locs hV => ?_)
          exact gw_ireti X hV h dX1_neighbour_69
        · rw [if_neg c_12_2] at h
          refine lv_tableOut (tgt := 70) hx hb dX1_neighbour_12 (g_tabOut 3 (fun j hj => by
            match j, hj with
            | 0, _ => exact c_12_0
            | 1, _ => exact c_12_1
            | 2, _ => exact c_12_2
            | j + 3, hj => omega)) (by decide) ?_
          refine lv_aload_n hx hb dX1_neighbour_70 rfl (lv_at hl 2 rfl) ?_
          refine lv_iload_n hx hb dX1_neighbour_71 rfl (lv_at hl 1 rfl) ?_
          refine lv_iconst (v := 1) hx hb dX1_neighbour_72 (by decide) ?_
          refine lv_isub hx hb dX1_neighbour_73 ?_
          refine lv_iload hx hb dX1_neighbour_74 (lv_at hl 0 rfl) ?_
          obtain ⟨r76, S76, k_76, h⟩ := gx_bind_e h
          refine gw_callI X hA hV (gw_runV X hV (o := o) (As := [.int (v3_4 - (1 : Int32)), .int v4_9]) (rest := []) (mX1_placeAt l G ad _ S ho k_76) kc_RX1_31 (iXO_4 ho) rfl rfl rfl hl.1 rfl (Nat.le_of_ble_eq_true rfl) ⟨rfl, rfl⟩ ⟨Nat.le_of_ble_eq_true rfl, Nat.le_of_ble_eq_true rfl⟩ ⟨Nat.le_refl _, Nat.le_refl _⟩ dX1_neighbour_76) (fun H locs hV => ?_)
          exact gw_ireti X hV h dX1_neighbour_79
  exact Y _ _ hV
def fX1_cliffs (o : Nat) (S : gS) : Option (Int32 × gS) :=
some ((((gI S o 5) * (gI S o 6)) - (gI S o 4)), S)
def rmX1_cliffs : Room := { frames := 0, cells := 0, slots := 0, locals := 0 }
set_option maxHeartbeats 4000000 in
set_option maxRecDepth 20000 in
theorem mX1_cliffs (l : Launch) (G : gG) (ad : Nat → Nat) (sz : Nat) (S : gS) {o : Nat} (ho : kX o = 4) {r : Int32} {S' : gS} (h : fX1_cliffs o S = some (r, S')) : gMetI l yX1_cliffs cX1_cliffs 1 (some .int) rmX1_cliffs wdX G ad S sz [.ref (ad o)] r S' := by
  refine gMet_of (by decide) ?_
  intro p e s m below meth c A hA X hnm hV
  have hl := lv_entry ([.ref (ad o)]) (n := 1) (Nat.le_of_ble_eq_true rfl)
  rw [lg_entry_eq]
  generalize (lg_sl ([.ref (ad o)]) ++ List.replicate (1 - (lg_sl ([.ref (ad o)])).length) Slot.unset).toArray = ls at hl ⊢
  have hl : lv_has ls 1 [(0, .ref (ad o))] := hl
  obtain ⟨hx, hb, hr, hml, hown, hts, hlk, hK⟩ := id X
  unfold fX1_cliffs at h
  generalize ([.ref (ad o)].toArray : Array Value) = args at X ⊢
  have Y : ∀ (H : Heap) (locs : List Loc), gV wdX G ad A s.heap S H locs → W p l e rmX1_cliffs s m args below meth c H locs 0 0 (MQ below (gQi wdX G ad A (r, S')) args s 0 0 A) (F0 m 0 ls []) := by
    intro H locs hV
    refine lv_aload_n hx hb dX1_cliffs_0 rfl (lv_at hl 0 rfl) ?_
    refine ggX1_24 X hV (o := o) ho dX1_cliffs_1 ?_
    refine lv_aload_n hx hb dX1_cliffs_4 rfl (lv_at hl 0 rfl) ?_
    refine ggX1_28 X hV (o := o) ho dX1_cliffs_5 ?_
    refine lv_imul hx hb dX1_cliffs_8 ?_
    refine lv_aload_n hx hb dX1_cliffs_9 rfl (lv_at hl 0 rfl) ?_
    refine ggX1_35 X hV (o := o) ho dX1_cliffs_10 ?_
    refine lv_isub hx hb dX1_cliffs_13 ?_
    exact gw_ireti X hV h dX1_cliffs_14
  exact Y _ _ hV
def fX1_band (o : Nat) (S : gS) (v1 : Int32) : Option (Int32 × gS) :=
gx_chk v1 64 <|
some (((gA S (o + 1) (Int32.toNatClampNeg v1)) / (1000 : Int32)), S)
def rmX1_band : Room := { frames := 0, cells := 0, slots := 0, locals := 0 }
set_option maxHeartbeats 4000000 in
set_option maxRecDepth 20000 in
theorem mX1_band (l : Launch) (G : gG) (ad : Nat → Nat) (sz : Nat) (S : gS) {o : Nat} {v1 : Int32} (ho : kX o = 4) {r : Int32} {S' : gS} (h : fX1_band o S v1 = some (r, S')) : gMetI l yX1_band cX1_band 2 (some .int) rmX1_band wdX G ad S sz [.ref (ad o), .int v1] r S' := by
  refine gMet_of (by decide) ?_
  intro p e s m below meth c A hA X hnm hV
  have hl := lv_entry ([.ref (ad o), .int v1]) (n := 2) (Nat.le_of_ble_eq_true rfl)
  rw [lg_entry_eq]
  generalize (lg_sl ([.ref (ad o), .int v1]) ++ List.replicate (2 - (lg_sl ([.ref (ad o), .int v1])).length) Slot.unset).toArray = ls at hl ⊢
  have hl : lv_has ls 2 [(0, .ref (ad o)), (1, .int v1)] := hl
  obtain ⟨hx, hb, hr, hml, hown, hts, hlk, hK⟩ := id X
  unfold fX1_band at h
  generalize ([.ref (ad o), .int v1].toArray : Array Value) = args at X ⊢
  have Y : ∀ (H : Heap) (locs : List Loc), gV wdX G ad A s.heap S H locs → W p l e rmX1_band s m args below meth c H locs 0 0 (MQ below (gQi wdX G ad A (r, S')) args s 0 0 A) (F0 m 0 ls []) := by
    intro H locs hV
    refine lv_aload_n hx hb dX1_band_0 rfl (lv_at hl 0 rfl) ?_
    refine ggX1_9 X hV (o := o) ho dX1_band_1 ?_
    refine lv_iload_n hx hb dX1_band_4 rfl (lv_at hl 1 rfl) ?_
    obtain ⟨c_5, h⟩ := gx_chk_e h
    refine gw_iald X hV (iXA_5 (o := (o + 1)) (kX_4_1 ho)) c_5 dX1_band_5 ?_
    refine lv_sipush (v := 1000) hx hb dX1_band_6 (by decide) ?_
    refine lv_idiv hx hb dX1_band_9 (by decide) ?_
    exact gw_ireti X hV h dX1_band_10
  exact Y _ _ hV
def fX1_meltLeft_25 (o : Nat) (S : gS) (v1 : Int32) (v2 : Int64) (t0 : Int32) : Option (Int64 × gS) :=
if t0 = 0 then (some (v2, S)) else
gx_chk v1 64 <|
some ((v2 - ((v2 * (Int32.toInt64 (gA S (o + 3) (Int32.toNatClampNeg v1)))) / (100 : Int64))), S)
def fX1_meltLeft_20 (o : Nat) (S : gS) (v1 : Int32) (v2 : Int64) : Option (Int64 × gS) :=
fX1_meltLeft_25 o S v1 v2 (1 : Int32)
def fX1_meltLeft (o : Nat) (S : gS) (v1 : Int32) (v2 : Int64) : Option (Int64 × gS) :=
gx_chk v1 64 <|
if (gA S (o + 2) (Int32.toNatClampNeg v1)) = (2 : Int32) then (fX1_meltLeft_20 o S v1 v2) else
gx_chk v1 64 <|
if (gA S (o + 2) (Int32.toNatClampNeg v1)) = (3 : Int32) then (fX1_meltLeft_20 o S v1 v2) else
fX1_meltLeft_25 o S v1 v2 (0 : Int32)
def rmX1_meltLeft : Room := { frames := 0, cells := 0, slots := 0, locals := 0 }
set_option maxHeartbeats 4000000 in
set_option maxRecDepth 20000 in
theorem tX1_meltLeft_25 {p : Program} {l : Launch} {e : Env} {s : State} {m : MethodId} {args : Array Value} {below : List Frame} {meth : Method} {c : Code} {G : gG} {ad : Nat → Nat} {A : Nat → Prop} {o : Nat} {z : Int64 × gS} (X : gCx p s m args meth c G cX1_meltLeft RX1 (some .long) 5) (hA : ∀ q, s.heap.size ≤ q → A q) (ho : kX o = 4) (S : gS) (v1 : Int32) (v2 : Int64) (t0 : Int32) (h : fX1_meltLeft_25 o S v1 v2 t0 = some z) {H : Heap} {locs : List Loc} {ls : Array Slot} (hV : gV wdX G ad A s.heap S H locs) (hl : lv_has ls 5 [(0, .ref (ad o)), (1, .int v1), (2, .long v2)]) : W p l e rmX1_meltLeft s m args below meth c H locs 0 0 (MQ below (gQl wdX G ad A z) args s 0 0 A) (F0 m 25 ls [.int t0]) := by
  obtain ⟨hx, hb, hr, hml, hown, hts, hlk, hK⟩ := id X
  unfold fX1_meltLeft_25 at h
  refine lv_istore (lv' := [(4, .int t0), (0, .ref (ad o)), (1, .int v1), (2, .long v2)]) hx hb dX1_meltLeft_25 hl (by decide) rfl (fun ls hl => ?_)
  refine lv_iload hx hb dX1_meltLeft_27 (lv_at hl 0 rfl) ?_
  refine lv_if_eq (tgt := 50) hx hb dX1_meltLeft_29 (by decide) (fun c_29 => ?_) (fun c_29 => ?_)
  · rw [if_pos c_29] at h
    refine lv_lload_n hx hb dX1_meltLeft_50 rfl (lv_at hl 3 rfl) ?_
    exact gw_lret X hV h dX1_meltLeft_51
  · rw [if_neg c_29] at h
    refine lv_lload_n hx hb dX1_meltLeft_32 rfl (lv_at hl 3 rfl) ?_
    refine lv_lload_n hx hb dX1_meltLeft_33 rfl (lv_at hl 3 rfl) ?_
    refine lv_aload_n hx hb dX1_meltLeft_34 rfl (lv_at hl 1 rfl) ?_
    refine ggX1_18 X hV (o := o) ho dX1_meltLeft_35 ?_
    refine lv_iload_n hx hb dX1_meltLeft_38 rfl (lv_at hl 2 rfl) ?_
    obtain ⟨c_39, h⟩ := gx_chk_e h
    refine gw_iald X hV (iXA_5 (o := (o + 3)) (kX_4_3 ho)) c_39 dX1_meltLeft_39 ?_
    refine lv_i2l hx hb dX1_meltLeft_40 rfl ?_
    refine lv_lmul hx hb dX1_meltLeft_41 ?_
    refine lv_ldc2 (v := 100) hx hb hown (hts _ q_384) dX1_meltLeft_42 ?_
    refine lv_ldiv hx hb dX1_meltLeft_45 (by decide) ?_
    refine lv_lsub hx hb dX1_meltLeft_46 ?_
    refine lv_goto (tgt := 51) hx hb dX1_meltLeft_47 (by decide) ?_
    exact gw_lret X hV h dX1_meltLeft_51
set_option maxHeartbeats 4000000 in
set_option maxRecDepth 20000 in
theorem tX1_meltLeft_20 {p : Program} {l : Launch} {e : Env} {s : State} {m : MethodId} {args : Array Value} {below : List Frame} {meth : Method} {c : Code} {G : gG} {ad : Nat → Nat} {A : Nat → Prop} {o : Nat} {z : Int64 × gS} (X : gCx p s m args meth c G cX1_meltLeft RX1 (some .long) 5) (hA : ∀ q, s.heap.size ≤ q → A q) (ho : kX o = 4) (S : gS) (v1 : Int32) (v2 : Int64) (h : fX1_meltLeft_20 o S v1 v2 = some z) {H : Heap} {locs : List Loc} {ls : Array Slot} (hV : gV wdX G ad A s.heap S H locs) (hl : lv_has ls 5 [(0, .ref (ad o)), (1, .int v1), (2, .long v2)]) : W p l e rmX1_meltLeft s m args below meth c H locs 0 0 (MQ below (gQl wdX G ad A z) args s 0 0 A) (F0 m 20 ls []) := by
  obtain ⟨hx, hb, hr, hml, hown, hts, hlk, hK⟩ := id X
  unfold fX1_meltLeft_20 at h
  refine lv_iconst (v := 1) hx hb dX1_meltLeft_20 (by decide) ?_
  refine lv_goto (tgt := 25) hx hb dX1_meltLeft_21 (by decide) ?_
  exact tX1_meltLeft_25 X hA ho _ _ _ _ h hV (lv_sub hl [0, 1, 2] rfl)
set_option maxHeartbeats 4000000 in
set_option maxRecDepth 20000 in
theorem mX1_meltLeft (l : Launch) (G : gG) (ad : Nat → Nat) (sz : Nat) (S : gS) {o : Nat} {v1 : Int32} {v2 : Int64} (ho : kX o = 4) {r : Int64} {S' : gS} (h : fX1_meltLeft o S v1 v2 = some (r, S')) : gMetL l yX1_meltLeft cX1_meltLeft 5 (some .long) rmX1_meltLeft wdX G ad S sz [.ref (ad o), .int v1, .long v2] r S' := by
  refine gMet_of (by decide) ?_
  intro p e s m below meth c A hA X hnm hV
  have hl := lv_entry ([.ref (ad o), .int v1, .long v2]) (n := 5) (Nat.le_of_ble_eq_true rfl)
  rw [lg_entry_eq]
  generalize (lg_sl ([.ref (ad o), .int v1, .long v2]) ++ List.replicate (5 - (lg_sl ([.ref (ad o), .int v1, .long v2])).length) Slot.unset).toArray = ls at hl ⊢
  have hl : lv_has ls 5 [(0, .ref (ad o)), (1, .int v1), (2, .long v2)] := hl
  obtain ⟨hx, hb, hr, hml, hown, hts, hlk, hK⟩ := id X
  unfold fX1_meltLeft at h
  generalize ([.ref (ad o), .int v1, .long v2].toArray : Array Value) = args at X ⊢
  have Y : ∀ (H : Heap) (locs : List Loc), gV wdX G ad A s.heap S H locs → W p l e rmX1_meltLeft s m args below meth c H locs 0 0 (MQ below (gQl wdX G ad A (r, S')) args s 0 0 A) (F0 m 0 ls []) := by
    intro H locs hV
    refine lv_aload_n hx hb dX1_meltLeft_0 rfl (lv_at hl 0 rfl) ?_
    refine ggX1_15 X hV (o := o) ho dX1_meltLeft_1 ?_
    refine lv_iload_n hx hb dX1_meltLeft_4 rfl (lv_at hl 1 rfl) ?_
    obtain ⟨c_5, h⟩ := gx_chk_e h
    refine gw_iald X hV (iXA_5 (o := (o + 2)) (kX_4_2 ho)) c_5 dX1_meltLeft_5 ?_
    refine lv_iconst (v := 2) hx hb dX1_meltLeft_6 (by decide) ?_
    refine lv_icmp_eq (tgt := 20) hx hb dX1_meltLeft_7 (by decide) (fun c_7 => ?_) (fun c_7 => ?_)
    · rw [if_pos c_7] at h
      exact tX1_meltLeft_20 X hA ho _ _ _ h hV (lv_sub hl [0, 1, 2] rfl)
    · rw [if_neg c_7] at h
      refine lv_aload_n hx hb dX1_meltLeft_10 rfl (lv_at hl 0 rfl) ?_
      refine ggX1_15 X hV (o := o) ho dX1_meltLeft_11 ?_
      refine lv_iload_n hx hb dX1_meltLeft_14 rfl (lv_at hl 1 rfl) ?_
      obtain ⟨c_15, h⟩ := gx_chk_e h
      refine gw_iald X hV (iXA_5 (o := (o + 2)) (kX_4_2 ho)) c_15 dX1_meltLeft_15 ?_
      refine lv_iconst (v := 3) hx hb dX1_meltLeft_16 (by decide) ?_
      refine lv_icmp_ne (tgt := 24) hx hb dX1_meltLeft_17 (by decide) (fun c_17 => ?_) (fun c_17 => ?_)
      · rw [if_neg c_17] at h
        refine lv_iconst (v := 0) hx hb dX1_meltLeft_24 (by decide) ?_
        exact tX1_meltLeft_25 X hA ho _ _ _ _ h hV (lv_sub hl [0, 1, 2] rfl)
      · rw [if_pos c_17] at h
        exact tX1_meltLeft_20 X hA ho _ _ _ h hV (lv_sub hl [0, 1, 2] rfl)
  exact Y _ _ hV
def fX1_begin (o : Nat) (S : gS) (v1 : Int32) (v2 : Int32) : Option (Unit × gS) :=
gx_let (gI_up S o 5 v1) fun S2 =>
gx_let (gI_up S2 o 6 v2) fun S7 =>
gx_let (gI_up S7 o 4 (0 : Int32)) fun S12 =>
some ((), S12)
def rmX1_begin : Room := { frames := 0, cells := 0, slots := 0, locals := 0 }
set_option maxHeartbeats 4000000 in
set_option maxRecDepth 20000 in
theorem mX1_begin (l : Launch) (G : gG) (ad : Nat → Nat) (sz : Nat) (S : gS) {o : Nat} {v1 : Int32} {v2 : Int32} (ho : kX o = 4) {r : Unit} {S' : gS} (h : fX1_begin o S v1 v2 = some (r, S')) : gMetV l yX1_begin cX1_begin 3 none rmX1_begin wdX G ad S sz [.ref (ad o), .int v1, .int v2] r S' := by
  refine gMet_of (by decide) ?_
  intro p e s m below meth c A hA X hnm hV
  have hl := lv_entry ([.ref (ad o), .int v1, .int v2]) (n := 3) (Nat.le_of_ble_eq_true rfl)
  rw [lg_entry_eq]
  generalize (lg_sl ([.ref (ad o), .int v1, .int v2]) ++ List.replicate (3 - (lg_sl ([.ref (ad o), .int v1, .int v2])).length) Slot.unset).toArray = ls at hl ⊢
  have hl : lv_has ls 3 [(0, .ref (ad o)), (1, .int v1), (2, .int v2)] := hl
  obtain ⟨hx, hb, hr, hml, hown, hts, hlk, hK⟩ := id X
  unfold fX1_begin at h
  generalize ([.ref (ad o), .int v1, .int v2].toArray : Array Value) = args at X ⊢
  have Y : ∀ (H : Heap) (locs : List Loc), gV wdX G ad A s.heap S H locs → W p l e rmX1_begin s m args below meth c H locs 0 0 (MQ below (gQv wdX G ad A (r, S')) args s 0 0 A) (F0 m 0 ls []) := by
    intro H locs hV
    refine lv_aload_n hx hb dX1_begin_0 rfl (lv_at hl 0 rfl) ?_
    refine lv_iload_n hx hb dX1_begin_1 rfl (lv_at hl 1 rfl) ?_
    refine gpX1_24 X hV (o := o) ho dX1_begin_2 (fun S2 e_2 H locs hV => ?_)
    replace h := gx_let_e e_2 h
    clear e_2
    refine lv_aload_n hx hb dX1_begin_5 rfl (lv_at hl 0 rfl) ?_
    refine lv_iload_n hx hb dX1_begin_6 rfl (lv_at hl 2 rfl) ?_
    refine gpX1_28 X hV (o := o) ho dX1_begin_7 (fun S7 e_7 H locs hV => ?_)
    replace h := gx_let_e e_7 h
    clear e_7
    refine lv_aload_n hx hb dX1_begin_10 rfl (lv_at hl 0 rfl) ?_
    refine lv_iconst (v := 0) hx hb dX1_begin_11 (by decide) ?_
    refine gpX1_35 X hV (o := o) ho dX1_begin_12 (fun S12 e_12 H locs hV => ?_)
    replace h := gx_let_e e_12 h
    clear e_12
    exact gw_vret X hV h dX1_begin_15
  exact Y _ _ hV
def fX1_listIfOpen (o : Nat) (S : gS) (v1 : Int32) : Option (Unit × gS) :=
gx_chk v1 64 <|
if (gA S (o + 2) (Int32.toNatClampNeg v1)) = (4 : Int32) then (some ((), S)) else
if (64 : Int32) ≤ (gI S o 4) then (some ((), S)) else
gx_chk (gI S o 4) 64 <|
gx_let (gA_up S (o + 4) (Int32.toNatClampNeg (gI S o 4)) v1) fun S28 =>
gx_let (gI_up S28 o 4 ((gI S28 o 4) + (1 : Int32))) fun S36 =>
some ((), S36)
def rmX1_listIfOpen : Room := { frames := 0, cells := 0, slots := 0, locals := 0 }
set_option maxHeartbeats 4000000 in
set_option maxRecDepth 20000 in
theorem mX1_listIfOpen (l : Launch) (G : gG) (ad : Nat → Nat) (sz : Nat) (S : gS) {o : Nat} {v1 : Int32} (ho : kX o = 4) {r : Unit} {S' : gS} (h : fX1_listIfOpen o S v1 = some (r, S')) : gMetV l yX1_listIfOpen cX1_listIfOpen 2 none rmX1_listIfOpen wdX G ad S sz [.ref (ad o), .int v1] r S' := by
  refine gMet_of (by decide) ?_
  intro p e s m below meth c A hA X hnm hV
  have hl := lv_entry ([.ref (ad o), .int v1]) (n := 2) (Nat.le_of_ble_eq_true rfl)
  rw [lg_entry_eq]
  generalize (lg_sl ([.ref (ad o), .int v1]) ++ List.replicate (2 - (lg_sl ([.ref (ad o), .int v1])).length) Slot.unset).toArray = ls at hl ⊢
  have hl : lv_has ls 2 [(0, .ref (ad o)), (1, .int v1)] := hl
  obtain ⟨hx, hb, hr, hml, hown, hts, hlk, hK⟩ := id X
  unfold fX1_listIfOpen at h
  generalize ([.ref (ad o), .int v1].toArray : Array Value) = args at X ⊢
  have Y : ∀ (H : Heap) (locs : List Loc), gV wdX G ad A s.heap S H locs → W p l e rmX1_listIfOpen s m args below meth c H locs 0 0 (MQ below (gQv wdX G ad A (r, S')) args s 0 0 A) (F0 m 0 ls []) := by
    intro H locs hV
    refine lv_aload_n hx hb dX1_listIfOpen_0 rfl (lv_at hl 0 rfl) ?_
    refine ggX1_15 X hV (o := o) ho dX1_listIfOpen_1 ?_
    refine lv_iload_n hx hb dX1_listIfOpen_4 rfl (lv_at hl 1 rfl) ?_
    obtain ⟨c_5, h⟩ := gx_chk_e h
    refine gw_iald X hV (iXA_5 (o := (o + 2)) (kX_4_2 ho)) c_5 dX1_listIfOpen_5 ?_
    refine lv_iconst (v := 4) hx hb dX1_listIfOpen_6 (by decide) ?_
    refine lv_icmp_eq (tgt := 39) hx hb dX1_listIfOpen_7 (by decide) (fun c_7 => ?_) (fun c_7 => ?_)
    · rw [if_pos c_7] at h
      exact gw_vret X hV h dX1_listIfOpen_39
    · rw [if_neg c_7] at h
      refine lv_aload_n hx hb dX1_listIfOpen_10 rfl (lv_at hl 0 rfl) ?_
      refine ggX1_35 X hV (o := o) ho dX1_listIfOpen_11 ?_
      refine lv_bipush (v := 64) hx hb dX1_listIfOpen_14 (by decide) ?_
      refine lv_icmp_ge (tgt := 39) hx hb dX1_listIfOpen_16 (by decide) (fun c_16 => ?_) (fun c_16 => ?_)
      · rw [if_pos c_16] at h
        exact gw_vret X hV h dX1_listIfOpen_39
      · rw [if_neg c_16] at h
        refine lv_aload_n hx hb dX1_listIfOpen_19 rfl (lv_at hl 0 rfl) ?_
        refine ggX1_21 X hV (o := o) ho dX1_listIfOpen_20 ?_
        refine lv_aload_n hx hb dX1_listIfOpen_23 rfl (lv_at hl 0 rfl) ?_
        refine ggX1_35 X hV (o := o) ho dX1_listIfOpen_24 ?_
        refine lv_iload_n hx hb dX1_listIfOpen_27 rfl (lv_at hl 1 rfl) ?_
        obtain ⟨c_28, h⟩ := gx_chk_e h
        refine gw_iast X hV (iXA_5 (o := (o + 4)) (kX_4_4 ho)) c_28 dX1_listIfOpen_28 (fun S28 e_28 H locs hV => ?_)
        replace h := gx_let_e e_28 h
        clear e_28
        refine lv_aload_n hx hb dX1_listIfOpen_29 rfl (lv_at hl 0 rfl) ?_
        refine lv_dup hx hb dX1_listIfOpen_30 rfl ?_
        refine ggX1_35 X hV (o := o) ho dX1_listIfOpen_31 ?_
        refine lv_iconst (v := 1) hx hb dX1_listIfOpen_34 (by decide) ?_
        refine lv_iadd hx hb dX1_listIfOpen_35 ?_
        refine gpX1_35 X hV (o := o) ho dX1_listIfOpen_36 (fun S36 e_36 H locs hV => ?_)
        replace h := gx_let_e e_36 h
        clear e_36
        exact gw_vret X hV h dX1_listIfOpen_39
  exact Y _ _ hV
theorem kc_RX1_42 : gKV RX1 42 yX1_listIfOpen cX1_listIfOpen 2 none 1 := ⟨q_292, q_294, q_2, q_295, q_38, by decide +kernel⟩
def fX1_settle_70 (o : Nat) (S : gS) (v5 : Int32) (t0 : Nat) (t1 : Int32) (t2 : Int32) : Option (Unit × gS) :=
gx_chk t1 64 <|
gx_let (gA_up S t0 (Int32.toNatClampNeg t1) t2) fun S70 =>
gx_chk v5 64 <|
gx_let (gA_up S70 (o + 3) (Int32.toNatClampNeg v5) (0 : Int32)) fun S78 =>
gx_bind (fX1_listIfOpen o S78 v5) fun r82 S82 =>
some ((), S82)
def fX1_settle_53 (o : Nat) (S : gS) (v5 : Int32) (v6 : Int32) (t0 : Nat) (t1 : Int32) (t2 : Int32) : Option (Unit × gS) :=
gx_chk t1 64 <|
gx_let (gA_up S t0 (Int32.toNatClampNeg t1) t2) fun S53 =>
if v6 = 0 then (fX1_settle_70 o S53 v5 (o + 2) v5 (4 : Int32)) else
fX1_settle_70 o S53 v5 (o + 2) v5 (0 : Int32)
def fX1_settle_34 (o : Nat) (S : gS) (v3 : Int64) (v5 : Int32) (t0 : Int32) : Option (Unit × gS) :=
if t0 = 0 then (fX1_settle_53 o S v5 t0 (o + 1) v5 (0 : Int32)) else
fX1_settle_53 o S v5 t0 (o + 1) v5 (Int64.toInt32 v3)
def fX1_settle_33 (o : Nat) (S : gS) (v3 : Int64) (v5 : Int32) : Option (Unit × gS) :=
fX1_settle_34 o S v3 v5 (0 : Int32)
def fX1_settle (o : Nat) (S : gS) (v1 : Int32) (v2 : Int32) (v3 : Int64) : Option (Unit × gS) :=
gx_bind (fX1_placeAt o S v1 v2) fun r3 S3 =>
if r3 = (-1 : Int32) then (some ((), S3)) else
if v3 < (0 : Int64) then (fX1_settle_33 o S3 v3 r3) else
if (9999 : Int64) < v3 then (fX1_settle_33 o S3 v3 r3) else
fX1_settle_34 o S3 v3 r3 (1 : Int32)
def rmX1_settle : Room := { frames := 1, cells := 0, slots := 0, locals := 22 }
set_option maxHeartbeats 4000000 in
set_option maxRecDepth 20000 in
theorem tX1_settle_70 {p : Program} {l : Launch} {e : Env} {s : State} {m : MethodId} {args : Array Value} {below : List Frame} {meth : Method} {c : Code} {G : gG} {ad : Nat → Nat} {A : Nat → Prop} {o : Nat} {z : Unit × gS} (X : gCx p s m args meth c G cX1_settle RX1 none 7) (hA : ∀ q, s.heap.size ≤ q → A q) (ho : kX o = 4) (S : gS) (v5 : Int32) (t0 : Nat) (t1 : Int32) (t2 : Int32) (f_t0 : kX t0 = 5) (h : fX1_settle_70 o S v5 t0 t1 t2 = some z) {H : Heap} {locs : List Loc} {ls : Array Slot} (hV : gV wdX G ad A s.heap S H locs) (hl : lv_has ls 7 [(0, .ref (ad o)), (5, .int v5)]) : W p l e rmX1_settle s m args below meth c H locs 0 0 (MQ below (gQv wdX G ad A z) args s 0 0 A) (F0 m 70 ls [.int t2, .int t1, .ref (ad t0)]) := by
  obtain ⟨hx, hb, hr, hml, hown, hts, hlk, hK⟩ := id X
  unfold fX1_settle_70 at h
  obtain ⟨c_70, h⟩ := gx_chk_e h
  refine gw_iast X hV (iXA_5 (o := t0) f_t0) c_70 dX1_settle_70 (fun S70 e_70 H locs hV => ?_)
  replace h := gx_let_e e_70 h
  clear e_70
  refine lv_aload_n hx hb dX1_settle_71 rfl (lv_at hl 0 rfl) ?_
  refine ggX1_18 X hV (o := o) ho dX1_settle_72 ?_
  refine lv_iload hx hb dX1_settle_75 (lv_at hl 1 rfl) ?_
  refine lv_iconst (v := 0) hx hb dX1_settle_77 (by decide) ?_
  obtain ⟨c_78, h⟩ := gx_chk_e h
  refine gw_iast X hV (iXA_5 (o := (o + 3)) (kX_4_3 ho)) c_78 dX1_settle_78 (fun S78 e_78 H locs hV => ?_)
  replace h := gx_let_e e_78 h
  clear e_78
  refine lv_aload_n hx hb dX1_settle_79 rfl (lv_at hl 0 rfl) ?_
  refine lv_iload hx hb dX1_settle_80 (lv_at hl 1 rfl) ?_
  obtain ⟨r82, S82, k_82, h⟩ := gx_bind_e h
  refine gw_callv X hA hV (gw_runV X hV (o := o) (As := [.int v5]) (rest := []) (mX1_listIfOpen l G ad _ S78 ho k_82) kc_RX1_42 (iXO_4 ho) rfl rfl rfl hl.1 rfl (Nat.le_of_ble_eq_true rfl) ⟨rfl, rfl⟩ ⟨Nat.le_of_ble_eq_true rfl, Nat.le_of_ble_eq_true rfl⟩ ⟨Nat.le_refl _, Nat.le_refl _⟩ dX1_settle_82) (fun H locs hV => ?_)
  exact gw_vret X hV h dX1_settle_85
set_option maxHeartbeats 4000000 in
set_option maxRecDepth 20000 in
theorem tX1_settle_53 {p : Program} {l : Launch} {e : Env} {s : State} {m : MethodId} {args : Array Value} {below : List Frame} {meth : Method} {c : Code} {G : gG} {ad : Nat → Nat} {A : Nat → Prop} {o : Nat} {z : Unit × gS} (X : gCx p s m args meth c G cX1_settle RX1 none 7) (hA : ∀ q, s.heap.size ≤ q → A q) (ho : kX o = 4) (S : gS) (v5 : Int32) (v6 : Int32) (t0 : Nat) (t1 : Int32) (t2 : Int32) (f_t0 : kX t0 = 5) (h : fX1_settle_53 o S v5 v6 t0 t1 t2 = some z) {H : Heap} {locs : List Loc} {ls : Array Slot} (hV : gV wdX G ad A s.heap S H locs) (hl : lv_has ls 7 [(0, .ref (ad o)), (5, .int v5), (6, .int v6)]) : W p l e rmX1_settle s m args below meth c H locs 0 0 (MQ below (gQv wdX G ad A z) args s 0 0 A) (F0 m 53 ls [.int t2, .int t1, .ref (ad t0)]) := by
  obtain ⟨hx, hb, hr, hml, hown, hts, hlk, hK⟩ := id X
  unfold fX1_settle_53 at h
  obtain ⟨c_53, h⟩ := gx_chk_e h
  refine gw_iast X hV (iXA_5 (o := t0) f_t0) c_53 dX1_settle_53 (fun S53 e_53 H locs hV => ?_)
  replace h := gx_let_e e_53 h
  clear e_53
  refine lv_aload_n hx hb dX1_settle_54 rfl (lv_at hl 0 rfl) ?_
  refine ggX1_15 X hV (o := o) ho dX1_settle_55 ?_
  refine lv_iload hx hb dX1_settle_58 (lv_at hl 1 rfl) ?_
  refine lv_iload hx hb dX1_settle_60 (lv_at hl 2 rfl) ?_
  refine lv_if_eq (tgt := 69) hx hb dX1_settle_62 (by decide) (fun c_62 => ?_) (fun c_62 => ?_)
  · rw [if_pos c_62] at h
    refine lv_iconst (v := 4) hx hb dX1_settle_69 (by decide) ?_
    exact tX1_settle_70 X hA ho _ _ _ _ _ (kX_4_2 ho) h hV (lv_sub hl [0, 1] rfl)
  · rw [if_neg c_62] at h
    refine lv_iconst (v := 0) hx hb dX1_settle_65 (by decide) ?_
    refine lv_goto (tgt := 70) hx hb dX1_settle_66 (by decide) ?_
    exact tX1_settle_70 X hA ho _ _ _ _ _ (kX_4_2 ho) h hV (lv_sub hl [0, 1] rfl)
set_option maxHeartbeats 4000000 in
set_option maxRecDepth 20000 in
theorem tX1_settle_34 {p : Program} {l : Launch} {e : Env} {s : State} {m : MethodId} {args : Array Value} {below : List Frame} {meth : Method} {c : Code} {G : gG} {ad : Nat → Nat} {A : Nat → Prop} {o : Nat} {z : Unit × gS} (X : gCx p s m args meth c G cX1_settle RX1 none 7) (hA : ∀ q, s.heap.size ≤ q → A q) (ho : kX o = 4) (S : gS) (v3 : Int64) (v5 : Int32) (t0 : Int32) (h : fX1_settle_34 o S v3 v5 t0 = some z) {H : Heap} {locs : List Loc} {ls : Array Slot} (hV : gV wdX G ad A s.heap S H locs) (hl : lv_has ls 7 [(0, .ref (ad o)), (3, .long v3), (5, .int v5)]) : W p l e rmX1_settle s m args below meth c H locs 0 0 (MQ below (gQv wdX G ad A z) args s 0 0 A) (F0 m 34 ls [.int t0]) := by
  obtain ⟨hx, hb, hr, hml, hown, hts, hlk, hK⟩ := id X
  unfold fX1_settle_34 at h
  refine lv_istore (lv' := [(6, .int t0), (0, .ref (ad o)), (3, .long v3), (5, .int v5)]) hx hb dX1_settle_34 hl (by decide) rfl (fun ls hl => ?_)
  refine lv_aload_n hx hb dX1_settle_36 rfl (lv_at hl 1 rfl) ?_
  refine ggX1_9 X hV (o := o) ho dX1_settle_37 ?_
  refine lv_iload hx hb dX1_settle_40 (lv_at hl 3 rfl) ?_
  refine lv_iload hx hb dX1_settle_42 (lv_at hl 0 rfl) ?_
  refine lv_if_eq (tgt := 52) hx hb dX1_settle_44 (by decide) (fun c_44 => ?_) (fun c_44 => ?_)
  · rw [if_pos c_44] at h
    refine lv_iconst (v := 0) hx hb dX1_settle_52 (by decide) ?_
    exact tX1_settle_53 X hA ho _ _ _ _ _ _ (kX_4_1 ho) h hV (lv_sub hl [1, 3, 0] rfl)
  · rw [if_neg c_44] at h
    refine lv_lload_n hx hb dX1_settle_47 rfl (lv_at hl 2 rfl) ?_
    refine lv_l2i hx hb dX1_settle_48 rfl ?_
    refine lv_goto (tgt := 53) hx hb dX1_settle_49 (by decide) ?_
    exact tX1_settle_53 X hA ho _ _ _ _ _ _ (kX_4_1 ho) h hV (lv_sub hl [1, 3, 0] rfl)
set_option maxHeartbeats 4000000 in
set_option maxRecDepth 20000 in
theorem tX1_settle_33 {p : Program} {l : Launch} {e : Env} {s : State} {m : MethodId} {args : Array Value} {below : List Frame} {meth : Method} {c : Code} {G : gG} {ad : Nat → Nat} {A : Nat → Prop} {o : Nat} {z : Unit × gS} (X : gCx p s m args meth c G cX1_settle RX1 none 7) (hA : ∀ q, s.heap.size ≤ q → A q) (ho : kX o = 4) (S : gS) (v3 : Int64) (v5 : Int32) (h : fX1_settle_33 o S v3 v5 = some z) {H : Heap} {locs : List Loc} {ls : Array Slot} (hV : gV wdX G ad A s.heap S H locs) (hl : lv_has ls 7 [(0, .ref (ad o)), (3, .long v3), (5, .int v5)]) : W p l e rmX1_settle s m args below meth c H locs 0 0 (MQ below (gQv wdX G ad A z) args s 0 0 A) (F0 m 33 ls []) := by
  obtain ⟨hx, hb, hr, hml, hown, hts, hlk, hK⟩ := id X
  unfold fX1_settle_33 at h
  refine lv_iconst (v := 0) hx hb dX1_settle_33 (by decide) ?_
  exact tX1_settle_34 X hA ho _ _ _ _ h hV (lv_sub hl [0, 1, 2] rfl)
set_option maxHeartbeats 4000000 in
set_option maxRecDepth 20000 in
theorem mX1_settle (l : Launch) (G : gG) (ad : Nat → Nat) (sz : Nat) (S : gS) {o : Nat} {v1 : Int32} {v2 : Int32} {v3 : Int64} (ho : kX o = 4) {r : Unit} {S' : gS} (h : fX1_settle o S v1 v2 v3 = some (r, S')) : gMetV l yX1_settle cX1_settle 7 none rmX1_settle wdX G ad S sz [.ref (ad o), .int v1, .int v2, .long v3] r S' := by
  refine gMet_of (by decide) ?_
  intro p e s m below meth c A hA X hnm hV
  have hl := lv_entry ([.ref (ad o), .int v1, .int v2, .long v3]) (n := 7) (Nat.le_of_ble_eq_true rfl)
  rw [lg_entry_eq]
  generalize (lg_sl ([.ref (ad o), .int v1, .int v2, .long v3]) ++ List.replicate (7 - (lg_sl ([.ref (ad o), .int v1, .int v2, .long v3])).length) Slot.unset).toArray = ls at hl ⊢
  have hl : lv_has ls 7 [(0, .ref (ad o)), (1, .int v1), (2, .int v2), (3, .long v3)] := hl
  obtain ⟨hx, hb, hr, hml, hown, hts, hlk, hK⟩ := id X
  unfold fX1_settle at h
  generalize ([.ref (ad o), .int v1, .int v2, .long v3].toArray : Array Value) = args at X ⊢
  have Y : ∀ (H : Heap) (locs : List Loc), gV wdX G ad A s.heap S H locs → W p l e rmX1_settle s m args below meth c H locs 0 0 (MQ below (gQv wdX G ad A (r, S')) args s 0 0 A) (F0 m 0 ls []) := by
    intro H locs hV
    refine lv_aload_n hx hb dX1_settle_0 rfl (lv_at hl 0 rfl) ?_
    refine lv_iload_n hx hb dX1_settle_1 rfl (lv_at hl 1 rfl) ?_
    refine lv_iload_n hx hb dX1_settle_2 rfl (lv_at hl 2 rfl) ?_
    obtain ⟨r3, S3, k_3, h⟩ := gx_bind_e h
    refine gw_callI X hA hV (gw_runV X hV (o := o) (As := [.int v1, .int v2]) (rest := []) (mX1_placeAt l G ad _ S ho k_3) kc_RX1_31 (iXO_4 ho) rfl rfl rfl hl.1 rfl (Nat.le_of_ble_eq_true rfl) ⟨rfl, rfl⟩ ⟨Nat.le_of_ble_eq_true rfl, Nat.le_of_ble_eq_true rfl⟩ ⟨Nat.le_refl _, Nat.le_refl _⟩ dX1_settle_3) (fun H locs hV => ?_)
    refine lv_istore (lv' := [(5, .int r3), (0, .ref (ad o)), (1, .int v1), (2, .int v2), (3, .long v3)]) hx hb dX1_settle_6 hl (by decide) rfl (fun ls hl => ?_)
    refine lv_iload hx hb dX1_settle_8 (lv_at hl 0 rfl) ?_
    refine lv_iconst (v := -1) hx hb dX1_settle_10 (by decide) ?_
    refine lv_icmp_ne (tgt := 15) hx hb dX1_settle_11 (by decide) (fun c_11 => ?_) (fun c_11 => ?_)
    · rw [if_neg c_11] at h
      refine lv_lload_n hx hb dX1_settle_15 rfl (lv_at hl 4 rfl) ?_
      refine lv_lconst (v := 0) hx hb dX1_settle_16 (by decide) ?_
      refine gw_cmp_lt (tgt := 33) X dX1_settle_17 dX1_settle_18 (by decide) (fun c_17 => ?_) (fun c_17 => ?_)
      · rw [if_pos c_17] at h
        exact tX1_settle_33 X hA ho _ _ _ h hV (lv_sub hl [1, 4, 0] rfl)
      · rw [if_neg c_17] at h
        refine lv_lload_n hx hb dX1_settle_21 rfl (lv_at hl 4 rfl) ?_
        refine lv_ldc2 (v := 9999) hx hb hown (hts _ q_291) dX1_settle_22 ?_
        refine gw_cmp_gt (tgt := 33) X dX1_settle_25 dX1_settle_26 (by decide) (fun c_25 => ?_) (fun c_25 => ?_)
        · rw [if_pos c_25] at h
          exact tX1_settle_33 X hA ho _ _ _ h hV (lv_sub hl [1, 4, 0] rfl)
        · rw [if_neg c_25] at h
          refine lv_iconst (v := 1) hx hb dX1_settle_29 (by decide) ?_
          refine lv_goto (tgt := 34) hx hb dX1_settle_30 (by decide) ?_
          exact tX1_settle_34 X hA ho _ _ _ _ h hV (lv_sub hl [1, 4, 0] rfl)
    · rw [if_pos c_11] at h
      exact gw_vret X hV h dX1_settle_14
  exact Y _ _ hV
def fX1_settleAs (o : Nat) (a2 : Nat) (S : gS) (v1 : Int32) (v3 : Int32) : Option (Unit × gS) :=
gx_chk v3 64 <|
gx_chk v1 64 <|
gx_let (gA_up S (o + 1) (Int32.toNatClampNeg v1) (gA S (a2 + 1) (Int32.toNatClampNeg v3))) fun S11 =>
gx_chk v3 64 <|
gx_chk v1 64 <|
gx_let (gA_up S11 (o + 2) (Int32.toNatClampNeg v1) (gA S11 (a2 + 2) (Int32.toNatClampNeg v3))) fun S23 =>
gx_chk v3 64 <|
gx_chk v1 64 <|
gx_let (gA_up S23 (o + 3) (Int32.toNatClampNeg v1) (gA S23 (a2 + 3) (Int32.toNatClampNeg v3))) fun S35 =>
gx_bind (fX1_listIfOpen o S35 v1) fun r38 S38 =>
some ((), S38)
def rmX1_settleAs : Room := { frames := 1, cells := 0, slots := 0, locals := 21 }
set_option maxHeartbeats 4000000 in
set_option maxRecDepth 20000 in
theorem mX1_settleAs (l : Launch) (G : gG) (ad : Nat → Nat) (sz : Nat) (S : gS) {o : Nat} {a2 : Nat} {v1 : Int32} {v3 : Int32} (ho : kX o = 4) (h2 : kX a2 = 4) {r : Unit} {S' : gS} (h : fX1_settleAs o a2 S v1 v3 = some (r, S')) : gMetV l yX1_settleAs cX1_settleAs 4 none rmX1_settleAs wdX G ad S sz [.ref (ad o), .int v1, .ref (ad a2), .int v3] r S' := by
  refine gMet_of (by decide) ?_
  intro p e s m below meth c A hA X hnm hV
  have hl := lv_entry ([.ref (ad o), .int v1, .ref (ad a2), .int v3]) (n := 4) (Nat.le_of_ble_eq_true rfl)
  rw [lg_entry_eq]
  generalize (lg_sl ([.ref (ad o), .int v1, .ref (ad a2), .int v3]) ++ List.replicate (4 - (lg_sl ([.ref (ad o), .int v1, .ref (ad a2), .int v3])).length) Slot.unset).toArray = ls at hl ⊢
  have hl : lv_has ls 4 [(0, .ref (ad o)), (1, .int v1), (2, .ref (ad a2)), (3, .int v3)] := hl
  obtain ⟨hx, hb, hr, hml, hown, hts, hlk, hK⟩ := id X
  unfold fX1_settleAs at h
  generalize ([.ref (ad o), .int v1, .ref (ad a2), .int v3].toArray : Array Value) = args at X ⊢
  have Y : ∀ (H : Heap) (locs : List Loc), gV wdX G ad A s.heap S H locs → W p l e rmX1_settleAs s m args below meth c H locs 0 0 (MQ below (gQv wdX G ad A (r, S')) args s 0 0 A) (F0 m 0 ls []) := by
    intro H locs hV
    refine lv_aload_n hx hb dX1_settleAs_0 rfl (lv_at hl 0 rfl) ?_
    refine ggX1_9 X hV (o := o) ho dX1_settleAs_1 ?_
    refine lv_iload_n hx hb dX1_settleAs_4 rfl (lv_at hl 1 rfl) ?_
    refine lv_aload_n hx hb dX1_settleAs_5 rfl (lv_at hl 2 rfl) ?_
    refine ggX1_9 X hV (o := a2) h2 dX1_settleAs_6 ?_
    refine lv_iload_n hx hb dX1_settleAs_9 rfl (lv_at hl 3 rfl) ?_
    obtain ⟨c_10, h⟩ := gx_chk_e h
    refine gw_iald X hV (iXA_5 (o := (a2 + 1)) (kX_4_1 h2)) c_10 dX1_settleAs_10 ?_
    obtain ⟨c_11, h⟩ := gx_chk_e h
    refine gw_iast X hV (iXA_5 (o := (o + 1)) (kX_4_1 ho)) c_11 dX1_settleAs_11 (fun S11 e_11 H locs hV => ?_)
    replace h := gx_let_e e_11 h
    clear e_11
    refine lv_aload_n hx hb dX1_settleAs_12 rfl (lv_at hl 0 rfl) ?_
    refine ggX1_15 X hV (o := o) ho dX1_settleAs_13 ?_
    refine lv_iload_n hx hb dX1_settleAs_16 rfl (lv_at hl 1 rfl) ?_
    refine lv_aload_n hx hb dX1_settleAs_17 rfl (lv_at hl 2 rfl) ?_
    refine ggX1_15 X hV (o := a2) h2 dX1_settleAs_18 ?_
    refine lv_iload_n hx hb dX1_settleAs_21 rfl (lv_at hl 3 rfl) ?_
    obtain ⟨c_22, h⟩ := gx_chk_e h
    refine gw_iald X hV (iXA_5 (o := (a2 + 2)) (kX_4_2 h2)) c_22 dX1_settleAs_22 ?_
    obtain ⟨c_23, h⟩ := gx_chk_e h
    refine gw_iast X hV (iXA_5 (o := (o + 2)) (kX_4_2 ho)) c_23 dX1_settleAs_23 (fun S23 e_23 H locs hV => ?_)
    replace h := gx_let_e e_23 h
    clear e_23
    refine lv_aload_n hx hb dX1_settleAs_24 rfl (lv_at hl 0 rfl) ?_
    refine ggX1_18 X hV (o := o) ho dX1_settleAs_25 ?_
    refine lv_iload_n hx hb dX1_settleAs_28 rfl (lv_at hl 1 rfl) ?_
    refine lv_aload_n hx hb dX1_settleAs_29 rfl (lv_at hl 2 rfl) ?_
    refine ggX1_18 X hV (o := a2) h2 dX1_settleAs_30 ?_
    refine lv_iload_n hx hb dX1_settleAs_33 rfl (lv_at hl 3 rfl) ?_
    obtain ⟨c_34, h⟩ := gx_chk_e h
    refine gw_iald X hV (iXA_5 (o := (a2 + 3)) (kX_4_3 h2)) c_34 dX1_settleAs_34 ?_
    obtain ⟨c_35, h⟩ := gx_chk_e h
    refine gw_iast X hV (iXA_5 (o := (o + 3)) (kX_4_3 ho)) c_35 dX1_settleAs_35 (fun S35 e_35 H locs hV => ?_)
    replace h := gx_let_e e_35 h
    clear e_35
    refine lv_aload_n hx hb dX1_settleAs_36 rfl (lv_at hl 0 rfl) ?_
    refine lv_iload_n hx hb dX1_settleAs_37 rfl (lv_at hl 1 rfl) ?_
    obtain ⟨r38, S38, k_38, h⟩ := gx_bind_e h
    refine gw_callv X hA hV (gw_runV X hV (o := o) (As := [.int v1]) (rest := []) (mX1_listIfOpen l G ad _ S35 ho k_38) kc_RX1_42 (iXO_4 ho) rfl rfl rfl hl.1 rfl (Nat.le_of_ble_eq_true rfl) ⟨rfl, rfl⟩ ⟨Nat.le_of_ble_eq_true rfl, Nat.le_of_ble_eq_true rfl⟩ ⟨Nat.le_refl _, Nat.le_refl _⟩ dX1_settleAs_38) (fun H locs hV => ?_)
    exact gw_vret X hV h dX1_settleAs_41
  exact Y _ _ hV
def fX1_becomeCellsOf (o : Nat) (a1 : Nat) (S : gS) : Option (Unit × gS) :=
gx_let (gI_up S o 5 (gI S a1 5)) fun S5 =>
gx_let (gI_up S5 o 6 (gI S5 a1 6)) fun S13 =>
gx_cpyA S13 (a1 + 1) (o + 1) 64 64 (0 : Int32) (0 : Int32) (64 : Int32) fun S28 =>
gx_cpyA S28 (a1 + 2) (o + 2) 64 64 (0 : Int32) (0 : Int32) (64 : Int32) fun S43 =>
gx_cpyA S43 (a1 + 3) (o + 3) 64 64 (0 : Int32) (0 : Int32) (64 : Int32) fun S58 =>
some ((), S58)
def rmX1_becomeCellsOf : Room := { frames := 1, cells := 0, slots := 0, locals := 26 }
set_option maxHeartbeats 4000000 in
set_option maxRecDepth 20000 in
theorem mX1_becomeCellsOf (l : Launch) (G : gG) (ad : Nat → Nat) (sz : Nat) (S : gS) {o : Nat} {a1 : Nat} (ho : kX o = 4) (h1 : kX a1 = 4) {r : Unit} {S' : gS} (h : fX1_becomeCellsOf o a1 S = some (r, S')) : gMetV l yX1_becomeCellsOf cX1_becomeCellsOf 2 none rmX1_becomeCellsOf wdX G ad S sz [.ref (ad o), .ref (ad a1)] r S' := by
  refine gMet_of (by decide) ?_
  intro p e s m below meth c A hA X hnm hV
  have hl := lv_entry ([.ref (ad o), .ref (ad a1)]) (n := 2) (Nat.le_of_ble_eq_true rfl)
  rw [lg_entry_eq]
  generalize (lg_sl ([.ref (ad o), .ref (ad a1)]) ++ List.replicate (2 - (lg_sl ([.ref (ad o), .ref (ad a1)])).length) Slot.unset).toArray = ls at hl ⊢
  have hl : lv_has ls 2 [(0, .ref (ad o)), (1, .ref (ad a1))] := hl
  obtain ⟨hx, hb, hr, hml, hown, hts, hlk, hK⟩ := id X
  unfold fX1_becomeCellsOf at h
  generalize ([.ref (ad o), .ref (ad a1)].toArray : Array Value) = args at X ⊢
  have Y : ∀ (H : Heap) (locs : List Loc), gV wdX G ad A s.heap S H locs → W p l e rmX1_becomeCellsOf s m args below meth c H locs 0 0 (MQ below (gQv wdX G ad A (r, S')) args s 0 0 A) (F0 m 0 ls []) := by
    intro H locs hV
    refine lv_aload_n hx hb dX1_becomeCellsOf_0 rfl (lv_at hl 0 rfl) ?_
    refine lv_aload_n hx hb dX1_becomeCellsOf_1 rfl (lv_at hl 1 rfl) ?_
    refine ggX1_24 X hV (o := a1) h1 dX1_becomeCellsOf_2 ?_
    refine gpX1_24 X hV (o := o) ho dX1_becomeCellsOf_5 (fun S5 e_5 H locs hV => ?_)
    replace h := gx_let_e e_5 h
    clear e_5
    refine lv_aload_n hx hb dX1_becomeCellsOf_8 rfl (lv_at hl 0 rfl) ?_
    refine lv_aload_n hx hb dX1_becomeCellsOf_9 rfl (lv_at hl 1 rfl) ?_
    refine ggX1_28 X hV (o := a1) h1 dX1_becomeCellsOf_10 ?_
    refine gpX1_28 X hV (o := o) ho dX1_becomeCellsOf_13 (fun S13 e_13 H locs hV => ?_)
    replace h := gx_let_e e_13 h
    clear e_13
    refine lv_aload_n hx hb dX1_becomeCellsOf_16 rfl (lv_at hl 1 rfl) ?_
    refine ggX1_9 X hV (o := a1) h1 dX1_becomeCellsOf_17 ?_
    refine lv_iconst (v := 0) hx hb dX1_becomeCellsOf_20 (by decide) ?_
    refine lv_aload_n hx hb dX1_becomeCellsOf_21 rfl (lv_at hl 0 rfl) ?_
    refine ggX1_9 X hV (o := o) ho dX1_becomeCellsOf_22 ?_
    refine lv_iconst (v := 0) hx hb dX1_becomeCellsOf_25 (by decide) ?_
    refine lv_bipush (v := 64) hx hb dX1_becomeCellsOf_26 (by decide) ?_
    obtain ⟨c_28, h⟩ := gx_cpyA_e h
    refine gw_cpyA X hV (iXA_5 (o := (a1 + 1)) (kX_4_1 h1)) (iXA_5 (o := (o + 1)) (kX_4_1 ho)) hl.1 q_507 q_267 q_266 q_44 c_28 (Nat.le_of_ble_eq_true rfl) (Nat.le_of_ble_eq_true rfl) dX1_becomeCellsOf_28 (fun S28 e_28 H locs hV => ?_)
    replace h := gx_let_e e_28 h
    clear e_28
    refine lv_aload_n hx hb dX1_becomeCellsOf_31 rfl (lv_at hl 1 rfl) ?_
    refine ggX1_15 X hV (o := a1) h1 dX1_becomeCellsOf_32 ?_
    refine lv_iconst (v := 0) hx hb dX1_becomeCellsOf_35 (by decide) ?_
    refine lv_aload_n hx hb dX1_becomeCellsOf_36 rfl (lv_at hl 0 rfl) ?_
    refine ggX1_15 X hV (o := o) ho dX1_becomeCellsOf_37 ?_
    refine lv_iconst (v := 0) hx hb dX1_becomeCellsOf_40 (by decide) ?_
    refine lv_bipush (v := 64) hx hb dX1_becomeCellsOf_41 (by decide) ?_
    obtain ⟨c_43, h⟩ := gx_cpyA_e h
    refine gw_cpyA X hV (iXA_5 (o := (a1 + 2)) (kX_4_2 h1)) (iXA_5 (o := (o + 2)) (kX_4_2 ho)) hl.1 q_507 q_267 q_266 q_44 c_43 (Nat.le_of_ble_eq_true rfl) (Nat.le_of_ble_eq_true rfl) dX1_becomeCellsOf_43 (fun S43 e_43 H locs hV => ?_)
    replace h := gx_let_e e_43 h
    clear e_43
    refine lv_aload_n hx hb dX1_becomeCellsOf_46 rfl (lv_at hl 1 rfl) ?_
    refine ggX1_18 X hV (o := a1) h1 dX1_becomeCellsOf_47 ?_
    refine lv_iconst (v := 0) hx hb dX1_becomeCellsOf_50 (by decide) ?_
    refine lv_aload_n hx hb dX1_becomeCellsOf_51 rfl (lv_at hl 0 rfl) ?_
    refine ggX1_18 X hV (o := o) ho dX1_becomeCellsOf_52 ?_
    refine lv_iconst (v := 0) hx hb dX1_becomeCellsOf_55 (by decide) ?_
    refine lv_bipush (v := 64) hx hb dX1_becomeCellsOf_56 (by decide) ?_
    obtain ⟨c_58, h⟩ := gx_cpyA_e h
    refine gw_cpyA X hV (iXA_5 (o := (a1 + 3)) (kX_4_3 h1)) (iXA_5 (o := (o + 3)) (kX_4_3 ho)) hl.1 q_507 q_267 q_266 q_44 c_58 (Nat.le_of_ble_eq_true rfl) (Nat.le_of_ble_eq_true rfl) dX1_becomeCellsOf_58 (fun S58 e_58 H locs hV => ?_)
    replace h := gx_let_e e_58 h
    clear e_58
    exact gw_vret X hV h dX1_becomeCellsOf_61
  exact Y _ _ hV
theorem kc_RX2_22 : gKV RX2 22 yX0_become cX0_become 2 none 1 := ⟨q_367, q_368, q_369, q_370, q_39, by decide +kernel⟩
def fX2_keep (a1 : Nat) (S : gS) : Option (Unit × gS) :=
gx_chk (gI S 14 1) 5 <|
gx_let (16 + 4 * Int32.toNatClampNeg (gI S 14 1)) fun w8 =>
gx_bind (fX0_become w8 a1 S) fun r10 S10 =>
gx_let (gI_up S10 14 1 (((gI S10 14 1) + (1 : Int32)) - ((gI S10 14 1) + (1 : Int32)) / (5 : Int32) * (5 : Int32))) fun S22 =>
if (5 : Int32) ≤ (gI S22 14 2) then (some ((), S22)) else
gx_let (gI_up S22 14 2 ((gI S22 14 2) + (1 : Int32))) fun S40 =>
some ((), S40)
def rmX2_keep : Room := { frames := 2, cells := 0, slots := 0, locals := 47 }
set_option maxHeartbeats 4000000 in
set_option maxRecDepth 20000 in
theorem mX2_keep (l : Launch) (G : gG) (ad : Nat → Nat) (sz : Nat) (S : gS) {a1 : Nat} (h1 : kX a1 = 6) {r : Unit} {S' : gS} (h : fX2_keep a1 S = some (r, S')) : gMetV l yX2_keep cX2_keep 2 none rmX2_keep wdX G ad S sz [.ref (ad 14), .ref (ad a1)] r S' := by
  refine gMet_of (by decide) ?_
  intro p e s m below meth c A hA X hnm hV
  have hl := lv_entry ([.ref (ad 14), .ref (ad a1)]) (n := 2) (Nat.le_of_ble_eq_true rfl)
  rw [lg_entry_eq]
  generalize (lg_sl ([.ref (ad 14), .ref (ad a1)]) ++ List.replicate (2 - (lg_sl ([.ref (ad 14), .ref (ad a1)])).length) Slot.unset).toArray = ls at hl ⊢
  have hl : lv_has ls 2 [(0, .ref (ad 14)), (1, .ref (ad a1))] := hl
  obtain ⟨hx, hb, hr, hml, hown, hts, hlk, hK⟩ := id X
  unfold fX2_keep at h
  generalize ([.ref (ad 14), .ref (ad a1)].toArray : Array Value) = args at X ⊢
  have Y : ∀ (H : Heap) (locs : List Loc), gV wdX G ad A s.heap S H locs → W p l e rmX2_keep s m args below meth c H locs 0 0 (MQ below (gQv wdX G ad A (r, S')) args s 0 0 A) (F0 m 0 ls []) := by
    intro H locs hV
    refine lv_aload_n hx hb dX2_keep_0 rfl (lv_at hl 0 rfl) ?_
    refine ggX2_11 X hV (o := 14) rfl dX2_keep_1 ?_
    refine lv_aload_n hx hb dX2_keep_4 rfl (lv_at hl 0 rfl) ?_
    refine ggX2_18 X hV (o := 14) rfl dX2_keep_5 ?_
    obtain ⟨c_8, h⟩ := gx_chk_e h
    refine gw_aald X hV (iXQ_11 (o := 15) rfl) rfl c_8 dX2_keep_8 (fun w8 e_8 => ?_)
    have f_w8 := kXq_11 e_8 c_8
    replace h := gx_let_e e_8 h
    clear e_8
    refine lv_aload_n hx hb dX2_keep_9 rfl (lv_at hl 1 rfl) ?_
    obtain ⟨r10, S10, k_10, h⟩ := gx_bind_e h
    refine gw_callv X hA hV (gw_runV X hV (o := w8) (As := [.ref (ad a1)]) (rest := []) (mX0_become l G ad _ S f_w8 h1 k_10) kc_RX2_22 (iXO_6 f_w8) rfl rfl rfl hl.1 rfl (Nat.le_of_ble_eq_true rfl) ⟨rfl, rfl⟩ ⟨Nat.le_of_ble_eq_true rfl, Nat.le_of_ble_eq_true rfl⟩ ⟨Nat.le_refl _, Nat.le_refl _⟩ dX2_keep_10) (fun H locs hV => ?_)
    refine lv_aload_n hx hb dX2_keep_13 rfl (lv_at hl 0 rfl) ?_
    refine lv_aload_n hx hb dX2_keep_14 rfl (lv_at hl 0 rfl) ?_
    refine ggX2_18 X hV (o := 14) rfl dX2_keep_15 ?_
    refine lv_iconst (v := 1) hx hb dX2_keep_18 (by decide) ?_
    refine lv_iadd hx hb dX2_keep_19 ?_
    refine lv_iconst (v := 5) hx hb dX2_keep_20 (by decide) ?_
    refine lv_irem hx hb dX2_keep_21 (by decide) ?_
    refine gpX2_18 X hV (o := 14) rfl dX2_keep_22 (fun S22 e_22 H locs hV => ?_)
    replace h := gx_let_e e_22 h
    clear e_22
    refine lv_aload_n hx hb dX2_keep_25 rfl (lv_at hl 0 rfl) ?_
    refine ggX2_26 X hV (o := 14) rfl dX2_keep_26 ?_
    refine lv_iconst (v := 5) hx hb dX2_keep_29 (by decide) ?_
    refine lv_icmp_ge (tgt := 43) hx hb dX2_keep_30 (by decide) (fun c_30 => ?_) (fun c_30 => ?_)
    · rw [if_pos c_30] at h
      exact gw_vret X hV h dX2_keep_43
    · rw [if_neg c_30] at h
      refine lv_aload_n hx hb dX2_keep_33 rfl (lv_at hl 0 rfl) ?_
      refine lv_dup hx hb dX2_keep_34 rfl ?_
      refine ggX2_26 X hV (o := 14) rfl dX2_keep_35 ?_
      refine lv_iconst (v := 1) hx hb dX2_keep_38 (by decide) ?_
      refine lv_iadd hx hb dX2_keep_39 ?_
      refine gpX2_26 X hV (o := 14) rfl dX2_keep_40 (fun S40 e_40 H locs hV => ?_)
      replace h := gx_let_e e_40 h
      clear e_40
      exact gw_vret X hV h dX2_keep_43
  exact Y _ _ hV
def fX2_restore (a1 : Nat) (S : gS) : Option (Unit × gS) :=
gx_let (gI_up S 14 1 ((((gI S 14 1) + (5 : Int32)) - (1 : Int32)) - (((gI S 14 1) + (5 : Int32)) - (1 : Int32)) / (5 : Int32) * (5 : Int32))) fun S11 =>
gx_chk (gI S11 14 1) 5 <|
gx_let (16 + 4 * Int32.toNatClampNeg (gI S11 14 1)) fun w23 =>
gx_bind (fX0_become a1 w23 S11) fun r24 S24 =>
gx_let (gI_up S24 14 2 ((gI S24 14 2) - (1 : Int32))) fun S34 =>
some ((), S34)
def rmX2_restore : Room := { frames := 2, cells := 0, slots := 0, locals := 47 }
set_option maxHeartbeats 4000000 in
set_option maxRecDepth 20000 in
theorem mX2_restore (l : Launch) (G : gG) (ad : Nat → Nat) (sz : Nat) (S : gS) {a1 : Nat} (h1 : kX a1 = 6) {r : Unit} {S' : gS} (h : fX2_restore a1 S = some (r, S')) : gMetV l yX2_restore cX2_restore 2 none rmX2_restore wdX G ad S sz [.ref (ad 14), .ref (ad a1)] r S' := by
  refine gMet_of (by decide) ?_
  intro p e s m below meth c A hA X hnm hV
  have hl := lv_entry ([.ref (ad 14), .ref (ad a1)]) (n := 2) (Nat.le_of_ble_eq_true rfl)
  rw [lg_entry_eq]
  generalize (lg_sl ([.ref (ad 14), .ref (ad a1)]) ++ List.replicate (2 - (lg_sl ([.ref (ad 14), .ref (ad a1)])).length) Slot.unset).toArray = ls at hl ⊢
  have hl : lv_has ls 2 [(0, .ref (ad 14)), (1, .ref (ad a1))] := hl
  obtain ⟨hx, hb, hr, hml, hown, hts, hlk, hK⟩ := id X
  unfold fX2_restore at h
  generalize ([.ref (ad 14), .ref (ad a1)].toArray : Array Value) = args at X ⊢
  have Y : ∀ (H : Heap) (locs : List Loc), gV wdX G ad A s.heap S H locs → W p l e rmX2_restore s m args below meth c H locs 0 0 (MQ below (gQv wdX G ad A (r, S')) args s 0 0 A) (F0 m 0 ls []) := by
    intro H locs hV
    refine lv_aload_n hx hb dX2_restore_0 rfl (lv_at hl 0 rfl) ?_
    refine lv_aload_n hx hb dX2_restore_1 rfl (lv_at hl 0 rfl) ?_
    refine ggX2_18 X hV (o := 14) rfl dX2_restore_2 ?_
    refine lv_iconst (v := 5) hx hb dX2_restore_5 (by decide) ?_
    refine lv_iadd hx hb dX2_restore_6 ?_
    refine lv_iconst (v := 1) hx hb dX2_restore_7 (by decide) ?_
    refine lv_isub hx hb dX2_restore_8 ?_
    refine lv_iconst (v := 5) hx hb dX2_restore_9 (by decide) ?_
    refine lv_irem hx hb dX2_restore_10 (by decide) ?_
    refine gpX2_18 X hV (o := 14) rfl dX2_restore_11 (fun S11 e_11 H locs hV => ?_)
    replace h := gx_let_e e_11 h
    clear e_11
    refine lv_aload_n hx hb dX2_restore_14 rfl (lv_at hl 1 rfl) ?_
    refine lv_aload_n hx hb dX2_restore_15 rfl (lv_at hl 0 rfl) ?_
    refine ggX2_11 X hV (o := 14) rfl dX2_restore_16 ?_
    refine lv_aload_n hx hb dX2_restore_19 rfl (lv_at hl 0 rfl) ?_
    refine ggX2_18 X hV (o := 14) rfl dX2_restore_20 ?_
    obtain ⟨c_23, h⟩ := gx_chk_e h
    refine gw_aald X hV (iXQ_11 (o := 15) rfl) rfl c_23 dX2_restore_23 (fun w23 e_23 => ?_)
    have f_w23 := kXq_11 e_23 c_23
    replace h := gx_let_e e_23 h
    clear e_23
    obtain ⟨r24, S24, k_24, h⟩ := gx_bind_e h
    refine gw_callv X hA hV (gw_runV X hV (o := a1) (As := [.ref (ad w23)]) (rest := []) (mX0_become l G ad _ S11 h1 f_w23 k_24) kc_RX2_22 (iXO_6 h1) rfl rfl rfl hl.1 rfl (Nat.le_of_ble_eq_true rfl) ⟨rfl, rfl⟩ ⟨Nat.le_of_ble_eq_true rfl, Nat.le_of_ble_eq_true rfl⟩ ⟨Nat.le_refl _, Nat.le_refl _⟩ dX2_restore_24) (fun H locs hV => ?_)
    refine lv_aload_n hx hb dX2_restore_27 rfl (lv_at hl 0 rfl) ?_
    refine lv_dup hx hb dX2_restore_28 rfl ?_
    refine ggX2_26 X hV (o := 14) rfl dX2_restore_29 ?_
    refine lv_iconst (v := 1) hx hb dX2_restore_32 (by decide) ?_
    refine lv_isub hx hb dX2_restore_33 ?_
    refine gpX2_26 X hV (o := 14) rfl dX2_restore_34 (fun S34 e_34 H locs hV => ?_)
    replace h := gx_let_e e_34 h
    clear e_34
    exact gw_vret X hV h dX2_restore_37
  exact Y _ _ hV
def fX2_forget (S : gS) : Option (Unit × gS) :=
gx_let (gI_up S 14 2 (0 : Int32)) fun S2 =>
some ((), S2)
def rmX2_forget : Room := { frames := 0, cells := 0, slots := 0, locals := 0 }
set_option maxHeartbeats 4000000 in
set_option maxRecDepth 20000 in
theorem mX2_forget (l : Launch) (G : gG) (ad : Nat → Nat) (sz : Nat) (S : gS) {r : Unit} {S' : gS} (h : fX2_forget S = some (r, S')) : gMetV l yX2_forget cX2_forget 1 none rmX2_forget wdX G ad S sz [.ref (ad 14)] r S' := by
  refine gMet_of (by decide) ?_
  intro p e s m below meth c A hA X hnm hV
  have hl := lv_entry ([.ref (ad 14)]) (n := 1) (Nat.le_of_ble_eq_true rfl)
  rw [lg_entry_eq]
  generalize (lg_sl ([.ref (ad 14)]) ++ List.replicate (1 - (lg_sl ([.ref (ad 14)])).length) Slot.unset).toArray = ls at hl ⊢
  have hl : lv_has ls 1 [(0, .ref (ad 14))] := hl
  obtain ⟨hx, hb, hr, hml, hown, hts, hlk, hK⟩ := id X
  unfold fX2_forget at h
  generalize ([.ref (ad 14)].toArray : Array Value) = args at X ⊢
  have Y : ∀ (H : Heap) (locs : List Loc), gV wdX G ad A s.heap S H locs → W p l e rmX2_forget s m args below meth c H locs 0 0 (MQ below (gQv wdX G ad A (r, S')) args s 0 0 A) (F0 m 0 ls []) := by
    intro H locs hV
    refine lv_aload_n hx hb dX2_forget_0 rfl (lv_at hl 0 rfl) ?_
    refine lv_iconst (v := 0) hx hb dX2_forget_1 (by decide) ?_
    refine gpX2_26 X hV (o := 14) rfl dX2_forget_2 (fun S2 e_2 H locs hV => ?_)
    replace h := gx_let_e e_2 h
    clear e_2
    exact gw_vret X hV h dX2_forget_5
  exact Y _ _ hV
theorem kc_RX3_26 : gKS RX3 26 yJ7_fill_d0a16 cJ7_fill_d0a16 5 none 2 := ⟨q_228, q_229, q_230, q_43, by decide +kernel⟩
def fX3_begin (o : Nat) (S : gS) (v1 : Int32) (v2 : Int32) : Option (Unit × gS) :=
gx_let (gI_up S o 1 (0 : Int32)) fun S2 =>
gx_let (gI_up S2 o 2 v1) fun S7 =>
gx_let (gI_up S7 o 3 v2) fun S12 =>
gx_bind (fJ7_fill_d0a16 (o + 1) 8 S12 (0 : Int64)) fun r20 S20 =>
some ((), S20)
def rmX3_begin : Room := { frames := 1, cells := 0, slots := 0, locals := 24 }
set_option maxHeartbeats 4000000 in
set_option maxRecDepth 20000 in
theorem mX3_begin (l : Launch) (G : gG) (ad : Nat → Nat) (sz : Nat) (S : gS) {o : Nat} {v1 : Int32} {v2 : Int32} (ho : kX o = 13) {r : Unit} {S' : gS} (h : fX3_begin o S v1 v2 = some (r, S')) : gMetV l yX3_begin cX3_begin 3 none rmX3_begin wdX G ad S sz [.ref (ad o), .int v1, .int v2] r S' := by
  refine gMet_of (by decide) ?_
  intro p e s m below meth c A hA X hnm hV
  have hl := lv_entry ([.ref (ad o), .int v1, .int v2]) (n := 3) (Nat.le_of_ble_eq_true rfl)
  rw [lg_entry_eq]
  generalize (lg_sl ([.ref (ad o), .int v1, .int v2]) ++ List.replicate (3 - (lg_sl ([.ref (ad o), .int v1, .int v2])).length) Slot.unset).toArray = ls at hl ⊢
  have hl : lv_has ls 3 [(0, .ref (ad o)), (1, .int v1), (2, .int v2)] := hl
  obtain ⟨hx, hb, hr, hml, hown, hts, hlk, hK⟩ := id X
  unfold fX3_begin at h
  generalize ([.ref (ad o), .int v1, .int v2].toArray : Array Value) = args at X ⊢
  have Y : ∀ (H : Heap) (locs : List Loc), gV wdX G ad A s.heap S H locs → W p l e rmX3_begin s m args below meth c H locs 0 0 (MQ below (gQv wdX G ad A (r, S')) args s 0 0 A) (F0 m 0 ls []) := by
    intro H locs hV
    refine lv_aload_n hx hb dX3_begin_0 rfl (lv_at hl 0 rfl) ?_
    refine lv_iconst (v := 0) hx hb dX3_begin_1 (by decide) ?_
    refine gpX3_15 X hV (o := o) ho (by decide) dX3_begin_2 (fun S2 e_2 H locs hV => ?_)
    replace h := gx_let_e e_2 h
    clear e_2
    refine lv_aload_n hx hb dX3_begin_5 rfl (lv_at hl 0 rfl) ?_
    refine lv_iload_n hx hb dX3_begin_6 rfl (lv_at hl 1 rfl) ?_
    refine gpX3_19 X hV (o := o) ho dX3_begin_7 (fun S7 e_7 H locs hV => ?_)
    replace h := gx_let_e e_7 h
    clear e_7
    refine lv_aload_n hx hb dX3_begin_10 rfl (lv_at hl 0 rfl) ?_
    refine lv_iload_n hx hb dX3_begin_11 rfl (lv_at hl 2 rfl) ?_
    refine gpX3_23 X hV (o := o) ho dX3_begin_12 (fun S12 e_12 H locs hV => ?_)
    replace h := gx_let_e e_12 h
    clear e_12
    refine lv_aload_n hx hb dX3_begin_15 rfl (lv_at hl 0 rfl) ?_
    refine ggX3_9 X hV (o := o) ho dX3_begin_16 ?_
    refine lv_lconst (v := 0) hx hb dX3_begin_19 (by decide) ?_
    obtain ⟨r20, S20, k_20, h⟩ := gx_bind_e h
    refine gw_callv X hA hV (gw_runS X hV (As := [.ref (ad (o + 1)), .long (0 : Int64)]) (rest := []) (mJ7_fill_d0a16 l G ad _ S12 (iXJ_14 (o := (o + 1)) (kX_13_1 ho)) k_20) kc_RX3_26 rfl hl.1 rfl (Nat.le_of_ble_eq_true rfl) ⟨rfl, rfl⟩ ⟨Nat.le_of_ble_eq_true rfl, Nat.le_of_ble_eq_true rfl⟩ ⟨Nat.le_refl _, Nat.le_refl _⟩ dX3_begin_20) (fun H locs hV => ?_)
    exact gw_vret X hV h dX3_begin_23
  exact Y _ _ hV
def fX3_end (o : Nat) (S : gS) : Option (Unit × gS) :=
gx_let (gI_up S o 1 (1 : Int32)) fun S2 =>
some ((), S2)
def rmX3_end : Room := { frames := 0, cells := 0, slots := 0, locals := 0 }
set_option maxHeartbeats 4000000 in
set_option maxRecDepth 20000 in
theorem mX3_end (l : Launch) (G : gG) (ad : Nat → Nat) (sz : Nat) (S : gS) {o : Nat} (ho : kX o = 13) {r : Unit} {S' : gS} (h : fX3_end o S = some (r, S')) : gMetV l yX3_end cX3_end 1 none rmX3_end wdX G ad S sz [.ref (ad o)] r S' := by
  refine gMet_of (by decide) ?_
  intro p e s m below meth c A hA X hnm hV
  have hl := lv_entry ([.ref (ad o)]) (n := 1) (Nat.le_of_ble_eq_true rfl)
  rw [lg_entry_eq]
  generalize (lg_sl ([.ref (ad o)]) ++ List.replicate (1 - (lg_sl ([.ref (ad o)])).length) Slot.unset).toArray = ls at hl ⊢
  have hl : lv_has ls 1 [(0, .ref (ad o))] := hl
  obtain ⟨hx, hb, hr, hml, hown, hts, hlk, hK⟩ := id X
  unfold fX3_end at h
  generalize ([.ref (ad o)].toArray : Array Value) = args at X ⊢
  have Y : ∀ (H : Heap) (locs : List Loc), gV wdX G ad A s.heap S H locs → W p l e rmX3_end s m args below meth c H locs 0 0 (MQ below (gQv wdX G ad A (r, S')) args s 0 0 A) (F0 m 0 ls []) := by
    intro H locs hV
    refine lv_aload_n hx hb dX3_end_0 rfl (lv_at hl 0 rfl) ?_
    refine lv_iconst (v := 1) hx hb dX3_end_1 (by decide) ?_
    refine gpX3_15 X hV (o := o) ho (by decide) dX3_end_2 (fun S2 e_2 H locs hV => ?_)
    replace h := gx_let_e e_2 h
    clear e_2
    exact gw_vret X hV h dX3_end_5
  exact Y _ _ hV
def fX3_has_16 (o : Nat) (S : gS) : Option (Int32 × gS) :=
some ((0 : Int32), S)
def fX3_has (o : Nat) (S : gS) (v1 : Int32) : Option (Int32 × gS) :=
if v1 < 0 then (fX3_has_16 o S) else
if (gI S o 3) ≤ v1 then (fX3_has_16 o S) else
some ((1 : Int32), S)
def rmX3_has : Room := { frames := 0, cells := 0, slots := 0, locals := 0 }
set_option maxHeartbeats 4000000 in
set_option maxRecDepth 20000 in
theorem tX3_has_16 {p : Program} {l : Launch} {e : Env} {s : State} {m : MethodId} {args : Array Value} {below : List Frame} {meth : Method} {c : Code} {G : gG} {ad : Nat → Nat} {A : Nat → Prop} {o : Nat} {z : Int32 × gS} (X : gCx p s m args meth c G cX3_has RX3 (some .boolean) 2) (hA : ∀ q, s.heap.size ≤ q → A q) (ho : kX o = 13) (S : gS) (h : fX3_has_16 o S = some z) {H : Heap} {locs : List Loc} {ls : Array Slot} (hV : gV wdX G ad A s.heap S H locs) (hl : lv_has ls 2 []) : W p l e rmX3_has s m args below meth c H locs 0 0 (MQ below (gQi wdX G ad A z) args s 0 0 A) (F0 m 16 ls []) := by
  obtain ⟨hx, hb, hr, hml, hown, hts, hlk, hK⟩ := id X
  unfold fX3_has_16 at h
  refine lv_iconst (v := 0) hx hb dX3_has_16 (by decide) ?_
  exact gw_iretz X hV h g_bool0 dX3_has_17
set_option maxHeartbeats 4000000 in
set_option maxRecDepth 20000 in
theorem mX3_has (l : Launch) (G : gG) (ad : Nat → Nat) (sz : Nat) (S : gS) {o : Nat} {v1 : Int32} (ho : kX o = 13) {r : Int32} {S' : gS} (h : fX3_has o S v1 = some (r, S')) : gMetI l yX3_has cX3_has 2 (some .boolean) rmX3_has wdX G ad S sz [.ref (ad o), .int v1] r S' := by
  refine gMet_of (by decide) ?_
  intro p e s m below meth c A hA X hnm hV
  have hl := lv_entry ([.ref (ad o), .int v1]) (n := 2) (Nat.le_of_ble_eq_true rfl)
  rw [lg_entry_eq]
  generalize (lg_sl ([.ref (ad o), .int v1]) ++ List.replicate (2 - (lg_sl ([.ref (ad o), .int v1])).length) Slot.unset).toArray = ls at hl ⊢
  have hl : lv_has ls 2 [(0, .ref (ad o)), (1, .int v1)] := hl
  obtain ⟨hx, hb, hr, hml, hown, hts, hlk, hK⟩ := id X
  unfold fX3_has at h
  generalize ([.ref (ad o), .int v1].toArray : Array Value) = args at X ⊢
  have Y : ∀ (H : Heap) (locs : List Loc), gV wdX G ad A s.heap S H locs → W p l e rmX3_has s m args below meth c H locs 0 0 (MQ below (gQi wdX G ad A (r, S')) args s 0 0 A) (F0 m 0 ls []) := by
    intro H locs hV
    refine lv_iload_n hx hb dX3_has_0 rfl (lv_at hl 1 rfl) ?_
    refine lv_if_lt (tgt := 16) hx hb dX3_has_1 (by decide) (fun c_1 => ?_) (fun c_1 => ?_)
    · rw [if_pos c_1] at h
      exact tX3_has_16 X hA ho _ h hV (lv_sub hl [] rfl)
    · rw [if_neg c_1] at h
      refine lv_iload_n hx hb dX3_has_4 rfl (lv_at hl 1 rfl) ?_
      refine lv_aload_n hx hb dX3_has_5 rfl (lv_at hl 0 rfl) ?_
      refine ggX3_23 X hV (o := o) ho dX3_has_6 ?_
      refine lv_icmp_ge (tgt := 16) hx hb dX3_has_9 (by decide) (fun c_9 => ?_) (fun c_9 => ?_)
      · rw [if_pos c_9] at h
        exact tX3_has_16 X hA ho _ h hV (lv_sub hl [] rfl)
      · rw [if_neg c_9] at h
        refine lv_iconst (v := 1) hx hb dX3_has_12 (by decide) ?_
        refine lv_goto (tgt := 17) hx hb dX3_has_13 (by decide) ?_
        exact gw_iretz X hV h g_bool1 dX3_has_17
  exact Y _ _ hV
def fX3_hasAll_18 (o : Nat) (S : gS) : Option (Int32 × gS) :=
some ((0 : Int32), S)
def fX3_hasAll (o : Nat) (S : gS) (v1 : Int32) (v2 : Int32) : Option (Int32 × gS) :=
if v1 < 0 then (fX3_hasAll_18 o S) else
if ((gI S o 3) - v2) < v1 then (fX3_hasAll_18 o S) else
some ((1 : Int32), S)
def rmX3_hasAll : Room := { frames := 0, cells := 0, slots := 0, locals := 0 }
set_option maxHeartbeats 4000000 in
set_option maxRecDepth 20000 in
theorem tX3_hasAll_18 {p : Program} {l : Launch} {e : Env} {s : State} {m : MethodId} {args : Array Value} {below : List Frame} {meth : Method} {c : Code} {G : gG} {ad : Nat → Nat} {A : Nat → Prop} {o : Nat} {z : Int32 × gS} (X : gCx p s m args meth c G cX3_hasAll RX3 (some .boolean) 3) (hA : ∀ q, s.heap.size ≤ q → A q) (ho : kX o = 13) (S : gS) (h : fX3_hasAll_18 o S = some z) {H : Heap} {locs : List Loc} {ls : Array Slot} (hV : gV wdX G ad A s.heap S H locs) (hl : lv_has ls 3 []) : W p l e rmX3_hasAll s m args below meth c H locs 0 0 (MQ below (gQi wdX G ad A z) args s 0 0 A) (F0 m 18 ls []) := by
  obtain ⟨hx, hb, hr, hml, hown, hts, hlk, hK⟩ := id X
  unfold fX3_hasAll_18 at h
  refine lv_iconst (v := 0) hx hb dX3_hasAll_18 (by decide) ?_
  exact gw_iretz X hV h g_bool0 dX3_hasAll_19
set_option maxHeartbeats 4000000 in
set_option maxRecDepth 20000 in
theorem mX3_hasAll (l : Launch) (G : gG) (ad : Nat → Nat) (sz : Nat) (S : gS) {o : Nat} {v1 : Int32} {v2 : Int32} (ho : kX o = 13) {r : Int32} {S' : gS} (h : fX3_hasAll o S v1 v2 = some (r, S')) : gMetI l yX3_hasAll cX3_hasAll 3 (some .boolean) rmX3_hasAll wdX G ad S sz [.ref (ad o), .int v1, .int v2] r S' := by
  refine gMet_of (by decide) ?_
  intro p e s m below meth c A hA X hnm hV
  have hl := lv_entry ([.ref (ad o), .int v1, .int v2]) (n := 3) (Nat.le_of_ble_eq_true rfl)
  rw [lg_entry_eq]
  generalize (lg_sl ([.ref (ad o), .int v1, .int v2]) ++ List.replicate (3 - (lg_sl ([.ref (ad o), .int v1, .int v2])).length) Slot.unset).toArray = ls at hl ⊢
  have hl : lv_has ls 3 [(0, .ref (ad o)), (1, .int v1), (2, .int v2)] := hl
  obtain ⟨hx, hb, hr, hml, hown, hts, hlk, hK⟩ := id X
  unfold fX3_hasAll at h
  generalize ([.ref (ad o), .int v1, .int v2].toArray : Array Value) = args at X ⊢
  have Y : ∀ (H : Heap) (locs : List Loc), gV wdX G ad A s.heap S H locs → W p l e rmX3_hasAll s m args below meth c H locs 0 0 (MQ below (gQi wdX G ad A (r, S')) args s 0 0 A) (F0 m 0 ls []) := by
    intro H locs hV
    refine lv_iload_n hx hb dX3_hasAll_0 rfl (lv_at hl 1 rfl) ?_
    refine lv_if_lt (tgt := 18) hx hb dX3_hasAll_1 (by decide) (fun c_1 => ?_) (fun c_1 => ?_)
    · rw [if_pos c_1] at h
      exact tX3_hasAll_18 X hA ho _ h hV (lv_sub hl [] rfl)
    · rw [if_neg c_1] at h
      refine lv_iload_n hx hb dX3_hasAll_4 rfl (lv_at hl 1 rfl) ?_
      refine lv_aload_n hx hb dX3_hasAll_5 rfl (lv_at hl 0 rfl) ?_
      refine ggX3_23 X hV (o := o) ho dX3_hasAll_6 ?_
      refine lv_iload_n hx hb dX3_hasAll_9 rfl (lv_at hl 2 rfl) ?_
      refine lv_isub hx hb dX3_hasAll_10 ?_
      refine lv_icmp_gt (tgt := 18) hx hb dX3_hasAll_11 (by decide) (fun c_11 => ?_) (fun c_11 => ?_)
      · rw [if_pos c_11] at h
        exact tX3_hasAll_18 X hA ho _ h hV (lv_sub hl [] rfl)
      · rw [if_neg c_11] at h
        refine lv_iconst (v := 1) hx hb dX3_hasAll_14 (by decide) ?_
        refine lv_goto (tgt := 19) hx hb dX3_hasAll_15 (by decide) ?_
        exact gw_iretz X hV h g_bool1 dX3_hasAll_19
  exact Y _ _ hV
def fX3_store (o : Nat) (S : gS) (v1 : Int32) (v2 : Int64) : Option (Unit × gS) :=
if (gI S o 2) = 0 then (gx_chk v1 8 <|
gx_let (gJ_up S (o + 1) (Int32.toNatClampNeg v1) (Int32.toInt64 (Int16.toInt32 (Int32.toInt16 (Int64.toInt32 v2))))) fun S16 =>
some ((), S16)) else
if (gI S o 2) = (1 : Int32) then (gx_chk v1 8 <|
gx_let (gJ_up S (o + 1) (Int32.toNatClampNeg v1) (Int32.toInt64 (Int64.toInt32 v2))) fun S36 =>
some ((), S36)) else
gx_chk v1 8 <|
gx_let (gJ_up S (o + 1) (Int32.toNatClampNeg v1) v2) fun S46 =>
some ((), S46)
def rmX3_store : Room := { frames := 0, cells := 0, slots := 0, locals := 0 }
set_option maxHeartbeats 4000000 in
set_option maxRecDepth 20000 in
theorem mX3_store (l : Launch) (G : gG) (ad : Nat → Nat) (sz : Nat) (S : gS) {o : Nat} {v1 : Int32} {v2 : Int64} (ho : kX o = 13) {r : Unit} {S' : gS} (h : fX3_store o S v1 v2 = some (r, S')) : gMetV l yX3_store cX3_store 4 none rmX3_store wdX G ad S sz [.ref (ad o), .int v1, .long v2] r S' := by
  refine gMet_of (by decide) ?_
  intro p e s m below meth c A hA X hnm hV
  have hl := lv_entry ([.ref (ad o), .int v1, .long v2]) (n := 4) (Nat.le_of_ble_eq_true rfl)
  rw [lg_entry_eq]
  generalize (lg_sl ([.ref (ad o), .int v1, .long v2]) ++ List.replicate (4 - (lg_sl ([.ref (ad o), .int v1, .long v2])).length) Slot.unset).toArray = ls at hl ⊢
  have hl : lv_has ls 4 [(0, .ref (ad o)), (1, .int v1), (2, .long v2)] := hl
  obtain ⟨hx, hb, hr, hml, hown, hts, hlk, hK⟩ := id X
  unfold fX3_store at h
  generalize ([.ref (ad o), .int v1, .long v2].toArray : Array Value) = args at X ⊢
  have Y : ∀ (H : Heap) (locs : List Loc), gV wdX G ad A s.heap S H locs → W p l e rmX3_store s m args below meth c H locs 0 0 (MQ below (gQv wdX G ad A (r, S')) args s 0 0 A) (F0 m 0 ls []) := by
    intro H locs hV
    refine lv_aload_n hx hb dX3_store_0 rfl (lv_at hl 0 rfl) ?_
    refine ggX3_19 X hV (o := o) ho dX3_store_1 ?_
    refine lv_if_ne (tgt := 20) hx hb dX3_store_4 (by decide) (fun c_4 => ?_) (fun c_4 => ?_)
    · rw [if_neg c_4] at h
      refine lv_aload_n hx hb dX3_store_20 rfl (lv_at hl 0 rfl) ?_
      refine ggX3_19 X hV (o := o) ho dX3_store_21 ?_
      refine lv_iconst (v := 1) hx hb dX3_store_24 (by decide) ?_
      refine lv_icmp_ne (tgt := 40) hx hb dX3_store_25 (by decide) (fun c_25 => ?_) (fun c_25 => ?_)
      · rw [if_neg c_25] at h
        refine lv_aload_n hx hb dX3_store_40 rfl (lv_at hl 0 rfl) ?_
        refine ggX3_9 X hV (o := o) ho dX3_store_41 ?_
        refine lv_iload_n hx hb dX3_store_44 rfl (lv_at hl 1 rfl) ?_
        refine lv_lload_n hx hb dX3_store_45 rfl (lv_at hl 2 rfl) ?_
        obtain ⟨c_46, h⟩ := gx_chk_e h
        refine gw_last X hV (iXJ_14 (o := (o + 1)) (kX_13_1 ho)) c_46 dX3_store_46 (fun S46 e_46 H locs hV => ?_)
        replace h := gx_let_e e_46 h
        clear e_46
        exact gw_vret X hV h dX3_store_47
      · rw [if_pos c_25] at h
        refine lv_aload_n hx hb dX3_store_28 rfl (lv_at hl 0 rfl) ?_
        refine ggX3_9 X hV (o := o) ho dX3_store_29 ?_
        refine lv_iload_n hx hb dX3_store_32 rfl (lv_at hl 1 rfl) ?_
        refine lv_lload_n hx hb dX3_store_33 rfl (lv_at hl 2 rfl) ?_
        refine lv_l2i hx hb dX3_store_34 rfl ?_
        refine lv_i2l hx hb dX3_store_35 rfl ?_
        obtain ⟨c_36, h⟩ := gx_chk_e h
        refine gw_last X hV (iXJ_14 (o := (o + 1)) (kX_13_1 ho)) c_36 dX3_store_36 (fun S36 e_36 H locs hV => ?_)
        replace h := gx_let_e e_36 h
        clear e_36
        refine lv_goto (tgt := 47) hx hb dX3_store_37 (by decide) ?_
        exact gw_vret X hV h dX3_store_47
    · rw [if_pos c_4] at h
      refine lv_aload_n hx hb dX3_store_7 rfl (lv_at hl 0 rfl) ?_
      refine ggX3_9 X hV (o := o) ho dX3_store_8 ?_
      refine lv_iload_n hx hb dX3_store_11 rfl (lv_at hl 1 rfl) ?_
      refine lv_lload_n hx hb dX3_store_12 rfl (lv_at hl 2 rfl) ?_
      refine lv_l2i hx hb dX3_store_13 rfl ?_
      refine lv_i2s hx hb dX3_store_14 rfl ?_
      refine lv_i2l hx hb dX3_store_15 rfl ?_
      obtain ⟨c_16, h⟩ := gx_chk_e h
      refine gw_last X hV (iXJ_14 (o := (o + 1)) (kX_13_1 ho)) c_16 dX3_store_16 (fun S16 e_16 H locs hV => ?_)
      replace h := gx_let_e e_16 h
      clear e_16
      refine lv_goto (tgt := 47) hx hb dX3_store_17 (by decide) ?_
      exact gw_vret X hV h dX3_store_47
  exact Y _ _ hV

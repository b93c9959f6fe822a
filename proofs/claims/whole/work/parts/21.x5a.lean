def fX5_isStrip_14 (S : gS) : Option (Int32 × gS) :=
some ((0 : Int32), S)
def fX5_isStrip (S : gS) (v0 : Int32) : Option (Int32 × gS) :=
if v0 < 0 then (fX5_isStrip_14 S) else
if (8 : Int32) ≤ v0 then (fX5_isStrip_14 S) else
some ((1 : Int32), S)
def rmX5_isStrip : Room := { frames := 0, cells := 0, slots := 0, locals := 0 }
set_option maxHeartbeats 4000000 in
set_option maxRecDepth 20000 in
theorem tX5_isStrip_14 {p : Program} {l : Launch} {e : Env} {s : State} {m : MethodId} {args : Array Value} {below : List Frame} {meth : Method} {c : Code} {G : gG} {ad : Nat → Nat} {A : Nat → Prop} {z : Int32 × gS} (X : gCx p s m args meth c G cX5_isStrip RX5 (some .boolean) 1) (hA : ∀ q, s.heap.size ≤ q → A q) (S : gS) (h : fX5_isStrip_14 S = some z) {H : Heap} {locs : List Loc} {ls : Array Slot} (hV : gV wdX G ad A s.heap S H locs) (hl : lv_has ls 1 []) : W p l e rmX5_isStrip s m args below meth c H locs 0 0 (MQ below (gQi wdX G ad A z) args s 0 0 A) (F0 m 14 ls []) := by
  obtain ⟨hx, hb, hr, hml, hown, hts, hlk, hK⟩ := id X
  unfold fX5_isStrip_14 at h
  refine lv_iconst (v := 0) hx hb dX5_isStrip_14 (by decide) ?_
  exact gw_iretz X hV h g_bool0 dX5_isStrip_15
set_option maxHeartbeats 4000000 in
set_option maxRecDepth 20000 in
theorem mX5_isStrip (l : Launch) (G : gG) (ad : Nat → Nat) (sz : Nat) (S : gS) {v0 : Int32} {r : Int32} {S' : gS} (h : fX5_isStrip S v0 = some (r, S')) : gMetI l yX5_isStrip cX5_isStrip 1 (some .boolean) rmX5_isStrip wdX G ad S sz [.int v0] r S' := by
  refine gMet_of (by decide) ?_
  intro p e s m below meth c A hA X hnm hV
  have hl := lv_entry ([.int v0]) (n := 1) (Nat.le_of_ble_eq_true rfl)
  rw [lg_entry_eq]
  generalize (lg_sl ([.int v0]) ++ List.replicate (1 - (lg_sl ([.int v0])).length) Slot.unset).toArray = ls at hl ⊢
  have hl : lv_has ls 1 [(0, .int v0)] := hl
  obtain ⟨hx, hb, hr, hml, hown, hts, hlk, hK⟩ := id X
  unfold fX5_isStrip at h
  generalize ([.int v0].toArray : Array Value) = args at X ⊢
  have Y : ∀ (H : Heap) (locs : List Loc), gV wdX G ad A s.heap S H locs → W p l e rmX5_isStrip s m args below meth c H locs 0 0 (MQ below (gQi wdX G ad A (r, S')) args s 0 0 A) (F0 m 0 ls []) := by
    intro H locs hV
    refine lv_iload_n hx hb dX5_isStrip_0 rfl (lv_at hl 0 rfl) ?_
    refine lv_if_lt (tgt := 14) hx hb dX5_isStrip_1 (by decide) (fun c_1 => ?_) (fun c_1 => ?_)
    · rw [if_pos c_1] at h
      exact tX5_isStrip_14 X hA _ h hV (lv_sub hl [] rfl)
    · rw [if_neg c_1] at h
      refine lv_iload_n hx hb dX5_isStrip_4 rfl (lv_at hl 0 rfl) ?_
      refine lv_bipush (v := 8) hx hb dX5_isStrip_5 (by decide) ?_
      refine lv_icmp_ge (tgt := 14) hx hb dX5_isStrip_7 (by decide) (fun c_7 => ?_) (fun c_7 => ?_)
      · rw [if_pos c_7] at h
        exact tX5_isStrip_14 X hA _ h hV (lv_sub hl [] rfl)
      · rw [if_neg c_7] at h
        refine lv_iconst (v := 1) hx hb dX5_isStrip_10 (by decide) ?_
        refine lv_goto (tgt := 15) hx hb dX5_isStrip_11 (by decide) ?_
        exact gw_iretz X hV h g_bool1 dX5_isStrip_15
  exact Y _ _ hV
def fX5_isLane_13 (S : gS) : Option (Int32 × gS) :=
some ((0 : Int32), S)
def fX5_isLane (S : gS) (v0 : Int32) : Option (Int32 × gS) :=
if v0 < 0 then (fX5_isLane_13 S) else
if (2 : Int32) < v0 then (fX5_isLane_13 S) else
some ((1 : Int32), S)
def rmX5_isLane : Room := { frames := 0, cells := 0, slots := 0, locals := 0 }
set_option maxHeartbeats 4000000 in
set_option maxRecDepth 20000 in
theorem tX5_isLane_13 {p : Program} {l : Launch} {e : Env} {s : State} {m : MethodId} {args : Array Value} {below : List Frame} {meth : Method} {c : Code} {G : gG} {ad : Nat → Nat} {A : Nat → Prop} {z : Int32 × gS} (X : gCx p s m args meth c G cX5_isLane RX5 (some .boolean) 1) (hA : ∀ q, s.heap.size ≤ q → A q) (S : gS) (h : fX5_isLane_13 S = some z) {H : Heap} {locs : List Loc} {ls : Array Slot} (hV : gV wdX G ad A s.heap S H locs) (hl : lv_has ls 1 []) : W p l e rmX5_isLane s m args below meth c H locs 0 0 (MQ below (gQi wdX G ad A z) args s 0 0 A) (F0 m 13 ls []) := by
  obtain ⟨hx, hb, hr, hml, hown, hts, hlk, hK⟩ := id X
  unfold fX5_isLane_13 at h
  refine lv_iconst (v := 0) hx hb dX5_isLane_13 (by decide) ?_
  exact gw_iretz X hV h g_bool0 dX5_isLane_14
set_option maxHeartbeats 4000000 in
set_option maxRecDepth 20000 in
theorem mX5_isLane (l : Launch) (G : gG) (ad : Nat → Nat) (sz : Nat) (S : gS) {v0 : Int32} {r : Int32} {S' : gS} (h : fX5_isLane S v0 = some (r, S')) : gMetI l yX5_isLane cX5_isLane 1 (some .boolean) rmX5_isLane wdX G ad S sz [.int v0] r S' := by
  refine gMet_of (by decide) ?_
  intro p e s m below meth c A hA X hnm hV
  have hl := lv_entry ([.int v0]) (n := 1) (Nat.le_of_ble_eq_true rfl)
  rw [lg_entry_eq]
  generalize (lg_sl ([.int v0]) ++ List.replicate (1 - (lg_sl ([.int v0])).length) Slot.unset).toArray = ls at hl ⊢
  have hl : lv_has ls 1 [(0, .int v0)] := hl
  obtain ⟨hx, hb, hr, hml, hown, hts, hlk, hK⟩ := id X
  unfold fX5_isLane at h
  generalize ([.int v0].toArray : Array Value) = args at X ⊢
  have Y : ∀ (H : Heap) (locs : List Loc), gV wdX G ad A s.heap S H locs → W p l e rmX5_isLane s m args below meth c H locs 0 0 (MQ below (gQi wdX G ad A (r, S')) args s 0 0 A) (F0 m 0 ls []) := by
    intro H locs hV
    refine lv_iload_n hx hb dX5_isLane_0 rfl (lv_at hl 0 rfl) ?_
    refine lv_if_lt (tgt := 13) hx hb dX5_isLane_1 (by decide) (fun c_1 => ?_) (fun c_1 => ?_)
    · rw [if_pos c_1] at h
      exact tX5_isLane_13 X hA _ h hV (lv_sub hl [] rfl)
    · rw [if_neg c_1] at h
      refine lv_iload_n hx hb dX5_isLane_4 rfl (lv_at hl 0 rfl) ?_
      refine lv_iconst (v := 2) hx hb dX5_isLane_5 (by decide) ?_
      refine lv_icmp_gt (tgt := 13) hx hb dX5_isLane_6 (by decide) (fun c_6 => ?_) (fun c_6 => ?_)
      · rw [if_pos c_6] at h
        exact tX5_isLane_13 X hA _ h hV (lv_sub hl [] rfl)
      · rw [if_neg c_6] at h
        refine lv_iconst (v := 1) hx hb dX5_isLane_9 (by decide) ?_
        refine lv_goto (tgt := 14) hx hb dX5_isLane_10 (by decide) ?_
        exact gw_iretz X hV h g_bool1 dX5_isLane_14
  exact Y _ _ hV
def fX5_fail (S : gS) (v1 : Int32) : Option (Int32 × gS) :=
gx_let (gI_up S 0 9 ((gI S 0 9) + (1 : Int32))) fun S7 =>
some (((-10 : Int32) - v1), S7)
def rmX5_fail : Room := { frames := 0, cells := 0, slots := 0, locals := 0 }
set_option maxHeartbeats 4000000 in
set_option maxRecDepth 20000 in
theorem mX5_fail (l : Launch) (G : gG) (ad : Nat → Nat) (sz : Nat) (S : gS) {v1 : Int32} {r : Int32} {S' : gS} (h : fX5_fail S v1 = some (r, S')) : gMetI l yX5_fail cX5_fail 2 (some .int) rmX5_fail wdX G ad S sz [.ref (ad 0), .int v1] r S' := by
  refine gMet_of (by decide) ?_
  intro p e s m below meth c A hA X hnm hV
  have hl := lv_entry ([.ref (ad 0), .int v1]) (n := 2) (Nat.le_of_ble_eq_true rfl)
  rw [lg_entry_eq]
  generalize (lg_sl ([.ref (ad 0), .int v1]) ++ List.replicate (2 - (lg_sl ([.ref (ad 0), .int v1])).length) Slot.unset).toArray = ls at hl ⊢
  have hl : lv_has ls 2 [(0, .ref (ad 0)), (1, .int v1)] := hl
  obtain ⟨hx, hb, hr, hml, hown, hts, hlk, hK⟩ := id X
  unfold fX5_fail at h
  generalize ([.ref (ad 0), .int v1].toArray : Array Value) = args at X ⊢
  have Y : ∀ (H : Heap) (locs : List Loc), gV wdX G ad A s.heap S H locs → W p l e rmX5_fail s m args below meth c H locs 0 0 (MQ below (gQi wdX G ad A (r, S')) args s 0 0 A) (F0 m 0 ls []) := by
    intro H locs hV
    refine lv_aload_n hx hb dX5_fail_0 rfl (lv_at hl 0 rfl) ?_
    refine lv_dup hx hb dX5_fail_1 rfl ?_
    refine ggX5_255 X hV (o := 0) rfl dX5_fail_2 ?_
    refine lv_iconst (v := 1) hx hb dX5_fail_5 (by decide) ?_
    refine lv_iadd hx hb dX5_fail_6 ?_
    refine gpX5_255 X hV (o := 0) rfl dX5_fail_7 (fun S7 e_7 H locs hV => ?_)
    replace h := gx_let_e e_7 h
    clear e_7
    refine lv_bipush (v := -10) hx hb dX5_fail_10 (by decide) ?_
    refine lv_iload_n hx hb dX5_fail_12 rfl (lv_at hl 1 rfl) ?_
    refine lv_isub hx hb dX5_fail_13 ?_
    exact gw_ireti X hV h dX5_fail_14
  exact Y _ _ hV
theorem kc_RX5_57 : gKS RX5 57 yX5_isStrip cX5_isStrip 1 (some .boolean) 1 := ⟨q_214, q_215, q_216, q_36, by decide +kernel⟩
theorem kc_RX5_61 : gKS RX5 61 yX5_isLane cX5_isLane 1 (some .boolean) 1 := ⟨q_217, q_218, q_219, q_36, by decide +kernel⟩
theorem kc_RX5_64 : gKV RX5 64 yX5_fail cX5_fail 2 (some .int) 1 := ⟨q_220, q_222, q_0, q_223, q_36, by decide +kernel⟩
theorem kc_RX5_68 : gKV RX5 68 yX3_begin cX3_begin 3 none 2 := ⟨q_224, q_225, q_226, q_227, q_41, by decide +kernel⟩
def fX5_strip (S : gS) (v1 : Int32) (v2 : Int32) (v3 : Int32) : Option (Int32 × gS) :=
gx_bind (fX5_isStrip S v1) fun r1 S1 =>
if r1 = 0 then (some ((-1 : Int32), S1)) else
gx_bind (fX5_isLane S1 v2) fun r10 S10 =>
if r10 = 0 then (some ((-2 : Int32), S10)) else
if v3 ≤ (8 : Int32) then (if 0 ≤ v3 then (gx_chk v1 8 <|
gx_let (47 + 2 * Int32.toNatClampNeg v1) fun w40 =>
gx_bind (fX3_begin w40 S10 v2 v3) fun r43 S43 =>
some (v3, S43)) else
gx_bind (fX5_fail S10 (4 : Int32)) fun r31 S31 =>
some (r31, S31)) else
some ((-2 : Int32), S10)
def rmX5_strip : Room := { frames := 2, cells := 0, slots := 0, locals := 46 }
set_option maxHeartbeats 4000000 in
set_option maxRecDepth 20000 in
theorem mX5_strip (l : Launch) (G : gG) (ad : Nat → Nat) (sz : Nat) (S : gS) {v1 : Int32} {v2 : Int32} {v3 : Int32} {r : Int32} {S' : gS} (h : fX5_strip S v1 v2 v3 = some (r, S')) : gMetI l yX5_strip cX5_strip 4 (some .int) rmX5_strip wdX G ad S sz [.ref (ad 0), .int v1, .int v2, .int v3] r S' := by
  refine gMet_of (by decide) ?_
  intro p e s m below meth c A hA X hnm hV
  have hl := lv_entry ([.ref (ad 0), .int v1, .int v2, .int v3]) (n := 4) (Nat.le_of_ble_eq_true rfl)
  rw [lg_entry_eq]
  generalize (lg_sl ([.ref (ad 0), .int v1, .int v2, .int v3]) ++ List.replicate (4 - (lg_sl ([.ref (ad 0), .int v1, .int v2, .int v3])).length) Slot.unset).toArray = ls at hl ⊢
  have hl : lv_has ls 4 [(0, .ref (ad 0)), (1, .int v1), (2, .int v2), (3, .int v3)] := hl
  obtain ⟨hx, hb, hr, hml, hown, hts, hlk, hK⟩ := id X
  unfold fX5_strip at h
  generalize ([.ref (ad 0), .int v1, .int v2, .int v3].toArray : Array Value) = args at X ⊢
  have Y : ∀ (H : Heap) (locs : List Loc), gV wdX G ad A s.heap S H locs → W p l e rmX5_strip s m args below meth c H locs 0 0 (MQ below (gQi wdX G ad A (r, S')) args s 0 0 A) (F0 m 0 ls []) := by
    intro H locs hV
    refine lv_iload_n hx hb dX5_strip_0 rfl (lv_at hl 1 rfl) ?_
    obtain ⟨r1, S1, k_1, h⟩ := gx_bind_e h
    refine gw_callI X hA hV (gw_runS X hV (As := [.int v1]) (rest := []) (mX5_isStrip l G ad _ S k_1) kc_RX5_57 rfl hl.1 rfl (Nat.le_of_ble_eq_true rfl) ⟨rfl, rfl⟩ ⟨Nat.le_of_ble_eq_true rfl, Nat.le_of_ble_eq_true rfl⟩ ⟨Nat.le_refl _, Nat.le_refl _⟩ dX5_strip_1) (fun H locs hV => ?_)
    refine lv_if_ne (tgt := 9) hx hb dX5_strip_4 (by decide) (fun c_4 => ?_) (fun c_4 => ?_)
    · rw [if_neg c_4] at h
      refine lv_iload_n hx hb dX5_strip_9 rfl (lv_at hl 2 rfl) ?_
      obtain ⟨r10, S10, k_10, h⟩ := gx_bind_e h
      refine gw_callI X hA hV (gw_runS X hV (As := [.int v2]) (rest := []) (mX5_isLane l G ad _ S1 k_10) kc_RX5_61 rfl hl.1 rfl (Nat.le_of_ble_eq_true rfl) ⟨rfl, rfl⟩ ⟨Nat.le_of_ble_eq_true rfl, Nat.le_of_ble_eq_true rfl⟩ ⟨Nat.le_refl _, Nat.le_refl _⟩ dX5_strip_10) (fun H locs hV => ?_)
      refine lv_if_eq (tgt := 22) hx hb dX5_strip_13 (by decide) (fun c_13 => ?_) (fun c_13 => ?_)
      · rw [if_pos c_13] at h
        refine lv_bipush (v := -2) hx hb dX5_strip_22 (by decide) ?_
        exact gw_ireti X hV h dX5_strip_24
      · rw [if_neg c_13] at h
        refine lv_iload_n hx hb dX5_strip_16 rfl (lv_at hl 3 rfl) ?_
        refine lv_bipush (v := 8) hx hb dX5_strip_17 (by decide) ?_
        refine lv_icmp_le (tgt := 25) hx hb dX5_strip_19 (by decide) (fun c_19 => ?_) (fun c_19 => ?_)
        · rw [if_pos c_19] at h
          refine lv_iload_n hx hb dX5_strip_25 rfl (lv_at hl 3 rfl) ?_
          refine lv_if_ge (tgt := 35) hx hb dX5_strip_26 (by decide) (fun c_26 => ?_) (fun c_26 => ?_)
          · rw [if_pos c_26] at h
            refine lv_aload_n hx hb dX5_strip_35 rfl (lv_at hl 0 rfl) ?_
            refine ggX5_11 X hV (o := 0) rfl dX5_strip_36 ?_
            refine lv_iload_n hx hb dX5_strip_39 rfl (lv_at hl 1 rfl) ?_
            obtain ⟨c_40, h⟩ := gx_chk_e h
            refine gw_aald X hV (iXQ_1 (o := 1) rfl) rfl c_40 dX5_strip_40 (fun w40 e_40 => ?_)
            have f_w40 := kXq_1 e_40 c_40
            replace h := gx_let_e e_40 h
            clear e_40
            refine lv_iload_n hx hb dX5_strip_41 rfl (lv_at hl 2 rfl) ?_
            refine lv_iload_n hx hb dX5_strip_42 rfl (lv_at hl 3 rfl) ?_
            obtain ⟨r43, S43, k_43, h⟩ := gx_bind_e h
            refine gw_callv X hA hV (gw_runV X hV (o := w40) (As := [.int v2, .int v3]) (rest := []) (mX3_begin l G ad _ S10 f_w40 k_43) kc_RX5_68 (iXO_13 f_w40) rfl rfl rfl hl.1 rfl (Nat.le_of_ble_eq_true rfl) ⟨rfl, rfl⟩ ⟨Nat.le_of_ble_eq_true rfl, Nat.le_of_ble_eq_true rfl⟩ ⟨Nat.le_refl _, Nat.le_refl _⟩ dX5_strip_43) (fun H locs hV => ?_)
            refine lv_iload_n hx hb dX5_strip_46 rfl (lv_at hl 3 rfl) ?_
            exact gw_ireti X hV h dX5_strip_47
          · rw [if_neg c_26] at h
            refine lv_aload_n hx hb dX5_strip_29 rfl (lv_at hl 0 rfl) ?_
            refine lv_iconst (v := 4) hx hb dX5_strip_30 (by decide) ?_
            obtain ⟨r31, S31, k_31, h⟩ := gx_bind_e h
            refine gw_callI X hA hV (gw_runV X hV (o := 0) (As := [.int (4 : Int32)]) (rest := []) (mX5_fail l G ad _ S10 k_31) kc_RX5_64 (iXO_0 rfl) rfl rfl rfl hl.1 rfl (Nat.le_of_ble_eq_true rfl) ⟨rfl, rfl⟩ ⟨Nat.le_of_ble_eq_true rfl, Nat.le_of_ble_eq_true rfl⟩ ⟨Nat.le_refl _, Nat.le_refl _⟩ dX5_strip_31) (fun H locs hV => ?_)
            exact gw_ireti X hV h dX5_strip_34
        · rw [if_neg c_19] at h
          refine lv_bipush (v := -2) hx hb dX5_strip_22 (by decide) ?_
          exact gw_ireti X hV h dX5_strip_24
    · rw [if_pos c_4] at h
      refine lv_iconst (v := -1) hx hb dX5_strip_7 (by decide) ?_
      exact gw_ireti X hV h dX5_strip_8
  exact Y _ _ hV
theorem kc_RX5_76 : gKV RX5 76 yX3_end cX3_end 1 none 0 := ⟨q_235, q_236, q_237, q_238, q_41, by decide +kernel⟩
def fX5_tear (S : gS) (v1 : Int32) : Option (Int32 × gS) :=
gx_bind (fX5_isStrip S v1) fun r1 S1 =>
if r1 = 0 then (some ((-1 : Int32), S1)) else
gx_chk v1 8 <|
gx_let (47 + 2 * Int32.toNatClampNeg v1) fun w14 =>
gx_let (gI S1 w14 1) fun v2_18 =>
gx_chk v1 8 <|
gx_let (47 + 2 * Int32.toNatClampNeg v1) fun w24 =>
gx_bind (fX3_end w24 S1) fun r25 S25 =>
if v2_18 = 0 then (some ((0 : Int32), S25)) else
some ((1 : Int32), S25)
def rmX5_tear : Room := { frames := 1, cells := 0, slots := 0, locals := 20 }
set_option maxHeartbeats 4000000 in
set_option maxRecDepth 20000 in
theorem mX5_tear (l : Launch) (G : gG) (ad : Nat → Nat) (sz : Nat) (S : gS) {v1 : Int32} {r : Int32} {S' : gS} (h : fX5_tear S v1 = some (r, S')) : gMetI l yX5_tear cX5_tear 3 (some .int) rmX5_tear wdX G ad S sz [.ref (ad 0), .int v1] r S' := by
  refine gMet_of (by decide) ?_
  intro p e s m below meth c A hA X hnm hV
  have hl := lv_entry ([.ref (ad 0), .int v1]) (n := 3) (Nat.le_of_ble_eq_true rfl)
  rw [lg_entry_eq]
  generalize (lg_sl ([.ref (ad 0), .int v1]) ++ List.replicate (3 - (lg_sl ([.ref (ad 0), .int v1])).length) Slot.unset).toArray = ls at hl ⊢
  have hl : lv_has ls 3 [(0, .ref (ad 0)), (1, .int v1)] := hl
  obtain ⟨hx, hb, hr, hml, hown, hts, hlk, hK⟩ := id X
  unfold fX5_tear at h
  generalize ([.ref (ad 0), .int v1].toArray : Array Value) = args at X ⊢
  have Y : ∀ (H : Heap) (locs : List Loc), gV wdX G ad A s.heap S H locs → W p l e rmX5_tear s m args below meth c H locs 0 0 (MQ below (gQi wdX G ad A (r, S')) args s 0 0 A) (F0 m 0 ls []) := by
    intro H locs hV
    refine lv_iload_n hx hb dX5_tear_0 rfl (lv_at hl 1 rfl) ?_
    obtain ⟨r1, S1, k_1, h⟩ := gx_bind_e h
    refine gw_callI X hA hV (gw_runS X hV (As := [.int v1]) (rest := []) (mX5_isStrip l G ad _ S k_1) kc_RX5_57 rfl hl.1 rfl (Nat.le_of_ble_eq_true rfl) ⟨rfl, rfl⟩ ⟨Nat.le_of_ble_eq_true rfl, Nat.le_of_ble_eq_true rfl⟩ ⟨Nat.le_refl _, Nat.le_refl _⟩ dX5_tear_1) (fun H locs hV => ?_)
    refine lv_if_ne (tgt := 9) hx hb dX5_tear_4 (by decide) (fun c_4 => ?_) (fun c_4 => ?_)
    · rw [if_neg c_4] at h
      refine lv_aload_n hx hb dX5_tear_9 rfl (lv_at hl 0 rfl) ?_
      refine ggX5_11 X hV (o := 0) rfl dX5_tear_10 ?_
      refine lv_iload_n hx hb dX5_tear_13 rfl (lv_at hl 1 rfl) ?_
      obtain ⟨c_14, h⟩ := gx_chk_e h
      refine gw_aald X hV (iXQ_1 (o := 1) rfl) rfl c_14 dX5_tear_14 (fun w14 e_14 => ?_)
      have f_w14 := kXq_1 e_14 c_14
      replace h := gx_let_e e_14 h
      clear e_14
      refine ggX5_72 X hV (o := w14) f_w14 dX5_tear_15 ?_
      refine lv_topi (fun v2_18 e_18 => ?_)
      replace h := gx_let_e e_18 h
      clear e_18
      refine lv_istore_n (lv' := [(2, .int v2_18), (0, .ref (ad 0)), (1, .int v1)]) hx hb dX5_tear_18 rfl hl (by decide) rfl (fun ls hl => ?_)
      refine lv_aload_n hx hb dX5_tear_19 rfl (lv_at hl 1 rfl) ?_
      refine ggX5_11 X hV (o := 0) rfl dX5_tear_20 ?_
      refine lv_iload_n hx hb dX5_tear_23 rfl (lv_at hl 2 rfl) ?_
      obtain ⟨c_24, h⟩ := gx_chk_e h
      refine gw_aald X hV (iXQ_1 (o := 1) rfl) rfl c_24 dX5_tear_24 (fun w24 e_24 => ?_)
      have f_w24 := kXq_1 e_24 c_24
      replace h := gx_let_e e_24 h
      clear e_24
      obtain ⟨r25, S25, k_25, h⟩ := gx_bind_e h
      refine gw_callv X hA hV (gw_runV X hV (o := w24) (As := []) (rest := []) (mX3_end l G ad _ S1 f_w24 k_25) kc_RX5_76 (iXO_13 f_w24) rfl rfl rfl hl.1 rfl (Nat.le_of_ble_eq_true rfl) ⟨rfl, rfl⟩ ⟨Nat.le_of_ble_eq_true rfl, Nat.le_of_ble_eq_true rfl⟩ ⟨Nat.le_refl _, Nat.le_refl _⟩ dX5_tear_25) (fun H locs hV => ?_)
      refine lv_iload_n hx hb dX5_tear_28 rfl (lv_at hl 0 rfl) ?_
      refine lv_if_eq (tgt := 36) hx hb dX5_tear_29 (by decide) (fun c_29 => ?_) (fun c_29 => ?_)
      · rw [if_pos c_29] at h
        refine lv_iconst (v := 0) hx hb dX5_tear_36 (by decide) ?_
        exact gw_ireti X hV h dX5_tear_37
      · rw [if_neg c_29] at h
        refine lv_iconst (v := 1) hx hb dX5_tear_32 (by decide) ?_
        refine lv_goto (tgt := 37) hx hb dX5_tear_33 (by decide) ?_
        exact gw_ireti X hV h dX5_tear_37
    · rw [if_pos c_4] at h
      refine lv_iconst (v := -1) hx hb dX5_tear_7 (by decide) ?_
      exact gw_ireti X hV h dX5_tear_8
  exact Y _ _ hV
theorem kc_RX5_79 : gKV RX5 79 yX3_has cX3_has 2 (some .boolean) 1 := ⟨q_243, q_244, q_245, q_246, q_41, by decide +kernel⟩
theorem kc_RX5_82 : gKV RX5 82 yX3_store cX3_store 4 none 2 := ⟨q_247, q_248, q_249, q_250, q_41, by decide +kernel⟩
def fX5_put (S : gS) (v1 : Int32) (v2 : Int32) (v3 : Int64) : Option (Int32 × gS) :=
gx_bind (fX5_isStrip S v1) fun r1 S1 =>
if r1 = 0 then (some ((-1 : Int32), S1)) else
gx_chk v1 8 <|
gx_let (47 + 2 * Int32.toNatClampNeg v1) fun w14 =>
if (gI S1 w14 1) = 0 then (gx_bind (fX3_has w14 S1 v2) fun r34 S34 =>
if r34 = 0 then (gx_bind (fX5_fail S34 (2 : Int32)) fun r42 S42 =>
some (r42, S42)) else
gx_bind (fX3_store w14 S34 v2 v3) fun r50 S50 =>
some ((1 : Int32), S50)) else
gx_bind (fX5_fail S1 (1 : Int32)) fun r27 S27 =>
some (r27, S27)
def rmX5_put : Room := { frames := 1, cells := 0, slots := 0, locals := 23 }
set_option maxHeartbeats 4000000 in
set_option maxRecDepth 20000 in
theorem mX5_put (l : Launch) (G : gG) (ad : Nat → Nat) (sz : Nat) (S : gS) {v1 : Int32} {v2 : Int32} {v3 : Int64} {r : Int32} {S' : gS} (h : fX5_put S v1 v2 v3 = some (r, S')) : gMetI l yX5_put cX5_put 6 (some .int) rmX5_put wdX G ad S sz [.ref (ad 0), .int v1, .int v2, .long v3] r S' := by
  refine gMet_of (by decide) ?_
  intro p e s m below meth c A hA X hnm hV
  have hl := lv_entry ([.ref (ad 0), .int v1, .int v2, .long v3]) (n := 6) (Nat.le_of_ble_eq_true rfl)
  rw [lg_entry_eq]
  generalize (lg_sl ([.ref (ad 0), .int v1, .int v2, .long v3]) ++ List.replicate (6 - (lg_sl ([.ref (ad 0), .int v1, .int v2, .long v3])).length) Slot.unset).toArray = ls at hl ⊢
  have hl : lv_has ls 6 [(0, .ref (ad 0)), (1, .int v1), (2, .int v2), (3, .long v3)] := hl
  obtain ⟨hx, hb, hr, hml, hown, hts, hlk, hK⟩ := id X
  unfold fX5_put at h
  generalize ([.ref (ad 0), .int v1, .int v2, .long v3].toArray : Array Value) = args at X ⊢
  have Y : ∀ (H : Heap) (locs : List Loc), gV wdX G ad A s.heap S H locs → W p l e rmX5_put s m args below meth c H locs 0 0 (MQ below (gQi wdX G ad A (r, S')) args s 0 0 A) (F0 m 0 ls []) := by
    intro H locs hV
    refine lv_iload_n hx hb dX5_put_0 rfl (lv_at hl 1 rfl) ?_
    obtain ⟨r1, S1, k_1, h⟩ := gx_bind_e h
    refine gw_callI X hA hV (gw_runS X hV (As := [.int v1]) (rest := []) (mX5_isStrip l G ad _ S k_1) kc_RX5_57 rfl hl.1 rfl (Nat.le_of_ble_eq_true rfl) ⟨rfl, rfl⟩ ⟨Nat.le_of_ble_eq_true rfl, Nat.le_of_ble_eq_true rfl⟩ ⟨Nat.le_refl _, Nat.le_refl _⟩ dX5_put_1) (fun H locs hV => ?_)
    refine lv_if_ne (tgt := 9) hx hb dX5_put_4 (by decide) (fun c_4 => ?_) (fun c_4 => ?_)
    · rw [if_neg c_4] at h
      refine lv_aload_n hx hb dX5_put_9 rfl (lv_at hl 0 rfl) ?_
      refine ggX5_11 X hV (o := 0) rfl dX5_put_10 ?_
      refine lv_iload_n hx hb dX5_put_13 rfl (lv_at hl 1 rfl) ?_
      obtain ⟨c_14, h⟩ := gx_chk_e h
      refine gw_aald X hV (iXQ_1 (o := 1) rfl) rfl c_14 dX5_put_14 (fun w14 e_14 => ?_)
      have f_w14 := kXq_1 e_14 c_14
      replace h := gx_let_e e_14 h
      clear e_14
      refine lv_astore (lv' := [(5, .ref (ad w14)), (0, .ref (ad 0)), (1, .int v1), (2, .int v2), (3, .long v3)]) hx hb dX5_put_15 hl (by decide) rfl (fun ls hl => ?_)
      refine lv_aload hx hb dX5_put_17 (lv_at hl 0 rfl) ?_
      refine ggX5_72 X hV (o := w14) f_w14 dX5_put_19 ?_
      refine lv_if_eq (tgt := 31) hx hb dX5_put_22 (by decide) (fun c_22 => ?_) (fun c_22 => ?_)
      · rw [if_pos c_22] at h
        refine lv_aload hx hb dX5_put_31 (lv_at hl 0 rfl) ?_
        refine lv_iload_n hx hb dX5_put_33 rfl (lv_at hl 3 rfl) ?_
        obtain ⟨r34, S34, k_34, h⟩ := gx_bind_e h
        refine gw_callI X hA hV (gw_runV X hV (o := w14) (As := [.int v2]) (rest := []) (mX3_has l G ad _ S1 f_w14 k_34) kc_RX5_79 (iXO_13 f_w14) rfl rfl rfl hl.1 rfl (Nat.le_of_ble_eq_true rfl) ⟨rfl, rfl⟩ ⟨Nat.le_of_ble_eq_true rfl, Nat.le_of_ble_eq_true rfl⟩ ⟨Nat.le_refl _, Nat.le_refl _⟩ dX5_put_34) (fun H locs hV => ?_)
        refine lv_if_ne (tgt := 46) hx hb dX5_put_37 (by decide) (fun c_37 => ?_) (fun c_37 => ?_)
        · rw [if_neg c_37] at h
          refine lv_aload hx hb dX5_put_46 (lv_at hl 0 rfl) ?_
          refine lv_iload_n hx hb dX5_put_48 rfl (lv_at hl 3 rfl) ?_
          refine lv_lload_n hx hb dX5_put_49 rfl (lv_at hl 4 rfl) ?_
          obtain ⟨r50, S50, k_50, h⟩ := gx_bind_e h
          refine gw_callv X hA hV (gw_runV X hV (o := w14) (As := [.int v2, .long v3]) (rest := []) (mX3_store l G ad _ S34 f_w14 k_50) kc_RX5_82 (iXO_13 f_w14) rfl rfl rfl hl.1 rfl (Nat.le_of_ble_eq_true rfl) ⟨rfl, rfl⟩ ⟨Nat.le_of_ble_eq_true rfl, Nat.le_of_ble_eq_true rfl⟩ ⟨Nat.le_refl _, Nat.le_refl _⟩ dX5_put_50) (fun H locs hV => ?_)
          refine lv_iconst (v := 1) hx hb dX5_put_53 (by decide) ?_
          exact gw_ireti X hV h dX5_put_54
        · rw [if_pos c_37] at h
          refine lv_aload_n hx hb dX5_put_40 rfl (lv_at hl 1 rfl) ?_
          refine lv_iconst (v := 2) hx hb dX5_put_41 (by decide) ?_
          obtain ⟨r42, S42, k_42, h⟩ := gx_bind_e h
          refine gw_callI X hA hV (gw_runV X hV (o := 0) (As := [.int (2 : Int32)]) (rest := []) (mX5_fail l G ad _ S34 k_42) kc_RX5_64 (iXO_0 rfl) rfl rfl rfl hl.1 rfl (Nat.le_of_ble_eq_true rfl) ⟨rfl, rfl⟩ ⟨Nat.le_of_ble_eq_true rfl, Nat.le_of_ble_eq_true rfl⟩ ⟨Nat.le_refl _, Nat.le_refl _⟩ dX5_put_42) (fun H locs hV => ?_)
          exact gw_ireti X hV h dX5_put_45
      · rw [if_neg c_22] at h
        refine lv_aload_n hx hb dX5_put_25 rfl (lv_at hl 1 rfl) ?_
        refine lv_iconst (v := 1) hx hb dX5_put_26 (by decide) ?_
        obtain ⟨r27, S27, k_27, h⟩ := gx_bind_e h
        refine gw_callI X hA hV (gw_runV X hV (o := 0) (As := [.int (1 : Int32)]) (rest := []) (mX5_fail l G ad _ S1 k_27) kc_RX5_64 (iXO_0 rfl) rfl rfl rfl hl.1 rfl (Nat.le_of_ble_eq_true rfl) ⟨rfl, rfl⟩ ⟨Nat.le_of_ble_eq_true rfl, Nat.le_of_ble_eq_true rfl⟩ ⟨Nat.le_refl _, Nat.le_refl _⟩ dX5_put_27) (fun H locs hV => ?_)
        exact gw_ireti X hV h dX5_put_30
    · rw [if_pos c_4] at h
      refine lv_iconst (v := -1) hx hb dX5_put_7 (by decide) ?_
      exact gw_ireti X hV h dX5_put_8
  exact Y _ _ hV
def fX5_at (S : gS) (v1 : Int32) (v2 : Int32) (v3 : Int32) : Option (Int64 × gS) :=
gx_bind (fX5_isStrip S v1) fun r1 S1 =>
if r1 = 0 then (some ((-1 : Int64), S1)) else
gx_bind (fX5_isLane S1 v2) fun r12 S12 =>
if r12 = 0 then (some ((-2 : Int64), S12)) else
gx_chk v1 8 <|
gx_let (47 + 2 * Int32.toNatClampNeg v1) fun w27 =>
if (gI S12 w27 1) = 0 then (if (gI S12 w27 2) = v2 then (gx_bind (fX3_has w27 S12 v3) fun r64 S64 =>
if r64 = 0 then (gx_bind (fX5_fail S64 (2 : Int32)) fun r72 S72 =>
some ((Int32.toInt64 r72), S72)) else
gx_chk v3 8 <|
some ((gJ S64 (w27 + 1) (Int32.toNatClampNeg v3)), S64)) else
gx_bind (fX5_fail S12 (3 : Int32)) fun r56 S56 =>
some ((Int32.toInt64 r56), S56)) else
gx_bind (fX5_fail S12 (1 : Int32)) fun r40 S40 =>
some ((Int32.toInt64 r40), S40)
def rmX5_at : Room := { frames := 1, cells := 0, slots := 0, locals := 21 }
set_option maxHeartbeats 4000000 in
set_option maxRecDepth 20000 in
theorem mX5_at (l : Launch) (G : gG) (ad : Nat → Nat) (sz : Nat) (S : gS) {v1 : Int32} {v2 : Int32} {v3 : Int32} {r : Int64} {S' : gS} (h : fX5_at S v1 v2 v3 = some (r, S')) : gMetL l yX5_at cX5_at 5 (some .long) rmX5_at wdX G ad S sz [.ref (ad 0), .int v1, .int v2, .int v3] r S' := by
  refine gMet_of (by decide) ?_
  intro p e s m below meth c A hA X hnm hV
  have hl := lv_entry ([.ref (ad 0), .int v1, .int v2, .int v3]) (n := 5) (Nat.le_of_ble_eq_true rfl)
  rw [lg_entry_eq]
  generalize (lg_sl ([.ref (ad 0), .int v1, .int v2, .int v3]) ++ List.replicate (5 - (lg_sl ([.ref (ad 0), .int v1, .int v2, .int v3])).length) Slot.unset).toArray = ls at hl ⊢
  have hl : lv_has ls 5 [(0, .ref (ad 0)), (1, .int v1), (2, .int v2), (3, .int v3)] := hl
  obtain ⟨hx, hb, hr, hml, hown, hts, hlk, hK⟩ := id X
  unfold fX5_at at h
  generalize ([.ref (ad 0), .int v1, .int v2, .int v3].toArray : Array Value) = args at X ⊢
  have Y : ∀ (H : Heap) (locs : List Loc), gV wdX G ad A s.heap S H locs → W p l e rmX5_at s m args below meth c H locs 0 0 (MQ below (gQl wdX G ad A (r, S')) args s 0 0 A) (F0 m 0 ls []) := by
    intro H locs hV
    refine lv_iload_n hx hb dX5_at_0 rfl (lv_at hl 1 rfl) ?_
    obtain ⟨r1, S1, k_1, h⟩ := gx_bind_e h
    refine gw_callI X hA hV (gw_runS X hV (As := [.int v1]) (rest := []) (mX5_isStrip l G ad _ S k_1) kc_RX5_57 rfl hl.1 rfl (Nat.le_of_ble_eq_true rfl) ⟨rfl, rfl⟩ ⟨Nat.le_of_ble_eq_true rfl, Nat.le_of_ble_eq_true rfl⟩ ⟨Nat.le_refl _, Nat.le_refl _⟩ dX5_at_1) (fun H locs hV => ?_)
    refine lv_if_ne (tgt := 11) hx hb dX5_at_4 (by decide) (fun c_4 => ?_) (fun c_4 => ?_)
    · rw [if_neg c_4] at h
      refine lv_iload_n hx hb dX5_at_11 rfl (lv_at hl 2 rfl) ?_
      obtain ⟨r12, S12, k_12, h⟩ := gx_bind_e h
      refine gw_callI X hA hV (gw_runS X hV (As := [.int v2]) (rest := []) (mX5_isLane l G ad _ S1 k_12) kc_RX5_61 rfl hl.1 rfl (Nat.le_of_ble_eq_true rfl) ⟨rfl, rfl⟩ ⟨Nat.le_of_ble_eq_true rfl, Nat.le_of_ble_eq_true rfl⟩ ⟨Nat.le_refl _, Nat.le_refl _⟩ dX5_at_12) (fun H locs hV => ?_)
      refine lv_if_ne (tgt := 22) hx hb dX5_at_15 (by decide) (fun c_15 => ?_) (fun c_15 => ?_)
      · rw [if_neg c_15] at h
        refine lv_aload_n hx hb dX5_at_22 rfl (lv_at hl 0 rfl) ?_
        refine ggX5_11 X hV (o := 0) rfl dX5_at_23 ?_
        refine lv_iload_n hx hb dX5_at_26 rfl (lv_at hl 1 rfl) ?_
        obtain ⟨c_27, h⟩ := gx_chk_e h
        refine gw_aald X hV (iXQ_1 (o := 1) rfl) rfl c_27 dX5_at_27 (fun w27 e_27 => ?_)
        have f_w27 := kXq_1 e_27 c_27
        replace h := gx_let_e e_27 h
        clear e_27
        refine lv_astore (lv' := [(4, .ref (ad w27)), (0, .ref (ad 0)), (1, .int v1), (2, .int v2), (3, .int v3)]) hx hb dX5_at_28 hl (by decide) rfl (fun ls hl => ?_)
        refine lv_aload hx hb dX5_at_30 (lv_at hl 0 rfl) ?_
        refine ggX5_72 X hV (o := w27) f_w27 dX5_at_32 ?_
        refine lv_if_eq (tgt := 45) hx hb dX5_at_35 (by decide) (fun c_35 => ?_) (fun c_35 => ?_)
        · rw [if_pos c_35] at h
          refine lv_aload hx hb dX5_at_45 (lv_at hl 0 rfl) ?_
          refine ggX5_90 X hV (o := w27) f_w27 dX5_at_47 ?_
          refine lv_iload_n hx hb dX5_at_50 rfl (lv_at hl 3 rfl) ?_
          refine lv_icmp_eq (tgt := 61) hx hb dX5_at_51 (by decide) (fun c_51 => ?_) (fun c_51 => ?_)
          · rw [if_pos c_51] at h
            refine lv_aload hx hb dX5_at_61 (lv_at hl 0 rfl) ?_
            refine lv_iload_n hx hb dX5_at_63 rfl (lv_at hl 4 rfl) ?_
            obtain ⟨r64, S64, k_64, h⟩ := gx_bind_e h
            refine gw_callI X hA hV (gw_runV X hV (o := w27) (As := [.int v3]) (rest := []) (mX3_has l G ad _ S12 f_w27 k_64) kc_RX5_79 (iXO_13 f_w27) rfl rfl rfl hl.1 rfl (Nat.le_of_ble_eq_true rfl) ⟨rfl, rfl⟩ ⟨Nat.le_of_ble_eq_true rfl, Nat.le_of_ble_eq_true rfl⟩ ⟨Nat.le_refl _, Nat.le_refl _⟩ dX5_at_64) (fun H locs hV => ?_)
            refine lv_if_ne (tgt := 77) hx hb dX5_at_67 (by decide) (fun c_67 => ?_) (fun c_67 => ?_)
            · rw [if_neg c_67] at h
              refine lv_aload hx hb dX5_at_77 (lv_at hl 0 rfl) ?_
              refine ggX5_94 X hV (o := w27) f_w27 dX5_at_79 ?_
              refine lv_iload_n hx hb dX5_at_82 rfl (lv_at hl 4 rfl) ?_
              obtain ⟨c_83, h⟩ := gx_chk_e h
              refine gw_lald X hV (iXJ_14 (o := (w27 + 1)) (kX_13_1 f_w27)) c_83 dX5_at_83 ?_
              exact gw_lret X hV h dX5_at_84
            · rw [if_pos c_67] at h
              refine lv_aload_n hx hb dX5_at_70 rfl (lv_at hl 1 rfl) ?_
              refine lv_iconst (v := 2) hx hb dX5_at_71 (by decide) ?_
              obtain ⟨r72, S72, k_72, h⟩ := gx_bind_e h
              refine gw_callI X hA hV (gw_runV X hV (o := 0) (As := [.int (2 : Int32)]) (rest := []) (mX5_fail l G ad _ S64 k_72) kc_RX5_64 (iXO_0 rfl) rfl rfl rfl hl.1 rfl (Nat.le_of_ble_eq_true rfl) ⟨rfl, rfl⟩ ⟨Nat.le_of_ble_eq_true rfl, Nat.le_of_ble_eq_true rfl⟩ ⟨Nat.le_refl _, Nat.le_refl _⟩ dX5_at_72) (fun H locs hV => ?_)
              refine lv_i2l hx hb dX5_at_75 rfl ?_
              exact gw_lret X hV h dX5_at_76
          · rw [if_neg c_51] at h
            refine lv_aload_n hx hb dX5_at_54 rfl (lv_at hl 1 rfl) ?_
            refine lv_iconst (v := 3) hx hb dX5_at_55 (by decide) ?_
            obtain ⟨r56, S56, k_56, h⟩ := gx_bind_e h
            refine gw_callI X hA hV (gw_runV X hV (o := 0) (As := [.int (3 : Int32)]) (rest := []) (mX5_fail l G ad _ S12 k_56) kc_RX5_64 (iXO_0 rfl) rfl rfl rfl hl.1 rfl (Nat.le_of_ble_eq_true rfl) ⟨rfl, rfl⟩ ⟨Nat.le_of_ble_eq_true rfl, Nat.le_of_ble_eq_true rfl⟩ ⟨Nat.le_refl _, Nat.le_refl _⟩ dX5_at_56) (fun H locs hV => ?_)
            refine lv_i2l hx hb dX5_at_59 rfl ?_
            exact gw_lret X hV h dX5_at_60
        · rw [if_neg c_35] at h
          refine lv_aload_n hx hb dX5_at_38 rfl (lv_at hl 1 rfl) ?_
          refine lv_iconst (v := 1) hx hb dX5_at_39 (by decide) ?_
          obtain ⟨r40, S40, k_40, h⟩ := gx_bind_e h
          refine gw_callI X hA hV (gw_runV X hV (o := 0) (As := [.int (1 : Int32)]) (rest := []) (mX5_fail l G ad _ S12 k_40) kc_RX5_64 (iXO_0 rfl) rfl rfl rfl hl.1 rfl (Nat.le_of_ble_eq_true rfl) ⟨rfl, rfl⟩ ⟨Nat.le_of_ble_eq_true rfl, Nat.le_of_ble_eq_true rfl⟩ ⟨Nat.le_refl _, Nat.le_refl _⟩ dX5_at_40) (fun H locs hV => ?_)
          refine lv_i2l hx hb dX5_at_43 rfl ?_
          exact gw_lret X hV h dX5_at_44
      · rw [if_pos c_15] at h
        refine lv_ldc2 (v := -2) hx hb hown (hts _ q_256) dX5_at_18 ?_
        exact gw_lret X hV h dX5_at_21
    · rw [if_pos c_4] at h
      refine lv_ldc2 (v := -1) hx hb hown (hts _ q_255) dX5_at_7 ?_
      exact gw_lret X hV h dX5_at_10
  exact Y _ _ hV
theorem kc_RX5_97 : gKV RX5 97 yX3_hasAll cX3_hasAll 3 (some .boolean) 2 := ⟨q_261, q_262, q_263, q_264, q_41, by decide +kernel⟩
def fX5_copy_59 (S : gS) : Option (Int32 × gS) :=
gx_bind (fX5_fail S (1 : Int32)) fun r61 S61 =>
some (r61, S61)
def fX5_copy_107 (S : gS) : Option (Int32 × gS) :=
gx_bind (fX5_fail S (2 : Int32)) fun r109 S109 =>
some (r109, S109)
def fX5_copy (S : gS) (v1 : Int32) (v2 : Int32) (v3 : Int32) (v4 : Int32) (v5 : Int32) : Option (Int32 × gS) :=
gx_bind (fX5_isStrip S v1) fun r1 S1 =>
if r1 = 0 then (some ((-1 : Int32), S1)) else
gx_bind (fX5_isStrip S1 v3) fun r8 S8 =>
if r8 = 0 then (some ((-1 : Int32), S8)) else
if 0 ≤ v5 then (gx_chk v1 8 <|
gx_let (47 + 2 * Int32.toNatClampNeg v1) fun w32 =>
gx_chk v3 8 <|
gx_let (47 + 2 * Int32.toNatClampNeg v3) fun w40 =>
if (gI S8 w32 1) = 0 then (if (gI S8 w40 1) = 0 then (if (gI S8 w32 2) = (gI S8 w40 2) then (gx_bind (fX3_hasAll w32 S8 v2 v5) fun r89 S89 =>
if r89 = 0 then (fX5_copy_107 S89) else
gx_bind (fX3_hasAll w40 S89 v4 v5) fun r101 S101 =>
if r101 = 0 then (fX5_copy_107 S101) else
gx_cpyJ S101 (w32 + 1) (w40 + 1) 8 8 v2 v4 v5 fun S128 =>
some (v5, S128)) else
gx_bind (fX5_fail S8 (3 : Int32)) fun r80 S80 =>
some (r80, S80)) else
fX5_copy_59 S8) else
fX5_copy_59 S8) else
gx_bind (fX5_fail S8 (4 : Int32)) fun r23 S23 =>
some (r23, S23)
def rmX5_copy : Room := { frames := 1, cells := 0, slots := 0, locals := 26 }
set_option maxHeartbeats 4000000 in
set_option maxRecDepth 20000 in
theorem tX5_copy_59 {p : Program} {l : Launch} {e : Env} {s : State} {m : MethodId} {args : Array Value} {below : List Frame} {meth : Method} {c : Code} {G : gG} {ad : Nat → Nat} {A : Nat → Prop} {z : Int32 × gS} (X : gCx p s m args meth c G cX5_copy RX5 (some .int) 8) (hA : ∀ q, s.heap.size ≤ q → A q) (S : gS) (h : fX5_copy_59 S = some z) {H : Heap} {locs : List Loc} {ls : Array Slot} (hV : gV wdX G ad A s.heap S H locs) (hl : lv_has ls 8 [(0, .ref (ad 0))]) : W p l e rmX5_copy s m args below meth c H locs 0 0 (MQ below (gQi wdX G ad A z) args s 0 0 A) (F0 m 59 ls []) := by
  obtain ⟨hx, hb, hr, hml, hown, hts, hlk, hK⟩ := id X
  unfold fX5_copy_59 at h
  refine lv_aload_n hx hb dX5_copy_59 rfl (lv_at hl 0 rfl) ?_
  refine lv_iconst (v := 1) hx hb dX5_copy_60 (by decide) ?_
  obtain ⟨r61, S61, k_61, h⟩ := gx_bind_e h
  refine gw_callI X hA hV (gw_runV X hV (o := 0) (As := [.int (1 : Int32)]) (rest := []) (mX5_fail l G ad _ S k_61) kc_RX5_64 (iXO_0 rfl) rfl rfl rfl hl.1 rfl (Nat.le_of_ble_eq_true rfl) ⟨rfl, rfl⟩ ⟨Nat.le_of_ble_eq_true rfl, Nat.le_of_ble_eq_true rfl⟩ ⟨Nat.le_refl _, Nat.le_refl _⟩ dX5_copy_61) (fun H locs hV => ?_)
  exact gw_ireti X hV h dX5_copy_64
set_option maxHeartbeats 4000000 in
set_option maxRecDepth 20000 in
theorem tX5_copy_107 {p : Program} {l : Launch} {e : Env} {s : State} {m : MethodId} {args : Array Value} {below : List Frame} {meth : Method} {c : Code} {G : gG} {ad : Nat → Nat} {A : Nat → Prop} {z : Int32 × gS} (X : gCx p s m args meth c G cX5_copy RX5 (some .int) 8) (hA : ∀ q, s.heap.size ≤ q → A q) (S : gS) (h : fX5_copy_107 S = some z) {H : Heap} {locs : List Loc} {ls : Array Slot} (hV : gV wdX G ad A s.heap S H locs) (hl : lv_has ls 8 [(0, .ref (ad 0))]) : W p l e rmX5_copy s m args below meth c H locs 0 0 (MQ below (gQi wdX G ad A z) args s 0 0 A) (F0 m 107 ls []) := by
  obtain ⟨hx, hb, hr, hml, hown, hts, hlk, hK⟩ := id X
  unfold fX5_copy_107 at h
  refine lv_aload_n hx hb dX5_copy_107 rfl (lv_at hl 0 rfl) ?_
  refine lv_iconst (v := 2) hx hb dX5_copy_108 (by decide) ?_
  obtain ⟨r109, S109, k_109, h⟩ := gx_bind_e h
  refine gw_callI X hA hV (gw_runV X hV (o := 0) (As := [.int (2 : Int32)]) (rest := []) (mX5_fail l G ad _ S k_109) kc_RX5_64 (iXO_0 rfl) rfl rfl rfl hl.1 rfl (Nat.le_of_ble_eq_true rfl) ⟨rfl, rfl⟩ ⟨Nat.le_of_ble_eq_true rfl, Nat.le_of_ble_eq_true rfl⟩ ⟨Nat.le_refl _, Nat.le_refl _⟩ dX5_copy_109) (fun H locs hV => ?_)
  exact gw_ireti X hV h dX5_copy_112
set_option maxHeartbeats 4000000 in
set_option maxRecDepth 20000 in
theorem mX5_copy (l : Launch) (G : gG) (ad : Nat → Nat) (sz : Nat) (S : gS) {v1 : Int32} {v2 : Int32} {v3 : Int32} {v4 : Int32} {v5 : Int32} {r : Int32} {S' : gS} (h : fX5_copy S v1 v2 v3 v4 v5 = some (r, S')) : gMetI l yX5_copy cX5_copy 8 (some .int) rmX5_copy wdX G ad S sz [.ref (ad 0), .int v1, .int v2, .int v3, .int v4, .int v5] r S' := by
  refine gMet_of (by decide) ?_
  intro p e s m below meth c A hA X hnm hV
  have hl := lv_entry ([.ref (ad 0), .int v1, .int v2, .int v3, .int v4, .int v5]) (n := 8) (Nat.le_of_ble_eq_true rfl)
  rw [lg_entry_eq]
  generalize (lg_sl ([.ref (ad 0), .int v1, .int v2, .int v3, .int v4, .int v5]) ++ List.replicate (8 - (lg_sl ([.ref (ad 0), .int v1, .int v2, .int v3, .int v4, .int v5])).length) Slot.unset).toArray = ls at hl ⊢
  have hl : lv_has ls 8 [(0, .ref (ad 0)), (1, .int v1), (2, .int v2), (3, .int v3), (4, .int v4), (5, .int v5)] := hl
  obtain ⟨hx, hb, hr, hml, hown, hts, hlk, hK⟩ := id X
  unfold fX5_copy at h
  generalize ([.ref (ad 0), .int v1, .int v2, .int v3, .int v4, .int v5].toArray : Array Value) = args at X ⊢
  have Y : ∀ (H : Heap) (locs : List Loc), gV wdX G ad A s.heap S H locs → W p l e rmX5_copy s m args below meth c H locs 0 0 (MQ below (gQi wdX G ad A (r, S')) args s 0 0 A) (F0 m 0 ls []) := by
    intro H locs hV
    refine lv_iload_n hx hb dX5_copy_0 rfl (lv_at hl 1 rfl) ?_
    obtain ⟨r1, S1, k_1, h⟩ := gx_bind_e h
    refine gw_callI X hA hV (gw_runS X hV (As := [.int v1]) (rest := []) (mX5_isStrip l G ad _ S k_1) kc_RX5_57 rfl hl.1 rfl (Nat.le_of_ble_eq_true rfl) ⟨rfl, rfl⟩ ⟨Nat.le_of_ble_eq_true rfl, Nat.le_of_ble_eq_true rfl⟩ ⟨Nat.le_refl _, Nat.le_refl _⟩ dX5_copy_1) (fun H locs hV => ?_)
    refine lv_if_eq (tgt := 14) hx hb dX5_copy_4 (by decide) (fun c_4 => ?_) (fun c_4 => ?_)
    · rw [if_pos c_4] at h
      refine lv_iconst (v := -1) hx hb dX5_copy_14 (by decide) ?_
      exact gw_ireti X hV h dX5_copy_15
    · rw [if_neg c_4] at h
      refine lv_iload_n hx hb dX5_copy_7 rfl (lv_at hl 3 rfl) ?_
      obtain ⟨r8, S8, k_8, h⟩ := gx_bind_e h
      refine gw_callI X hA hV (gw_runS X hV (As := [.int v3]) (rest := []) (mX5_isStrip l G ad _ S1 k_8) kc_RX5_57 rfl hl.1 rfl (Nat.le_of_ble_eq_true rfl) ⟨rfl, rfl⟩ ⟨Nat.le_of_ble_eq_true rfl, Nat.le_of_ble_eq_true rfl⟩ ⟨Nat.le_refl _, Nat.le_refl _⟩ dX5_copy_8) (fun H locs hV => ?_)
      refine lv_if_ne (tgt := 16) hx hb dX5_copy_11 (by decide) (fun c_11 => ?_) (fun c_11 => ?_)
      · rw [if_neg c_11] at h
        refine lv_iload hx hb dX5_copy_16 (lv_at hl 5 rfl) ?_
        refine lv_if_ge (tgt := 27) hx hb dX5_copy_18 (by decide) (fun c_18 => ?_) (fun c_18 => ?_)
        · rw [if_pos c_18] at h
          refine lv_aload_n hx hb dX5_copy_27 rfl (lv_at hl 0 rfl) ?_
          refine ggX5_11 X hV (o := 0) rfl dX5_copy_28 ?_
          refine lv_iload_n hx hb dX5_copy_31 rfl (lv_at hl 1 rfl) ?_
          obtain ⟨c_32, h⟩ := gx_chk_e h
          refine gw_aald X hV (iXQ_1 (o := 1) rfl) rfl c_32 dX5_copy_32 (fun w32 e_32 => ?_)
          have f_w32 := kXq_1 e_32 c_32
          replace h := gx_let_e e_32 h
          clear e_32
          refine lv_astore (lv' := [(6, .ref (ad w32)), (0, .ref (ad 0)), (1, .int v1), (2, .int v2), (3, .int v3), (4, .int v4), (5, .int v5)]) hx hb dX5_copy_33 hl (by decide) rfl (fun ls hl => ?_)
          refine lv_aload_n hx hb dX5_copy_35 rfl (lv_at hl 1 rfl) ?_
          refine ggX5_11 X hV (o := 0) rfl dX5_copy_36 ?_
          refine lv_iload_n hx hb dX5_copy_39 rfl (lv_at hl 4 rfl) ?_
          obtain ⟨c_40, h⟩ := gx_chk_e h
          refine gw_aald X hV (iXQ_1 (o := 1) rfl) rfl c_40 dX5_copy_40 (fun w40 e_40 => ?_)
          have f_w40 := kXq_1 e_40 c_40
          replace h := gx_let_e e_40 h
          clear e_40
          refine lv_astore (lv' := [(7, .ref (ad w40)), (6, .ref (ad w32)), (0, .ref (ad 0)), (1, .int v1), (2, .int v2), (3, .int v3), (4, .int v4), (5, .int v5)]) hx hb dX5_copy_41 hl (by decide) rfl (fun ls hl => ?_)
          refine lv_aload hx hb dX5_copy_43 (lv_at hl 1 rfl) ?_
          refine ggX5_72 X hV (o := w32) f_w32 dX5_copy_45 ?_
          refine lv_if_ne (tgt := 59) hx hb dX5_copy_48 (by decide) (fun c_48 => ?_) (fun c_48 => ?_)
          · rw [if_neg c_48] at h
            exact tX5_copy_59 X hA _ h hV (lv_sub hl [2] rfl)
          · rw [if_pos c_48] at h
            refine lv_aload hx hb dX5_copy_51 (lv_at hl 0 rfl) ?_
            refine ggX5_72 X hV (o := w40) f_w40 dX5_copy_53 ?_
            refine lv_if_eq (tgt := 65) hx hb dX5_copy_56 (by decide) (fun c_56 => ?_) (fun c_56 => ?_)
            · rw [if_pos c_56] at h
              refine lv_aload hx hb dX5_copy_65 (lv_at hl 1 rfl) ?_
              refine ggX5_90 X hV (o := w32) f_w32 dX5_copy_67 ?_
              refine lv_aload hx hb dX5_copy_70 (lv_at hl 0 rfl) ?_
              refine ggX5_90 X hV (o := w40) f_w40 dX5_copy_72 ?_
              refine lv_icmp_eq (tgt := 84) hx hb dX5_copy_75 (by decide) (fun c_75 => ?_) (fun c_75 => ?_)
              · rw [if_pos c_75] at h
                refine lv_aload hx hb dX5_copy_84 (lv_at hl 1 rfl) ?_
                refine lv_iload_n hx hb dX5_copy_86 rfl (lv_at hl 4 rfl) ?_
                refine lv_iload hx hb dX5_copy_87 (lv_at hl 7 rfl) ?_
                obtain ⟨r89, S89, k_89, h⟩ := gx_bind_e h
                refine gw_callI X hA hV (gw_runV X hV (o := w32) (As := [.int v2, .int v5]) (rest := []) (mX3_hasAll l G ad _ S8 f_w32 k_89) kc_RX5_97 (iXO_13 f_w32) rfl rfl rfl hl.1 rfl (Nat.le_of_ble_eq_true rfl) ⟨rfl, rfl⟩ ⟨Nat.le_of_ble_eq_true rfl, Nat.le_of_ble_eq_true rfl⟩ ⟨Nat.le_refl _, Nat.le_refl _⟩ dX5_copy_89) (fun H locs hV => ?_)
                refine lv_if_eq (tgt := 107) hx hb dX5_copy_92 (by decide) (fun c_92 => ?_) (fun c_92 => ?_)
                · rw [if_pos c_92] at h
                  exact tX5_copy_107 X hA _ h hV (lv_sub hl [2] rfl)
                · rw [if_neg c_92] at h
                  refine lv_aload hx hb dX5_copy_95 (lv_at hl 0 rfl) ?_
                  refine lv_iload hx hb dX5_copy_97 (lv_at hl 6 rfl) ?_
                  refine lv_iload hx hb dX5_copy_99 (lv_at hl 7 rfl) ?_
                  obtain ⟨r101, S101, k_101, h⟩ := gx_bind_e h
                  refine gw_callI X hA hV (gw_runV X hV (o := w40) (As := [.int v4, .int v5]) (rest := []) (mX3_hasAll l G ad _ S89 f_w40 k_101) kc_RX5_97 (iXO_13 f_w40) rfl rfl rfl hl.1 rfl (Nat.le_of_ble_eq_true rfl) ⟨rfl, rfl⟩ ⟨Nat.le_of_ble_eq_true rfl, Nat.le_of_ble_eq_true rfl⟩ ⟨Nat.le_refl _, Nat.le_refl _⟩ dX5_copy_101) (fun H locs hV => ?_)
                  refine lv_if_ne (tgt := 113) hx hb dX5_copy_104 (by decide) (fun c_104 => ?_) (fun c_104 => ?_)
                  · rw [if_neg c_104] at h
                    refine lv_aload hx hb dX5_copy_113 (lv_at hl 1 rfl) ?_
                    refine ggX5_94 X hV (o := w32) f_w32 dX5_copy_115 ?_
                    refine lv_iload_n hx hb dX5_copy_118 rfl (lv_at hl 4 rfl) ?_
                    refine lv_aload hx hb dX5_copy_119 (lv_at hl 0 rfl) ?_
                    refine ggX5_94 X hV (o := w40) f_w40 dX5_copy_121 ?_
                    refine lv_iload hx hb dX5_copy_124 (lv_at hl 6 rfl) ?_
                    refine lv_iload hx hb dX5_copy_126 (lv_at hl 7 rfl) ?_
                    obtain ⟨c_128, h⟩ := gx_cpyJ_e h
                    refine gw_cpyJ X hV (iXJ_14 (o := (w32 + 1)) (kX_13_1 f_w32)) (iXJ_14 (o := (w40 + 1)) (kX_13_1 f_w40)) hl.1 q_265 q_267 q_266 q_44 c_128 (Nat.le_of_ble_eq_true rfl) (Nat.le_of_ble_eq_true rfl) dX5_copy_128 (fun S128 e_128 H locs hV => ?_)
                    replace h := gx_let_e e_128 h
                    clear e_128
                    refine lv_iload hx hb dX5_copy_131 (lv_at hl 7 rfl) ?_
                    exact gw_ireti X hV h dX5_copy_133
                  · rw [if_pos c_104] at h
                    exact tX5_copy_107 X hA _ h hV (lv_sub hl [2] rfl)
              · rw [if_neg c_75] at h
                refine lv_aload_n hx hb dX5_copy_78 rfl (lv_at hl 2 rfl) ?_
                refine lv_iconst (v := 3) hx hb dX5_copy_79 (by decide) ?_
                obtain ⟨r80, S80, k_80, h⟩ := gx_bind_e h
                refine gw_callI X hA hV (gw_runV X hV (o := 0) (As := [.int (3 : Int32)]) (rest := []) (mX5_fail l G ad _ S8 k_80) kc_RX5_64 (iXO_0 rfl) rfl rfl rfl hl.1 rfl (Nat.le_of_ble_eq_true rfl) ⟨rfl, rfl⟩ ⟨Nat.le_of_ble_eq_true rfl, Nat.le_of_ble_eq_true rfl⟩ ⟨Nat.le_refl _, Nat.le_refl _⟩ dX5_copy_80) (fun H locs hV => ?_)
                exact gw_ireti X hV h dX5_copy_83
            · rw [if_neg c_56] at h
              exact tX5_copy_59 X hA _ h hV (lv_sub hl [2] rfl)
        · rw [if_neg c_18] at h
          refine lv_aload_n hx hb dX5_copy_21 rfl (lv_at hl 0 rfl) ?_
          refine lv_iconst (v := 4) hx hb dX5_copy_22 (by decide) ?_
          obtain ⟨r23, S23, k_23, h⟩ := gx_bind_e h
          refine gw_callI X hA hV (gw_runV X hV (o := 0) (As := [.int (4 : Int32)]) (rest := []) (mX5_fail l G ad _ S8 k_23) kc_RX5_64 (iXO_0 rfl) rfl rfl rfl hl.1 rfl (Nat.le_of_ble_eq_true rfl) ⟨rfl, rfl⟩ ⟨Nat.le_of_ble_eq_true rfl, Nat.le_of_ble_eq_true rfl⟩ ⟨Nat.le_refl _, Nat.le_refl _⟩ dX5_copy_23) (fun H locs hV => ?_)
          exact gw_ireti X hV h dX5_copy_26
      · rw [if_pos c_11] at h
        refine lv_iconst (v := -1) hx hb dX5_copy_14 (by decide) ?_
        exact gw_ireti X hV h dX5_copy_15
  exact Y _ _ hV
def fX5_isSide_15 (S : gS) : Option (Int32 × gS) :=
some ((0 : Int32), S)
def fX5_isSide (S : gS) (v0 : Int32) : Option (Int32 × gS) :=
if v0 < (2 : Int32) then (fX5_isSide_15 S) else
if (8 : Int32) < v0 then (fX5_isSide_15 S) else
some ((1 : Int32), S)
def rmX5_isSide : Room := { frames := 0, cells := 0, slots := 0, locals := 0 }
set_option maxHeartbeats 4000000 in
set_option maxRecDepth 20000 in
theorem tX5_isSide_15 {p : Program} {l : Launch} {e : Env} {s : State} {m : MethodId} {args : Array Value} {below : List Frame} {meth : Method} {c : Code} {G : gG} {ad : Nat → Nat} {A : Nat → Prop} {z : Int32 × gS} (X : gCx p s m args meth c G cX5_isSide RX5 (some .boolean) 1) (hA : ∀ q, s.heap.size ≤ q → A q) (S : gS) (h : fX5_isSide_15 S = some z) {H : Heap} {locs : List Loc} {ls : Array Slot} (hV : gV wdX G ad A s.heap S H locs) (hl : lv_has ls 1 []) : W p l e rmX5_isSide s m args below meth c H locs 0 0 (MQ below (gQi wdX G ad A z) args s 0 0 A) (F0 m 15 ls []) := by
  obtain ⟨hx, hb, hr, hml, hown, hts, hlk, hK⟩ := id X
  unfold fX5_isSide_15 at h
  refine lv_iconst (v := 0) hx hb dX5_isSide_15 (by decide) ?_
  exact gw_iretz X hV h g_bool0 dX5_isSide_16
set_option maxHeartbeats 4000000 in
set_option maxRecDepth 20000 in
theorem mX5_isSide (l : Launch) (G : gG) (ad : Nat → Nat) (sz : Nat) (S : gS) {v0 : Int32} {r : Int32} {S' : gS} (h : fX5_isSide S v0 = some (r, S')) : gMetI l yX5_isSide cX5_isSide 1 (some .boolean) rmX5_isSide wdX G ad S sz [.int v0] r S' := by
  refine gMet_of (by decide) ?_
  intro p e s m below meth c A hA X hnm hV
  have hl := lv_entry ([.int v0]) (n := 1) (Nat.le_of_ble_eq_true rfl)
  rw [lg_entry_eq]
  generalize (lg_sl ([.int v0]) ++ List.replicate (1 - (lg_sl ([.int v0])).length) Slot.unset).toArray = ls at hl ⊢
  have hl : lv_has ls 1 [(0, .int v0)] := hl
  obtain ⟨hx, hb, hr, hml, hown, hts, hlk, hK⟩ := id X
  unfold fX5_isSide at h
  generalize ([.int v0].toArray : Array Value) = args at X ⊢
  have Y : ∀ (H : Heap) (locs : List Loc), gV wdX G ad A s.heap S H locs → W p l e rmX5_isSide s m args below meth c H locs 0 0 (MQ below (gQi wdX G ad A (r, S')) args s 0 0 A) (F0 m 0 ls []) := by
    intro H locs hV
    refine lv_iload_n hx hb dX5_isSide_0 rfl (lv_at hl 0 rfl) ?_
    refine lv_iconst (v := 2) hx hb dX5_isSide_1 (by decide) ?_
    refine lv_icmp_lt (tgt := 15) hx hb dX5_isSide_2 (by decide) (fun c_2 => ?_) (fun c_2 => ?_)
    · rw [if_pos c_2] at h
      exact tX5_isSide_15 X hA _ h hV (lv_sub hl [] rfl)
    · rw [if_neg c_2] at h
      refine lv_iload_n hx hb dX5_isSide_5 rfl (lv_at hl 0 rfl) ?_
      refine lv_bipush (v := 8) hx hb dX5_isSide_6 (by decide) ?_
      refine lv_icmp_gt (tgt := 15) hx hb dX5_isSide_8 (by decide) (fun c_8 => ?_) (fun c_8 => ?_)
      · rw [if_pos c_8] at h
        exact tX5_isSide_15 X hA _ h hV (lv_sub hl [] rfl)
      · rw [if_neg c_8] at h
        refine lv_iconst (v := 1) hx hb dX5_isSide_11 (by decide) ?_
        refine lv_goto (tgt := 16) hx hb dX5_isSide_12 (by decide) ?_
        exact gw_iretz X hV h g_bool1 dX5_isSide_16
  exact Y _ _ hV
def fX5_levelFromStrips_31 (S : gS) : Option (Int64 × gS) :=
some ((-1 : Int64), S)
def fX5_levelFromStrips (S : gS) (v1 : Int32) (v2 : Int32) : Option (Int64 × gS) :=
gx_chk v2 8 <|
gx_let (47 + 2 * Int32.toNatClampNeg v2) fun w5 =>
if (gI S w5 1) = 0 then (gx_bind (fX3_has w5 S v1) fun r16 S16 =>
if r16 = 0 then (fX5_levelFromStrips_31 S16) else
gx_chk v1 8 <|
some ((gJ S16 (w5 + 1) (Int32.toNatClampNeg v1)), S16)) else
fX5_levelFromStrips_31 S
def rmX5_levelFromStrips : Room := { frames := 1, cells := 0, slots := 0, locals := 21 }
set_option maxHeartbeats 4000000 in
set_option maxRecDepth 20000 in
theorem tX5_levelFromStrips_31 {p : Program} {l : Launch} {e : Env} {s : State} {m : MethodId} {args : Array Value} {below : List Frame} {meth : Method} {c : Code} {G : gG} {ad : Nat → Nat} {A : Nat → Prop} {z : Int64 × gS} (X : gCx p s m args meth c G cX5_levelFromStrips RX5 (some .long) 4) (hA : ∀ q, s.heap.size ≤ q → A q) (S : gS) (h : fX5_levelFromStrips_31 S = some z) {H : Heap} {locs : List Loc} {ls : Array Slot} (hV : gV wdX G ad A s.heap S H locs) (hl : lv_has ls 4 []) : W p l e rmX5_levelFromStrips s m args below meth c H locs 0 0 (MQ below (gQl wdX G ad A z) args s 0 0 A) (F0 m 31 ls []) := by
  obtain ⟨hx, hb, hr, hml, hown, hts, hlk, hK⟩ := id X
  unfold fX5_levelFromStrips_31 at h
  refine lv_ldc2 (v := -1) hx hb hown (hts _ q_255) dX5_levelFromStrips_31 ?_
  exact gw_lret X hV h dX5_levelFromStrips_34
set_option maxHeartbeats 4000000 in
set_option maxRecDepth 20000 in
theorem mX5_levelFromStrips (l : Launch) (G : gG) (ad : Nat → Nat) (sz : Nat) (S : gS) {v1 : Int32} {v2 : Int32} {r : Int64} {S' : gS} (h : fX5_levelFromStrips S v1 v2 = some (r, S')) : gMetL l yX5_levelFromStrips cX5_levelFromStrips 4 (some .long) rmX5_levelFromStrips wdX G ad S sz [.ref (ad 0), .int v1, .int v2] r S' := by
  refine gMet_of (by decide) ?_
  intro p e s m below meth c A hA X hnm hV
  have hl := lv_entry ([.ref (ad 0), .int v1, .int v2]) (n := 4) (Nat.le_of_ble_eq_true rfl)
  rw [lg_entry_eq]
  generalize (lg_sl ([.ref (ad 0), .int v1, .int v2]) ++ List.replicate (4 - (lg_sl ([.ref (ad 0), .int v1, .int v2])).length) Slot.unset).toArray = ls at hl ⊢
  have hl : lv_has ls 4 [(0, .ref (ad 0)), (1, .int v1), (2, .int v2)] := hl
  obtain ⟨hx, hb, hr, hml, hown, hts, hlk, hK⟩ := id X
  unfold fX5_levelFromStrips at h
  generalize ([.ref (ad 0), .int v1, .int v2].toArray : Array Value) = args at X ⊢
  have Y : ∀ (H : Heap) (locs : List Loc), gV wdX G ad A s.heap S H locs → W p l e rmX5_levelFromStrips s m args below meth c H locs 0 0 (MQ below (gQl wdX G ad A (r, S')) args s 0 0 A) (F0 m 0 ls []) := by
    intro H locs hV
    refine lv_aload_n hx hb dX5_levelFromStrips_0 rfl (lv_at hl 0 rfl) ?_
    refine ggX5_11 X hV (o := 0) rfl dX5_levelFromStrips_1 ?_
    refine lv_iload_n hx hb dX5_levelFromStrips_4 rfl (lv_at hl 2 rfl) ?_
    obtain ⟨c_5, h⟩ := gx_chk_e h
    refine gw_aald X hV (iXQ_1 (o := 1) rfl) rfl c_5 dX5_levelFromStrips_5 (fun w5 e_5 => ?_)
    have f_w5 := kXq_1 e_5 c_5
    replace h := gx_let_e e_5 h
    clear e_5
    refine lv_astore_n (lv' := [(3, .ref (ad w5)), (0, .ref (ad 0)), (1, .int v1), (2, .int v2)]) hx hb dX5_levelFromStrips_6 rfl hl (by decide) rfl (fun ls hl => ?_)
    refine lv_aload_n hx hb dX5_levelFromStrips_7 rfl (lv_at hl 0 rfl) ?_
    refine ggX5_72 X hV (o := w5) f_w5 dX5_levelFromStrips_8 ?_
    refine lv_if_ne (tgt := 31) hx hb dX5_levelFromStrips_11 (by decide) (fun c_11 => ?_) (fun c_11 => ?_)
    · rw [if_neg c_11] at h
      exact tX5_levelFromStrips_31 X hA _ h hV (lv_sub hl [] rfl)
    · rw [if_pos c_11] at h
      refine lv_aload_n hx hb dX5_levelFromStrips_14 rfl (lv_at hl 0 rfl) ?_
      refine lv_iload_n hx hb dX5_levelFromStrips_15 rfl (lv_at hl 2 rfl) ?_
      obtain ⟨r16, S16, k_16, h⟩ := gx_bind_e h
      refine gw_callI X hA hV (gw_runV X hV (o := w5) (As := [.int v1]) (rest := []) (mX3_has l G ad _ S f_w5 k_16) kc_RX5_79 (iXO_13 f_w5) rfl rfl rfl hl.1 rfl (Nat.le_of_ble_eq_true rfl) ⟨rfl, rfl⟩ ⟨Nat.le_of_ble_eq_true rfl, Nat.le_of_ble_eq_true rfl⟩ ⟨Nat.le_refl _, Nat.le_refl _⟩ dX5_levelFromStrips_16) (fun H locs hV => ?_)
      refine lv_if_eq (tgt := 31) hx hb dX5_levelFromStrips_19 (by decide) (fun c_19 => ?_) (fun c_19 => ?_)
      · rw [if_pos c_19] at h
        exact tX5_levelFromStrips_31 X hA _ h hV (lv_sub hl [] rfl)
      · rw [if_neg c_19] at h
        refine lv_aload_n hx hb dX5_levelFromStrips_22 rfl (lv_at hl 0 rfl) ?_
        refine ggX5_94 X hV (o := w5) f_w5 dX5_levelFromStrips_23 ?_
        refine lv_iload_n hx hb dX5_levelFromStrips_26 rfl (lv_at hl 2 rfl) ?_
        obtain ⟨c_27, h⟩ := gx_chk_e h
        refine gw_lald X hV (iXJ_14 (o := (w5 + 1)) (kX_13_1 f_w5)) c_27 dX5_levelFromStrips_27 ?_
        refine lv_goto (tgt := 34) hx hb dX5_levelFromStrips_28 (by decide) ?_
        exact gw_lret X hV h dX5_levelFromStrips_34
  exact Y _ _ hV
theorem kc_RX5_107 : gKS RX5 107 yX5_isSide cX5_isSide 1 (some .boolean) 1 := ⟨q_272, q_273, q_274, q_36, by decide +kernel⟩
theorem kc_RX5_110 : gKV RX5 110 yX1_begin cX1_begin 3 none 2 := ⟨q_275, q_276, q_277, q_278, q_38, by decide +kernel⟩
theorem kc_RX5_111 : gKV RX5 111 yX5_levelFromStrips cX5_levelFromStrips 4 (some .long) 2 := ⟨q_279, q_281, q_1, q_282, q_36, by decide +kernel⟩
theorem kc_RX5_115 : gKV RX5 115 yX1_settle cX1_settle 7 none 3 := ⟨q_283, q_284, q_285, q_286, q_38, by decide +kernel⟩
theorem kc_RX5_119 : gKV RX5 119 yX0_clear cX0_clear 1 none 0 := ⟨q_296, q_297, q_298, q_299, q_39, by decide +kernel⟩
theorem kc_RX5_122 : gKV RX5 122 yX2_forget cX2_forget 1 none 0 := ⟨q_301, q_302, q_303, q_304, q_40, by decide +kernel⟩
theorem kc_RX5_125 : gKV RX5 125 yX1_cliffs cX1_cliffs 1 (some .int) 0 := ⟨q_305, q_306, q_307, q_308, q_38, by decide +kernel⟩
def fX5_ground_36L (K28 : gS → Int32 → Int32 → Int32 → Option (Int32 × gS)) (K36 : gS → Int32 → Int32 → Int32 → Int32 → Option (Int32 × gS)) (S : gS) (v1 : Int32) (v2 : Int32) (v3 : Int32) (v4 : Int32) : Option (Int32 × gS) :=
if v1 ≤ v4 then (gx_let (v3 + (1 : Int32)) fun v3_65 =>
K28 S v1 v2 v3_65) else
gx_bind (fX5_levelFromStrips S v4 v3) fun r53 S53 =>
gx_bind (fX1_settle 5 S53 v4 v3 r53) fun r56 S56 =>
gx_let (v4 + (1 : Int32)) fun v4_59 =>
K36 S56 v1 v2 v3 v4_59
def fX5_ground_36 (K28 : gS → Int32 → Int32 → Int32 → Option (Int32 × gS)) : Nat → gS → Int32 → Int32 → Int32 → Int32 → Option (Int32 × gS)
  | 0, _, _, _, _, _ => none
  | f + 1, S, v1, v2, v3, v4 => fX5_ground_36L K28 (fX5_ground_36 K28 f) S v1 v2 v3 v4
def fX5_ground_28L (K28 : gS → Int32 → Int32 → Int32 → Option (Int32 × gS)) (S : gS) (v1 : Int32) (v2 : Int32) (v3 : Int32) : Option (Int32 × gS) :=
if v2 ≤ v3 then (gx_bind (fX0_clear 10 S) fun r75 S75 =>
gx_bind (fX2_forget S75) fun r82 S82 =>
gx_bind (fX1_cliffs 5 S82) fun r89 S89 =>
some (r89, S89)) else
fX5_ground_36 K28 gx_fuel S v1 v2 v3 (0 : Int32)
def fX5_ground_28 : Nat → gS → Int32 → Int32 → Int32 → Option (Int32 × gS)
  | 0, _, _, _, _ => none
  | f + 1, S, v1, v2, v3 => fX5_ground_28L (fX5_ground_28 f) S v1 v2 v3
def fX5_ground (S : gS) (v1 : Int32) (v2 : Int32) : Option (Int32 × gS) :=
gx_bind (fX5_isSide S v1) fun r1 S1 =>
if r1 = 0 then (some ((-2 : Int32), S1)) else
gx_bind (fX5_isSide S1 v2) fun r8 S8 =>
if r8 = 0 then (some ((-2 : Int32), S8)) else
gx_bind (fX1_begin 5 S8 v1 v2) fun r23 S23 =>
fX5_ground_28 gx_fuel S23 v1 v2 (0 : Int32)
def rmX5_ground : Room := { frames := 2, cells := 0, slots := 0, locals := 48 }
set_option maxHeartbeats 4000000 in
set_option maxRecDepth 20000 in
theorem tX5_ground_36L {p : Program} {l : Launch} {e : Env} {s : State} {m : MethodId} {args : Array Value} {below : List Frame} {meth : Method} {c : Code} {G : gG} {ad : Nat → Nat} {A : Nat → Prop} {z : Int32 × gS} {K28 : gS → Int32 → Int32 → Int32 → Option (Int32 × gS)} {K36 : gS → Int32 → Int32 → Int32 → Int32 → Option (Int32 × gS)} (X : gCx p s m args meth c G cX5_ground RX5 (some .int) 5) (hA : ∀ q, s.heap.size ≤ q → A q) (kK28 : ∀ (S : gS) (v1 : Int32) (v2 : Int32) (v3 : Int32), K28 S v1 v2 v3 = some z → ∀ (H : Heap) (locs : List Loc) (ls : Array Slot), gV wdX G ad A s.heap S H locs → lv_has ls 5 [(0, .ref (ad 0)), (1, .int v1), (2, .int v2), (3, .int v3)] → W p l e rmX5_ground s m args below meth c H locs 0 0 (MQ below (gQi wdX G ad A z) args s 0 0 A) (F0 m 28 ls [])) (kK36 : ∀ (S : gS) (v1 : Int32) (v2 : Int32) (v3 : Int32) (v4 : Int32), K36 S v1 v2 v3 v4 = some z → ∀ (H : Heap) (locs : List Loc) (ls : Array Slot), gV wdX G ad A s.heap S H locs → lv_has ls 5 [(0, .ref (ad 0)), (1, .int v1), (2, .int v2), (3, .int v3), (4, .int v4)] → W p l e rmX5_ground s m args below meth c H locs 0 0 (MQ below (gQi wdX G ad A z) args s 0 0 A) (F0 m 36 ls [])) (S : gS) (v1 : Int32) (v2 : Int32) (v3 : Int32) (v4 : Int32) (h : fX5_ground_36L K28 K36 S v1 v2 v3 v4 = some z) {H : Heap} {locs : List Loc} {ls : Array Slot} (hV : gV wdX G ad A s.heap S H locs) (hl : lv_has ls 5 [(0, .ref (ad 0)), (1, .int v1), (2, .int v2), (3, .int v3), (4, .int v4)]) : W p l e rmX5_ground s m args below meth c H locs 0 0 (MQ below (gQi wdX G ad A z) args s 0 0 A) (F0 m 36 ls []) := by
  obtain ⟨hx, hb, hr, hml, hown, hts, hlk, hK⟩ := id X
  unfold fX5_ground_36L at h
  refine lv_iload hx hb dX5_ground_36 (lv_at hl 4 rfl) ?_
  refine lv_iload_n hx hb dX5_ground_38 rfl (lv_at hl 1 rfl) ?_
  refine lv_icmp_ge (tgt := 65) hx hb dX5_ground_39 (by decide) (fun c_39 => ?_) (fun c_39 => ?_)
  · rw [if_pos c_39] at h
    obtain ⟨v3_65, e_65⟩ : ∃ y : Int32, y = (v3 + (1 : Int32)) := ⟨_, rfl⟩
    refine lv_iinc (v := v3_65) (lv' := [(3, .int v3_65), (0, .ref (ad 0)), (1, .int v1), (2, .int v2), (4, .int v4)]) hx hb dX5_ground_65 hl (k := 3) rfl (by rw [e_65]; rfl) (by decide) rfl (fun ls hl => ?_)
    replace h := gx_let_e e_65 h
    clear e_65
    refine lv_goto (tgt := 28) hx hb dX5_ground_68 (by decide) ?_
    exact kK28 _ _ _ _ h _ _ _ hV (lv_sub hl [1, 2, 3, 0] rfl)
  · rw [if_neg c_39] at h
    refine lv_aload_n hx hb dX5_ground_42 rfl (lv_at hl 0 rfl) ?_
    refine ggX5_25 X hV (o := 0) rfl dX5_ground_43 ?_
    refine lv_iload hx hb dX5_ground_46 (lv_at hl 4 rfl) ?_
    refine lv_iload_n hx hb dX5_ground_48 rfl (lv_at hl 3 rfl) ?_
    refine lv_aload_n hx hb dX5_ground_49 rfl (lv_at hl 0 rfl) ?_
    refine lv_iload hx hb dX5_ground_50 (lv_at hl 4 rfl) ?_
    refine lv_iload_n hx hb dX5_ground_52 rfl (lv_at hl 3 rfl) ?_
    obtain ⟨r53, S53, k_53, h⟩ := gx_bind_e h
    refine gw_callL X hA hV (gw_runV X hV (o := 0) (As := [.int v4, .int v3]) (rest := [.int v3, .int v4, .ref (ad 5)]) (mX5_levelFromStrips l G ad _ S k_53) kc_RX5_111 (iXO_0 rfl) rfl rfl rfl hl.1 rfl (Nat.le_of_ble_eq_true rfl) ⟨rfl, rfl⟩ ⟨Nat.le_of_ble_eq_true rfl, Nat.le_of_ble_eq_true rfl⟩ ⟨Nat.le_refl _, Nat.le_refl _⟩ dX5_ground_53) (fun H locs hV => ?_)
    obtain ⟨r56, S56, k_56, h⟩ := gx_bind_e h
    refine gw_callv X hA hV (gw_runV X hV (o := 5) (As := [.int v4, .int v3, .long r53]) (rest := []) (mX1_settle l G ad _ S53 rfl k_56) kc_RX5_115 (iXO_4 rfl) rfl rfl rfl hl.1 rfl (Nat.le_of_ble_eq_true rfl) ⟨rfl, rfl⟩ ⟨Nat.le_of_ble_eq_true rfl, Nat.le_of_ble_eq_true rfl⟩ ⟨Nat.le_refl _, Nat.le_refl _⟩ dX5_ground_56) (fun H locs hV => ?_)
    obtain ⟨v4_59, e_59⟩ : ∃ y : Int32, y = (v4 + (1 : Int32)) := ⟨_, rfl⟩
    refine lv_iinc (v := v4_59) (lv' := [(4, .int v4_59), (0, .ref (ad 0)), (1, .int v1), (2, .int v2), (3, .int v3)]) hx hb dX5_ground_59 hl (k := 4) rfl (by rw [e_59]; rfl) (by decide) rfl (fun ls hl => ?_)
    replace h := gx_let_e e_59 h
    clear e_59
    refine lv_goto (tgt := 36) hx hb dX5_ground_62 (by decide) ?_
    exact kK36 _ _ _ _ _ h _ _ _ hV (lv_sub hl [1, 2, 3, 4, 0] rfl)
set_option maxHeartbeats 4000000 in
set_option maxRecDepth 20000 in
theorem tX5_ground_36 {p : Program} {l : Launch} {e : Env} {s : State} {m : MethodId} {args : Array Value} {below : List Frame} {meth : Method} {c : Code} {G : gG} {ad : Nat → Nat} {A : Nat → Prop} {z : Int32 × gS} {K28 : gS → Int32 → Int32 → Int32 → Option (Int32 × gS)} (X : gCx p s m args meth c G cX5_ground RX5 (some .int) 5) (hA : ∀ q, s.heap.size ≤ q → A q) (kK28 : ∀ (S : gS) (v1 : Int32) (v2 : Int32) (v3 : Int32), K28 S v1 v2 v3 = some z → ∀ (H : Heap) (locs : List Loc) (ls : Array Slot), gV wdX G ad A s.heap S H locs → lv_has ls 5 [(0, .ref (ad 0)), (1, .int v1), (2, .int v2), (3, .int v3)] → W p l e rmX5_ground s m args below meth c H locs 0 0 (MQ below (gQi wdX G ad A z) args s 0 0 A) (F0 m 28 ls [])) : ∀ (f : Nat) (S : gS) (v1 : Int32) (v2 : Int32) (v3 : Int32) (v4 : Int32) (h : fX5_ground_36 K28 f S v1 v2 v3 v4 = some z) (H : Heap) (locs : List Loc) (ls : Array Slot) (hV : gV wdX G ad A s.heap S H locs) (hl : lv_has ls 5 [(0, .ref (ad 0)), (1, .int v1), (2, .int v2), (3, .int v3), (4, .int v4)]), W p l e rmX5_ground s m args below meth c H locs 0 0 (MQ below (gQi wdX G ad A z) args s 0 0 A) (F0 m 36 ls []) := by
  intro f
  induction f with
  | zero => intro S v1 v2 v3 v4 h; exact absurd h (by simp [fX5_ground_36])
  | succ f ih => intro S v1 v2 v3 v4 h H locs ls hV hl; exact tX5_ground_36L X hA kK28 ih S v1 v2 v3 v4 h hV hl
set_option maxHeartbeats 4000000 in
set_option maxRecDepth 20000 in
theorem tX5_ground_28L {p : Program} {l : Launch} {e : Env} {s : State} {m : MethodId} {args : Array Value} {below : List Frame} {meth : Method} {c : Code} {G : gG} {ad : Nat → Nat} {A : Nat → Prop} {z : Int32 × gS} {K28 : gS → Int32 → Int32 → Int32 → Option (Int32 × gS)} (X : gCx p s m args meth c G cX5_ground RX5 (some .int) 5) (hA : ∀ q, s.heap.size ≤ q → A q) (kK28 : ∀ (S : gS) (v1 : Int32) (v2 : Int32) (v3 : Int32), K28 S v1 v2 v3 = some z → ∀ (H : Heap) (locs : List Loc) (ls : Array Slot), gV wdX G ad A s.heap S H locs → lv_has ls 5 [(0, .ref (ad 0)), (1, .int v1), (2, .int v2), (3, .int v3)] → W p l e rmX5_ground s m args below meth c H locs 0 0 (MQ below (gQi wdX G ad A z) args s 0 0 A) (F0 m 28 ls [])) (S : gS) (v1 : Int32) (v2 : Int32) (v3 : Int32) (h : fX5_ground_28L K28 S v1 v2 v3 = some z) {H : Heap} {locs : List Loc} {ls : Array Slot} (hV : gV wdX G ad A s.heap S H locs) (hl : lv_has ls 5 [(0, .ref (ad 0)), (1, .int v1), (2, .int v2), (3, .int v3)]) : W p l e rmX5_ground s m args below meth c H locs 0 0 (MQ below (gQi wdX G ad A z) args s 0 0 A) (F0 m 28 ls []) := by
  obtain ⟨hx, hb, hr, hml, hown, hts, hlk, hK⟩ := id X
  unfold fX5_ground_28L at h
  refine lv_iload_n hx hb dX5_ground_28 rfl (lv_at hl 3 rfl) ?_
  refine lv_iload_n hx hb dX5_ground_29 rfl (lv_at hl 2 rfl) ?_
  refine lv_icmp_ge (tgt := 71) hx hb dX5_ground_30 (by decide) (fun c_30 => ?_) (fun c_30 => ?_)
  · rw [if_pos c_30] at h
    refine lv_aload_n hx hb dX5_ground_71 rfl (lv_at hl 0 rfl) ?_
    refine ggX5_32 X hV (o := 0) rfl dX5_ground_72 ?_
    obtain ⟨r75, S75, k_75, h⟩ := gx_bind_e h
    refine gw_callv X hA hV (gw_runV X hV (o := 10) (As := []) (rest := []) (mX0_clear l G ad _ S rfl k_75) kc_RX5_119 (iXO_6 rfl) rfl rfl rfl hl.1 rfl (Nat.le_of_ble_eq_true rfl) ⟨rfl, rfl⟩ ⟨Nat.le_of_ble_eq_true rfl, Nat.le_of_ble_eq_true rfl⟩ ⟨Nat.le_refl _, Nat.le_refl _⟩ dX5_ground_75) (fun H locs hV => ?_)
    refine lv_aload_n hx hb dX5_ground_78 rfl (lv_at hl 0 rfl) ?_
    refine ggX5_39 X hV (o := 0) rfl dX5_ground_79 ?_
    obtain ⟨r82, S82, k_82, h⟩ := gx_bind_e h
    refine gw_callv X hA hV (gw_runV X hV (o := 14) (As := []) (rest := []) (mX2_forget l G ad _ S75 k_82) kc_RX5_122 (iXO_10 rfl) rfl rfl rfl hl.1 rfl (Nat.le_of_ble_eq_true rfl) ⟨rfl, rfl⟩ ⟨Nat.le_of_ble_eq_true rfl, Nat.le_of_ble_eq_true rfl⟩ ⟨Nat.le_refl _, Nat.le_refl _⟩ dX5_ground_82) (fun H locs hV => ?_)
    refine lv_aload_n hx hb dX5_ground_85 rfl (lv_at hl 0 rfl) ?_
    refine ggX5_25 X hV (o := 0) rfl dX5_ground_86 ?_
    obtain ⟨r89, S89, k_89, h⟩ := gx_bind_e h
    refine gw_callI X hA hV (gw_runV X hV (o := 5) (As := []) (rest := []) (mX1_cliffs l G ad _ S82 rfl k_89) kc_RX5_125 (iXO_4 rfl) rfl rfl rfl hl.1 rfl (Nat.le_of_ble_eq_true rfl) ⟨rfl, rfl⟩ ⟨Nat.le_of_ble_eq_true rfl, Nat.le_of_ble_eq_true rfl⟩ ⟨Nat.le_refl _, Nat.le_refl _⟩ dX5_ground_89) (fun H locs hV => ?_)
    exact gw_ireti X hV h dX5_ground_92
  · rw [if_neg c_30] at h
    refine lv_iconst (v := 0) hx hb dX5_ground_33 (by decide) ?_
    refine lv_istore (lv' := [(4, .int (0 : Int32)), (0, .ref (ad 0)), (1, .int v1), (2, .int v2), (3, .int v3)]) hx hb dX5_ground_34 hl (by decide) rfl (fun ls hl => ?_)
    exact tX5_ground_36 X hA kK28 gx_fuel _ _ _ _ _ h _ _ _ hV (lv_sub hl [1, 2, 3, 4, 0] rfl)
set_option maxHeartbeats 4000000 in
set_option maxRecDepth 20000 in
theorem tX5_ground_28 {p : Program} {l : Launch} {e : Env} {s : State} {m : MethodId} {args : Array Value} {below : List Frame} {meth : Method} {c : Code} {G : gG} {ad : Nat → Nat} {A : Nat → Prop} {z : Int32 × gS} (X : gCx p s m args meth c G cX5_ground RX5 (some .int) 5) (hA : ∀ q, s.heap.size ≤ q → A q) : ∀ (f : Nat) (S : gS) (v1 : Int32) (v2 : Int32) (v3 : Int32) (h : fX5_ground_28 f S v1 v2 v3 = some z) (H : Heap) (locs : List Loc) (ls : Array Slot) (hV : gV wdX G ad A s.heap S H locs) (hl : lv_has ls 5 [(0, .ref (ad 0)), (1, .int v1), (2, .int v2), (3, .int v3)]), W p l e rmX5_ground s m args below meth c H locs 0 0 (MQ below (gQi wdX G ad A z) args s 0 0 A) (F0 m 28 ls []) := by
  intro f
  induction f with
  | zero => intro S v1 v2 v3 h; exact absurd h (by simp [fX5_ground_28])
  | succ f ih => intro S v1 v2 v3 h H locs ls hV hl; exact tX5_ground_28L X hA ih S v1 v2 v3 h hV hl
set_option maxHeartbeats 4000000 in
set_option maxRecDepth 20000 in
theorem mX5_ground (l : Launch) (G : gG) (ad : Nat → Nat) (sz : Nat) (S : gS) {v1 : Int32} {v2 : Int32} {r : Int32} {S' : gS} (h : fX5_ground S v1 v2 = some (r, S')) : gMetI l yX5_ground cX5_ground 5 (some .int) rmX5_ground wdX G ad S sz [.ref (ad 0), .int v1, .int v2] r S' := by
  refine gMet_of (by decide) ?_
  intro p e s m below meth c A hA X hnm hV
  have hl := lv_entry ([.ref (ad 0), .int v1, .int v2]) (n := 5) (Nat.le_of_ble_eq_true rfl)
  rw [lg_entry_eq]
  generalize (lg_sl ([.ref (ad 0), .int v1, .int v2]) ++ List.replicate (5 - (lg_sl ([.ref (ad 0), .int v1, .int v2])).length) Slot.unset).toArray = ls at hl ⊢
  have hl : lv_has ls 5 [(0, .ref (ad 0)), (1, .int v1), (2, .int v2)] := hl
  obtain ⟨hx, hb, hr, hml, hown, hts, hlk, hK⟩ := id X
  unfold fX5_ground at h
  generalize ([.ref (ad 0), .int v1, .int v2].toArray : Array Value) = args at X ⊢
  have Y : ∀ (H : Heap) (locs : List Loc), gV wdX G ad A s.heap S H locs → W p l e rmX5_ground s m args below meth c H locs 0 0 (MQ below (gQi wdX G ad A (r, S')) args s 0 0 A) (F0 m 0 ls []) := by
    intro H locs hV
    refine lv_iload_n hx hb dX5_ground_0 rfl (lv_at hl 1 rfl) ?_
    obtain ⟨r1, S1, k_1, h⟩ := gx_bind_e h
    refine gw_callI X hA hV (gw_runS X hV (As := [.int v1]) (rest := []) (mX5_isSide l G ad _ S k_1) kc_RX5_107 rfl hl.1 rfl (Nat.le_of_ble_eq_true rfl) ⟨rfl, rfl⟩ ⟨Nat.le_of_ble_eq_true rfl, Nat.le_of_ble_eq_true rfl⟩ ⟨Nat.le_refl _, Nat.le_refl _⟩ dX5_ground_1) (fun H locs hV => ?_)
    refine lv_if_eq (tgt := 14) hx hb dX5_ground_4 (by decide) (fun c_4 => ?_) (fun c_4 => ?_)
    · rw [if_pos c_4] at h
      refine lv_bipush (v := -2) hx hb dX5_ground_14 (by decide) ?_
      exact gw_ireti X hV h dX5_ground_16
    · rw [if_neg c_4] at h
      refine lv_iload_n hx hb dX5_ground_7 rfl (lv_at hl 2 rfl) ?_
      obtain ⟨r8, S8, k_8, h⟩ := gx_bind_e h
      refine gw_callI X hA hV (gw_runS X hV (As := [.int v2]) (rest := []) (mX5_isSide l G ad _ S1 k_8) kc_RX5_107 rfl hl.1 rfl (Nat.le_of_ble_eq_true rfl) ⟨rfl, rfl⟩ ⟨Nat.le_of_ble_eq_true rfl, Nat.le_of_ble_eq_true rfl⟩ ⟨Nat.le_refl _, Nat.le_refl _⟩ dX5_ground_8) (fun H locs hV => ?_)
      refine lv_if_ne (tgt := 17) hx hb dX5_ground_11 (by decide) (fun c_11 => ?_) (fun c_11 => ?_)
      · rw [if_neg c_11] at h
        refine lv_aload_n hx hb dX5_ground_17 rfl (lv_at hl 0 rfl) ?_
        refine ggX5_25 X hV (o := 0) rfl dX5_ground_18 ?_
        refine lv_iload_n hx hb dX5_ground_21 rfl (lv_at hl 1 rfl) ?_
        refine lv_iload_n hx hb dX5_ground_22 rfl (lv_at hl 2 rfl) ?_
        obtain ⟨r23, S23, k_23, h⟩ := gx_bind_e h
        refine gw_callv X hA hV (gw_runV X hV (o := 5) (As := [.int v1, .int v2]) (rest := []) (mX1_begin l G ad _ S8 rfl k_23) kc_RX5_110 (iXO_4 rfl) rfl rfl rfl hl.1 rfl (Nat.le_of_ble_eq_true rfl) ⟨rfl, rfl⟩ ⟨Nat.le_of_ble_eq_true rfl, Nat.le_of_ble_eq_true rfl⟩ ⟨Nat.le_refl _, Nat.le_refl _⟩ dX5_ground_23) (fun H locs hV => ?_)
        refine lv_iconst (v := 0) hx hb dX5_ground_26 (by decide) ?_
        refine lv_istore_n (lv' := [(3, .int (0 : Int32)), (0, .ref (ad 0)), (1, .int v1), (2, .int v2)]) hx hb dX5_ground_27 rfl hl (by decide) rfl (fun ls hl => ?_)
        exact tX5_ground_28 X hA gx_fuel _ _ _ _ h _ _ _ hV (lv_sub hl [1, 2, 3, 0] rfl)
      · rw [if_pos c_11] at h
        refine lv_bipush (v := -2) hx hb dX5_ground_14 (by decide) ?_
        exact gw_ireti X hV h dX5_ground_16
  exact Y _ _ hV
def fX5_isHundredths_14 (S : gS) : Option (Int32 × gS) :=
some ((0 : Int32), S)
def fX5_isHundredths (S : gS) (v0 : Int32) : Option (Int32 × gS) :=
if v0 < 0 then (fX5_isHundredths_14 S) else
if (100 : Int32) < v0 then (fX5_isHundredths_14 S) else
some ((1 : Int32), S)
def rmX5_isHundredths : Room := { frames := 0, cells := 0, slots := 0, locals := 0 }
set_option maxHeartbeats 4000000 in
set_option maxRecDepth 20000 in
theorem tX5_isHundredths_14 {p : Program} {l : Launch} {e : Env} {s : State} {m : MethodId} {args : Array Value} {below : List Frame} {meth : Method} {c : Code} {G : gG} {ad : Nat → Nat} {A : Nat → Prop} {z : Int32 × gS} (X : gCx p s m args meth c G cX5_isHundredths RX5 (some .boolean) 1) (hA : ∀ q, s.heap.size ≤ q → A q) (S : gS) (h : fX5_isHundredths_14 S = some z) {H : Heap} {locs : List Loc} {ls : Array Slot} (hV : gV wdX G ad A s.heap S H locs) (hl : lv_has ls 1 []) : W p l e rmX5_isHundredths s m args below meth c H locs 0 0 (MQ below (gQi wdX G ad A z) args s 0 0 A) (F0 m 14 ls []) := by
  obtain ⟨hx, hb, hr, hml, hown, hts, hlk, hK⟩ := id X
  unfold fX5_isHundredths_14 at h
  refine lv_iconst (v := 0) hx hb dX5_isHundredths_14 (by decide) ?_
  exact gw_iretz X hV h g_bool0 dX5_isHundredths_15
set_option maxHeartbeats 4000000 in
set_option maxRecDepth 20000 in
theorem mX5_isHundredths (l : Launch) (G : gG) (ad : Nat → Nat) (sz : Nat) (S : gS) {v0 : Int32} {r : Int32} {S' : gS} (h : fX5_isHundredths S v0 = some (r, S')) : gMetI l yX5_isHundredths cX5_isHundredths 1 (some .boolean) rmX5_isHundredths wdX G ad S sz [.int v0] r S' := by
  refine gMet_of (by decide) ?_
  intro p e s m below meth c A hA X hnm hV
  have hl := lv_entry ([.int v0]) (n := 1) (Nat.le_of_ble_eq_true rfl)
  rw [lg_entry_eq]
  generalize (lg_sl ([.int v0]) ++ List.replicate (1 - (lg_sl ([.int v0])).length) Slot.unset).toArray = ls at hl ⊢
  have hl : lv_has ls 1 [(0, .int v0)] := hl
  obtain ⟨hx, hb, hr, hml, hown, hts, hlk, hK⟩ := id X
  unfold fX5_isHundredths at h
  generalize ([.int v0].toArray : Array Value) = args at X ⊢
  have Y : ∀ (H : Heap) (locs : List Loc), gV wdX G ad A s.heap S H locs → W p l e rmX5_isHundredths s m args below meth c H locs 0 0 (MQ below (gQi wdX G ad A (r, S')) args s 0 0 A) (F0 m 0 ls []) := by
    intro H locs hV
    refine lv_iload_n hx hb dX5_isHundredths_0 rfl (lv_at hl 0 rfl) ?_
    refine lv_if_lt (tgt := 14) hx hb dX5_isHundredths_1 (by decide) (fun c_1 => ?_) (fun c_1 => ?_)
    · rw [if_pos c_1] at h
      exact tX5_isHundredths_14 X hA _ h hV (lv_sub hl [] rfl)
    · rw [if_neg c_1] at h
      refine lv_iload_n hx hb dX5_isHundredths_4 rfl (lv_at hl 0 rfl) ?_
      refine lv_bipush (v := 100) hx hb dX5_isHundredths_5 (by decide) ?_
      refine lv_icmp_gt (tgt := 14) hx hb dX5_isHundredths_7 (by decide) (fun c_7 => ?_) (fun c_7 => ?_)
      · rw [if_pos c_7] at h
        exact tX5_isHundredths_14 X hA _ h hV (lv_sub hl [] rfl)
      · rw [if_neg c_7] at h
        refine lv_iconst (v := 1) hx hb dX5_isHundredths_10 (by decide) ?_
        refine lv_goto (tgt := 15) hx hb dX5_isHundredths_11 (by decide) ?_
        exact gw_iretz X hV h g_bool1 dX5_isHundredths_15
  exact Y _ _ hV
theorem kc_RX5_129 : gKV RX5 129 yX1_placeAt cX1_placeAt 3 (some .int) 2 := ⟨q_313, q_288, q_289, q_290, q_38, by decide +kernel⟩
theorem kc_RX5_133 : gKS RX5 133 yX5_isHundredths cX5_isHundredths 1 (some .boolean) 1 := ⟨q_314, q_315, q_316, q_36, by decide +kernel⟩
def fX5_kind_105 (S : gS) (v6 : Int32) (t1 : Int32) (t2 : Int32) : Option (Int32 × gS) :=
gx_chk t1 64 <|
gx_let (gA_up S 8 (Int32.toNatClampNeg t1) t2) fun S105 =>
gx_bind (fX2_forget S105) fun r110 S110 =>
some (v6, S110)
def fX5_kind_46 (S : gS) (v3 : Int32) (v4 : Int32) (v5 : Int32) : Option (Int32 × gS) :=
gx_chk v5 64 <|
if (gA S 7 (Int32.toNatClampNeg v5)) = (4 : Int32) then (some ((-3 : Int32), S)) else
gx_chk v5 64 <|
gx_let (gA S 7 (Int32.toNatClampNeg v5)) fun v6_73 =>
gx_chk v5 64 <|
gx_let (gA_up S 7 (Int32.toNatClampNeg v5) v3) fun S85 =>
if v3 = 0 then (fX5_kind_105 S85 v6_73 v5 (0 : Int32)) else
fX5_kind_105 S85 v6_73 v5 v4
def fX5_kind (S : gS) (v1 : Int32) (v2 : Int32) (v3 : Int32) (v4 : Int32) : Option (Int32 × gS) :=
gx_bind (fX1_placeAt 5 S v1 v2) fun r6 S6 =>
if r6 = (-1 : Int32) then (some ((-1 : Int32), S6)) else
if v3 < 0 then (some ((-2 : Int32), S6)) else
if v3 ≤ (3 : Int32) then (if v3 = 0 then (fX5_kind_46 S6 v3 v4 r6) else
gx_bind (fX5_isHundredths S6 v4) fun r37 S37 =>
if r37 = 0 then (some ((-2 : Int32), S37)) else
fX5_kind_46 S37 v3 v4 r6) else
some ((-2 : Int32), S6)
def rmX5_kind : Room := { frames := 1, cells := 0, slots := 0, locals := 22 }
set_option maxHeartbeats 4000000 in
set_option maxRecDepth 20000 in
theorem tX5_kind_105 {p : Program} {l : Launch} {e : Env} {s : State} {m : MethodId} {args : Array Value} {below : List Frame} {meth : Method} {c : Code} {G : gG} {ad : Nat → Nat} {A : Nat → Prop} {z : Int32 × gS} (X : gCx p s m args meth c G cX5_kind RX5 (some .int) 7) (hA : ∀ q, s.heap.size ≤ q → A q) (S : gS) (v6 : Int32) (t1 : Int32) (t2 : Int32) (h : fX5_kind_105 S v6 t1 t2 = some z) {H : Heap} {locs : List Loc} {ls : Array Slot} (hV : gV wdX G ad A s.heap S H locs) (hl : lv_has ls 7 [(0, .ref (ad 0)), (6, .int v6)]) : W p l e rmX5_kind s m args below meth c H locs 0 0 (MQ below (gQi wdX G ad A z) args s 0 0 A) (F0 m 105 ls [.int t2, .int t1, .ref (ad 8)]) := by
  obtain ⟨hx, hb, hr, hml, hown, hts, hlk, hK⟩ := id X
  unfold fX5_kind_105 at h
  obtain ⟨c_105, h⟩ := gx_chk_e h
  refine gw_iast X hV (iXA_5 (o := 8) rfl) c_105 dX5_kind_105 (fun S105 e_105 H locs hV => ?_)
  replace h := gx_let_e e_105 h
  clear e_105
  refine lv_aload_n hx hb dX5_kind_106 rfl (lv_at hl 0 rfl) ?_
  refine ggX5_39 X hV (o := 0) rfl dX5_kind_107 ?_
  obtain ⟨r110, S110, k_110, h⟩ := gx_bind_e h
  refine gw_callv X hA hV (gw_runV X hV (o := 14) (As := []) (rest := []) (mX2_forget l G ad _ S105 k_110) kc_RX5_122 (iXO_10 rfl) rfl rfl rfl hl.1 rfl (Nat.le_of_ble_eq_true rfl) ⟨rfl, rfl⟩ ⟨Nat.le_of_ble_eq_true rfl, Nat.le_of_ble_eq_true rfl⟩ ⟨Nat.le_refl _, Nat.le_refl _⟩ dX5_kind_110) (fun H locs hV => ?_)
  refine lv_iload hx hb dX5_kind_113 (lv_at hl 1 rfl) ?_
  exact gw_ireti X hV h dX5_kind_115
set_option maxHeartbeats 4000000 in
set_option maxRecDepth 20000 in
theorem tX5_kind_46 {p : Program} {l : Launch} {e : Env} {s : State} {m : MethodId} {args : Array Value} {below : List Frame} {meth : Method} {c : Code} {G : gG} {ad : Nat → Nat} {A : Nat → Prop} {z : Int32 × gS} (X : gCx p s m args meth c G cX5_kind RX5 (some .int) 7) (hA : ∀ q, s.heap.size ≤ q → A q) (S : gS) (v3 : Int32) (v4 : Int32) (v5 : Int32) (h : fX5_kind_46 S v3 v4 v5 = some z) {H : Heap} {locs : List Loc} {ls : Array Slot} (hV : gV wdX G ad A s.heap S H locs) (hl : lv_has ls 7 [(0, .ref (ad 0)), (3, .int v3), (4, .int v4), (5, .int v5)]) : W p l e rmX5_kind s m args below meth c H locs 0 0 (MQ below (gQi wdX G ad A z) args s 0 0 A) (F0 m 46 ls []) := by
  obtain ⟨hx, hb, hr, hml, hown, hts, hlk, hK⟩ := id X
  unfold fX5_kind_46 at h
  refine lv_aload_n hx hb dX5_kind_46 rfl (lv_at hl 0 rfl) ?_
  refine ggX5_25 X hV (o := 0) rfl dX5_kind_47 ?_
  refine ggX5_136 X hV (o := 5) rfl dX5_kind_50 ?_
  refine lv_iload hx hb dX5_kind_53 (lv_at hl 3 rfl) ?_
  obtain ⟨c_55, h⟩ := gx_chk_e h
  refine gw_iald X hV (iXA_5 (o := 7) rfl) c_55 dX5_kind_55 ?_
  refine lv_iconst (v := 4) hx hb dX5_kind_56 (by decide) ?_
  refine lv_icmp_ne (tgt := 63) hx hb dX5_kind_57 (by decide) (fun c_57 => ?_) (fun c_57 => ?_)
  · rw [if_neg c_57] at h
    refine lv_aload_n hx hb dX5_kind_63 rfl (lv_at hl 0 rfl) ?_
    refine ggX5_25 X hV (o := 0) rfl dX5_kind_64 ?_
    refine ggX5_136 X hV (o := 5) rfl dX5_kind_67 ?_
    refine lv_iload hx hb dX5_kind_70 (lv_at hl 3 rfl) ?_
    obtain ⟨c_72, h⟩ := gx_chk_e h
    refine gw_iald X hV (iXA_5 (o := 7) rfl) c_72 dX5_kind_72 ?_
    refine lv_topi (fun v6_73 e_73 => ?_)
    replace h := gx_let_e e_73 h
    clear e_73
    refine lv_istore (lv' := [(6, .int v6_73), (0, .ref (ad 0)), (3, .int v3), (4, .int v4), (5, .int v5)]) hx hb dX5_kind_73 hl (by decide) rfl (fun ls hl => ?_)
    refine lv_aload_n hx hb dX5_kind_75 rfl (lv_at hl 1 rfl) ?_
    refine ggX5_25 X hV (o := 0) rfl dX5_kind_76 ?_
    refine ggX5_136 X hV (o := 5) rfl dX5_kind_79 ?_
    refine lv_iload hx hb dX5_kind_82 (lv_at hl 4 rfl) ?_
    refine lv_iload_n hx hb dX5_kind_84 rfl (lv_at hl 2 rfl) ?_
    obtain ⟨c_85, h⟩ := gx_chk_e h
    refine gw_iast X hV (iXA_5 (o := 7) rfl) c_85 dX5_kind_85 (fun S85 e_85 H locs hV => ?_)
    replace h := gx_let_e e_85 h
    clear e_85
    refine lv_aload_n hx hb dX5_kind_86 rfl (lv_at hl 1 rfl) ?_
    refine ggX5_25 X hV (o := 0) rfl dX5_kind_87 ?_
    refine ggX5_140 X hV (o := 5) rfl dX5_kind_90 ?_
    refine lv_iload hx hb dX5_kind_93 (lv_at hl 4 rfl) ?_
    refine lv_iload_n hx hb dX5_kind_95 rfl (lv_at hl 2 rfl) ?_
    refine lv_if_ne (tgt := 103) hx hb dX5_kind_96 (by decide) (fun c_96 => ?_) (fun c_96 => ?_)
    · rw [if_neg c_96] at h
      refine lv_iload hx hb dX5_kind_103 (lv_at hl 3 rfl) ?_
      exact tX5_kind_105 X hA _ _ _ _ h hV (lv_sub hl [1, 0] rfl)
    · rw [if_pos c_96] at h
      refine lv_iconst (v := 0) hx hb dX5_kind_99 (by decide) ?_
      refine lv_goto (tgt := 105) hx hb dX5_kind_100 (by decide) ?_
      exact tX5_kind_105 X hA _ _ _ _ h hV (lv_sub hl [1, 0] rfl)
  · rw [if_pos c_57] at h
    refine lv_bipush (v := -3) hx hb dX5_kind_60 (by decide) ?_
    exact gw_ireti X hV h dX5_kind_62
set_option maxHeartbeats 4000000 in
set_option maxRecDepth 20000 in
theorem mX5_kind (l : Launch) (G : gG) (ad : Nat → Nat) (sz : Nat) (S : gS) {v1 : Int32} {v2 : Int32} {v3 : Int32} {v4 : Int32} {r : Int32} {S' : gS} (h : fX5_kind S v1 v2 v3 v4 = some (r, S')) : gMetI l yX5_kind cX5_kind 7 (some .int) rmX5_kind wdX G ad S sz [.ref (ad 0), .int v1, .int v2, .int v3, .int v4] r S' := by
  refine gMet_of (by decide) ?_
  intro p e s m below meth c A hA X hnm hV
  have hl := lv_entry ([.ref (ad 0), .int v1, .int v2, .int v3, .int v4]) (n := 7) (Nat.le_of_ble_eq_true rfl)
  rw [lg_entry_eq]
  generalize (lg_sl ([.ref (ad 0), .int v1, .int v2, .int v3, .int v4]) ++ List.replicate (7 - (lg_sl ([.ref (ad 0), .int v1, .int v2, .int v3, .int v4])).length) Slot.unset).toArray = ls at hl ⊢
  have hl : lv_has ls 7 [(0, .ref (ad 0)), (1, .int v1), (2, .int v2), (3, .int v3), (4, .int v4)] := hl
  obtain ⟨hx, hb, hr, hml, hown, hts, hlk, hK⟩ := id X
  unfold fX5_kind at h
  generalize ([.ref (ad 0), .int v1, .int v2, .int v3, .int v4].toArray : Array Value) = args at X ⊢
  have Y : ∀ (H : Heap) (locs : List Loc), gV wdX G ad A s.heap S H locs → W p l e rmX5_kind s m args below meth c H locs 0 0 (MQ below (gQi wdX G ad A (r, S')) args s 0 0 A) (F0 m 0 ls []) := by
    intro H locs hV
    refine lv_aload_n hx hb dX5_kind_0 rfl (lv_at hl 0 rfl) ?_
    refine ggX5_25 X hV (o := 0) rfl dX5_kind_1 ?_
    refine lv_iload_n hx hb dX5_kind_4 rfl (lv_at hl 1 rfl) ?_
    refine lv_iload_n hx hb dX5_kind_5 rfl (lv_at hl 2 rfl) ?_
    obtain ⟨r6, S6, k_6, h⟩ := gx_bind_e h
    refine gw_callI X hA hV (gw_runV X hV (o := 5) (As := [.int v1, .int v2]) (rest := []) (mX1_placeAt l G ad _ S rfl k_6) kc_RX5_129 (iXO_4 rfl) rfl rfl rfl hl.1 rfl (Nat.le_of_ble_eq_true rfl) ⟨rfl, rfl⟩ ⟨Nat.le_of_ble_eq_true rfl, Nat.le_of_ble_eq_true rfl⟩ ⟨Nat.le_refl _, Nat.le_refl _⟩ dX5_kind_6) (fun H locs hV => ?_)
    refine lv_istore (lv' := [(5, .int r6), (0, .ref (ad 0)), (1, .int v1), (2, .int v2), (3, .int v3), (4, .int v4)]) hx hb dX5_kind_9 hl (by decide) rfl (fun ls hl => ?_)
    refine lv_iload hx hb dX5_kind_11 (lv_at hl 0 rfl) ?_
    refine lv_iconst (v := -1) hx hb dX5_kind_13 (by decide) ?_
    refine lv_icmp_ne (tgt := 19) hx hb dX5_kind_14 (by decide) (fun c_14 => ?_) (fun c_14 => ?_)
    · rw [if_neg c_14] at h
      refine lv_iload_n hx hb dX5_kind_19 rfl (lv_at hl 4 rfl) ?_
      refine lv_if_lt (tgt := 28) hx hb dX5_kind_20 (by decide) (fun c_20 => ?_) (fun c_20 => ?_)
      · rw [if_pos c_20] at h
        refine lv_bipush (v := -2) hx hb dX5_kind_28 (by decide) ?_
        exact gw_ireti X hV h dX5_kind_30
      · rw [if_neg c_20] at h
        refine lv_iload_n hx hb dX5_kind_23 rfl (lv_at hl 4 rfl) ?_
        refine lv_iconst (v := 3) hx hb dX5_kind_24 (by decide) ?_
        refine lv_icmp_le (tgt := 31) hx hb dX5_kind_25 (by decide) (fun c_25 => ?_) (fun c_25 => ?_)
        · rw [if_pos c_25] at h
          refine lv_iload_n hx hb dX5_kind_31 rfl (lv_at hl 4 rfl) ?_
          refine lv_if_eq (tgt := 46) hx hb dX5_kind_32 (by decide) (fun c_32 => ?_) (fun c_32 => ?_)
          · rw [if_pos c_32] at h
            exact tX5_kind_46 X hA _ _ _ _ h hV (lv_sub hl [1, 4, 5, 0] rfl)
          · rw [if_neg c_32] at h
            refine lv_iload hx hb dX5_kind_35 (lv_at hl 5 rfl) ?_
            obtain ⟨r37, S37, k_37, h⟩ := gx_bind_e h
            refine gw_callI X hA hV (gw_runS X hV (As := [.int v4]) (rest := []) (mX5_isHundredths l G ad _ S6 k_37) kc_RX5_133 rfl hl.1 rfl (Nat.le_of_ble_eq_true rfl) ⟨rfl, rfl⟩ ⟨Nat.le_of_ble_eq_true rfl, Nat.le_of_ble_eq_true rfl⟩ ⟨Nat.le_refl _, Nat.le_refl _⟩ dX5_kind_37) (fun H locs hV => ?_)
            refine lv_if_ne (tgt := 46) hx hb dX5_kind_40 (by decide) (fun c_40 => ?_) (fun c_40 => ?_)
            · rw [if_neg c_40] at h
              exact tX5_kind_46 X hA _ _ _ _ h hV (lv_sub hl [1, 4, 5, 0] rfl)
            · rw [if_pos c_40] at h
              refine lv_bipush (v := -2) hx hb dX5_kind_43 (by decide) ?_
              exact gw_ireti X hV h dX5_kind_45
        · rw [if_neg c_25] at h
          refine lv_bipush (v := -2) hx hb dX5_kind_28 (by decide) ?_
          exact gw_ireti X hV h dX5_kind_30
    · rw [if_pos c_14] at h
      refine lv_iconst (v := -1) hx hb dX5_kind_17 (by decide) ?_
      exact gw_ireti X hV h dX5_kind_18
  exact Y _ _ hV
def fX5_countsAs_29 (S : gS) : Option (Int32 × gS) :=
some ((1 : Int32), S)
def fX5_countsAs_33 (S : gS) : Option (Int32 × gS) :=
some ((0 : Int32), S)
def fX5_countsAs_19 (S : gS) (v0 : Int32) (v1 : Int32) : Option (Int32 × gS) :=
if v1 = (1 : Int32) then (if v0 = (4 : Int32) then (fX5_countsAs_29 S) else
fX5_countsAs_33 S) else
fX5_countsAs_33 S
def fX5_countsAs (S : gS) (v0 : Int32) (v1 : Int32) : Option (Int32 × gS) :=
if v0 = v1 then (fX5_countsAs_29 S) else
if v1 = 0 then (fX5_countsAs_29 S) else
if v1 = (2 : Int32) then (if v0 = (3 : Int32) then (fX5_countsAs_29 S) else
fX5_countsAs_19 S v0 v1) else
fX5_countsAs_19 S v0 v1
def rmX5_countsAs : Room := { frames := 0, cells := 0, slots := 0, locals := 0 }
set_option maxHeartbeats 4000000 in
set_option maxRecDepth 20000 in
theorem tX5_countsAs_29 {p : Program} {l : Launch} {e : Env} {s : State} {m : MethodId} {args : Array Value} {below : List Frame} {meth : Method} {c : Code} {G : gG} {ad : Nat → Nat} {A : Nat → Prop} {z : Int32 × gS} (X : gCx p s m args meth c G cX5_countsAs RX5 (some .boolean) 2) (hA : ∀ q, s.heap.size ≤ q → A q) (S : gS) (h : fX5_countsAs_29 S = some z) {H : Heap} {locs : List Loc} {ls : Array Slot} (hV : gV wdX G ad A s.heap S H locs) (hl : lv_has ls 2 []) : W p l e rmX5_countsAs s m args below meth c H locs 0 0 (MQ below (gQi wdX G ad A z) args s 0 0 A) (F0 m 29 ls []) := by
  obtain ⟨hx, hb, hr, hml, hown, hts, hlk, hK⟩ := id X
  unfold fX5_countsAs_29 at h
  refine lv_iconst (v := 1) hx hb dX5_countsAs_29 (by decide) ?_
  refine lv_goto (tgt := 34) hx hb dX5_countsAs_30 (by decide) ?_
  exact gw_iretz X hV h g_bool1 dX5_countsAs_34
set_option maxHeartbeats 4000000 in
set_option maxRecDepth 20000 in
theorem tX5_countsAs_33 {p : Program} {l : Launch} {e : Env} {s : State} {m : MethodId} {args : Array Value} {below : List Frame} {meth : Method} {c : Code} {G : gG} {ad : Nat → Nat} {A : Nat → Prop} {z : Int32 × gS} (X : gCx p s m args meth c G cX5_countsAs RX5 (some .boolean) 2) (hA : ∀ q, s.heap.size ≤ q → A q) (S : gS) (h : fX5_countsAs_33 S = some z) {H : Heap} {locs : List Loc} {ls : Array Slot} (hV : gV wdX G ad A s.heap S H locs) (hl : lv_has ls 2 []) : W p l e rmX5_countsAs s m args below meth c H locs 0 0 (MQ below (gQi wdX G ad A z) args s 0 0 A) (F0 m 33 ls []) := by
  obtain ⟨hx, hb, hr, hml, hown, hts, hlk, hK⟩ := id X
  unfold fX5_countsAs_33 at h
  refine lv_iconst (v := 0) hx hb dX5_countsAs_33 (by decide) ?_
  exact gw_iretz X hV h g_bool0 dX5_countsAs_34
set_option maxHeartbeats 4000000 in
set_option maxRecDepth 20000 in
theorem tX5_countsAs_19 {p : Program} {l : Launch} {e : Env} {s : State} {m : MethodId} {args : Array Value} {below : List Frame} {meth : Method} {c : Code} {G : gG} {ad : Nat → Nat} {A : Nat → Prop} {z : Int32 × gS} (X : gCx p s m args meth c G cX5_countsAs RX5 (some .boolean) 2) (hA : ∀ q, s.heap.size ≤ q → A q) (S : gS) (v0 : Int32) (v1 : Int32) (h : fX5_countsAs_19 S v0 v1 = some z) {H : Heap} {locs : List Loc} {ls : Array Slot} (hV : gV wdX G ad A s.heap S H locs) (hl : lv_has ls 2 [(0, .int v0), (1, .int v1)]) : W p l e rmX5_countsAs s m args below meth c H locs 0 0 (MQ below (gQi wdX G ad A z) args s 0 0 A) (F0 m 19 ls []) := by
  obtain ⟨hx, hb, hr, hml, hown, hts, hlk, hK⟩ := id X
  unfold fX5_countsAs_19 at h
  refine lv_iload_n hx hb dX5_countsAs_19 rfl (lv_at hl 1 rfl) ?_
  refine lv_iconst (v := 1) hx hb dX5_countsAs_20 (by decide) ?_
  refine lv_icmp_ne (tgt := 33) hx hb dX5_countsAs_21 (by decide) (fun c_21 => ?_) (fun c_21 => ?_)
  · rw [if_neg c_21] at h
    exact tX5_countsAs_33 X hA _ h hV (lv_sub hl [] rfl)
  · rw [if_pos c_21] at h
    refine lv_iload_n hx hb dX5_countsAs_24 rfl (lv_at hl 0 rfl) ?_
    refine lv_iconst (v := 4) hx hb dX5_countsAs_25 (by decide) ?_
    refine lv_icmp_ne (tgt := 33) hx hb dX5_countsAs_26 (by decide) (fun c_26 => ?_) (fun c_26 => ?_)
    · rw [if_neg c_26] at h
      exact tX5_countsAs_33 X hA _ h hV (lv_sub hl [] rfl)
    · rw [if_pos c_26] at h
      exact tX5_countsAs_29 X hA _ h hV (lv_sub hl [] rfl)
set_option maxHeartbeats 4000000 in
set_option maxRecDepth 20000 in
theorem mX5_countsAs (l : Launch) (G : gG) (ad : Nat → Nat) (sz : Nat) (S : gS) {v0 : Int32} {v1 : Int32} {r : Int32} {S' : gS} (h : fX5_countsAs S v0 v1 = some (r, S')) : gMetI l yX5_countsAs cX5_countsAs 2 (some .boolean) rmX5_countsAs wdX G ad S sz [.int v0, .int v1] r S' := by
  refine gMet_of (by decide) ?_
  intro p e s m below meth c A hA X hnm hV
  have hl := lv_entry ([.int v0, .int v1]) (n := 2) (Nat.le_of_ble_eq_true rfl)
  rw [lg_entry_eq]
  generalize (lg_sl ([.int v0, .int v1]) ++ List.replicate (2 - (lg_sl ([.int v0, .int v1])).length) Slot.unset).toArray = ls at hl ⊢
  have hl : lv_has ls 2 [(0, .int v0), (1, .int v1)] := hl
  obtain ⟨hx, hb, hr, hml, hown, hts, hlk, hK⟩ := id X
  unfold fX5_countsAs at h
  generalize ([.int v0, .int v1].toArray : Array Value) = args at X ⊢
  have Y : ∀ (H : Heap) (locs : List Loc), gV wdX G ad A s.heap S H locs → W p l e rmX5_countsAs s m args below meth c H locs 0 0 (MQ below (gQi wdX G ad A (r, S')) args s 0 0 A) (F0 m 0 ls []) := by
    intro H locs hV
    refine lv_iload_n hx hb dX5_countsAs_0 rfl (lv_at hl 0 rfl) ?_
    refine lv_iload_n hx hb dX5_countsAs_1 rfl (lv_at hl 1 rfl) ?_
    refine lv_icmp_eq (tgt := 29) hx hb dX5_countsAs_2 (by decide) (fun c_2 => ?_) (fun c_2 => ?_)
    · rw [if_pos c_2] at h
      exact tX5_countsAs_29 X hA _ h hV (lv_sub hl [] rfl)
    · rw [if_neg c_2] at h
      refine lv_iload_n hx hb dX5_countsAs_5 rfl (lv_at hl 1 rfl) ?_
      refine lv_if_eq (tgt := 29) hx hb dX5_countsAs_6 (by decide) (fun c_6 => ?_) (fun c_6 => ?_)
      · rw [if_pos c_6] at h
        exact tX5_countsAs_29 X hA _ h hV (lv_sub hl [] rfl)
      · rw [if_neg c_6] at h
        refine lv_iload_n hx hb dX5_countsAs_9 rfl (lv_at hl 1 rfl) ?_
        refine lv_iconst (v := 2) hx hb dX5_countsAs_10 (by decide) ?_
        refine lv_icmp_ne (tgt := 19) hx hb dX5_countsAs_11 (by decide) (fun c_11 => ?_) (fun c_11 => ?_)
        · rw [if_neg c_11] at h
          exact tX5_countsAs_19 X hA _ _ _ h hV (lv_sub hl [0, 1] rfl)
        · rw [if_pos c_11] at h
          refine lv_iload_n hx hb dX5_countsAs_14 rfl (lv_at hl 0 rfl) ?_
          refine lv_iconst (v := 3) hx hb dX5_countsAs_15 (by decide) ?_
          refine lv_icmp_eq (tgt := 29) hx hb dX5_countsAs_16 (by decide) (fun c_16 => ?_) (fun c_16 => ?_)
          · rw [if_pos c_16] at h
            exact tX5_countsAs_29 X hA _ h hV (lv_sub hl [] rfl)
          · rw [if_neg c_16] at h
            exact tX5_countsAs_19 X hA _ _ _ h hV (lv_sub hl [0, 1] rfl)
  exact Y _ _ hV
theorem kc_RX5_143 : gKS RX5 143 yX5_countsAs cX5_countsAs 2 (some .boolean) 2 := ⟨q_321, q_322, q_323, q_36, by decide +kernel⟩
def fX5_taken (S : gS) (v1 : Int32) (v2 : Int32) (v3 : Int32) (v4 : Int32) : Option (Int32 × gS) :=
gx_bind (fX1_placeAt 5 S v1 v2) fun r6 S6 =>
if r6 = (-1 : Int32) then (some ((-1 : Int32), S6)) else
if v3 < 0 then (some ((-2 : Int32), S6)) else
if (4 : Int32) < v3 then (some ((-2 : Int32), S6)) else
if v4 < 0 then (some ((-2 : Int32), S6)) else
if v4 ≤ (1 : Int32) then (gx_chk r6 64 <|
gx_bind (fX5_countsAs S6 (gA S6 7 (Int32.toNatClampNeg r6)) v3) fun r53 S53 =>
if r53 = 0 then (gx_bind (fX5_fail S53 (3 : Int32)) fun r61 S61 =>
some (r61, S61)) else
if v4 = 0 then (gx_chk r6 64 <|
some ((gA S53 7 (Int32.toNatClampNeg r6)), S53)) else
gx_chk r6 64 <|
some ((gA S53 8 (Int32.toNatClampNeg r6)), S53)) else
some ((-2 : Int32), S6)
def rmX5_taken : Room := { frames := 1, cells := 0, slots := 0, locals := 22 }
set_option maxHeartbeats 4000000 in
set_option maxRecDepth 20000 in
theorem mX5_taken (l : Launch) (G : gG) (ad : Nat → Nat) (sz : Nat) (S : gS) {v1 : Int32} {v2 : Int32} {v3 : Int32} {v4 : Int32} {r : Int32} {S' : gS} (h : fX5_taken S v1 v2 v3 v4 = some (r, S')) : gMetI l yX5_taken cX5_taken 6 (some .int) rmX5_taken wdX G ad S sz [.ref (ad 0), .int v1, .int v2, .int v3, .int v4] r S' := by
  refine gMet_of (by decide) ?_
  intro p e s m below meth c A hA X hnm hV
  have hl := lv_entry ([.ref (ad 0), .int v1, .int v2, .int v3, .int v4]) (n := 6) (Nat.le_of_ble_eq_true rfl)
  rw [lg_entry_eq]
  generalize (lg_sl ([.ref (ad 0), .int v1, .int v2, .int v3, .int v4]) ++ List.replicate (6 - (lg_sl ([.ref (ad 0), .int v1, .int v2, .int v3, .int v4])).length) Slot.unset).toArray = ls at hl ⊢
  have hl : lv_has ls 6 [(0, .ref (ad 0)), (1, .int v1), (2, .int v2), (3, .int v3), (4, .int v4)] := hl
  obtain ⟨hx, hb, hr, hml, hown, hts, hlk, hK⟩ := id X
  unfold fX5_taken at h
  generalize ([.ref (ad 0), .int v1, .int v2, .int v3, .int v4].toArray : Array Value) = args at X ⊢
  have Y : ∀ (H : Heap) (locs : List Loc), gV wdX G ad A s.heap S H locs → W p l e rmX5_taken s m args below meth c H locs 0 0 (MQ below (gQi wdX G ad A (r, S')) args s 0 0 A) (F0 m 0 ls []) := by
    intro H locs hV
    refine lv_aload_n hx hb dX5_taken_0 rfl (lv_at hl 0 rfl) ?_
    refine ggX5_25 X hV (o := 0) rfl dX5_taken_1 ?_
    refine lv_iload_n hx hb dX5_taken_4 rfl (lv_at hl 1 rfl) ?_
    refine lv_iload_n hx hb dX5_taken_5 rfl (lv_at hl 2 rfl) ?_
    obtain ⟨r6, S6, k_6, h⟩ := gx_bind_e h
    refine gw_callI X hA hV (gw_runV X hV (o := 5) (As := [.int v1, .int v2]) (rest := []) (mX1_placeAt l G ad _ S rfl k_6) kc_RX5_129 (iXO_4 rfl) rfl rfl rfl hl.1 rfl (Nat.le_of_ble_eq_true rfl) ⟨rfl, rfl⟩ ⟨Nat.le_of_ble_eq_true rfl, Nat.le_of_ble_eq_true rfl⟩ ⟨Nat.le_refl _, Nat.le_refl _⟩ dX5_taken_6) (fun H locs hV => ?_)
    refine lv_istore (lv' := [(5, .int r6), (0, .ref (ad 0)), (1, .int v1), (2, .int v2), (3, .int v3), (4, .int v4)]) hx hb dX5_taken_9 hl (by decide) rfl (fun ls hl => ?_)
    refine lv_iload hx hb dX5_taken_11 (lv_at hl 0 rfl) ?_
    refine lv_iconst (v := -1) hx hb dX5_taken_13 (by decide) ?_
    refine lv_icmp_ne (tgt := 19) hx hb dX5_taken_14 (by decide) (fun c_14 => ?_) (fun c_14 => ?_)
    · rw [if_neg c_14] at h
      refine lv_iload_n hx hb dX5_taken_19 rfl (lv_at hl 4 rfl) ?_
      refine lv_if_lt (tgt := 39) hx hb dX5_taken_20 (by decide) (fun c_20 => ?_) (fun c_20 => ?_)
      · rw [if_pos c_20] at h
        refine lv_bipush (v := -2) hx hb dX5_taken_39 (by decide) ?_
        exact gw_ireti X hV h dX5_taken_41
      · rw [if_neg c_20] at h
        refine lv_iload_n hx hb dX5_taken_23 rfl (lv_at hl 4 rfl) ?_
        refine lv_iconst (v := 4) hx hb dX5_taken_24 (by decide) ?_
        refine lv_icmp_gt (tgt := 39) hx hb dX5_taken_25 (by decide) (fun c_25 => ?_) (fun c_25 => ?_)
        · rw [if_pos c_25] at h
          refine lv_bipush (v := -2) hx hb dX5_taken_39 (by decide) ?_
          exact gw_ireti X hV h dX5_taken_41
        · rw [if_neg c_25] at h
          refine lv_iload hx hb dX5_taken_28 (lv_at hl 5 rfl) ?_
          refine lv_if_lt (tgt := 39) hx hb dX5_taken_30 (by decide) (fun c_30 => ?_) (fun c_30 => ?_)
          · rw [if_pos c_30] at h
            refine lv_bipush (v := -2) hx hb dX5_taken_39 (by decide) ?_
            exact gw_ireti X hV h dX5_taken_41
          · rw [if_neg c_30] at h
            refine lv_iload hx hb dX5_taken_33 (lv_at hl 5 rfl) ?_
            refine lv_iconst (v := 1) hx hb dX5_taken_35 (by decide) ?_
            refine lv_icmp_le (tgt := 42) hx hb dX5_taken_36 (by decide) (fun c_36 => ?_) (fun c_36 => ?_)
            · rw [if_pos c_36] at h
              refine lv_aload_n hx hb dX5_taken_42 rfl (lv_at hl 1 rfl) ?_
              refine ggX5_25 X hV (o := 0) rfl dX5_taken_43 ?_
              refine ggX5_136 X hV (o := 5) rfl dX5_taken_46 ?_
              refine lv_iload hx hb dX5_taken_49 (lv_at hl 0 rfl) ?_
              obtain ⟨c_51, h⟩ := gx_chk_e h
              refine gw_iald X hV (iXA_5 (o := 7) rfl) c_51 dX5_taken_51 ?_
              refine lv_iload_n hx hb dX5_taken_52 rfl (lv_at hl 4 rfl) ?_
              obtain ⟨r53, S53, k_53, h⟩ := gx_bind_e h
              refine gw_callI X hA hV (gw_runS X hV (As := [.int (gA S6 7 (Int32.toNatClampNeg r6)), .int v3]) (rest := []) (mX5_countsAs l G ad _ S6 k_53) kc_RX5_143 rfl hl.1 rfl (Nat.le_of_ble_eq_true rfl) ⟨rfl, rfl⟩ ⟨Nat.le_of_ble_eq_true rfl, Nat.le_of_ble_eq_true rfl⟩ ⟨Nat.le_refl _, Nat.le_refl _⟩ dX5_taken_53) (fun H locs hV => ?_)
              refine lv_if_ne (tgt := 65) hx hb dX5_taken_56 (by decide) (fun c_56 => ?_) (fun c_56 => ?_)
              · rw [if_neg c_56] at h
                refine lv_iload hx hb dX5_taken_65 (lv_at hl 5 rfl) ?_
                refine lv_if_ne (tgt := 83) hx hb dX5_taken_67 (by decide) (fun c_67 => ?_) (fun c_67 => ?_)
                · rw [if_neg c_67] at h
                  refine lv_aload_n hx hb dX5_taken_83 rfl (lv_at hl 1 rfl) ?_
                  refine ggX5_25 X hV (o := 0) rfl dX5_taken_84 ?_
                  refine ggX5_140 X hV (o := 5) rfl dX5_taken_87 ?_
                  refine lv_iload hx hb dX5_taken_90 (lv_at hl 0 rfl) ?_
                  obtain ⟨c_92, h⟩ := gx_chk_e h
                  refine gw_iald X hV (iXA_5 (o := 8) rfl) c_92 dX5_taken_92 ?_
                  exact gw_ireti X hV h dX5_taken_93
                · rw [if_pos c_67] at h
                  refine lv_aload_n hx hb dX5_taken_70 rfl (lv_at hl 1 rfl) ?_
                  refine ggX5_25 X hV (o := 0) rfl dX5_taken_71 ?_
                  refine ggX5_136 X hV (o := 5) rfl dX5_taken_74 ?_
                  refine lv_iload hx hb dX5_taken_77 (lv_at hl 0 rfl) ?_
                  obtain ⟨c_79, h⟩ := gx_chk_e h
                  refine gw_iald X hV (iXA_5 (o := 7) rfl) c_79 dX5_taken_79 ?_
                  refine lv_goto (tgt := 93) hx hb dX5_taken_80 (by decide) ?_
                  exact gw_ireti X hV h dX5_taken_93
              · rw [if_pos c_56] at h
                refine lv_aload_n hx hb dX5_taken_59 rfl (lv_at hl 1 rfl) ?_
                refine lv_iconst (v := 3) hx hb dX5_taken_60 (by decide) ?_
                obtain ⟨r61, S61, k_61, h⟩ := gx_bind_e h
                refine gw_callI X hA hV (gw_runV X hV (o := 0) (As := [.int (3 : Int32)]) (rest := []) (mX5_fail l G ad _ S53 k_61) kc_RX5_64 (iXO_0 rfl) rfl rfl rfl hl.1 rfl (Nat.le_of_ble_eq_true rfl) ⟨rfl, rfl⟩ ⟨Nat.le_of_ble_eq_true rfl, Nat.le_of_ble_eq_true rfl⟩ ⟨Nat.le_refl _, Nat.le_refl _⟩ dX5_taken_61) (fun H locs hV => ?_)
                exact gw_ireti X hV h dX5_taken_64
            · rw [if_neg c_36] at h
              refine lv_bipush (v := -2) hx hb dX5_taken_39 (by decide) ?_
              exact gw_ireti X hV h dX5_taken_41
    · rw [if_pos c_14] at h
      refine lv_iconst (v := -1) hx hb dX5_taken_17 (by decide) ?_
      exact gw_ireti X hV h dX5_taken_18
  exact Y _ _ hV
def fX5_tell_44 (S : gS) (v2 : Int32) (v3 : Int32) (t0 : Nat) : Option (Int32 × gS) :=
gx_chk v2 10 <|
gx_let (gA S t0 (Int32.toNatClampNeg v2)) fun v5_50 =>
gx_chk v2 10 <|
gx_let (gA_up S t0 (Int32.toNatClampNeg v2) v3) fun S56 =>
some (v5_50, S56)
def fX5_tell (S : gS) (v1 : Int32) (v2 : Int32) (v3 : Int32) : Option (Int32 × gS) :=
if v2 < 0 then (some ((-2 : Int32), S)) else
if (10 : Int32) ≤ v2 then (some ((-2 : Int32), S)) else
if v3 < 0 then (some ((-2 : Int32), S)) else
if v3 ≤ (100000 : Int32) then (if v1 = 0 then (fX5_tell_44 S v2 v3 3) else
fX5_tell_44 S v2 v3 4) else
some ((-2 : Int32), S)
def rmX5_tell : Room := { frames := 0, cells := 0, slots := 0, locals := 0 }
set_option maxHeartbeats 4000000 in
set_option maxRecDepth 20000 in
theorem tX5_tell_44 {p : Program} {l : Launch} {e : Env} {s : State} {m : MethodId} {args : Array Value} {below : List Frame} {meth : Method} {c : Code} {G : gG} {ad : Nat → Nat} {A : Nat → Prop} {z : Int32 × gS} (X : gCx p s m args meth c G cX5_tell RX5 (some .int) 6) (hA : ∀ q, s.heap.size ≤ q → A q) (S : gS) (v2 : Int32) (v3 : Int32) (t0 : Nat) (f_t0 : kX t0 = 3) (h : fX5_tell_44 S v2 v3 t0 = some z) {H : Heap} {locs : List Loc} {ls : Array Slot} (hV : gV wdX G ad A s.heap S H locs) (hl : lv_has ls 6 [(2, .int v2), (3, .int v3)]) : W p l e rmX5_tell s m args below meth c H locs 0 0 (MQ below (gQi wdX G ad A z) args s 0 0 A) (F0 m 44 ls [.ref (ad t0)]) := by
  obtain ⟨hx, hb, hr, hml, hown, hts, hlk, hK⟩ := id X
  unfold fX5_tell_44 at h
  refine lv_astore (lv' := [(4, .ref (ad t0)), (2, .int v2), (3, .int v3)]) hx hb dX5_tell_44 hl (by decide) rfl (fun ls hl => ?_)
  refine lv_aload hx hb dX5_tell_46 (lv_at hl 0 rfl) ?_
  refine lv_iload_n hx hb dX5_tell_48 rfl (lv_at hl 1 rfl) ?_
  obtain ⟨c_49, h⟩ := gx_chk_e h
  refine gw_iald X hV (iXA_3 (o := t0) f_t0) c_49 dX5_tell_49 ?_
  refine lv_topi (fun v5_50 e_50 => ?_)
  replace h := gx_let_e e_50 h
  clear e_50
  refine lv_istore (lv' := [(5, .int v5_50), (4, .ref (ad t0)), (2, .int v2), (3, .int v3)]) hx hb dX5_tell_50 hl (by decide) rfl (fun ls hl => ?_)
  refine lv_aload hx hb dX5_tell_52 (lv_at hl 1 rfl) ?_
  refine lv_iload_n hx hb dX5_tell_54 rfl (lv_at hl 2 rfl) ?_
  refine lv_iload_n hx hb dX5_tell_55 rfl (lv_at hl 3 rfl) ?_
  obtain ⟨c_56, h⟩ := gx_chk_e h
  refine gw_iast X hV (iXA_3 (o := t0) f_t0) c_56 dX5_tell_56 (fun S56 e_56 H locs hV => ?_)
  replace h := gx_let_e e_56 h
  clear e_56
  refine lv_iload hx hb dX5_tell_57 (lv_at hl 0 rfl) ?_
  exact gw_ireti X hV h dX5_tell_59
set_option maxHeartbeats 4000000 in
set_option maxRecDepth 20000 in
theorem mX5_tell (l : Launch) (G : gG) (ad : Nat → Nat) (sz : Nat) (S : gS) {v1 : Int32} {v2 : Int32} {v3 : Int32} {r : Int32} {S' : gS} (h : fX5_tell S v1 v2 v3 = some (r, S')) : gMetI l yX5_tell cX5_tell 6 (some .int) rmX5_tell wdX G ad S sz [.ref (ad 0), .int v1, .int v2, .int v3] r S' := by
  refine gMet_of (by decide) ?_
  intro p e s m below meth c A hA X hnm hV
  have hl := lv_entry ([.ref (ad 0), .int v1, .int v2, .int v3]) (n := 6) (Nat.le_of_ble_eq_true rfl)
  rw [lg_entry_eq]
  generalize (lg_sl ([.ref (ad 0), .int v1, .int v2, .int v3]) ++ List.replicate (6 - (lg_sl ([.ref (ad 0), .int v1, .int v2, .int v3])).length) Slot.unset).toArray = ls at hl ⊢
  have hl : lv_has ls 6 [(0, .ref (ad 0)), (1, .int v1), (2, .int v2), (3, .int v3)] := hl
  obtain ⟨hx, hb, hr, hml, hown, hts, hlk, hK⟩ := id X
  unfold fX5_tell at h
  generalize ([.ref (ad 0), .int v1, .int v2, .int v3].toArray : Array Value) = args at X ⊢
  have Y : ∀ (H : Heap) (locs : List Loc), gV wdX G ad A s.heap S H locs → W p l e rmX5_tell s m args below meth c H locs 0 0 (MQ below (gQi wdX G ad A (r, S')) args s 0 0 A) (F0 m 0 ls []) := by
    intro H locs hV
    refine lv_iload_n hx hb dX5_tell_0 rfl (lv_at hl 2 rfl) ?_
    refine lv_if_lt (tgt := 20) hx hb dX5_tell_1 (by decide) (fun c_1 => ?_) (fun c_1 => ?_)
    · rw [if_pos c_1] at h
      refine lv_bipush (v := -2) hx hb dX5_tell_20 (by decide) ?_
      exact gw_ireti X hV h dX5_tell_22
    · rw [if_neg c_1] at h
      refine lv_iload_n hx hb dX5_tell_4 rfl (lv_at hl 2 rfl) ?_
      refine lv_bipush (v := 10) hx hb dX5_tell_5 (by decide) ?_
      refine lv_icmp_ge (tgt := 20) hx hb dX5_tell_7 (by decide) (fun c_7 => ?_) (fun c_7 => ?_)
      · rw [if_pos c_7] at h
        refine lv_bipush (v := -2) hx hb dX5_tell_20 (by decide) ?_
        exact gw_ireti X hV h dX5_tell_22
      · rw [if_neg c_7] at h
        refine lv_iload_n hx hb dX5_tell_10 rfl (lv_at hl 3 rfl) ?_
        refine lv_if_lt (tgt := 20) hx hb dX5_tell_11 (by decide) (fun c_11 => ?_) (fun c_11 => ?_)
        · rw [if_pos c_11] at h
          refine lv_bipush (v := -2) hx hb dX5_tell_20 (by decide) ?_
          exact gw_ireti X hV h dX5_tell_22
        · rw [if_neg c_11] at h
          refine lv_iload_n hx hb dX5_tell_14 rfl (lv_at hl 3 rfl) ?_
          refine lv_ldc (v := 100000) hx hb hown (hts _ q_328) dX5_tell_15 ?_
          refine lv_icmp_le (tgt := 23) hx hb dX5_tell_17 (by decide) (fun c_17 => ?_) (fun c_17 => ?_)
          · rw [if_pos c_17] at h
            refine lv_iload_n hx hb dX5_tell_23 rfl (lv_at hl 1 rfl) ?_
            refine lv_if_eq (tgt := 37) hx hb dX5_tell_24 (by decide) (fun c_24 => ?_) (fun c_24 => ?_)
            · rw [if_pos c_24] at h
              refine lv_aload_n hx hb dX5_tell_37 rfl (lv_at hl 0 rfl) ?_
              refine ggX5_18 X hV (o := 0) rfl dX5_tell_38 ?_
              refine ggX5_150 X hV (o := 2) rfl dX5_tell_41 ?_
              exact tX5_tell_44 X hA _ _ _ _ rfl h hV (lv_sub hl [2, 3] rfl)
            · rw [if_neg c_24] at h
              refine lv_aload_n hx hb dX5_tell_27 rfl (lv_at hl 0 rfl) ?_
              refine ggX5_18 X hV (o := 0) rfl dX5_tell_28 ?_
              refine ggX5_147 X hV (o := 2) rfl dX5_tell_31 ?_
              refine lv_goto (tgt := 44) hx hb dX5_tell_34 (by decide) ?_
              exact tX5_tell_44 X hA _ _ _ _ rfl h hV (lv_sub hl [2, 3] rfl)
          · rw [if_neg c_17] at h
            refine lv_bipush (v := -2) hx hb dX5_tell_20 (by decide) ?_
            exact gw_ireti X hV h dX5_tell_22
  exact Y _ _ hV
def fX5_rule (S : gS) (v1 : Int32) (v2 : Int32) : Option (Int32 × gS) :=
gx_bind (fX5_isHundredths S v1) fun r1 S1 =>
if r1 = 0 then (some ((-2 : Int32), S1)) else
if v2 < (1 : Int32) then (some ((-2 : Int32), S1)) else
if v2 ≤ (1000000 : Int32) then (gx_let (gI S1 2 3) fun v3_28 =>
gx_let (gI_up S1 2 2 v1) fun S34 =>
gx_let (gI_up S34 2 3 v2) fun S42 =>
some (v3_28, S42)) else
some ((-2 : Int32), S1)
def rmX5_rule : Room := { frames := 1, cells := 0, slots := 0, locals := 20 }
set_option maxHeartbeats 4000000 in
set_option maxRecDepth 20000 in
theorem mX5_rule (l : Launch) (G : gG) (ad : Nat → Nat) (sz : Nat) (S : gS) {v1 : Int32} {v2 : Int32} {r : Int32} {S' : gS} (h : fX5_rule S v1 v2 = some (r, S')) : gMetI l yX5_rule cX5_rule 4 (some .int) rmX5_rule wdX G ad S sz [.ref (ad 0), .int v1, .int v2] r S' := by
  refine gMet_of (by decide) ?_
  intro p e s m below meth c A hA X hnm hV
  have hl := lv_entry ([.ref (ad 0), .int v1, .int v2]) (n := 4) (Nat.le_of_ble_eq_true rfl)
  rw [lg_entry_eq]
  generalize (lg_sl ([.ref (ad 0), .int v1, .int v2]) ++ List.replicate (4 - (lg_sl ([.ref (ad 0), .int v1, .int v2])).length) Slot.unset).toArray = ls at hl ⊢
  have hl : lv_has ls 4 [(0, .ref (ad 0)), (1, .int v1), (2, .int v2)] := hl
  obtain ⟨hx, hb, hr, hml, hown, hts, hlk, hK⟩ := id X
  unfold fX5_rule at h
  generalize ([.ref (ad 0), .int v1, .int v2].toArray : Array Value) = args at X ⊢
  have Y : ∀ (H : Heap) (locs : List Loc), gV wdX G ad A s.heap S H locs → W p l e rmX5_rule s m args below meth c H locs 0 0 (MQ below (gQi wdX G ad A (r, S')) args s 0 0 A) (F0 m 0 ls []) := by
    intro H locs hV
    refine lv_iload_n hx hb dX5_rule_0 rfl (lv_at hl 1 rfl) ?_
    obtain ⟨r1, S1, k_1, h⟩ := gx_bind_e h
    refine gw_callI X hA hV (gw_runS X hV (As := [.int v1]) (rest := []) (mX5_isHundredths l G ad _ S k_1) kc_RX5_133 rfl hl.1 rfl (Nat.le_of_ble_eq_true rfl) ⟨rfl, rfl⟩ ⟨Nat.le_of_ble_eq_true rfl, Nat.le_of_ble_eq_true rfl⟩ ⟨Nat.le_refl _, Nat.le_refl _⟩ dX5_rule_1) (fun H locs hV => ?_)
    refine lv_if_eq (tgt := 18) hx hb dX5_rule_4 (by decide) (fun c_4 => ?_) (fun c_4 => ?_)
    · rw [if_pos c_4] at h
      refine lv_bipush (v := -2) hx hb dX5_rule_18 (by decide) ?_
      exact gw_ireti X hV h dX5_rule_20
    · rw [if_neg c_4] at h
      refine lv_iload_n hx hb dX5_rule_7 rfl (lv_at hl 2 rfl) ?_
      refine lv_iconst (v := 1) hx hb dX5_rule_8 (by decide) ?_
      refine lv_icmp_lt (tgt := 18) hx hb dX5_rule_9 (by decide) (fun c_9 => ?_) (fun c_9 => ?_)
      · rw [if_pos c_9] at h
        refine lv_bipush (v := -2) hx hb dX5_rule_18 (by decide) ?_
        exact gw_ireti X hV h dX5_rule_20
      · rw [if_neg c_9] at h
        refine lv_iload_n hx hb dX5_rule_12 rfl (lv_at hl 2 rfl) ?_
        refine lv_ldc (v := 1000000) hx hb hown (hts _ q_333) dX5_rule_13 ?_
        refine lv_icmp_le (tgt := 21) hx hb dX5_rule_15 (by decide) (fun c_15 => ?_) (fun c_15 => ?_)
        · rw [if_pos c_15] at h
          refine lv_aload_n hx hb dX5_rule_21 rfl (lv_at hl 0 rfl) ?_
          refine ggX5_18 X hV (o := 0) rfl dX5_rule_22 ?_
          refine ggX5_154 X hV (o := 2) rfl dX5_rule_25 ?_
          refine lv_topi (fun v3_28 e_28 => ?_)
          replace h := gx_let_e e_28 h
          clear e_28
          refine lv_istore_n (lv' := [(3, .int v3_28), (0, .ref (ad 0)), (1, .int v1), (2, .int v2)]) hx hb dX5_rule_28 rfl hl (by decide) rfl (fun ls hl => ?_)
          refine lv_aload_n hx hb dX5_rule_29 rfl (lv_at hl 1 rfl) ?_
          refine ggX5_18 X hV (o := 0) rfl dX5_rule_30 ?_
          refine lv_iload_n hx hb dX5_rule_33 rfl (lv_at hl 2 rfl) ?_
          refine gpX5_157 X hV (o := 2) rfl dX5_rule_34 (fun S34 e_34 H locs hV => ?_)
          replace h := gx_let_e e_34 h
          clear e_34
          refine lv_aload_n hx hb dX5_rule_37 rfl (lv_at hl 1 rfl) ?_
          refine ggX5_18 X hV (o := 0) rfl dX5_rule_38 ?_
          refine lv_iload_n hx hb dX5_rule_41 rfl (lv_at hl 3 rfl) ?_
          refine gpX5_154 X hV (o := 2) rfl dX5_rule_42 (fun S42 e_42 H locs hV => ?_)
          replace h := gx_let_e e_42 h
          clear e_42
          refine lv_iload_n hx hb dX5_rule_45 rfl (lv_at hl 0 rfl) ?_
          exact gw_ireti X hV h dX5_rule_46
        · rw [if_neg c_15] at h
          refine lv_bipush (v := -2) hx hb dX5_rule_18 (by decide) ?_
          exact gw_ireti X hV h dX5_rule_20
  exact Y _ _ hV
theorem kc_RX5_165 : gKV RX5 165 yX0_arrive cX0_arrive 5 none 3 := ⟨q_339, q_340, q_341, q_342, q_39, by decide +kernel⟩
def fX5_ice (S : gS) (v1 : Int32) (v2 : Int32) (v3 : Int32) : Option (Int64 × gS) :=
gx_bind (fX1_placeAt 5 S v1 v2) fun r6 S6 =>
if r6 = (-1 : Int32) then (some ((-1 : Int64), S6)) else
if v3 < 0 then (some ((-2 : Int64), S6)) else
if v3 ≤ (1000000 : Int32) then (gx_chk r6 64 <|
if (gA S6 7 (Int32.toNatClampNeg r6)) = (4 : Int32) then (some ((-3 : Int64), S6)) else
if (gI S6 10 3) = 0 then (gx_bind (fX0_arrive 10 S6 r6 (0 : Int32) (Int32.toInt64 v3)) fun r72 S72 =>
gx_chk r6 64 <|
some ((gJ S72 12 (Int32.toNatClampNeg r6)), S72)) else
some ((-3 : Int64), S6)) else
some ((-2 : Int64), S6)
def rmX5_ice : Room := { frames := 2, cells := 0, slots := 0, locals := 48 }
set_option maxHeartbeats 4000000 in
set_option maxRecDepth 20000 in
theorem mX5_ice (l : Launch) (G : gG) (ad : Nat → Nat) (sz : Nat) (S : gS) {v1 : Int32} {v2 : Int32} {v3 : Int32} {r : Int64} {S' : gS} (h : fX5_ice S v1 v2 v3 = some (r, S')) : gMetL l yX5_ice cX5_ice 5 (some .long) rmX5_ice wdX G ad S sz [.ref (ad 0), .int v1, .int v2, .int v3] r S' := by
  refine gMet_of (by decide) ?_
  intro p e s m below meth c A hA X hnm hV
  have hl := lv_entry ([.ref (ad 0), .int v1, .int v2, .int v3]) (n := 5) (Nat.le_of_ble_eq_true rfl)
  rw [lg_entry_eq]
  generalize (lg_sl ([.ref (ad 0), .int v1, .int v2, .int v3]) ++ List.replicate (5 - (lg_sl ([.ref (ad 0), .int v1, .int v2, .int v3])).length) Slot.unset).toArray = ls at hl ⊢
  have hl : lv_has ls 5 [(0, .ref (ad 0)), (1, .int v1), (2, .int v2), (3, .int v3)] := hl
  obtain ⟨hx, hb, hr, hml, hown, hts, hlk, hK⟩ := id X
  unfold fX5_ice at h
  generalize ([.ref (ad 0), .int v1, .int v2, .int v3].toArray : Array Value) = args at X ⊢
  have Y : ∀ (H : Heap) (locs : List Loc), gV wdX G ad A s.heap S H locs → W p l e rmX5_ice s m args below meth c H locs 0 0 (MQ below (gQl wdX G ad A (r, S')) args s 0 0 A) (F0 m 0 ls []) := by
    intro H locs hV
    refine lv_aload_n hx hb dX5_ice_0 rfl (lv_at hl 0 rfl) ?_
    refine ggX5_25 X hV (o := 0) rfl dX5_ice_1 ?_
    refine lv_iload_n hx hb dX5_ice_4 rfl (lv_at hl 1 rfl) ?_
    refine lv_iload_n hx hb dX5_ice_5 rfl (lv_at hl 2 rfl) ?_
    obtain ⟨r6, S6, k_6, h⟩ := gx_bind_e h
    refine gw_callI X hA hV (gw_runV X hV (o := 5) (As := [.int v1, .int v2]) (rest := []) (mX1_placeAt l G ad _ S rfl k_6) kc_RX5_129 (iXO_4 rfl) rfl rfl rfl hl.1 rfl (Nat.le_of_ble_eq_true rfl) ⟨rfl, rfl⟩ ⟨Nat.le_of_ble_eq_true rfl, Nat.le_of_ble_eq_true rfl⟩ ⟨Nat.le_refl _, Nat.le_refl _⟩ dX5_ice_6) (fun H locs hV => ?_)
    refine lv_istore (lv' := [(4, .int r6), (0, .ref (ad 0)), (1, .int v1), (2, .int v2), (3, .int v3)]) hx hb dX5_ice_9 hl (by decide) rfl (fun ls hl => ?_)
    refine lv_iload hx hb dX5_ice_11 (lv_at hl 0 rfl) ?_
    refine lv_iconst (v := -1) hx hb dX5_ice_13 (by decide) ?_
    refine lv_icmp_ne (tgt := 21) hx hb dX5_ice_14 (by decide) (fun c_14 => ?_) (fun c_14 => ?_)
    · rw [if_neg c_14] at h
      refine lv_iload_n hx hb dX5_ice_21 rfl (lv_at hl 4 rfl) ?_
      refine lv_if_lt (tgt := 31) hx hb dX5_ice_22 (by decide) (fun c_22 => ?_) (fun c_22 => ?_)
      · rw [if_pos c_22] at h
        refine lv_ldc2 (v := -2) hx hb hown (hts _ q_256) dX5_ice_31 ?_
        exact gw_lret X hV h dX5_ice_34
      · rw [if_neg c_22] at h
        refine lv_iload_n hx hb dX5_ice_25 rfl (lv_at hl 4 rfl) ?_
        refine lv_ldc (v := 1000000) hx hb hown (hts _ q_333) dX5_ice_26 ?_
        refine lv_icmp_le (tgt := 35) hx hb dX5_ice_28 (by decide) (fun c_28 => ?_) (fun c_28 => ?_)
        · rw [if_pos c_28] at h
          refine lv_aload_n hx hb dX5_ice_35 rfl (lv_at hl 1 rfl) ?_
          refine ggX5_25 X hV (o := 0) rfl dX5_ice_36 ?_
          refine ggX5_136 X hV (o := 5) rfl dX5_ice_39 ?_
          refine lv_iload hx hb dX5_ice_42 (lv_at hl 0 rfl) ?_
          obtain ⟨c_44, h⟩ := gx_chk_e h
          refine gw_iald X hV (iXA_5 (o := 7) rfl) c_44 dX5_ice_44 ?_
          refine lv_iconst (v := 4) hx hb dX5_ice_45 (by decide) ?_
          refine lv_icmp_eq (tgt := 59) hx hb dX5_ice_46 (by decide) (fun c_46 => ?_) (fun c_46 => ?_)
          · rw [if_pos c_46] at h
            refine lv_ldc2 (v := -3) hx hb hown (hts _ q_338) dX5_ice_59 ?_
            exact gw_lret X hV h dX5_ice_62
          · rw [if_neg c_46] at h
            refine lv_aload_n hx hb dX5_ice_49 rfl (lv_at hl 1 rfl) ?_
            refine ggX5_32 X hV (o := 0) rfl dX5_ice_50 ?_
            refine ggX5_160 X hV (o := 10) rfl dX5_ice_53 ?_
            refine lv_if_eq (tgt := 63) hx hb dX5_ice_56 (by decide) (fun c_56 => ?_) (fun c_56 => ?_)
            · rw [if_pos c_56] at h
              refine lv_aload_n hx hb dX5_ice_63 rfl (lv_at hl 1 rfl) ?_
              refine ggX5_32 X hV (o := 0) rfl dX5_ice_64 ?_
              refine lv_iload hx hb dX5_ice_67 (lv_at hl 0 rfl) ?_
              refine lv_iconst (v := 0) hx hb dX5_ice_69 (by decide) ?_
              refine lv_iload_n hx hb dX5_ice_70 rfl (lv_at hl 4 rfl) ?_
              refine lv_i2l hx hb dX5_ice_71 rfl ?_
              obtain ⟨r72, S72, k_72, h⟩ := gx_bind_e h
              refine gw_callv X hA hV (gw_runV X hV (o := 10) (As := [.int r6, .int (0 : Int32), .long (Int32.toInt64 v3)]) (rest := []) (mX0_arrive l G ad _ S6 rfl k_72) kc_RX5_165 (iXO_6 rfl) rfl rfl rfl hl.1 rfl (Nat.le_of_ble_eq_true rfl) ⟨rfl, rfl⟩ ⟨Nat.le_of_ble_eq_true rfl, Nat.le_of_ble_eq_true rfl⟩ ⟨Nat.le_refl _, Nat.le_refl _⟩ dX5_ice_72) (fun H locs hV => ?_)
              refine lv_aload_n hx hb dX5_ice_75 rfl (lv_at hl 1 rfl) ?_
              refine ggX5_32 X hV (o := 0) rfl dX5_ice_76 ?_
              refine ggX5_168 X hV (o := 10) rfl dX5_ice_79 ?_
              refine lv_iload hx hb dX5_ice_82 (lv_at hl 0 rfl) ?_
              obtain ⟨c_84, h⟩ := gx_chk_e h
              refine gw_lald X hV (iXJ_8 (o := 12) rfl) c_84 dX5_ice_84 ?_
              exact gw_lret X hV h dX5_ice_85
            · rw [if_neg c_56] at h
              refine lv_ldc2 (v := -3) hx hb hown (hts _ q_338) dX5_ice_59 ?_
              exact gw_lret X hV h dX5_ice_62
        · rw [if_neg c_28] at h
          refine lv_ldc2 (v := -2) hx hb hown (hts _ q_256) dX5_ice_31 ?_
          exact gw_lret X hV h dX5_ice_34
    · rw [if_pos c_14] at h
      refine lv_ldc2 (v := -1) hx hb hown (hts _ q_255) dX5_ice_17 ?_
      exact gw_lret X hV h dX5_ice_20
  exact Y _ _ hV

def fX6_in_17 (S : gS) : Option (Int32 × gS) :=
some ((0 : Int32), S)
def fX6_in (S : gS) (v0 : Int64) (v2 : Int64) (v4 : Int64) : Option (Int32 × gS) :=
if v0 < v2 then (fX6_in_17 S) else
if v4 < v0 then (fX6_in_17 S) else
some ((1 : Int32), S)
def rmX6_in : Room := { frames := 0, cells := 0, slots := 0, locals := 0 }
set_option maxHeartbeats 4000000 in
set_option maxRecDepth 20000 in
theorem tX6_in_17 {p : Program} {l : Launch} {e : Env} {s : State} {m : MethodId} {args : Array Value} {below : List Frame} {meth : Method} {c : Code} {G : gG} {ad : Nat → Nat} {A : Nat → Prop} {z : Int32 × gS} (X : gCx p s m args meth c G cX6_in RX6 (some .boolean) 6) (hA : ∀ q, s.heap.size ≤ q → A q) (S : gS) (h : fX6_in_17 S = some z) {H : Heap} {locs : List Loc} {ls : Array Slot} (hV : gV wdY G ad A s.heap S H locs) (hl : lv_has ls 6 []) : W p l e rmX6_in s m args below meth c H locs 0 0 (MQ below (gQi wdY G ad A z) args s 0 0 A) (F0 m 17 ls []) := by
  obtain ⟨hx, hb, hr, hml, hown, hts, hlk, hK⟩ := id X
  unfold fX6_in_17 at h
  refine lv_iconst (v := 0) hx hb dX6_in_17 (by decide) ?_
  exact gw_iretz X hV h g_bool0 dX6_in_18
set_option maxHeartbeats 4000000 in
set_option maxRecDepth 20000 in
theorem mX6_in (l : Launch) (G : gG) (ad : Nat → Nat) (sz : Nat) (S : gS) {v0 : Int64} {v2 : Int64} {v4 : Int64} {r : Int32} {S' : gS} (h : fX6_in S v0 v2 v4 = some (r, S')) : gMetI l yX6_in cX6_in 6 (some .boolean) rmX6_in wdY G ad S sz [.long v0, .long v2, .long v4] r S' := by
  refine gMet_of (by decide) ?_
  intro p e s m below meth c A hA X hnm hV
  have hl := lv_entry ([.long v0, .long v2, .long v4]) (n := 6) (Nat.le_of_ble_eq_true rfl)
  rw [lg_entry_eq]
  generalize (lg_sl ([.long v0, .long v2, .long v4]) ++ List.replicate (6 - (lg_sl ([.long v0, .long v2, .long v4])).length) Slot.unset).toArray = ls at hl ⊢
  have hl : lv_has ls 6 [(0, .long v0), (2, .long v2), (4, .long v4)] := hl
  obtain ⟨hx, hb, hr, hml, hown, hts, hlk, hK⟩ := id X
  unfold fX6_in at h
  generalize ([.long v0, .long v2, .long v4].toArray : Array Value) = args at X ⊢
  have Y : ∀ (H : Heap) (locs : List Loc), gV wdY G ad A s.heap S H locs → W p l e rmX6_in s m args below meth c H locs 0 0 (MQ below (gQi wdY G ad A (r, S')) args s 0 0 A) (F0 m 0 ls []) := by
    intro H locs hV
    refine lv_lload_n hx hb dX6_in_0 rfl (lv_at hl 0 rfl) ?_
    refine lv_lload_n hx hb dX6_in_1 rfl (lv_at hl 1 rfl) ?_
    refine gw_cmp_lt (tgt := 17) X dX6_in_2 dX6_in_3 (by decide) (fun c_2 => ?_) (fun c_2 => ?_)
    · rw [if_pos c_2] at h
      exact tX6_in_17 X hA _ h hV (lv_sub hl [] rfl)
    · rw [if_neg c_2] at h
      refine lv_lload_n hx hb dX6_in_6 rfl (lv_at hl 0 rfl) ?_
      refine lv_lload hx hb dX6_in_7 (lv_at hl 2 rfl) ?_
      refine gw_cmp_gt (tgt := 17) X dX6_in_9 dX6_in_10 (by decide) (fun c_9 => ?_) (fun c_9 => ?_)
      · rw [if_pos c_9] at h
        exact tX6_in_17 X hA _ h hV (lv_sub hl [] rfl)
      · rw [if_neg c_9] at h
        refine lv_iconst (v := 1) hx hb dX6_in_13 (by decide) ?_
        refine lv_goto (tgt := 18) hx hb dX6_in_14 (by decide) ?_
        exact gw_iretz X hV h g_bool1 dX6_in_18
  exact Y _ _ hV
def fX6_failed (S : gS) (v1 : Int32) : Option (Int32 × gS) :=
gx_let (gI_up S 0 3 ((gI S 0 3) + (1 : Int32))) fun S7 =>
some (((-10 : Int32) - v1), S7)
def rmX6_failed : Room := { frames := 0, cells := 0, slots := 0, locals := 0 }
set_option maxHeartbeats 4000000 in
set_option maxRecDepth 20000 in
theorem mX6_failed (l : Launch) (G : gG) (ad : Nat → Nat) (sz : Nat) (S : gS) {v1 : Int32} {r : Int32} {S' : gS} (h : fX6_failed S v1 = some (r, S')) : gMetI l yX6_failed cX6_failed 2 (some .int) rmX6_failed wdY G ad S sz [.ref (ad 0), .int v1] r S' := by
  refine gMet_of (by decide) ?_
  intro p e s m below meth c A hA X hnm hV
  have hl := lv_entry ([.ref (ad 0), .int v1]) (n := 2) (Nat.le_of_ble_eq_true rfl)
  rw [lg_entry_eq]
  generalize (lg_sl ([.ref (ad 0), .int v1]) ++ List.replicate (2 - (lg_sl ([.ref (ad 0), .int v1])).length) Slot.unset).toArray = ls at hl ⊢
  have hl : lv_has ls 2 [(0, .ref (ad 0)), (1, .int v1)] := hl
  obtain ⟨hx, hb, hr, hml, hown, hts, hlk, hK⟩ := id X
  unfold fX6_failed at h
  generalize ([.ref (ad 0), .int v1].toArray : Array Value) = args at X ⊢
  have Y : ∀ (H : Heap) (locs : List Loc), gV wdY G ad A s.heap S H locs → W p l e rmX6_failed s m args below meth c H locs 0 0 (MQ below (gQi wdY G ad A (r, S')) args s 0 0 A) (F0 m 0 ls []) := by
    intro H locs hV
    refine lv_aload_n hx hb dX6_failed_0 rfl (lv_at hl 0 rfl) ?_
    refine lv_dup hx hb dX6_failed_1 rfl ?_
    refine ggX6_72 X hV (o := 0) rfl dX6_failed_2 ?_
    refine lv_iconst (v := 1) hx hb dX6_failed_5 (by decide) ?_
    refine lv_iadd hx hb dX6_failed_6 ?_
    refine gpX6_72 X hV (o := 0) rfl dX6_failed_7 (fun S7 e_7 H locs hV => ?_)
    replace h := gx_let_e e_7 h
    clear e_7
    refine lv_bipush (v := -10) hx hb dX6_failed_10 (by decide) ?_
    refine lv_iload_n hx hb dX6_failed_12 rfl (lv_at hl 1 rfl) ?_
    refine lv_isub hx hb dX6_failed_13 ?_
    exact gw_ireti X hV h dX6_failed_14
  exact Y _ _ hV
def fX6_cut (S : gS) (v0 : Int32) (v1 : Int64) : Option (Int64 × gS) :=
if v0 = 0 then (some ((Int32.toInt64 (Int16.toInt32 (Int32.toInt16 (Int64.toInt32 v1)))), S)) else
if v0 = (1 : Int32) then (some ((Int32.toInt64 (Int64.toInt32 v1)), S)) else
some (v1, S)
def rmX6_cut : Room := { frames := 0, cells := 0, slots := 0, locals := 0 }
set_option maxHeartbeats 4000000 in
set_option maxRecDepth 20000 in
theorem mX6_cut (l : Launch) (G : gG) (ad : Nat → Nat) (sz : Nat) (S : gS) {v0 : Int32} {v1 : Int64} {r : Int64} {S' : gS} (h : fX6_cut S v0 v1 = some (r, S')) : gMetL l yX6_cut cX6_cut 3 (some .long) rmX6_cut wdY G ad S sz [.int v0, .long v1] r S' := by
  refine gMet_of (by decide) ?_
  intro p e s m below meth c A hA X hnm hV
  have hl := lv_entry ([.int v0, .long v1]) (n := 3) (Nat.le_of_ble_eq_true rfl)
  rw [lg_entry_eq]
  generalize (lg_sl ([.int v0, .long v1]) ++ List.replicate (3 - (lg_sl ([.int v0, .long v1])).length) Slot.unset).toArray = ls at hl ⊢
  have hl : lv_has ls 3 [(0, .int v0), (1, .long v1)] := hl
  obtain ⟨hx, hb, hr, hml, hown, hts, hlk, hK⟩ := id X
  unfold fX6_cut at h
  generalize ([.int v0, .long v1].toArray : Array Value) = args at X ⊢
  have Y : ∀ (H : Heap) (locs : List Loc), gV wdY G ad A s.heap S H locs → W p l e rmX6_cut s m args below meth c H locs 0 0 (MQ below (gQl wdY G ad A (r, S')) args s 0 0 A) (F0 m 0 ls []) := by
    intro H locs hV
    refine lv_iload_n hx hb dX6_cut_0 rfl (lv_at hl 0 rfl) ?_
    refine lv_if_ne (tgt := 11) hx hb dX6_cut_1 (by decide) (fun c_1 => ?_) (fun c_1 => ?_)
    · rw [if_neg c_1] at h
      refine lv_iload_n hx hb dX6_cut_11 rfl (lv_at hl 0 rfl) ?_
      refine lv_iconst (v := 1) hx hb dX6_cut_12 (by decide) ?_
      refine lv_icmp_ne (tgt := 22) hx hb dX6_cut_13 (by decide) (fun c_13 => ?_) (fun c_13 => ?_)
      · rw [if_neg c_13] at h
        refine lv_lload_n hx hb dX6_cut_22 rfl (lv_at hl 1 rfl) ?_
        exact gw_lret X hV h dX6_cut_23
      · rw [if_pos c_13] at h
        refine lv_lload_n hx hb dX6_cut_16 rfl (lv_at hl 1 rfl) ?_
        refine lv_l2i hx hb dX6_cut_17 rfl ?_
        refine lv_i2l hx hb dX6_cut_18 rfl ?_
        refine lv_goto (tgt := 23) hx hb dX6_cut_19 (by decide) ?_
        exact gw_lret X hV h dX6_cut_23
    · rw [if_pos c_1] at h
      refine lv_lload_n hx hb dX6_cut_4 rfl (lv_at hl 1 rfl) ?_
      refine lv_l2i hx hb dX6_cut_5 rfl ?_
      refine lv_i2s hx hb dX6_cut_6 rfl ?_
      refine lv_i2l hx hb dX6_cut_7 rfl ?_
      refine lv_goto (tgt := 23) hx hb dX6_cut_8 (by decide) ?_
      exact gw_lret X hV h dX6_cut_23
  exact Y _ _ hV
theorem kc_RX6_77 : gKS RX6 77 yX6_in cX6_in 6 (some .boolean) 3 := ⟨q_628, q_629, q_630, q_42, by decide +kernel⟩
def fX6_isStrip (S : gS) (v0 : Int32) : Option (Int32 × gS) :=
gx_bind (fX6_in S (Int32.toInt64 v0) (0 : Int64) (7 : Int64)) fun r6 S6 =>
gx_ok (decide (r6 = 0 ∨ r6 = 1)) <| some (r6, S6)
def rmX6_isStrip : Room := { frames := 1, cells := 0, slots := 0, locals := 25 }
set_option maxHeartbeats 4000000 in
set_option maxRecDepth 20000 in
theorem mX6_isStrip (l : Launch) (G : gG) (ad : Nat → Nat) (sz : Nat) (S : gS) {v0 : Int32} {r : Int32} {S' : gS} (h : fX6_isStrip S v0 = some (r, S')) : gMetI l yX6_isStrip cX6_isStrip 1 (some .boolean) rmX6_isStrip wdY G ad S sz [.int v0] r S' := by
  refine gMet_of (by decide) ?_
  intro p e s m below meth c A hA X hnm hV
  have hl := lv_entry ([.int v0]) (n := 1) (Nat.le_of_ble_eq_true rfl)
  rw [lg_entry_eq]
  generalize (lg_sl ([.int v0]) ++ List.replicate (1 - (lg_sl ([.int v0])).length) Slot.unset).toArray = ls at hl ⊢
  have hl : lv_has ls 1 [(0, .int v0)] := hl
  obtain ⟨hx, hb, hr, hml, hown, hts, hlk, hK⟩ := id X
  unfold fX6_isStrip at h
  generalize ([.int v0].toArray : Array Value) = args at X ⊢
  have Y : ∀ (H : Heap) (locs : List Loc), gV wdY G ad A s.heap S H locs → W p l e rmX6_isStrip s m args below meth c H locs 0 0 (MQ below (gQi wdY G ad A (r, S')) args s 0 0 A) (F0 m 0 ls []) := by
    intro H locs hV
    refine lv_iload_n hx hb dX6_isStrip_0 rfl (lv_at hl 0 rfl) ?_
    refine lv_i2l hx hb dX6_isStrip_1 rfl ?_
    refine lv_lconst (v := 0) hx hb dX6_isStrip_2 (by decide) ?_
    refine lv_ldc2 (v := 7) hx hb hown (hts _ q_627) dX6_isStrip_3 ?_
    obtain ⟨r6, S6, k_6, h⟩ := gx_bind_e h
    refine gw_callI X hA hV (gw_runS X hV (As := [.long (Int32.toInt64 v0), .long (0 : Int64), .long (7 : Int64)]) (rest := []) (mX6_in l G ad _ S k_6) kc_RX6_77 rfl hl.1 rfl (Nat.le_of_ble_eq_true rfl) ⟨rfl, rfl⟩ ⟨Nat.le_of_ble_eq_true rfl, Nat.le_of_ble_eq_true rfl⟩ ⟨Nat.le_refl _, Nat.le_refl _⟩ dX6_isStrip_6) (fun H locs hV => ?_)
    obtain ⟨c_9, h⟩ := gx_ok_e h
    exact gw_iretz X hV h (g_boolv c_9) dX6_isStrip_9
  exact Y _ _ hV
theorem kc_RX6_81 : gKS RX6 81 yX6_isStrip cX6_isStrip 1 (some .boolean) 1 := ⟨q_624, q_625, q_626, q_42, by decide +kernel⟩
theorem kc_RX6_87 : gKV RX6 87 yX6_failed cX6_failed 2 (some .int) 1 := ⟨q_632, q_634, q_20, q_635, q_42, by decide +kernel⟩
def fX6_strip_57L (K57 : gS → Int32 → Int32 → Int32 → Option (Int32 × gS)) (S : gS) (v1 : Int32) (v3 : Int32) (v4 : Int32) : Option (Int32 × gS) :=
if (8 : Int32) ≤ v4 then (some (v3, S)) else
gx_chk (((8 : Int32) * v1) + v4) 64 <|
gx_let (gJ_up S 3 (Int32.toNatClampNeg (((8 : Int32) * v1) + v4)) (0 : Int64)) fun S76 =>
gx_let (v4 + (1 : Int32)) fun v4_77 =>
K57 S76 v1 v3 v4_77
def fX6_strip_57 : Nat → gS → Int32 → Int32 → Int32 → Option (Int32 × gS)
  | 0, _, _, _, _ => none
  | f + 1, S, v1, v3, v4 => fX6_strip_57L (fX6_strip_57 f) S v1 v3 v4
def fX6_strip (S : gS) (v1 : Int32) (v2 : Int32) (v3 : Int32) : Option (Int32 × gS) :=
gx_bind (fX6_isStrip S v1) fun r1 S1 =>
if r1 = 0 then (some ((-1 : Int32), S1)) else
gx_bind (fX6_in S1 (Int32.toInt64 v2) (0 : Int64) (2 : Int64)) fun r15 S15 =>
if r15 = 0 then (some ((-2 : Int32), S15)) else
if v3 ≤ (8 : Int32) then (if 0 ≤ v3 then (gx_chk v1 8 <|
gx_let (gA_up S15 1 (Int32.toNatClampNeg v1) v2) fun S46 =>
gx_chk v1 8 <|
gx_let (gA_up S46 2 (Int32.toNatClampNeg v1) v3) fun S53 =>
fX6_strip_57 gx_fuel S53 v1 v3 (0 : Int32)) else
gx_bind (fX6_failed S15 (4 : Int32)) fun r36 S36 =>
some (r36, S36)) else
some ((-2 : Int32), S15)
def rmX6_strip : Room := { frames := 2, cells := 0, slots := 0, locals := 45 }
set_option maxHeartbeats 4000000 in
set_option maxRecDepth 20000 in
theorem tX6_strip_57L {p : Program} {l : Launch} {e : Env} {s : State} {m : MethodId} {args : Array Value} {below : List Frame} {meth : Method} {c : Code} {G : gG} {ad : Nat → Nat} {A : Nat → Prop} {z : Int32 × gS} {K57 : gS → Int32 → Int32 → Int32 → Option (Int32 × gS)} (X : gCx p s m args meth c G cX6_strip RX6 (some .int) 5) (hA : ∀ q, s.heap.size ≤ q → A q) (kK57 : ∀ (S : gS) (v1 : Int32) (v3 : Int32) (v4 : Int32), K57 S v1 v3 v4 = some z → ∀ (H : Heap) (locs : List Loc) (ls : Array Slot), gV wdY G ad A s.heap S H locs → lv_has ls 5 [(0, .ref (ad 0)), (1, .int v1), (3, .int v3), (4, .int v4)] → W p l e rmX6_strip s m args below meth c H locs 0 0 (MQ below (gQi wdY G ad A z) args s 0 0 A) (F0 m 57 ls [])) (S : gS) (v1 : Int32) (v3 : Int32) (v4 : Int32) (h : fX6_strip_57L K57 S v1 v3 v4 = some z) {H : Heap} {locs : List Loc} {ls : Array Slot} (hV : gV wdY G ad A s.heap S H locs) (hl : lv_has ls 5 [(0, .ref (ad 0)), (1, .int v1), (3, .int v3), (4, .int v4)]) : W p l e rmX6_strip s m args below meth c H locs 0 0 (MQ below (gQi wdY G ad A z) args s 0 0 A) (F0 m 57 ls []) := by
  obtain ⟨hx, hb, hr, hml, hown, hts, hlk, hK⟩ := id X
  unfold fX6_strip_57L at h
  refine lv_iload hx hb dX6_strip_57 (lv_at hl 3 rfl) ?_
  refine lv_bipush (v := 8) hx hb dX6_strip_59 (by decide) ?_
  refine lv_icmp_ge (tgt := 83) hx hb dX6_strip_61 (by decide) (fun c_61 => ?_) (fun c_61 => ?_)
  · rw [if_pos c_61] at h
    refine lv_iload_n hx hb dX6_strip_83 rfl (lv_at hl 2 rfl) ?_
    exact gw_ireti X hV h dX6_strip_84
  · rw [if_neg c_61] at h
    refine lv_aload_n hx hb dX6_strip_64 rfl (lv_at hl 0 rfl) ?_
    refine ggX6_16 X hV (o := 0) rfl dX6_strip_65 ?_
    refine lv_bipush (v := 8) hx hb dX6_strip_68 (by decide) ?_
    refine lv_iload_n hx hb dX6_strip_70 rfl (lv_at hl 1 rfl) ?_
    refine lv_imul hx hb dX6_strip_71 ?_
    refine lv_iload hx hb dX6_strip_72 (lv_at hl 3 rfl) ?_
    refine lv_iadd hx hb dX6_strip_74 ?_
    refine lv_lconst (v := 0) hx hb dX6_strip_75 (by decide) ?_
    obtain ⟨c_76, h⟩ := gx_chk_e h
    refine gw_last X hV (iYJ_2 (o := 3) rfl) c_76 dX6_strip_76 (fun S76 e_76 H locs hV => ?_)
    replace h := gx_let_e e_76 h
    clear e_76
    obtain ⟨v4_77, e_77⟩ : ∃ y : Int32, y = (v4 + (1 : Int32)) := ⟨_, rfl⟩
    refine lv_iinc (v := v4_77) (lv' := [(4, .int v4_77), (0, .ref (ad 0)), (1, .int v1), (3, .int v3)]) hx hb dX6_strip_77 hl (k := 3) rfl (by rw [e_77]; rfl) (by decide) rfl (fun ls hl => ?_)
    replace h := gx_let_e e_77 h
    clear e_77
    refine lv_goto (tgt := 57) hx hb dX6_strip_80 (by decide) ?_
    exact kK57 _ _ _ _ h _ _ _ hV (lv_sub hl [1, 2, 3, 0] rfl)
set_option maxHeartbeats 4000000 in
set_option maxRecDepth 20000 in
theorem tX6_strip_57 {p : Program} {l : Launch} {e : Env} {s : State} {m : MethodId} {args : Array Value} {below : List Frame} {meth : Method} {c : Code} {G : gG} {ad : Nat → Nat} {A : Nat → Prop} {z : Int32 × gS} (X : gCx p s m args meth c G cX6_strip RX6 (some .int) 5) (hA : ∀ q, s.heap.size ≤ q → A q) : ∀ (f : Nat) (S : gS) (v1 : Int32) (v3 : Int32) (v4 : Int32) (h : fX6_strip_57 f S v1 v3 v4 = some z) (H : Heap) (locs : List Loc) (ls : Array Slot) (hV : gV wdY G ad A s.heap S H locs) (hl : lv_has ls 5 [(0, .ref (ad 0)), (1, .int v1), (3, .int v3), (4, .int v4)]), W p l e rmX6_strip s m args below meth c H locs 0 0 (MQ below (gQi wdY G ad A z) args s 0 0 A) (F0 m 57 ls []) := by
  intro f
  induction f with
  | zero => intro S v1 v3 v4 h; exact absurd h (by simp [fX6_strip_57])
  | succ f ih => intro S v1 v3 v4 h H locs ls hV hl; exact tX6_strip_57L X hA ih S v1 v3 v4 h hV hl
set_option maxHeartbeats 4000000 in
set_option maxRecDepth 20000 in
theorem mX6_strip (l : Launch) (G : gG) (ad : Nat → Nat) (sz : Nat) (S : gS) {v1 : Int32} {v2 : Int32} {v3 : Int32} {r : Int32} {S' : gS} (h : fX6_strip S v1 v2 v3 = some (r, S')) : gMetI l yX6_strip cX6_strip 5 (some .int) rmX6_strip wdY G ad S sz [.ref (ad 0), .int v1, .int v2, .int v3] r S' := by
  refine gMet_of (by decide) ?_
  intro p e s m below meth c A hA X hnm hV
  have hl := lv_entry ([.ref (ad 0), .int v1, .int v2, .int v3]) (n := 5) (Nat.le_of_ble_eq_true rfl)
  rw [lg_entry_eq]
  generalize (lg_sl ([.ref (ad 0), .int v1, .int v2, .int v3]) ++ List.replicate (5 - (lg_sl ([.ref (ad 0), .int v1, .int v2, .int v3])).length) Slot.unset).toArray = ls at hl ⊢
  have hl : lv_has ls 5 [(0, .ref (ad 0)), (1, .int v1), (2, .int v2), (3, .int v3)] := hl
  obtain ⟨hx, hb, hr, hml, hown, hts, hlk, hK⟩ := id X
  unfold fX6_strip at h
  generalize ([.ref (ad 0), .int v1, .int v2, .int v3].toArray : Array Value) = args at X ⊢
  have Y : ∀ (H : Heap) (locs : List Loc), gV wdY G ad A s.heap S H locs → W p l e rmX6_strip s m args below meth c H locs 0 0 (MQ below (gQi wdY G ad A (r, S')) args s 0 0 A) (F0 m 0 ls []) := by
    intro H locs hV
    refine lv_iload_n hx hb dX6_strip_0 rfl (lv_at hl 1 rfl) ?_
    obtain ⟨r1, S1, k_1, h⟩ := gx_bind_e h
    refine gw_callI X hA hV (gw_runS X hV (As := [.int v1]) (rest := []) (mX6_isStrip l G ad _ S k_1) kc_RX6_81 rfl hl.1 rfl (Nat.le_of_ble_eq_true rfl) ⟨rfl, rfl⟩ ⟨Nat.le_of_ble_eq_true rfl, Nat.le_of_ble_eq_true rfl⟩ ⟨Nat.le_refl _, Nat.le_refl _⟩ dX6_strip_1) (fun H locs hV => ?_)
    refine lv_if_ne (tgt := 9) hx hb dX6_strip_4 (by decide) (fun c_4 => ?_) (fun c_4 => ?_)
    · rw [if_neg c_4] at h
      refine lv_iload_n hx hb dX6_strip_9 rfl (lv_at hl 2 rfl) ?_
      refine lv_i2l hx hb dX6_strip_10 rfl ?_
      refine lv_lconst (v := 0) hx hb dX6_strip_11 (by decide) ?_
      refine lv_ldc2 (v := 2) hx hb hown (hts _ q_631) dX6_strip_12 ?_
      obtain ⟨r15, S15, k_15, h⟩ := gx_bind_e h
      refine gw_callI X hA hV (gw_runS X hV (As := [.long (Int32.toInt64 v2), .long (0 : Int64), .long (2 : Int64)]) (rest := []) (mX6_in l G ad _ S1 k_15) kc_RX6_77 rfl hl.1 rfl (Nat.le_of_ble_eq_true rfl) ⟨rfl, rfl⟩ ⟨Nat.le_of_ble_eq_true rfl, Nat.le_of_ble_eq_true rfl⟩ ⟨Nat.le_refl _, Nat.le_refl _⟩ dX6_strip_15) (fun H locs hV => ?_)
      refine lv_if_eq (tgt := 27) hx hb dX6_strip_18 (by decide) (fun c_18 => ?_) (fun c_18 => ?_)
      · rw [if_pos c_18] at h
        refine lv_bipush (v := -2) hx hb dX6_strip_27 (by decide) ?_
        exact gw_ireti X hV h dX6_strip_29
      · rw [if_neg c_18] at h
        refine lv_iload_n hx hb dX6_strip_21 rfl (lv_at hl 3 rfl) ?_
        refine lv_bipush (v := 8) hx hb dX6_strip_22 (by decide) ?_
        refine lv_icmp_le (tgt := 30) hx hb dX6_strip_24 (by decide) (fun c_24 => ?_) (fun c_24 => ?_)
        · rw [if_pos c_24] at h
          refine lv_iload_n hx hb dX6_strip_30 rfl (lv_at hl 3 rfl) ?_
          refine lv_if_ge (tgt := 40) hx hb dX6_strip_31 (by decide) (fun c_31 => ?_) (fun c_31 => ?_)
          · rw [if_pos c_31] at h
            refine lv_aload_n hx hb dX6_strip_40 rfl (lv_at hl 0 rfl) ?_
            refine ggX6_7 X hV (o := 0) rfl dX6_strip_41 ?_
            refine lv_iload_n hx hb dX6_strip_44 rfl (lv_at hl 1 rfl) ?_
            refine lv_iload_n hx hb dX6_strip_45 rfl (lv_at hl 2 rfl) ?_
            obtain ⟨c_46, h⟩ := gx_chk_e h
            refine gw_iast X hV (iYA_1 (o := 1) rfl) c_46 dX6_strip_46 (fun S46 e_46 H locs hV => ?_)
            replace h := gx_let_e e_46 h
            clear e_46
            refine lv_aload_n hx hb dX6_strip_47 rfl (lv_at hl 0 rfl) ?_
            refine ggX6_13 X hV (o := 0) rfl dX6_strip_48 ?_
            refine lv_iload_n hx hb dX6_strip_51 rfl (lv_at hl 1 rfl) ?_
            refine lv_iload_n hx hb dX6_strip_52 rfl (lv_at hl 3 rfl) ?_
            obtain ⟨c_53, h⟩ := gx_chk_e h
            refine gw_iast X hV (iYA_1 (o := 2) rfl) c_53 dX6_strip_53 (fun S53 e_53 H locs hV => ?_)
            replace h := gx_let_e e_53 h
            clear e_53
            refine lv_iconst (v := 0) hx hb dX6_strip_54 (by decide) ?_
            refine lv_istore (lv' := [(4, .int (0 : Int32)), (0, .ref (ad 0)), (1, .int v1), (2, .int v2), (3, .int v3)]) hx hb dX6_strip_55 hl (by decide) rfl (fun ls hl => ?_)
            exact tX6_strip_57 X hA gx_fuel _ _ _ _ h _ _ _ hV (lv_sub hl [1, 2, 4, 0] rfl)
          · rw [if_neg c_31] at h
            refine lv_aload_n hx hb dX6_strip_34 rfl (lv_at hl 0 rfl) ?_
            refine lv_iconst (v := 4) hx hb dX6_strip_35 (by decide) ?_
            obtain ⟨r36, S36, k_36, h⟩ := gx_bind_e h
            refine gw_callI X hA hV (gw_runV X hV (o := 0) (As := [.int (4 : Int32)]) (rest := []) (mX6_failed l G ad _ S15 k_36) kc_RX6_87 (iYO_0 rfl) rfl rfl rfl hl.1 rfl (Nat.le_of_ble_eq_true rfl) ⟨rfl, rfl⟩ ⟨Nat.le_of_ble_eq_true rfl, Nat.le_of_ble_eq_true rfl⟩ ⟨Nat.le_refl _, Nat.le_refl _⟩ dX6_strip_36) (fun H locs hV => ?_)
            exact gw_ireti X hV h dX6_strip_39
        · rw [if_neg c_24] at h
          refine lv_bipush (v := -2) hx hb dX6_strip_27 (by decide) ?_
          exact gw_ireti X hV h dX6_strip_29
    · rw [if_pos c_4] at h
      refine lv_iconst (v := -1) hx hb dX6_strip_7 (by decide) ?_
      exact gw_ireti X hV h dX6_strip_8
  exact Y _ _ hV
def fX6_tear_25 (S : gS) (v1 : Int32) (t0 : Int32) : Option (Int32 × gS) :=
gx_chk v1 8 <|
gx_let (gA_up S 1 (Int32.toNatClampNeg v1) (-9 : Int32)) fun S33 =>
some (t0, S33)
def fX6_tear (S : gS) (v1 : Int32) : Option (Int32 × gS) :=
gx_bind (fX6_isStrip S v1) fun r1 S1 =>
if r1 = 0 then (some ((-1 : Int32), S1)) else
gx_chk v1 8 <|
if (gA S1 1 (Int32.toNatClampNeg v1)) = (-9 : Int32) then (fX6_tear_25 S1 v1 (1 : Int32)) else
fX6_tear_25 S1 v1 (0 : Int32)
def rmX6_tear : Room := { frames := 2, cells := 0, slots := 0, locals := 45 }
set_option maxHeartbeats 4000000 in
set_option maxRecDepth 20000 in
theorem tX6_tear_25 {p : Program} {l : Launch} {e : Env} {s : State} {m : MethodId} {args : Array Value} {below : List Frame} {meth : Method} {c : Code} {G : gG} {ad : Nat → Nat} {A : Nat → Prop} {z : Int32 × gS} (X : gCx p s m args meth c G cX6_tear RX6 (some .int) 3) (hA : ∀ q, s.heap.size ≤ q → A q) (S : gS) (v1 : Int32) (t0 : Int32) (h : fX6_tear_25 S v1 t0 = some z) {H : Heap} {locs : List Loc} {ls : Array Slot} (hV : gV wdY G ad A s.heap S H locs) (hl : lv_has ls 3 [(0, .ref (ad 0)), (1, .int v1)]) : W p l e rmX6_tear s m args below meth c H locs 0 0 (MQ below (gQi wdY G ad A z) args s 0 0 A) (F0 m 25 ls [.int t0]) := by
  obtain ⟨hx, hb, hr, hml, hown, hts, hlk, hK⟩ := id X
  unfold fX6_tear_25 at h
  refine lv_istore_n (lv' := [(2, .int t0), (0, .ref (ad 0)), (1, .int v1)]) hx hb dX6_tear_25 rfl hl (by decide) rfl (fun ls hl => ?_)
  refine lv_aload_n hx hb dX6_tear_26 rfl (lv_at hl 1 rfl) ?_
  refine ggX6_7 X hV (o := 0) rfl dX6_tear_27 ?_
  refine lv_iload_n hx hb dX6_tear_30 rfl (lv_at hl 2 rfl) ?_
  refine lv_bipush (v := -9) hx hb dX6_tear_31 (by decide) ?_
  obtain ⟨c_33, h⟩ := gx_chk_e h
  refine gw_iast X hV (iYA_1 (o := 1) rfl) c_33 dX6_tear_33 (fun S33 e_33 H locs hV => ?_)
  replace h := gx_let_e e_33 h
  clear e_33
  refine lv_iload_n hx hb dX6_tear_34 rfl (lv_at hl 0 rfl) ?_
  exact gw_ireti X hV h dX6_tear_35
set_option maxHeartbeats 4000000 in
set_option maxRecDepth 20000 in
theorem mX6_tear (l : Launch) (G : gG) (ad : Nat → Nat) (sz : Nat) (S : gS) {v1 : Int32} {r : Int32} {S' : gS} (h : fX6_tear S v1 = some (r, S')) : gMetI l yX6_tear cX6_tear 3 (some .int) rmX6_tear wdY G ad S sz [.ref (ad 0), .int v1] r S' := by
  refine gMet_of (by decide) ?_
  intro p e s m below meth c A hA X hnm hV
  have hl := lv_entry ([.ref (ad 0), .int v1]) (n := 3) (Nat.le_of_ble_eq_true rfl)
  rw [lg_entry_eq]
  generalize (lg_sl ([.ref (ad 0), .int v1]) ++ List.replicate (3 - (lg_sl ([.ref (ad 0), .int v1])).length) Slot.unset).toArray = ls at hl ⊢
  have hl : lv_has ls 3 [(0, .ref (ad 0)), (1, .int v1)] := hl
  obtain ⟨hx, hb, hr, hml, hown, hts, hlk, hK⟩ := id X
  unfold fX6_tear at h
  generalize ([.ref (ad 0), .int v1].toArray : Array Value) = args at X ⊢
  have Y : ∀ (H : Heap) (locs : List Loc), gV wdY G ad A s.heap S H locs → W p l e rmX6_tear s m args below meth c H locs 0 0 (MQ below (gQi wdY G ad A (r, S')) args s 0 0 A) (F0 m 0 ls []) := by
    intro H locs hV
    refine lv_iload_n hx hb dX6_tear_0 rfl (lv_at hl 1 rfl) ?_
    obtain ⟨r1, S1, k_1, h⟩ := gx_bind_e h
    refine gw_callI X hA hV (gw_runS X hV (As := [.int v1]) (rest := []) (mX6_isStrip l G ad _ S k_1) kc_RX6_81 rfl hl.1 rfl (Nat.le_of_ble_eq_true rfl) ⟨rfl, rfl⟩ ⟨Nat.le_of_ble_eq_true rfl, Nat.le_of_ble_eq_true rfl⟩ ⟨Nat.le_refl _, Nat.le_refl _⟩ dX6_tear_1) (fun H locs hV => ?_)
    refine lv_if_ne (tgt := 9) hx hb dX6_tear_4 (by decide) (fun c_4 => ?_) (fun c_4 => ?_)
    · rw [if_neg c_4] at h
      refine lv_aload_n hx hb dX6_tear_9 rfl (lv_at hl 0 rfl) ?_
      refine ggX6_7 X hV (o := 0) rfl dX6_tear_10 ?_
      refine lv_iload_n hx hb dX6_tear_13 rfl (lv_at hl 1 rfl) ?_
      obtain ⟨c_14, h⟩ := gx_chk_e h
      refine gw_iald X hV (iYA_1 (o := 1) rfl) c_14 dX6_tear_14 ?_
      refine lv_bipush (v := -9) hx hb dX6_tear_15 (by decide) ?_
      refine lv_icmp_ne (tgt := 24) hx hb dX6_tear_17 (by decide) (fun c_17 => ?_) (fun c_17 => ?_)
      · rw [if_neg c_17] at h
        refine lv_iconst (v := 0) hx hb dX6_tear_24 (by decide) ?_
        exact tX6_tear_25 X hA _ _ _ h hV (lv_sub hl [0, 1] rfl)
      · rw [if_pos c_17] at h
        refine lv_iconst (v := 1) hx hb dX6_tear_20 (by decide) ?_
        refine lv_goto (tgt := 25) hx hb dX6_tear_21 (by decide) ?_
        exact tX6_tear_25 X hA _ _ _ h hV (lv_sub hl [0, 1] rfl)
    · rw [if_pos c_4] at h
      refine lv_iconst (v := -1) hx hb dX6_tear_7 (by decide) ?_
      exact gw_ireti X hV h dX6_tear_8
  exact Y _ _ hV
theorem kc_RX6_91 : gKS RX6 91 yX6_cut cX6_cut 3 (some .long) 2 := ⟨q_644, q_645, q_646, q_42, by decide +kernel⟩
def fX6_put (S : gS) (v1 : Int32) (v2 : Int32) (v3 : Int64) : Option (Int32 × gS) :=
gx_bind (fX6_isStrip S v1) fun r1 S1 =>
if r1 = 0 then (some ((-1 : Int32), S1)) else
gx_chk v1 8 <|
if (gA S1 1 (Int32.toNatClampNeg v1)) = (-9 : Int32) then (gx_bind (fX6_failed S1 (1 : Int32)) fun r22 S22 =>
some (r22, S22)) else
gx_chk v1 8 <|
gx_bind (fX6_in S1 (Int32.toInt64 v2) (0 : Int64) (Int32.toInt64 ((gA S1 2 (Int32.toNatClampNeg v1)) - (1 : Int32)))) fun r38 S38 =>
if r38 = 0 then (gx_bind (fX6_failed S38 (2 : Int32)) fun r46 S46 =>
some (r46, S46)) else
gx_chk v1 8 <|
gx_bind (fX6_cut S38 (gA S38 1 (Int32.toNatClampNeg v1)) v3) fun r67 S67 =>
gx_chk (((8 : Int32) * v1) + v2) 64 <|
gx_let (gJ_up S67 3 (Int32.toNatClampNeg (((8 : Int32) * v1) + v2)) r67) fun S70 =>
some ((1 : Int32), S70)
def rmX6_put : Room := { frames := 2, cells := 0, slots := 0, locals := 45 }
set_option maxHeartbeats 4000000 in
set_option maxRecDepth 20000 in
theorem mX6_put (l : Launch) (G : gG) (ad : Nat → Nat) (sz : Nat) (S : gS) {v1 : Int32} {v2 : Int32} {v3 : Int64} {r : Int32} {S' : gS} (h : fX6_put S v1 v2 v3 = some (r, S')) : gMetI l yX6_put cX6_put 5 (some .int) rmX6_put wdY G ad S sz [.ref (ad 0), .int v1, .int v2, .long v3] r S' := by
  refine gMet_of (by decide) ?_
  intro p e s m below meth c A hA X hnm hV
  have hl := lv_entry ([.ref (ad 0), .int v1, .int v2, .long v3]) (n := 5) (Nat.le_of_ble_eq_true rfl)
  rw [lg_entry_eq]
  generalize (lg_sl ([.ref (ad 0), .int v1, .int v2, .long v3]) ++ List.replicate (5 - (lg_sl ([.ref (ad 0), .int v1, .int v2, .long v3])).length) Slot.unset).toArray = ls at hl ⊢
  have hl : lv_has ls 5 [(0, .ref (ad 0)), (1, .int v1), (2, .int v2), (3, .long v3)] := hl
  obtain ⟨hx, hb, hr, hml, hown, hts, hlk, hK⟩ := id X
  unfold fX6_put at h
  generalize ([.ref (ad 0), .int v1, .int v2, .long v3].toArray : Array Value) = args at X ⊢
  have Y : ∀ (H : Heap) (locs : List Loc), gV wdY G ad A s.heap S H locs → W p l e rmX6_put s m args below meth c H locs 0 0 (MQ below (gQi wdY G ad A (r, S')) args s 0 0 A) (F0 m 0 ls []) := by
    intro H locs hV
    refine lv_iload_n hx hb dX6_put_0 rfl (lv_at hl 1 rfl) ?_
    obtain ⟨r1, S1, k_1, h⟩ := gx_bind_e h
    refine gw_callI X hA hV (gw_runS X hV (As := [.int v1]) (rest := []) (mX6_isStrip l G ad _ S k_1) kc_RX6_81 rfl hl.1 rfl (Nat.le_of_ble_eq_true rfl) ⟨rfl, rfl⟩ ⟨Nat.le_of_ble_eq_true rfl, Nat.le_of_ble_eq_true rfl⟩ ⟨Nat.le_refl _, Nat.le_refl _⟩ dX6_put_1) (fun H locs hV => ?_)
    refine lv_if_ne (tgt := 9) hx hb dX6_put_4 (by decide) (fun c_4 => ?_) (fun c_4 => ?_)
    · rw [if_neg c_4] at h
      refine lv_aload_n hx hb dX6_put_9 rfl (lv_at hl 0 rfl) ?_
      refine ggX6_7 X hV (o := 0) rfl dX6_put_10 ?_
      refine lv_iload_n hx hb dX6_put_13 rfl (lv_at hl 1 rfl) ?_
      obtain ⟨c_14, h⟩ := gx_chk_e h
      refine gw_iald X hV (iYA_1 (o := 1) rfl) c_14 dX6_put_14 ?_
      refine lv_bipush (v := -9) hx hb dX6_put_15 (by decide) ?_
      refine lv_icmp_ne (tgt := 26) hx hb dX6_put_17 (by decide) (fun c_17 => ?_) (fun c_17 => ?_)
      · rw [if_neg c_17] at h
        refine lv_iload_n hx hb dX6_put_26 rfl (lv_at hl 2 rfl) ?_
        refine lv_i2l hx hb dX6_put_27 rfl ?_
        refine lv_lconst (v := 0) hx hb dX6_put_28 (by decide) ?_
        refine lv_aload_n hx hb dX6_put_29 rfl (lv_at hl 0 rfl) ?_
        refine ggX6_13 X hV (o := 0) rfl dX6_put_30 ?_
        refine lv_iload_n hx hb dX6_put_33 rfl (lv_at hl 1 rfl) ?_
        obtain ⟨c_34, h⟩ := gx_chk_e h
        refine gw_iald X hV (iYA_1 (o := 2) rfl) c_34 dX6_put_34 ?_
        refine lv_iconst (v := 1) hx hb dX6_put_35 (by decide) ?_
        refine lv_isub hx hb dX6_put_36 ?_
        refine lv_i2l hx hb dX6_put_37 rfl ?_
        obtain ⟨r38, S38, k_38, h⟩ := gx_bind_e h
        refine gw_callI X hA hV (gw_runS X hV (As := [.long (Int32.toInt64 v2), .long (0 : Int64), .long (Int32.toInt64 ((gA S1 2 (Int32.toNatClampNeg v1)) - (1 : Int32)))]) (rest := []) (mX6_in l G ad _ S1 k_38) kc_RX6_77 rfl hl.1 rfl (Nat.le_of_ble_eq_true rfl) ⟨rfl, rfl⟩ ⟨Nat.le_of_ble_eq_true rfl, Nat.le_of_ble_eq_true rfl⟩ ⟨Nat.le_refl _, Nat.le_refl _⟩ dX6_put_38) (fun H locs hV => ?_)
        refine lv_if_ne (tgt := 50) hx hb dX6_put_41 (by decide) (fun c_41 => ?_) (fun c_41 => ?_)
        · rw [if_neg c_41] at h
          refine lv_aload_n hx hb dX6_put_50 rfl (lv_at hl 0 rfl) ?_
          refine ggX6_16 X hV (o := 0) rfl dX6_put_51 ?_
          refine lv_bipush (v := 8) hx hb dX6_put_54 (by decide) ?_
          refine lv_iload_n hx hb dX6_put_56 rfl (lv_at hl 1 rfl) ?_
          refine lv_imul hx hb dX6_put_57 ?_
          refine lv_iload_n hx hb dX6_put_58 rfl (lv_at hl 2 rfl) ?_
          refine lv_iadd hx hb dX6_put_59 ?_
          refine lv_aload_n hx hb dX6_put_60 rfl (lv_at hl 0 rfl) ?_
          refine ggX6_7 X hV (o := 0) rfl dX6_put_61 ?_
          refine lv_iload_n hx hb dX6_put_64 rfl (lv_at hl 1 rfl) ?_
          obtain ⟨c_65, h⟩ := gx_chk_e h
          refine gw_iald X hV (iYA_1 (o := 1) rfl) c_65 dX6_put_65 ?_
          refine lv_lload_n hx hb dX6_put_66 rfl (lv_at hl 3 rfl) ?_
          obtain ⟨r67, S67, k_67, h⟩ := gx_bind_e h
          refine gw_callL X hA hV (gw_runS X hV (As := [.int (gA S38 1 (Int32.toNatClampNeg v1)), .long v3]) (rest := [.int (((8 : Int32) * v1) + v2), .ref (ad 3)]) (mX6_cut l G ad _ S38 k_67) kc_RX6_91 rfl hl.1 rfl (Nat.le_of_ble_eq_true rfl) ⟨rfl, rfl⟩ ⟨Nat.le_of_ble_eq_true rfl, Nat.le_of_ble_eq_true rfl⟩ ⟨Nat.le_refl _, Nat.le_refl _⟩ dX6_put_67) (fun H locs hV => ?_)
          obtain ⟨c_70, h⟩ := gx_chk_e h
          refine gw_last X hV (iYJ_2 (o := 3) rfl) c_70 dX6_put_70 (fun S70 e_70 H locs hV => ?_)
          replace h := gx_let_e e_70 h
          clear e_70
          refine lv_iconst (v := 1) hx hb dX6_put_71 (by decide) ?_
          exact gw_ireti X hV h dX6_put_72
        · rw [if_pos c_41] at h
          refine lv_aload_n hx hb dX6_put_44 rfl (lv_at hl 0 rfl) ?_
          refine lv_iconst (v := 2) hx hb dX6_put_45 (by decide) ?_
          obtain ⟨r46, S46, k_46, h⟩ := gx_bind_e h
          refine gw_callI X hA hV (gw_runV X hV (o := 0) (As := [.int (2 : Int32)]) (rest := []) (mX6_failed l G ad _ S38 k_46) kc_RX6_87 (iYO_0 rfl) rfl rfl rfl hl.1 rfl (Nat.le_of_ble_eq_true rfl) ⟨rfl, rfl⟩ ⟨Nat.le_of_ble_eq_true rfl, Nat.le_of_ble_eq_true rfl⟩ ⟨Nat.le_refl _, Nat.le_refl _⟩ dX6_put_46) (fun H locs hV => ?_)
          exact gw_ireti X hV h dX6_put_49
      · rw [if_pos c_17] at h
        refine lv_aload_n hx hb dX6_put_20 rfl (lv_at hl 0 rfl) ?_
        refine lv_iconst (v := 1) hx hb dX6_put_21 (by decide) ?_
        obtain ⟨r22, S22, k_22, h⟩ := gx_bind_e h
        refine gw_callI X hA hV (gw_runV X hV (o := 0) (As := [.int (1 : Int32)]) (rest := []) (mX6_failed l G ad _ S1 k_22) kc_RX6_87 (iYO_0 rfl) rfl rfl rfl hl.1 rfl (Nat.le_of_ble_eq_true rfl) ⟨rfl, rfl⟩ ⟨Nat.le_of_ble_eq_true rfl, Nat.le_of_ble_eq_true rfl⟩ ⟨Nat.le_refl _, Nat.le_refl _⟩ dX6_put_22) (fun H locs hV => ?_)
        exact gw_ireti X hV h dX6_put_25
    · rw [if_pos c_4] at h
      refine lv_iconst (v := -1) hx hb dX6_put_7 (by decide) ?_
      exact gw_ireti X hV h dX6_put_8
  exact Y _ _ hV
def fX6_at (S : gS) (v1 : Int32) (v2 : Int32) (v3 : Int32) : Option (Int64 × gS) :=
gx_bind (fX6_isStrip S v1) fun r1 S1 =>
if r1 = 0 then (some ((-1 : Int64), S1)) else
gx_bind (fX6_in S1 (Int32.toInt64 v2) (0 : Int64) (2 : Int64)) fun r17 S17 =>
if r17 = 0 then (some ((-2 : Int64), S17)) else
gx_chk v1 8 <|
if (gA S17 1 (Int32.toNatClampNeg v1)) = (-9 : Int32) then (gx_bind (fX6_failed S17 (1 : Int32)) fun r40 S40 =>
some ((Int32.toInt64 r40), S40)) else
gx_chk v1 8 <|
if (gA S17 1 (Int32.toNatClampNeg v1)) = v2 then (gx_chk v1 8 <|
gx_bind (fX6_in S17 (Int32.toInt64 v3) (0 : Int64) (Int32.toInt64 ((gA S17 2 (Int32.toNatClampNeg v1)) - (1 : Int32)))) fun r74 S74 =>
if r74 = 0 then (gx_bind (fX6_failed S74 (2 : Int32)) fun r96 S96 =>
some ((Int32.toInt64 r96), S96)) else
gx_chk (((8 : Int32) * v1) + v3) 64 <|
some ((gJ S74 3 (Int32.toNatClampNeg (((8 : Int32) * v1) + v3))), S74)) else
gx_bind (fX6_failed S17 (3 : Int32)) fun r57 S57 =>
some ((Int32.toInt64 r57), S57)
def rmX6_at : Room := { frames := 2, cells := 0, slots := 0, locals := 45 }
set_option maxHeartbeats 4000000 in
set_option maxRecDepth 20000 in
theorem mX6_at (l : Launch) (G : gG) (ad : Nat → Nat) (sz : Nat) (S : gS) {v1 : Int32} {v2 : Int32} {v3 : Int32} {r : Int64} {S' : gS} (h : fX6_at S v1 v2 v3 = some (r, S')) : gMetL l yX6_at cX6_at 4 (some .long) rmX6_at wdY G ad S sz [.ref (ad 0), .int v1, .int v2, .int v3] r S' := by
  refine gMet_of (by decide) ?_
  intro p e s m below meth c A hA X hnm hV
  have hl := lv_entry ([.ref (ad 0), .int v1, .int v2, .int v3]) (n := 4) (Nat.le_of_ble_eq_true rfl)
  rw [lg_entry_eq]
  generalize (lg_sl ([.ref (ad 0), .int v1, .int v2, .int v3]) ++ List.replicate (4 - (lg_sl ([.ref (ad 0), .int v1, .int v2, .int v3])).length) Slot.unset).toArray = ls at hl ⊢
  have hl : lv_has ls 4 [(0, .ref (ad 0)), (1, .int v1), (2, .int v2), (3, .int v3)] := hl
  obtain ⟨hx, hb, hr, hml, hown, hts, hlk, hK⟩ := id X
  unfold fX6_at at h
  generalize ([.ref (ad 0), .int v1, .int v2, .int v3].toArray : Array Value) = args at X ⊢
  have Y : ∀ (H : Heap) (locs : List Loc), gV wdY G ad A s.heap S H locs → W p l e rmX6_at s m args below meth c H locs 0 0 (MQ below (gQl wdY G ad A (r, S')) args s 0 0 A) (F0 m 0 ls []) := by
    intro H locs hV
    refine lv_iload_n hx hb dX6_at_0 rfl (lv_at hl 1 rfl) ?_
    obtain ⟨r1, S1, k_1, h⟩ := gx_bind_e h
    refine gw_callI X hA hV (gw_runS X hV (As := [.int v1]) (rest := []) (mX6_isStrip l G ad _ S k_1) kc_RX6_81 rfl hl.1 rfl (Nat.le_of_ble_eq_true rfl) ⟨rfl, rfl⟩ ⟨Nat.le_of_ble_eq_true rfl, Nat.le_of_ble_eq_true rfl⟩ ⟨Nat.le_refl _, Nat.le_refl _⟩ dX6_at_1) (fun H locs hV => ?_)
    refine lv_if_ne (tgt := 11) hx hb dX6_at_4 (by decide) (fun c_4 => ?_) (fun c_4 => ?_)
    · rw [if_neg c_4] at h
      refine lv_iload_n hx hb dX6_at_11 rfl (lv_at hl 2 rfl) ?_
      refine lv_i2l hx hb dX6_at_12 rfl ?_
      refine lv_lconst (v := 0) hx hb dX6_at_13 (by decide) ?_
      refine lv_ldc2 (v := 2) hx hb hown (hts _ q_631) dX6_at_14 ?_
      obtain ⟨r17, S17, k_17, h⟩ := gx_bind_e h
      refine gw_callI X hA hV (gw_runS X hV (As := [.long (Int32.toInt64 v2), .long (0 : Int64), .long (2 : Int64)]) (rest := []) (mX6_in l G ad _ S1 k_17) kc_RX6_77 rfl hl.1 rfl (Nat.le_of_ble_eq_true rfl) ⟨rfl, rfl⟩ ⟨Nat.le_of_ble_eq_true rfl, Nat.le_of_ble_eq_true rfl⟩ ⟨Nat.le_refl _, Nat.le_refl _⟩ dX6_at_17) (fun H locs hV => ?_)
      refine lv_if_ne (tgt := 27) hx hb dX6_at_20 (by decide) (fun c_20 => ?_) (fun c_20 => ?_)
      · rw [if_neg c_20] at h
        refine lv_aload_n hx hb dX6_at_27 rfl (lv_at hl 0 rfl) ?_
        refine ggX6_7 X hV (o := 0) rfl dX6_at_28 ?_
        refine lv_iload_n hx hb dX6_at_31 rfl (lv_at hl 1 rfl) ?_
        obtain ⟨c_32, h⟩ := gx_chk_e h
        refine gw_iald X hV (iYA_1 (o := 1) rfl) c_32 dX6_at_32 ?_
        refine lv_bipush (v := -9) hx hb dX6_at_33 (by decide) ?_
        refine lv_icmp_ne (tgt := 45) hx hb dX6_at_35 (by decide) (fun c_35 => ?_) (fun c_35 => ?_)
        · rw [if_neg c_35] at h
          refine lv_aload_n hx hb dX6_at_45 rfl (lv_at hl 0 rfl) ?_
          refine ggX6_7 X hV (o := 0) rfl dX6_at_46 ?_
          refine lv_iload_n hx hb dX6_at_49 rfl (lv_at hl 1 rfl) ?_
          obtain ⟨c_50, h⟩ := gx_chk_e h
          refine gw_iald X hV (iYA_1 (o := 1) rfl) c_50 dX6_at_50 ?_
          refine lv_iload_n hx hb dX6_at_51 rfl (lv_at hl 2 rfl) ?_
          refine lv_icmp_eq (tgt := 62) hx hb dX6_at_52 (by decide) (fun c_52 => ?_) (fun c_52 => ?_)
          · rw [if_pos c_52] at h
            refine lv_iload_n hx hb dX6_at_62 rfl (lv_at hl 3 rfl) ?_
            refine lv_i2l hx hb dX6_at_63 rfl ?_
            refine lv_lconst (v := 0) hx hb dX6_at_64 (by decide) ?_
            refine lv_aload_n hx hb dX6_at_65 rfl (lv_at hl 0 rfl) ?_
            refine ggX6_13 X hV (o := 0) rfl dX6_at_66 ?_
            refine lv_iload_n hx hb dX6_at_69 rfl (lv_at hl 1 rfl) ?_
            obtain ⟨c_70, h⟩ := gx_chk_e h
            refine gw_iald X hV (iYA_1 (o := 2) rfl) c_70 dX6_at_70 ?_
            refine lv_iconst (v := 1) hx hb dX6_at_71 (by decide) ?_
            refine lv_isub hx hb dX6_at_72 ?_
            refine lv_i2l hx hb dX6_at_73 rfl ?_
            obtain ⟨r74, S74, k_74, h⟩ := gx_bind_e h
            refine gw_callI X hA hV (gw_runS X hV (As := [.long (Int32.toInt64 v3), .long (0 : Int64), .long (Int32.toInt64 ((gA S17 2 (Int32.toNatClampNeg v1)) - (1 : Int32)))]) (rest := []) (mX6_in l G ad _ S17 k_74) kc_RX6_77 rfl hl.1 rfl (Nat.le_of_ble_eq_true rfl) ⟨rfl, rfl⟩ ⟨Nat.le_of_ble_eq_true rfl, Nat.le_of_ble_eq_true rfl⟩ ⟨Nat.le_refl _, Nat.le_refl _⟩ dX6_at_74) (fun H locs hV => ?_)
            refine lv_if_eq (tgt := 94) hx hb dX6_at_77 (by decide) (fun c_77 => ?_) (fun c_77 => ?_)
            · rw [if_pos c_77] at h
              refine lv_aload_n hx hb dX6_at_94 rfl (lv_at hl 0 rfl) ?_
              refine lv_iconst (v := 2) hx hb dX6_at_95 (by decide) ?_
              obtain ⟨r96, S96, k_96, h⟩ := gx_bind_e h
              refine gw_callI X hA hV (gw_runV X hV (o := 0) (As := [.int (2 : Int32)]) (rest := []) (mX6_failed l G ad _ S74 k_96) kc_RX6_87 (iYO_0 rfl) rfl rfl rfl hl.1 rfl (Nat.le_of_ble_eq_true rfl) ⟨rfl, rfl⟩ ⟨Nat.le_of_ble_eq_true rfl, Nat.le_of_ble_eq_true rfl⟩ ⟨Nat.le_refl _, Nat.le_refl _⟩ dX6_at_96) (fun H locs hV => ?_)
              refine lv_i2l hx hb dX6_at_99 rfl ?_
              exact gw_lret X hV h dX6_at_100
            · rw [if_neg c_77] at h
              refine lv_aload_n hx hb dX6_at_80 rfl (lv_at hl 0 rfl) ?_
              refine ggX6_16 X hV (o := 0) rfl dX6_at_81 ?_
              refine lv_bipush (v := 8) hx hb dX6_at_84 (by decide) ?_
              refine lv_iload_n hx hb dX6_at_86 rfl (lv_at hl 1 rfl) ?_
              refine lv_imul hx hb dX6_at_87 ?_
              refine lv_iload_n hx hb dX6_at_88 rfl (lv_at hl 3 rfl) ?_
              refine lv_iadd hx hb dX6_at_89 ?_
              obtain ⟨c_90, h⟩ := gx_chk_e h
              refine gw_lald X hV (iYJ_2 (o := 3) rfl) c_90 dX6_at_90 ?_
              refine lv_goto (tgt := 100) hx hb dX6_at_91 (by decide) ?_
              exact gw_lret X hV h dX6_at_100
          · rw [if_neg c_52] at h
            refine lv_aload_n hx hb dX6_at_55 rfl (lv_at hl 0 rfl) ?_
            refine lv_iconst (v := 3) hx hb dX6_at_56 (by decide) ?_
            obtain ⟨r57, S57, k_57, h⟩ := gx_bind_e h
            refine gw_callI X hA hV (gw_runV X hV (o := 0) (As := [.int (3 : Int32)]) (rest := []) (mX6_failed l G ad _ S17 k_57) kc_RX6_87 (iYO_0 rfl) rfl rfl rfl hl.1 rfl (Nat.le_of_ble_eq_true rfl) ⟨rfl, rfl⟩ ⟨Nat.le_of_ble_eq_true rfl, Nat.le_of_ble_eq_true rfl⟩ ⟨Nat.le_refl _, Nat.le_refl _⟩ dX6_at_57) (fun H locs hV => ?_)
            refine lv_i2l hx hb dX6_at_60 rfl ?_
            exact gw_lret X hV h dX6_at_61
        · rw [if_pos c_35] at h
          refine lv_aload_n hx hb dX6_at_38 rfl (lv_at hl 0 rfl) ?_
          refine lv_iconst (v := 1) hx hb dX6_at_39 (by decide) ?_
          obtain ⟨r40, S40, k_40, h⟩ := gx_bind_e h
          refine gw_callI X hA hV (gw_runV X hV (o := 0) (As := [.int (1 : Int32)]) (rest := []) (mX6_failed l G ad _ S17 k_40) kc_RX6_87 (iYO_0 rfl) rfl rfl rfl hl.1 rfl (Nat.le_of_ble_eq_true rfl) ⟨rfl, rfl⟩ ⟨Nat.le_of_ble_eq_true rfl, Nat.le_of_ble_eq_true rfl⟩ ⟨Nat.le_refl _, Nat.le_refl _⟩ dX6_at_40) (fun H locs hV => ?_)
          refine lv_i2l hx hb dX6_at_43 rfl ?_
          exact gw_lret X hV h dX6_at_44
      · rw [if_pos c_20] at h
        refine lv_ldc2 (v := -2) hx hb hown (hts _ q_652) dX6_at_23 ?_
        exact gw_lret X hV h dX6_at_26
    · rw [if_pos c_4] at h
      refine lv_ldc2 (v := -1) hx hb hown (hts _ q_651) dX6_at_7 ?_
      exact gw_lret X hV h dX6_at_10
  exact Y _ _ hV
def fX6_copy_49 (S : gS) : Option (Int32 × gS) :=
gx_bind (fX6_failed S (1 : Int32)) fun r51 S51 =>
some (r51, S51)
def fX6_copy_120 (S : gS) : Option (Int32 × gS) :=
gx_bind (fX6_failed S (2 : Int32)) fun r122 S122 =>
some (r122, S122)
def fX6_copy_166L (K166 : gS → Int32 → Int32 → Int32 → Int32 → Option (Int32 × gS)) (S : gS) (v3 : Int32) (v4 : Int32) (v5 : Int32) (v6 : Int32) : Option (Int32 × gS) :=
if v5 ≤ v6 then (some (v5, S)) else
gx_chk v6 8 <|
gx_chk ((((8 : Int32) * v3) + v4) + v6) 64 <|
gx_let (gJ_up S 3 (Int32.toNatClampNeg ((((8 : Int32) * v3) + v4) + v6)) (gJ S 4 (Int32.toNatClampNeg v6))) fun S194 =>
gx_let (v6 + (1 : Int32)) fun v6_195 =>
K166 S194 v3 v4 v5 v6_195
def fX6_copy_166 : Nat → gS → Int32 → Int32 → Int32 → Int32 → Option (Int32 × gS)
  | 0, _, _, _, _, _ => none
  | f + 1, S, v3, v4, v5, v6 => fX6_copy_166L (fX6_copy_166 f) S v3 v4 v5 v6
def fX6_copy_129L (K129 : gS → Int32 → Int32 → Int32 → Int32 → Int32 → Int32 → Option (Int32 × gS)) (S : gS) (v1 : Int32) (v2 : Int32) (v3 : Int32) (v4 : Int32) (v5 : Int32) (v6 : Int32) : Option (Int32 × gS) :=
if v5 ≤ v6 then (fX6_copy_166 gx_fuel S v3 v4 v5 (0 : Int32)) else
gx_chk ((((8 : Int32) * v1) + v2) + v6) 64 <|
gx_chk v6 8 <|
gx_let (gJ_up S 4 (Int32.toNatClampNeg v6) (gJ S 3 (Int32.toNatClampNeg ((((8 : Int32) * v1) + v2) + v6)))) fun S156 =>
gx_let (v6 + (1 : Int32)) fun v6_157 =>
K129 S156 v1 v2 v3 v4 v5 v6_157
def fX6_copy_129 : Nat → gS → Int32 → Int32 → Int32 → Int32 → Int32 → Int32 → Option (Int32 × gS)
  | 0, _, _, _, _, _, _, _ => none
  | f + 1, S, v1, v2, v3, v4, v5, v6 => fX6_copy_129L (fX6_copy_129 f) S v1 v2 v3 v4 v5 v6
def fX6_copy (S : gS) (v1 : Int32) (v2 : Int32) (v3 : Int32) (v4 : Int32) (v5 : Int32) : Option (Int32 × gS) :=
gx_bind (fX6_isStrip S v1) fun r1 S1 =>
if r1 = 0 then (some ((-1 : Int32), S1)) else
gx_bind (fX6_isStrip S1 v3) fun r8 S8 =>
if r8 = 0 then (some ((-1 : Int32), S8)) else
if 0 ≤ v5 then (gx_chk v1 8 <|
if (gA S8 1 (Int32.toNatClampNeg v1)) = (-9 : Int32) then (fX6_copy_49 S8) else
gx_chk v3 8 <|
if (gA S8 1 (Int32.toNatClampNeg v3)) = (-9 : Int32) then (fX6_copy_49 S8) else
gx_chk v1 8 <|
gx_chk v3 8 <|
if (gA S8 1 (Int32.toNatClampNeg v1)) = (gA S8 1 (Int32.toNatClampNeg v3)) then (if v2 < 0 then (fX6_copy_120 S8) else
if v4 < 0 then (fX6_copy_120 S8) else
gx_chk v1 8 <|
if (Int32.toInt64 (gA S8 2 (Int32.toNatClampNeg v1))) < ((Int32.toInt64 v2) + (Int32.toInt64 v5)) then (fX6_copy_120 S8) else
gx_chk v3 8 <|
if ((Int32.toInt64 v4) + (Int32.toInt64 v5)) ≤ (Int32.toInt64 (gA S8 2 (Int32.toNatClampNeg v3))) then (fX6_copy_129 gx_fuel S8 v1 v2 v3 v4 v5 (0 : Int32)) else
fX6_copy_120 S8) else
gx_bind (fX6_failed S8 (3 : Int32)) fun r72 S72 =>
some (r72, S72)) else
gx_bind (fX6_failed S8 (4 : Int32)) fun r23 S23 =>
some (r23, S23)
def rmX6_copy : Room := { frames := 2, cells := 0, slots := 0, locals := 45 }
set_option maxHeartbeats 4000000 in
set_option maxRecDepth 20000 in
theorem tX6_copy_49 {p : Program} {l : Launch} {e : Env} {s : State} {m : MethodId} {args : Array Value} {below : List Frame} {meth : Method} {c : Code} {G : gG} {ad : Nat → Nat} {A : Nat → Prop} {z : Int32 × gS} (X : gCx p s m args meth c G cX6_copy RX6 (some .int) 7) (hA : ∀ q, s.heap.size ≤ q → A q) (S : gS) (h : fX6_copy_49 S = some z) {H : Heap} {locs : List Loc} {ls : Array Slot} (hV : gV wdY G ad A s.heap S H locs) (hl : lv_has ls 7 [(0, .ref (ad 0))]) : W p l e rmX6_copy s m args below meth c H locs 0 0 (MQ below (gQi wdY G ad A z) args s 0 0 A) (F0 m 49 ls []) := by
  obtain ⟨hx, hb, hr, hml, hown, hts, hlk, hK⟩ := id X
  unfold fX6_copy_49 at h
  refine lv_aload_n hx hb dX6_copy_49 rfl (lv_at hl 0 rfl) ?_
  refine lv_iconst (v := 1) hx hb dX6_copy_50 (by decide) ?_
  obtain ⟨r51, S51, k_51, h⟩ := gx_bind_e h
  refine gw_callI X hA hV (gw_runV X hV (o := 0) (As := [.int (1 : Int32)]) (rest := []) (mX6_failed l G ad _ S k_51) kc_RX6_87 (iYO_0 rfl) rfl rfl rfl hl.1 rfl (Nat.le_of_ble_eq_true rfl) ⟨rfl, rfl⟩ ⟨Nat.le_of_ble_eq_true rfl, Nat.le_of_ble_eq_true rfl⟩ ⟨Nat.le_refl _, Nat.le_refl _⟩ dX6_copy_51) (fun H locs hV => ?_)
  exact gw_ireti X hV h dX6_copy_54
set_option maxHeartbeats 4000000 in
set_option maxRecDepth 20000 in
theorem tX6_copy_120 {p : Program} {l : Launch} {e : Env} {s : State} {m : MethodId} {args : Array Value} {below : List Frame} {meth : Method} {c : Code} {G : gG} {ad : Nat → Nat} {A : Nat → Prop} {z : Int32 × gS} (X : gCx p s m args meth c G cX6_copy RX6 (some .int) 7) (hA : ∀ q, s.heap.size ≤ q → A q) (S : gS) (h : fX6_copy_120 S = some z) {H : Heap} {locs : List Loc} {ls : Array Slot} (hV : gV wdY G ad A s.heap S H locs) (hl : lv_has ls 7 [(0, .ref (ad 0))]) : W p l e rmX6_copy s m args below meth c H locs 0 0 (MQ below (gQi wdY G ad A z) args s 0 0 A) (F0 m 120 ls []) := by
  obtain ⟨hx, hb, hr, hml, hown, hts, hlk, hK⟩ := id X
  unfold fX6_copy_120 at h
  refine lv_aload_n hx hb dX6_copy_120 rfl (lv_at hl 0 rfl) ?_
  refine lv_iconst (v := 2) hx hb dX6_copy_121 (by decide) ?_
  obtain ⟨r122, S122, k_122, h⟩ := gx_bind_e h
  refine gw_callI X hA hV (gw_runV X hV (o := 0) (As := [.int (2 : Int32)]) (rest := []) (mX6_failed l G ad _ S k_122) kc_RX6_87 (iYO_0 rfl) rfl rfl rfl hl.1 rfl (Nat.le_of_ble_eq_true rfl) ⟨rfl, rfl⟩ ⟨Nat.le_of_ble_eq_true rfl, Nat.le_of_ble_eq_true rfl⟩ ⟨Nat.le_refl _, Nat.le_refl _⟩ dX6_copy_122) (fun H locs hV => ?_)
  exact gw_ireti X hV h dX6_copy_125
set_option maxHeartbeats 4000000 in
set_option maxRecDepth 20000 in
theorem tX6_copy_166L {p : Program} {l : Launch} {e : Env} {s : State} {m : MethodId} {args : Array Value} {below : List Frame} {meth : Method} {c : Code} {G : gG} {ad : Nat → Nat} {A : Nat → Prop} {z : Int32 × gS} {K166 : gS → Int32 → Int32 → Int32 → Int32 → Option (Int32 × gS)} (X : gCx p s m args meth c G cX6_copy RX6 (some .int) 7) (hA : ∀ q, s.heap.size ≤ q → A q) (kK166 : ∀ (S : gS) (v3 : Int32) (v4 : Int32) (v5 : Int32) (v6 : Int32), K166 S v3 v4 v5 v6 = some z → ∀ (H : Heap) (locs : List Loc) (ls : Array Slot), gV wdY G ad A s.heap S H locs → lv_has ls 7 [(0, .ref (ad 0)), (3, .int v3), (4, .int v4), (5, .int v5), (6, .int v6)] → W p l e rmX6_copy s m args below meth c H locs 0 0 (MQ below (gQi wdY G ad A z) args s 0 0 A) (F0 m 166 ls [])) (S : gS) (v3 : Int32) (v4 : Int32) (v5 : Int32) (v6 : Int32) (h : fX6_copy_166L K166 S v3 v4 v5 v6 = some z) {H : Heap} {locs : List Loc} {ls : Array Slot} (hV : gV wdY G ad A s.heap S H locs) (hl : lv_has ls 7 [(0, .ref (ad 0)), (3, .int v3), (4, .int v4), (5, .int v5), (6, .int v6)]) : W p l e rmX6_copy s m args below meth c H locs 0 0 (MQ below (gQi wdY G ad A z) args s 0 0 A) (F0 m 166 ls []) := by
  obtain ⟨hx, hb, hr, hml, hown, hts, hlk, hK⟩ := id X
  unfold fX6_copy_166L at h
  refine lv_iload hx hb dX6_copy_166 (lv_at hl 4 rfl) ?_
  refine lv_iload hx hb dX6_copy_168 (lv_at hl 3 rfl) ?_
  refine lv_icmp_ge (tgt := 201) hx hb dX6_copy_170 (by decide) (fun c_170 => ?_) (fun c_170 => ?_)
  · rw [if_pos c_170] at h
    refine lv_iload hx hb dX6_copy_201 (lv_at hl 3 rfl) ?_
    exact gw_ireti X hV h dX6_copy_203
  · rw [if_neg c_170] at h
    refine lv_aload_n hx hb dX6_copy_173 rfl (lv_at hl 0 rfl) ?_
    refine ggX6_16 X hV (o := 0) rfl dX6_copy_174 ?_
    refine lv_bipush (v := 8) hx hb dX6_copy_177 (by decide) ?_
    refine lv_iload_n hx hb dX6_copy_179 rfl (lv_at hl 1 rfl) ?_
    refine lv_imul hx hb dX6_copy_180 ?_
    refine lv_iload hx hb dX6_copy_181 (lv_at hl 2 rfl) ?_
    refine lv_iadd hx hb dX6_copy_183 ?_
    refine lv_iload hx hb dX6_copy_184 (lv_at hl 4 rfl) ?_
    refine lv_iadd hx hb dX6_copy_186 ?_
    refine lv_aload_n hx hb dX6_copy_187 rfl (lv_at hl 0 rfl) ?_
    refine ggX6_20 X hV (o := 0) rfl dX6_copy_188 ?_
    refine lv_iload hx hb dX6_copy_191 (lv_at hl 4 rfl) ?_
    obtain ⟨c_193, h⟩ := gx_chk_e h
    refine gw_lald X hV (iYJ_3 (o := 4) rfl) c_193 dX6_copy_193 ?_
    obtain ⟨c_194, h⟩ := gx_chk_e h
    refine gw_last X hV (iYJ_2 (o := 3) rfl) c_194 dX6_copy_194 (fun S194 e_194 H locs hV => ?_)
    replace h := gx_let_e e_194 h
    clear e_194
    obtain ⟨v6_195, e_195⟩ : ∃ y : Int32, y = (v6 + (1 : Int32)) := ⟨_, rfl⟩
    refine lv_iinc (v := v6_195) (lv' := [(6, .int v6_195), (0, .ref (ad 0)), (3, .int v3), (4, .int v4), (5, .int v5)]) hx hb dX6_copy_195 hl (k := 4) rfl (by rw [e_195]; rfl) (by decide) rfl (fun ls hl => ?_)
    replace h := gx_let_e e_195 h
    clear e_195
    refine lv_goto (tgt := 166) hx hb dX6_copy_198 (by decide) ?_
    exact kK166 _ _ _ _ _ h _ _ _ hV (lv_sub hl [1, 2, 3, 4, 0] rfl)
set_option maxHeartbeats 4000000 in
set_option maxRecDepth 20000 in
theorem tX6_copy_166 {p : Program} {l : Launch} {e : Env} {s : State} {m : MethodId} {args : Array Value} {below : List Frame} {meth : Method} {c : Code} {G : gG} {ad : Nat → Nat} {A : Nat → Prop} {z : Int32 × gS} (X : gCx p s m args meth c G cX6_copy RX6 (some .int) 7) (hA : ∀ q, s.heap.size ≤ q → A q) : ∀ (f : Nat) (S : gS) (v3 : Int32) (v4 : Int32) (v5 : Int32) (v6 : Int32) (h : fX6_copy_166 f S v3 v4 v5 v6 = some z) (H : Heap) (locs : List Loc) (ls : Array Slot) (hV : gV wdY G ad A s.heap S H locs) (hl : lv_has ls 7 [(0, .ref (ad 0)), (3, .int v3), (4, .int v4), (5, .int v5), (6, .int v6)]), W p l e rmX6_copy s m args below meth c H locs 0 0 (MQ below (gQi wdY G ad A z) args s 0 0 A) (F0 m 166 ls []) := by
  intro f
  induction f with
  | zero => intro S v3 v4 v5 v6 h; exact absurd h (by simp [fX6_copy_166])
  | succ f ih => intro S v3 v4 v5 v6 h H locs ls hV hl; exact tX6_copy_166L X hA ih S v3 v4 v5 v6 h hV hl
set_option maxHeartbeats 4000000 in
set_option maxRecDepth 20000 in
theorem tX6_copy_129L {p : Program} {l : Launch} {e : Env} {s : State} {m : MethodId} {args : Array Value} {below : List Frame} {meth : Method} {c : Code} {G : gG} {ad : Nat → Nat} {A : Nat → Prop} {z : Int32 × gS} {K129 : gS → Int32 → Int32 → Int32 → Int32 → Int32 → Int32 → Option (Int32 × gS)} (X : gCx p s m args meth c G cX6_copy RX6 (some .int) 7) (hA : ∀ q, s.heap.size ≤ q → A q) (kK129 : ∀ (S : gS) (v1 : Int32) (v2 : Int32) (v3 : Int32) (v4 : Int32) (v5 : Int32) (v6 : Int32), K129 S v1 v2 v3 v4 v5 v6 = some z → ∀ (H : Heap) (locs : List Loc) (ls : Array Slot), gV wdY G ad A s.heap S H locs → lv_has ls 7 [(0, .ref (ad 0)), (1, .int v1), (2, .int v2), (3, .int v3), (4, .int v4), (5, .int v5), (6, .int v6)] → W p l e rmX6_copy s m args below meth c H locs 0 0 (MQ below (gQi wdY G ad A z) args s 0 0 A) (F0 m 129 ls [])) (S : gS) (v1 : Int32) (v2 : Int32) (v3 : Int32) (v4 : Int32) (v5 : Int32) (v6 : Int32) (h : fX6_copy_129L K129 S v1 v2 v3 v4 v5 v6 = some z) {H : Heap} {locs : List Loc} {ls : Array Slot} (hV : gV wdY G ad A s.heap S H locs) (hl : lv_has ls 7 [(0, .ref (ad 0)), (1, .int v1), (2, .int v2), (3, .int v3), (4, .int v4), (5, .int v5), (6, .int v6)]) : W p l e rmX6_copy s m args below meth c H locs 0 0 (MQ below (gQi wdY G ad A z) args s 0 0 A) (F0 m 129 ls []) := by
  obtain ⟨hx, hb, hr, hml, hown, hts, hlk, hK⟩ := id X
  unfold fX6_copy_129L at h
  refine lv_iload hx hb dX6_copy_129 (lv_at hl 6 rfl) ?_
  refine lv_iload hx hb dX6_copy_131 (lv_at hl 5 rfl) ?_
  refine lv_icmp_ge (tgt := 163) hx hb dX6_copy_133 (by decide) (fun c_133 => ?_) (fun c_133 => ?_)
  · rw [if_pos c_133] at h
    refine lv_iconst (v := 0) hx hb dX6_copy_163 (by decide) ?_
    refine lv_istore (lv' := [(6, .int (0 : Int32)), (0, .ref (ad 0)), (1, .int v1), (2, .int v2), (3, .int v3), (4, .int v4), (5, .int v5)]) hx hb dX6_copy_164 hl (by decide) rfl (fun ls hl => ?_)
    exact tX6_copy_166 X hA gx_fuel _ _ _ _ _ h _ _ _ hV (lv_sub hl [1, 4, 5, 6, 0] rfl)
  · rw [if_neg c_133] at h
    refine lv_aload_n hx hb dX6_copy_136 rfl (lv_at hl 0 rfl) ?_
    refine ggX6_20 X hV (o := 0) rfl dX6_copy_137 ?_
    refine lv_iload hx hb dX6_copy_140 (lv_at hl 6 rfl) ?_
    refine lv_aload_n hx hb dX6_copy_142 rfl (lv_at hl 0 rfl) ?_
    refine ggX6_16 X hV (o := 0) rfl dX6_copy_143 ?_
    refine lv_bipush (v := 8) hx hb dX6_copy_146 (by decide) ?_
    refine lv_iload_n hx hb dX6_copy_148 rfl (lv_at hl 1 rfl) ?_
    refine lv_imul hx hb dX6_copy_149 ?_
    refine lv_iload_n hx hb dX6_copy_150 rfl (lv_at hl 2 rfl) ?_
    refine lv_iadd hx hb dX6_copy_151 ?_
    refine lv_iload hx hb dX6_copy_152 (lv_at hl 6 rfl) ?_
    refine lv_iadd hx hb dX6_copy_154 ?_
    obtain ⟨c_155, h⟩ := gx_chk_e h
    refine gw_lald X hV (iYJ_2 (o := 3) rfl) c_155 dX6_copy_155 ?_
    obtain ⟨c_156, h⟩ := gx_chk_e h
    refine gw_last X hV (iYJ_3 (o := 4) rfl) c_156 dX6_copy_156 (fun S156 e_156 H locs hV => ?_)
    replace h := gx_let_e e_156 h
    clear e_156
    obtain ⟨v6_157, e_157⟩ : ∃ y : Int32, y = (v6 + (1 : Int32)) := ⟨_, rfl⟩
    refine lv_iinc (v := v6_157) (lv' := [(6, .int v6_157), (0, .ref (ad 0)), (1, .int v1), (2, .int v2), (3, .int v3), (4, .int v4), (5, .int v5)]) hx hb dX6_copy_157 hl (k := 6) rfl (by rw [e_157]; rfl) (by decide) rfl (fun ls hl => ?_)
    replace h := gx_let_e e_157 h
    clear e_157
    refine lv_goto (tgt := 129) hx hb dX6_copy_160 (by decide) ?_
    exact kK129 _ _ _ _ _ _ _ h _ _ _ hV (lv_sub hl [1, 2, 3, 4, 5, 6, 0] rfl)
set_option maxHeartbeats 4000000 in
set_option maxRecDepth 20000 in
theorem tX6_copy_129 {p : Program} {l : Launch} {e : Env} {s : State} {m : MethodId} {args : Array Value} {below : List Frame} {meth : Method} {c : Code} {G : gG} {ad : Nat → Nat} {A : Nat → Prop} {z : Int32 × gS} (X : gCx p s m args meth c G cX6_copy RX6 (some .int) 7) (hA : ∀ q, s.heap.size ≤ q → A q) : ∀ (f : Nat) (S : gS) (v1 : Int32) (v2 : Int32) (v3 : Int32) (v4 : Int32) (v5 : Int32) (v6 : Int32) (h : fX6_copy_129 f S v1 v2 v3 v4 v5 v6 = some z) (H : Heap) (locs : List Loc) (ls : Array Slot) (hV : gV wdY G ad A s.heap S H locs) (hl : lv_has ls 7 [(0, .ref (ad 0)), (1, .int v1), (2, .int v2), (3, .int v3), (4, .int v4), (5, .int v5), (6, .int v6)]), W p l e rmX6_copy s m args below meth c H locs 0 0 (MQ below (gQi wdY G ad A z) args s 0 0 A) (F0 m 129 ls []) := by
  intro f
  induction f with
  | zero => intro S v1 v2 v3 v4 v5 v6 h; exact absurd h (by simp [fX6_copy_129])
  | succ f ih => intro S v1 v2 v3 v4 v5 v6 h H locs ls hV hl; exact tX6_copy_129L X hA ih S v1 v2 v3 v4 v5 v6 h hV hl
set_option maxHeartbeats 4000000 in
set_option maxRecDepth 20000 in
theorem mX6_copy (l : Launch) (G : gG) (ad : Nat → Nat) (sz : Nat) (S : gS) {v1 : Int32} {v2 : Int32} {v3 : Int32} {v4 : Int32} {v5 : Int32} {r : Int32} {S' : gS} (h : fX6_copy S v1 v2 v3 v4 v5 = some (r, S')) : gMetI l yX6_copy cX6_copy 7 (some .int) rmX6_copy wdY G ad S sz [.ref (ad 0), .int v1, .int v2, .int v3, .int v4, .int v5] r S' := by
  refine gMet_of (by decide) ?_
  intro p e s m below meth c A hA X hnm hV
  have hl := lv_entry ([.ref (ad 0), .int v1, .int v2, .int v3, .int v4, .int v5]) (n := 7) (Nat.le_of_ble_eq_true rfl)
  rw [lg_entry_eq]
  generalize (lg_sl ([.ref (ad 0), .int v1, .int v2, .int v3, .int v4, .int v5]) ++ List.replicate (7 - (lg_sl ([.ref (ad 0), .int v1, .int v2, .int v3, .int v4, .int v5])).length) Slot.unset).toArray = ls at hl ⊢
  have hl : lv_has ls 7 [(0, .ref (ad 0)), (1, .int v1), (2, .int v2), (3, .int v3), (4, .int v4), (5, .int v5)] := hl
  obtain ⟨hx, hb, hr, hml, hown, hts, hlk, hK⟩ := id X
  unfold fX6_copy at h
  generalize ([.ref (ad 0), .int v1, .int v2, .int v3, .int v4, .int v5].toArray : Array Value) = args at X ⊢
  have Y : ∀ (H : Heap) (locs : List Loc), gV wdY G ad A s.heap S H locs → W p l e rmX6_copy s m args below meth c H locs 0 0 (MQ below (gQi wdY G ad A (r, S')) args s 0 0 A) (F0 m 0 ls []) := by
    intro H locs hV
    refine lv_iload_n hx hb dX6_copy_0 rfl (lv_at hl 1 rfl) ?_
    obtain ⟨r1, S1, k_1, h⟩ := gx_bind_e h
    refine gw_callI X hA hV (gw_runS X hV (As := [.int v1]) (rest := []) (mX6_isStrip l G ad _ S k_1) kc_RX6_81 rfl hl.1 rfl (Nat.le_of_ble_eq_true rfl) ⟨rfl, rfl⟩ ⟨Nat.le_of_ble_eq_true rfl, Nat.le_of_ble_eq_true rfl⟩ ⟨Nat.le_refl _, Nat.le_refl _⟩ dX6_copy_1) (fun H locs hV => ?_)
    refine lv_if_eq (tgt := 14) hx hb dX6_copy_4 (by decide) (fun c_4 => ?_) (fun c_4 => ?_)
    · rw [if_pos c_4] at h
      refine lv_iconst (v := -1) hx hb dX6_copy_14 (by decide) ?_
      exact gw_ireti X hV h dX6_copy_15
    · rw [if_neg c_4] at h
      refine lv_iload_n hx hb dX6_copy_7 rfl (lv_at hl 3 rfl) ?_
      obtain ⟨r8, S8, k_8, h⟩ := gx_bind_e h
      refine gw_callI X hA hV (gw_runS X hV (As := [.int v3]) (rest := []) (mX6_isStrip l G ad _ S1 k_8) kc_RX6_81 rfl hl.1 rfl (Nat.le_of_ble_eq_true rfl) ⟨rfl, rfl⟩ ⟨Nat.le_of_ble_eq_true rfl, Nat.le_of_ble_eq_true rfl⟩ ⟨Nat.le_refl _, Nat.le_refl _⟩ dX6_copy_8) (fun H locs hV => ?_)
      refine lv_if_ne (tgt := 16) hx hb dX6_copy_11 (by decide) (fun c_11 => ?_) (fun c_11 => ?_)
      · rw [if_neg c_11] at h
        refine lv_iload hx hb dX6_copy_16 (lv_at hl 5 rfl) ?_
        refine lv_if_ge (tgt := 27) hx hb dX6_copy_18 (by decide) (fun c_18 => ?_) (fun c_18 => ?_)
        · rw [if_pos c_18] at h
          refine lv_aload_n hx hb dX6_copy_27 rfl (lv_at hl 0 rfl) ?_
          refine ggX6_7 X hV (o := 0) rfl dX6_copy_28 ?_
          refine lv_iload_n hx hb dX6_copy_31 rfl (lv_at hl 1 rfl) ?_
          obtain ⟨c_32, h⟩ := gx_chk_e h
          refine gw_iald X hV (iYA_1 (o := 1) rfl) c_32 dX6_copy_32 ?_
          refine lv_bipush (v := -9) hx hb dX6_copy_33 (by decide) ?_
          refine lv_icmp_eq (tgt := 49) hx hb dX6_copy_35 (by decide) (fun c_35 => ?_) (fun c_35 => ?_)
          · rw [if_pos c_35] at h
            exact tX6_copy_49 X hA _ h hV (lv_sub hl [0] rfl)
          · rw [if_neg c_35] at h
            refine lv_aload_n hx hb dX6_copy_38 rfl (lv_at hl 0 rfl) ?_
            refine ggX6_7 X hV (o := 0) rfl dX6_copy_39 ?_
            refine lv_iload_n hx hb dX6_copy_42 rfl (lv_at hl 3 rfl) ?_
            obtain ⟨c_43, h⟩ := gx_chk_e h
            refine gw_iald X hV (iYA_1 (o := 1) rfl) c_43 dX6_copy_43 ?_
            refine lv_bipush (v := -9) hx hb dX6_copy_44 (by decide) ?_
            refine lv_icmp_ne (tgt := 55) hx hb dX6_copy_46 (by decide) (fun c_46 => ?_) (fun c_46 => ?_)
            · rw [if_neg c_46] at h
              refine lv_aload_n hx hb dX6_copy_55 rfl (lv_at hl 0 rfl) ?_
              refine ggX6_7 X hV (o := 0) rfl dX6_copy_56 ?_
              refine lv_iload_n hx hb dX6_copy_59 rfl (lv_at hl 1 rfl) ?_
              obtain ⟨c_60, h⟩ := gx_chk_e h
              refine gw_iald X hV (iYA_1 (o := 1) rfl) c_60 dX6_copy_60 ?_
              refine lv_aload_n hx hb dX6_copy_61 rfl (lv_at hl 0 rfl) ?_
              refine ggX6_7 X hV (o := 0) rfl dX6_copy_62 ?_
              refine lv_iload_n hx hb dX6_copy_65 rfl (lv_at hl 3 rfl) ?_
              obtain ⟨c_66, h⟩ := gx_chk_e h
              refine gw_iald X hV (iYA_1 (o := 1) rfl) c_66 dX6_copy_66 ?_
              refine lv_icmp_eq (tgt := 76) hx hb dX6_copy_67 (by decide) (fun c_67 => ?_) (fun c_67 => ?_)
              · rw [if_pos c_67] at h
                refine lv_iload_n hx hb dX6_copy_76 rfl (lv_at hl 2 rfl) ?_
                refine lv_if_lt (tgt := 120) hx hb dX6_copy_77 (by decide) (fun c_77 => ?_) (fun c_77 => ?_)
                · rw [if_pos c_77] at h
                  exact tX6_copy_120 X hA _ h hV (lv_sub hl [0] rfl)
                · rw [if_neg c_77] at h
                  refine lv_iload hx hb dX6_copy_80 (lv_at hl 4 rfl) ?_
                  refine lv_if_lt (tgt := 120) hx hb dX6_copy_82 (by decide) (fun c_82 => ?_) (fun c_82 => ?_)
                  · rw [if_pos c_82] at h
                    exact tX6_copy_120 X hA _ h hV (lv_sub hl [0] rfl)
                  · rw [if_neg c_82] at h
                    refine lv_iload_n hx hb dX6_copy_85 rfl (lv_at hl 2 rfl) ?_
                    refine lv_i2l hx hb dX6_copy_86 rfl ?_
                    refine lv_iload hx hb dX6_copy_87 (lv_at hl 5 rfl) ?_
                    refine lv_i2l hx hb dX6_copy_89 rfl ?_
                    refine lv_ladd hx hb dX6_copy_90 ?_
                    refine lv_aload_n hx hb dX6_copy_91 rfl (lv_at hl 0 rfl) ?_
                    refine ggX6_13 X hV (o := 0) rfl dX6_copy_92 ?_
                    refine lv_iload_n hx hb dX6_copy_95 rfl (lv_at hl 1 rfl) ?_
                    obtain ⟨c_96, h⟩ := gx_chk_e h
                    refine gw_iald X hV (iYA_1 (o := 2) rfl) c_96 dX6_copy_96 ?_
                    refine lv_i2l hx hb dX6_copy_97 rfl ?_
                    refine gw_cmp_gt (tgt := 120) X dX6_copy_98 dX6_copy_99 (by decide) (fun c_98 => ?_) (fun c_98 => ?_)
                    · rw [if_pos c_98] at h
                      exact tX6_copy_120 X hA _ h hV (lv_sub hl [0] rfl)
                    · rw [if_neg c_98] at h
                      refine lv_iload hx hb dX6_copy_102 (lv_at hl 4 rfl) ?_
                      refine lv_i2l hx hb dX6_copy_104 rfl ?_
                      refine lv_iload hx hb dX6_copy_105 (lv_at hl 5 rfl) ?_
                      refine lv_i2l hx hb dX6_copy_107 rfl ?_
                      refine lv_ladd hx hb dX6_copy_108 ?_
                      refine lv_aload_n hx hb dX6_copy_109 rfl (lv_at hl 0 rfl) ?_
                      refine ggX6_13 X hV (o := 0) rfl dX6_copy_110 ?_
                      refine lv_iload_n hx hb dX6_copy_113 rfl (lv_at hl 3 rfl) ?_
                      obtain ⟨c_114, h⟩ := gx_chk_e h
                      refine gw_iald X hV (iYA_1 (o := 2) rfl) c_114 dX6_copy_114 ?_
                      refine lv_i2l hx hb dX6_copy_115 rfl ?_
                      refine gw_cmp_le (tgt := 126) X dX6_copy_116 dX6_copy_117 (by decide) (fun c_116 => ?_) (fun c_116 => ?_)
                      · rw [if_pos c_116] at h
                        refine lv_iconst (v := 0) hx hb dX6_copy_126 (by decide) ?_
                        refine lv_istore (lv' := [(6, .int (0 : Int32)), (0, .ref (ad 0)), (1, .int v1), (2, .int v2), (3, .int v3), (4, .int v4), (5, .int v5)]) hx hb dX6_copy_127 hl (by decide) rfl (fun ls hl => ?_)
                        exact tX6_copy_129 X hA gx_fuel _ _ _ _ _ _ _ h _ _ _ hV (lv_sub hl [1, 2, 3, 4, 5, 6, 0] rfl)
                      · rw [if_neg c_116] at h
                        exact tX6_copy_120 X hA _ h hV (lv_sub hl [0] rfl)
              · rw [if_neg c_67] at h
                refine lv_aload_n hx hb dX6_copy_70 rfl (lv_at hl 0 rfl) ?_
                refine lv_iconst (v := 3) hx hb dX6_copy_71 (by decide) ?_
                obtain ⟨r72, S72, k_72, h⟩ := gx_bind_e h
                refine gw_callI X hA hV (gw_runV X hV (o := 0) (As := [.int (3 : Int32)]) (rest := []) (mX6_failed l G ad _ S8 k_72) kc_RX6_87 (iYO_0 rfl) rfl rfl rfl hl.1 rfl (Nat.le_of_ble_eq_true rfl) ⟨rfl, rfl⟩ ⟨Nat.le_of_ble_eq_true rfl, Nat.le_of_ble_eq_true rfl⟩ ⟨Nat.le_refl _, Nat.le_refl _⟩ dX6_copy_72) (fun H locs hV => ?_)
                exact gw_ireti X hV h dX6_copy_75
            · rw [if_pos c_46] at h
              exact tX6_copy_49 X hA _ h hV (lv_sub hl [0] rfl)
        · rw [if_neg c_18] at h
          refine lv_aload_n hx hb dX6_copy_21 rfl (lv_at hl 0 rfl) ?_
          refine lv_iconst (v := 4) hx hb dX6_copy_22 (by decide) ?_
          obtain ⟨r23, S23, k_23, h⟩ := gx_bind_e h
          refine gw_callI X hA hV (gw_runV X hV (o := 0) (As := [.int (4 : Int32)]) (rest := []) (mX6_failed l G ad _ S8 k_23) kc_RX6_87 (iYO_0 rfl) rfl rfl rfl hl.1 rfl (Nat.le_of_ble_eq_true rfl) ⟨rfl, rfl⟩ ⟨Nat.le_of_ble_eq_true rfl, Nat.le_of_ble_eq_true rfl⟩ ⟨Nat.le_refl _, Nat.le_refl _⟩ dX6_copy_23) (fun H locs hV => ?_)
          exact gw_ireti X hV h dX6_copy_26
      · rw [if_pos c_11] at h
        refine lv_iconst (v := -1) hx hb dX6_copy_14 (by decide) ?_
        exact gw_ireti X hV h dX6_copy_15
  exact Y _ _ hV
def fX6_isPlace_36 (S : gS) : Option (Int32 × gS) :=
some ((0 : Int32), S)
def fX6_isPlace (S : gS) (v1 : Int32) (v2 : Int32) : Option (Int32 × gS) :=
gx_bind (fX6_in S (Int32.toInt64 v1) (0 : Int64) (Int32.toInt64 ((gI S 0 5) - (1 : Int32)))) fun r10 S10 =>
if r10 = 0 then (fX6_isPlace_36 S10) else
gx_bind (fX6_in S10 (Int32.toInt64 v2) (0 : Int64) (Int32.toInt64 ((gI S10 0 6) - (1 : Int32)))) fun r26 S26 =>
if r26 = 0 then (fX6_isPlace_36 S26) else
some ((1 : Int32), S26)
def rmX6_isPlace : Room := { frames := 1, cells := 0, slots := 0, locals := 25 }
set_option maxHeartbeats 4000000 in
set_option maxRecDepth 20000 in
theorem tX6_isPlace_36 {p : Program} {l : Launch} {e : Env} {s : State} {m : MethodId} {args : Array Value} {below : List Frame} {meth : Method} {c : Code} {G : gG} {ad : Nat → Nat} {A : Nat → Prop} {z : Int32 × gS} (X : gCx p s m args meth c G cX6_isPlace RX6 (some .boolean) 3) (hA : ∀ q, s.heap.size ≤ q → A q) (S : gS) (h : fX6_isPlace_36 S = some z) {H : Heap} {locs : List Loc} {ls : Array Slot} (hV : gV wdY G ad A s.heap S H locs) (hl : lv_has ls 3 []) : W p l e rmX6_isPlace s m args below meth c H locs 0 0 (MQ below (gQi wdY G ad A z) args s 0 0 A) (F0 m 36 ls []) := by
  obtain ⟨hx, hb, hr, hml, hown, hts, hlk, hK⟩ := id X
  unfold fX6_isPlace_36 at h
  refine lv_iconst (v := 0) hx hb dX6_isPlace_36 (by decide) ?_
  exact gw_iretz X hV h g_bool0 dX6_isPlace_37
set_option maxHeartbeats 4000000 in
set_option maxRecDepth 20000 in
theorem mX6_isPlace (l : Launch) (G : gG) (ad : Nat → Nat) (sz : Nat) (S : gS) {v1 : Int32} {v2 : Int32} {r : Int32} {S' : gS} (h : fX6_isPlace S v1 v2 = some (r, S')) : gMetI l yX6_isPlace cX6_isPlace 3 (some .boolean) rmX6_isPlace wdY G ad S sz [.ref (ad 0), .int v1, .int v2] r S' := by
  refine gMet_of (by decide) ?_
  intro p e s m below meth c A hA X hnm hV
  have hl := lv_entry ([.ref (ad 0), .int v1, .int v2]) (n := 3) (Nat.le_of_ble_eq_true rfl)
  rw [lg_entry_eq]
  generalize (lg_sl ([.ref (ad 0), .int v1, .int v2]) ++ List.replicate (3 - (lg_sl ([.ref (ad 0), .int v1, .int v2])).length) Slot.unset).toArray = ls at hl ⊢
  have hl : lv_has ls 3 [(0, .ref (ad 0)), (1, .int v1), (2, .int v2)] := hl
  obtain ⟨hx, hb, hr, hml, hown, hts, hlk, hK⟩ := id X
  unfold fX6_isPlace at h
  generalize ([.ref (ad 0), .int v1, .int v2].toArray : Array Value) = args at X ⊢
  have Y : ∀ (H : Heap) (locs : List Loc), gV wdY G ad A s.heap S H locs → W p l e rmX6_isPlace s m args below meth c H locs 0 0 (MQ below (gQi wdY G ad A (r, S')) args s 0 0 A) (F0 m 0 ls []) := by
    intro H locs hV
    refine lv_iload_n hx hb dX6_isPlace_0 rfl (lv_at hl 1 rfl) ?_
    refine lv_i2l hx hb dX6_isPlace_1 rfl ?_
    refine lv_lconst (v := 0) hx hb dX6_isPlace_2 (by decide) ?_
    refine lv_aload_n hx hb dX6_isPlace_3 rfl (lv_at hl 0 rfl) ?_
    refine ggX6_99 X hV (o := 0) rfl dX6_isPlace_4 ?_
    refine lv_iconst (v := 1) hx hb dX6_isPlace_7 (by decide) ?_
    refine lv_isub hx hb dX6_isPlace_8 ?_
    refine lv_i2l hx hb dX6_isPlace_9 rfl ?_
    obtain ⟨r10, S10, k_10, h⟩ := gx_bind_e h
    refine gw_callI X hA hV (gw_runS X hV (As := [.long (Int32.toInt64 v1), .long (0 : Int64), .long (Int32.toInt64 ((gI S 0 5) - (1 : Int32)))]) (rest := []) (mX6_in l G ad _ S k_10) kc_RX6_77 rfl hl.1 rfl (Nat.le_of_ble_eq_true rfl) ⟨rfl, rfl⟩ ⟨Nat.le_of_ble_eq_true rfl, Nat.le_of_ble_eq_true rfl⟩ ⟨Nat.le_refl _, Nat.le_refl _⟩ dX6_isPlace_10) (fun H locs hV => ?_)
    refine lv_if_eq (tgt := 36) hx hb dX6_isPlace_13 (by decide) (fun c_13 => ?_) (fun c_13 => ?_)
    · rw [if_pos c_13] at h
      exact tX6_isPlace_36 X hA _ h hV (lv_sub hl [] rfl)
    · rw [if_neg c_13] at h
      refine lv_iload_n hx hb dX6_isPlace_16 rfl (lv_at hl 2 rfl) ?_
      refine lv_i2l hx hb dX6_isPlace_17 rfl ?_
      refine lv_lconst (v := 0) hx hb dX6_isPlace_18 (by decide) ?_
      refine lv_aload_n hx hb dX6_isPlace_19 rfl (lv_at hl 0 rfl) ?_
      refine ggX6_102 X hV (o := 0) rfl dX6_isPlace_20 ?_
      refine lv_iconst (v := 1) hx hb dX6_isPlace_23 (by decide) ?_
      refine lv_isub hx hb dX6_isPlace_24 ?_
      refine lv_i2l hx hb dX6_isPlace_25 rfl ?_
      obtain ⟨r26, S26, k_26, h⟩ := gx_bind_e h
      refine gw_callI X hA hV (gw_runS X hV (As := [.long (Int32.toInt64 v2), .long (0 : Int64), .long (Int32.toInt64 ((gI S10 0 6) - (1 : Int32)))]) (rest := []) (mX6_in l G ad _ S10 k_26) kc_RX6_77 rfl hl.1 rfl (Nat.le_of_ble_eq_true rfl) ⟨rfl, rfl⟩ ⟨Nat.le_of_ble_eq_true rfl, Nat.le_of_ble_eq_true rfl⟩ ⟨Nat.le_refl _, Nat.le_refl _⟩ dX6_isPlace_26) (fun H locs hV => ?_)
      refine lv_if_eq (tgt := 36) hx hb dX6_isPlace_29 (by decide) (fun c_29 => ?_) (fun c_29 => ?_)
      · rw [if_pos c_29] at h
        exact tX6_isPlace_36 X hA _ h hV (lv_sub hl [] rfl)
      · rw [if_neg c_29] at h
        refine lv_iconst (v := 1) hx hb dX6_isPlace_32 (by decide) ?_
        refine lv_goto (tgt := 37) hx hb dX6_isPlace_33 (by decide) ?_
        exact gw_iretz X hV h g_bool1 dX6_isPlace_37
  exact Y _ _ hV
def fX6_ground_233 (K100 : gS → Int32 → Int32 → Int32 → Int32 → Option (Int32 × gS)) (K109 : gS → Int32 → Int32 → Int32 → Int32 → Int32 → Option (Int32 × gS)) (S : gS) (v1 : Int32) (v2 : Int32) (v4 : Int32) (v5 : Int32) (t0 : Int32) (t1 : Int32) : Option (Int32 × gS) :=
gx_let (t0 + t1) fun v3_234 =>
gx_let (v5 + (1 : Int32)) fun v5_235 =>
K109 S v1 v2 v3_234 v4 v5_235
def fX6_ground_221 (K100 : gS → Int32 → Int32 → Int32 → Int32 → Option (Int32 × gS)) (K109 : gS → Int32 → Int32 → Int32 → Int32 → Int32 → Option (Int32 × gS)) (S : gS) (v1 : Int32) (v2 : Int32) (v3 : Int32) (v4 : Int32) (v5 : Int32) (v7 : Int32) (t1 : Int32) (t2 : Int32) : Option (Int32 × gS) :=
gx_chk t1 64 <|
gx_let (gA_up S 7 (Int32.toNatClampNeg t1) t2) fun S221 =>
if v7 = 0 then (fX6_ground_233 K100 K109 S221 v1 v2 v4 v5 v3 (1 : Int32)) else
fX6_ground_233 K100 K109 S221 v1 v2 v4 v5 v3 (0 : Int32)
def fX6_ground_189 (K100 : gS → Int32 → Int32 → Int32 → Int32 → Option (Int32 × gS)) (K109 : gS → Int32 → Int32 → Int32 → Int32 → Int32 → Option (Int32 × gS)) (S : gS) (v1 : Int32) (v2 : Int32) (v3 : Int32) (v4 : Int32) (v5 : Int32) (v6 : Int32) (v7 : Int32) (t1 : Int32) (t2 : Int32) : Option (Int32 × gS) :=
gx_chk t1 64 <|
gx_let (gA_up S 5 (Int32.toNatClampNeg t1) t2) fun S189 =>
gx_chk v6 64 <|
gx_let (gA_up S189 6 (Int32.toNatClampNeg v6) (0 : Int32)) fun S197 =>
if v7 = 0 then (fX6_ground_221 K100 K109 S197 v1 v2 v3 v4 v5 v7 v6 (0 : Int32)) else
gx_chk v6 64 <|
fX6_ground_221 K100 K109 S197 v1 v2 v3 v4 v5 v7 v6 (Int64.toInt32 (gJ S197 3 (Int32.toNatClampNeg v6)))
def fX6_ground_171 (K100 : gS → Int32 → Int32 → Int32 → Int32 → Option (Int32 × gS)) (K109 : gS → Int32 → Int32 → Int32 → Int32 → Int32 → Option (Int32 × gS)) (S : gS) (v1 : Int32) (v2 : Int32) (v3 : Int32) (v4 : Int32) (v5 : Int32) (v6 : Int32) (t0 : Int32) : Option (Int32 × gS) :=
if t0 = 0 then (fX6_ground_189 K100 K109 S v1 v2 v3 v4 v5 v6 t0 v6 (4 : Int32)) else
fX6_ground_189 K100 K109 S v1 v2 v3 v4 v5 v6 t0 v6 (0 : Int32)
def fX6_ground_170 (K100 : gS → Int32 → Int32 → Int32 → Int32 → Option (Int32 × gS)) (K109 : gS → Int32 → Int32 → Int32 → Int32 → Int32 → Option (Int32 × gS)) (S : gS) (v1 : Int32) (v2 : Int32) (v3 : Int32) (v4 : Int32) (v5 : Int32) (v6 : Int32) : Option (Int32 × gS) :=
fX6_ground_171 K100 K109 S v1 v2 v3 v4 v5 v6 (0 : Int32)
def fX6_ground_109L (K100 : gS → Int32 → Int32 → Int32 → Int32 → Option (Int32 × gS)) (K109 : gS → Int32 → Int32 → Int32 → Int32 → Int32 → Option (Int32 × gS)) (S : gS) (v1 : Int32) (v2 : Int32) (v3 : Int32) (v4 : Int32) (v5 : Int32) : Option (Int32 × gS) :=
if v1 ≤ v5 then (gx_let (v4 + (1 : Int32)) fun v4_241 =>
K100 S v1 v2 v3 v4_241) else
gx_let (((8 : Int32) * v4) + v5) fun v6_123 =>
gx_chk v4 8 <|
if (gA S 1 (Int32.toNatClampNeg v4)) = (-9 : Int32) then (fX6_ground_170 K100 K109 S v1 v2 v3 v4 v5 v6_123) else
gx_chk v4 8 <|
if (gA S 2 (Int32.toNatClampNeg v4)) ≤ v5 then (fX6_ground_170 K100 K109 S v1 v2 v3 v4 v5 v6_123) else
gx_chk v6_123 64 <|
gx_bind (fX6_in S (gJ S 3 (Int32.toNatClampNeg v6_123)) (0 : Int64) (9999 : Int64)) fun r160 S160 =>
if r160 = 0 then (fX6_ground_170 K100 K109 S160 v1 v2 v3 v4 v5 v6_123) else
fX6_ground_171 K100 K109 S160 v1 v2 v3 v4 v5 v6_123 (1 : Int32)
def fX6_ground_109 (K100 : gS → Int32 → Int32 → Int32 → Int32 → Option (Int32 × gS)) : Nat → gS → Int32 → Int32 → Int32 → Int32 → Int32 → Option (Int32 × gS)
  | 0, _, _, _, _, _, _ => none
  | f + 1, S, v1, v2, v3, v4, v5 => fX6_ground_109L K100 (fX6_ground_109 K100 f) S v1 v2 v3 v4 v5
def fX6_ground_100L (K100 : gS → Int32 → Int32 → Int32 → Int32 → Option (Int32 × gS)) (S : gS) (v1 : Int32) (v2 : Int32) (v3 : Int32) (v4 : Int32) : Option (Int32 × gS) :=
if v2 ≤ v4 then (some (v3, S)) else
fX6_ground_109 K100 gx_fuel S v1 v2 v3 v4 (0 : Int32)
def fX6_ground_100 : Nat → gS → Int32 → Int32 → Int32 → Int32 → Option (Int32 × gS)
  | 0, _, _, _, _, _ => none
  | f + 1, S, v1, v2, v3, v4 => fX6_ground_100L (fX6_ground_100 f) S v1 v2 v3 v4
def fX6_ground_75L (K75 : gS → Int32 → Int32 → Int32 → Option (Int32 × gS)) (S : gS) (v1 : Int32) (v2 : Int32) (v3 : Int32) : Option (Int32 × gS) :=
if (305 : Int32) ≤ v3 then (fX6_ground_100 gx_fuel S v1 v2 (0 : Int32) (0 : Int32)) else
gx_chk v3 305 <|
gx_let (gJ_up S 9 (Int32.toNatClampNeg v3) (0 : Int64)) fun S88 =>
gx_let (v3 + (1 : Int32)) fun v3_89 =>
K75 S88 v1 v2 v3_89
def fX6_ground_75 : Nat → gS → Int32 → Int32 → Int32 → Option (Int32 × gS)
  | 0, _, _, _, _ => none
  | f + 1, S, v1, v2, v3 => fX6_ground_75L (fX6_ground_75 f) S v1 v2 v3
def fX6_ground_53L (K53 : gS → Int32 → Int32 → Int32 → Option (Int32 × gS)) (S : gS) (v1 : Int32) (v2 : Int32) (v3 : Int32) : Option (Int32 × gS) :=
if (3904 : Int32) ≤ v3 then (fX6_ground_75 gx_fuel S v1 v2 (0 : Int32)) else
gx_chk v3 3904 <|
gx_let (gJ_up S 8 (Int32.toNatClampNeg v3) (0 : Int64)) fun S66 =>
gx_let (v3 + (1 : Int32)) fun v3_67 =>
K53 S66 v1 v2 v3_67
def fX6_ground_53 : Nat → gS → Int32 → Int32 → Int32 → Option (Int32 × gS)
  | 0, _, _, _, _ => none
  | f + 1, S, v1, v2, v3 => fX6_ground_53L (fX6_ground_53 f) S v1 v2 v3
def fX6_ground (S : gS) (v1 : Int32) (v2 : Int32) : Option (Int32 × gS) :=
gx_bind (fX6_in S (Int32.toInt64 v1) (2 : Int64) (8 : Int64)) fun r8 S8 =>
if r8 = 0 then (some ((-2 : Int32), S8)) else
gx_bind (fX6_in S8 (Int32.toInt64 v2) (2 : Int64) (8 : Int64)) fun r22 S22 =>
if r22 = 0 then (some ((-2 : Int32), S22)) else
gx_let (gI_up S22 0 5 v1) fun S33 =>
gx_let (gI_up S33 0 6 v2) fun S38 =>
gx_let (gI_up S38 0 7 (0 : Int32)) fun S43 =>
gx_let (gI_up S43 0 17 (0 : Int32)) fun S48 =>
fX6_ground_53 gx_fuel S48 v1 v2 (0 : Int32)
def rmX6_ground : Room := { frames := 1, cells := 0, slots := 0, locals := 25 }
set_option maxHeartbeats 4000000 in
set_option maxRecDepth 20000 in
theorem tX6_ground_233 {p : Program} {l : Launch} {e : Env} {s : State} {m : MethodId} {args : Array Value} {below : List Frame} {meth : Method} {c : Code} {G : gG} {ad : Nat → Nat} {A : Nat → Prop} {z : Int32 × gS} {K100 : gS → Int32 → Int32 → Int32 → Int32 → Option (Int32 × gS)} {K109 : gS → Int32 → Int32 → Int32 → Int32 → Int32 → Option (Int32 × gS)} (X : gCx p s m args meth c G cX6_ground RX6 (some .int) 8) (hA : ∀ q, s.heap.size ≤ q → A q) (kK100 : ∀ (S : gS) (v1 : Int32) (v2 : Int32) (v3 : Int32) (v4 : Int32), K100 S v1 v2 v3 v4 = some z → ∀ (H : Heap) (locs : List Loc) (ls : Array Slot), gV wdY G ad A s.heap S H locs → lv_has ls 8 [(0, .ref (ad 0)), (1, .int v1), (2, .int v2), (3, .int v3), (4, .int v4)] → W p l e rmX6_ground s m args below meth c H locs 0 0 (MQ below (gQi wdY G ad A z) args s 0 0 A) (F0 m 100 ls [])) (kK109 : ∀ (S : gS) (v1 : Int32) (v2 : Int32) (v3 : Int32) (v4 : Int32) (v5 : Int32), K109 S v1 v2 v3 v4 v5 = some z → ∀ (H : Heap) (locs : List Loc) (ls : Array Slot), gV wdY G ad A s.heap S H locs → lv_has ls 8 [(0, .ref (ad 0)), (1, .int v1), (2, .int v2), (3, .int v3), (4, .int v4), (5, .int v5)] → W p l e rmX6_ground s m args below meth c H locs 0 0 (MQ below (gQi wdY G ad A z) args s 0 0 A) (F0 m 109 ls [])) (S : gS) (v1 : Int32) (v2 : Int32) (v4 : Int32) (v5 : Int32) (t0 : Int32) (t1 : Int32) (h : fX6_ground_233 K100 K109 S v1 v2 v4 v5 t0 t1 = some z) {H : Heap} {locs : List Loc} {ls : Array Slot} (hV : gV wdY G ad A s.heap S H locs) (hl : lv_has ls 8 [(0, .ref (ad 0)), (1, .int v1), (2, .int v2), (4, .int v4), (5, .int v5)]) : W p l e rmX6_ground s m args below meth c H locs 0 0 (MQ below (gQi wdY G ad A z) args s 0 0 A) (F0 m 233 ls [.int t1, .int t0]) := by
  obtain ⟨hx, hb, hr, hml, hown, hts, hlk, hK⟩ := id X
  unfold fX6_ground_233 at h
  refine lv_iadd hx hb dX6_ground_233 ?_
  refine lv_topi (fun v3_234 e_234 => ?_)
  replace h := gx_let_e e_234 h
  clear e_234
  refine lv_istore_n (lv' := [(3, .int v3_234), (0, .ref (ad 0)), (1, .int v1), (2, .int v2), (4, .int v4), (5, .int v5)]) hx hb dX6_ground_234 rfl hl (by decide) rfl (fun ls hl => ?_)
  obtain ⟨v5_235, e_235⟩ : ∃ y : Int32, y = (v5 + (1 : Int32)) := ⟨_, rfl⟩
  refine lv_iinc (v := v5_235) (lv' := [(5, .int v5_235), (3, .int v3_234), (0, .ref (ad 0)), (1, .int v1), (2, .int v2), (4, .int v4)]) hx hb dX6_ground_235 hl (k := 5) rfl (by rw [e_235]; rfl) (by decide) rfl (fun ls hl => ?_)
  replace h := gx_let_e e_235 h
  clear e_235
  refine lv_goto (tgt := 109) hx hb dX6_ground_238 (by decide) ?_
  exact kK109 _ _ _ _ _ _ h _ _ _ hV (lv_sub hl [2, 3, 4, 1, 5, 0] rfl)
set_option maxHeartbeats 4000000 in
set_option maxRecDepth 20000 in
theorem tX6_ground_221 {p : Program} {l : Launch} {e : Env} {s : State} {m : MethodId} {args : Array Value} {below : List Frame} {meth : Method} {c : Code} {G : gG} {ad : Nat → Nat} {A : Nat → Prop} {z : Int32 × gS} {K100 : gS → Int32 → Int32 → Int32 → Int32 → Option (Int32 × gS)} {K109 : gS → Int32 → Int32 → Int32 → Int32 → Int32 → Option (Int32 × gS)} (X : gCx p s m args meth c G cX6_ground RX6 (some .int) 8) (hA : ∀ q, s.heap.size ≤ q → A q) (kK100 : ∀ (S : gS) (v1 : Int32) (v2 : Int32) (v3 : Int32) (v4 : Int32), K100 S v1 v2 v3 v4 = some z → ∀ (H : Heap) (locs : List Loc) (ls : Array Slot), gV wdY G ad A s.heap S H locs → lv_has ls 8 [(0, .ref (ad 0)), (1, .int v1), (2, .int v2), (3, .int v3), (4, .int v4)] → W p l e rmX6_ground s m args below meth c H locs 0 0 (MQ below (gQi wdY G ad A z) args s 0 0 A) (F0 m 100 ls [])) (kK109 : ∀ (S : gS) (v1 : Int32) (v2 : Int32) (v3 : Int32) (v4 : Int32) (v5 : Int32), K109 S v1 v2 v3 v4 v5 = some z → ∀ (H : Heap) (locs : List Loc) (ls : Array Slot), gV wdY G ad A s.heap S H locs → lv_has ls 8 [(0, .ref (ad 0)), (1, .int v1), (2, .int v2), (3, .int v3), (4, .int v4), (5, .int v5)] → W p l e rmX6_ground s m args below meth c H locs 0 0 (MQ below (gQi wdY G ad A z) args s 0 0 A) (F0 m 109 ls [])) (S : gS) (v1 : Int32) (v2 : Int32) (v3 : Int32) (v4 : Int32) (v5 : Int32) (v7 : Int32) (t1 : Int32) (t2 : Int32) (h : fX6_ground_221 K100 K109 S v1 v2 v3 v4 v5 v7 t1 t2 = some z) {H : Heap} {locs : List Loc} {ls : Array Slot} (hV : gV wdY G ad A s.heap S H locs) (hl : lv_has ls 8 [(0, .ref (ad 0)), (1, .int v1), (2, .int v2), (3, .int v3), (4, .int v4), (5, .int v5), (7, .int v7)]) : W p l e rmX6_ground s m args below meth c H locs 0 0 (MQ below (gQi wdY G ad A z) args s 0 0 A) (F0 m 221 ls [.int t2, .int t1, .ref (ad 7)]) := by
  obtain ⟨hx, hb, hr, hml, hown, hts, hlk, hK⟩ := id X
  unfold fX6_ground_221 at h
  obtain ⟨c_221, h⟩ := gx_chk_e h
  refine gw_iast X hV (iYA_4 (o := 7) rfl) c_221 dX6_ground_221 (fun S221 e_221 H locs hV => ?_)
  replace h := gx_let_e e_221 h
  clear e_221
  refine lv_iload_n hx hb dX6_ground_222 rfl (lv_at hl 3 rfl) ?_
  refine lv_iload hx hb dX6_ground_223 (lv_at hl 6 rfl) ?_
  refine lv_if_eq (tgt := 232) hx hb dX6_ground_225 (by decide) (fun c_225 => ?_) (fun c_225 => ?_)
  · rw [if_pos c_225] at h
    refine lv_iconst (v := 1) hx hb dX6_ground_232 (by decide) ?_
    exact tX6_ground_233 X hA kK100 kK109 _ _ _ _ _ _ _ h hV (lv_sub hl [0, 1, 2, 4, 5] rfl)
  · rw [if_neg c_225] at h
    refine lv_iconst (v := 0) hx hb dX6_ground_228 (by decide) ?_
    refine lv_goto (tgt := 233) hx hb dX6_ground_229 (by decide) ?_
    exact tX6_ground_233 X hA kK100 kK109 _ _ _ _ _ _ _ h hV (lv_sub hl [0, 1, 2, 4, 5] rfl)
set_option maxHeartbeats 4000000 in
set_option maxRecDepth 20000 in
theorem tX6_ground_189 {p : Program} {l : Launch} {e : Env} {s : State} {m : MethodId} {args : Array Value} {below : List Frame} {meth : Method} {c : Code} {G : gG} {ad : Nat → Nat} {A : Nat → Prop} {z : Int32 × gS} {K100 : gS → Int32 → Int32 → Int32 → Int32 → Option (Int32 × gS)} {K109 : gS → Int32 → Int32 → Int32 → Int32 → Int32 → Option (Int32 × gS)} (X : gCx p s m args meth c G cX6_ground RX6 (some .int) 8) (hA : ∀ q, s.heap.size ≤ q → A q) (kK100 : ∀ (S : gS) (v1 : Int32) (v2 : Int32) (v3 : Int32) (v4 : Int32), K100 S v1 v2 v3 v4 = some z → ∀ (H : Heap) (locs : List Loc) (ls : Array Slot), gV wdY G ad A s.heap S H locs → lv_has ls 8 [(0, .ref (ad 0)), (1, .int v1), (2, .int v2), (3, .int v3), (4, .int v4)] → W p l e rmX6_ground s m args below meth c H locs 0 0 (MQ below (gQi wdY G ad A z) args s 0 0 A) (F0 m 100 ls [])) (kK109 : ∀ (S : gS) (v1 : Int32) (v2 : Int32) (v3 : Int32) (v4 : Int32) (v5 : Int32), K109 S v1 v2 v3 v4 v5 = some z → ∀ (H : Heap) (locs : List Loc) (ls : Array Slot), gV wdY G ad A s.heap S H locs → lv_has ls 8 [(0, .ref (ad 0)), (1, .int v1), (2, .int v2), (3, .int v3), (4, .int v4), (5, .int v5)] → W p l e rmX6_ground s m args below meth c H locs 0 0 (MQ below (gQi wdY G ad A z) args s 0 0 A) (F0 m 109 ls [])) (S : gS) (v1 : Int32) (v2 : Int32) (v3 : Int32) (v4 : Int32) (v5 : Int32) (v6 : Int32) (v7 : Int32) (t1 : Int32) (t2 : Int32) (h : fX6_ground_189 K100 K109 S v1 v2 v3 v4 v5 v6 v7 t1 t2 = some z) {H : Heap} {locs : List Loc} {ls : Array Slot} (hV : gV wdY G ad A s.heap S H locs) (hl : lv_has ls 8 [(0, .ref (ad 0)), (1, .int v1), (2, .int v2), (3, .int v3), (4, .int v4), (5, .int v5), (6, .int v6), (7, .int v7)]) : W p l e rmX6_ground s m args below meth c H locs 0 0 (MQ below (gQi wdY G ad A z) args s 0 0 A) (F0 m 189 ls [.int t2, .int t1, .ref (ad 5)]) := by
  obtain ⟨hx, hb, hr, hml, hown, hts, hlk, hK⟩ := id X
  unfold fX6_ground_189 at h
  obtain ⟨c_189, h⟩ := gx_chk_e h
  refine gw_iast X hV (iYA_4 (o := 5) rfl) c_189 dX6_ground_189 (fun S189 e_189 H locs hV => ?_)
  replace h := gx_let_e e_189 h
  clear e_189
  refine lv_aload_n hx hb dX6_ground_190 rfl (lv_at hl 0 rfl) ?_
  refine ggX6_26 X hV (o := 0) rfl dX6_ground_191 ?_
  refine lv_iload hx hb dX6_ground_194 (lv_at hl 6 rfl) ?_
  refine lv_iconst (v := 0) hx hb dX6_ground_196 (by decide) ?_
  obtain ⟨c_197, h⟩ := gx_chk_e h
  refine gw_iast X hV (iYA_4 (o := 6) rfl) c_197 dX6_ground_197 (fun S197 e_197 H locs hV => ?_)
  replace h := gx_let_e e_197 h
  clear e_197
  refine lv_aload_n hx hb dX6_ground_198 rfl (lv_at hl 0 rfl) ?_
  refine ggX6_29 X hV (o := 0) rfl dX6_ground_199 ?_
  refine lv_iload hx hb dX6_ground_202 (lv_at hl 6 rfl) ?_
  refine lv_iload hx hb dX6_ground_204 (lv_at hl 7 rfl) ?_
  refine lv_if_eq (tgt := 220) hx hb dX6_ground_206 (by decide) (fun c_206 => ?_) (fun c_206 => ?_)
  · rw [if_pos c_206] at h
    refine lv_iconst (v := 0) hx hb dX6_ground_220 (by decide) ?_
    exact tX6_ground_221 X hA kK100 kK109 _ _ _ _ _ _ _ _ _ h hV (lv_sub hl [0, 1, 2, 3, 4, 5, 7] rfl)
  · rw [if_neg c_206] at h
    refine lv_aload_n hx hb dX6_ground_209 rfl (lv_at hl 0 rfl) ?_
    refine ggX6_16 X hV (o := 0) rfl dX6_ground_210 ?_
    refine lv_iload hx hb dX6_ground_213 (lv_at hl 6 rfl) ?_
    obtain ⟨c_215, h⟩ := gx_chk_e h
    refine gw_lald X hV (iYJ_2 (o := 3) rfl) c_215 dX6_ground_215 ?_
    refine lv_l2i hx hb dX6_ground_216 rfl ?_
    refine lv_goto (tgt := 221) hx hb dX6_ground_217 (by decide) ?_
    exact tX6_ground_221 X hA kK100 kK109 _ _ _ _ _ _ _ _ _ h hV (lv_sub hl [0, 1, 2, 3, 4, 5, 7] rfl)
set_option maxHeartbeats 4000000 in
set_option maxRecDepth 20000 in
theorem tX6_ground_171 {p : Program} {l : Launch} {e : Env} {s : State} {m : MethodId} {args : Array Value} {below : List Frame} {meth : Method} {c : Code} {G : gG} {ad : Nat → Nat} {A : Nat → Prop} {z : Int32 × gS} {K100 : gS → Int32 → Int32 → Int32 → Int32 → Option (Int32 × gS)} {K109 : gS → Int32 → Int32 → Int32 → Int32 → Int32 → Option (Int32 × gS)} (X : gCx p s m args meth c G cX6_ground RX6 (some .int) 8) (hA : ∀ q, s.heap.size ≤ q → A q) (kK100 : ∀ (S : gS) (v1 : Int32) (v2 : Int32) (v3 : Int32) (v4 : Int32), K100 S v1 v2 v3 v4 = some z → ∀ (H : Heap) (locs : List Loc) (ls : Array Slot), gV wdY G ad A s.heap S H locs → lv_has ls 8 [(0, .ref (ad 0)), (1, .int v1), (2, .int v2), (3, .int v3), (4, .int v4)] → W p l e rmX6_ground s m args below meth c H locs 0 0 (MQ below (gQi wdY G ad A z) args s 0 0 A) (F0 m 100 ls [])) (kK109 : ∀ (S : gS) (v1 : Int32) (v2 : Int32) (v3 : Int32) (v4 : Int32) (v5 : Int32), K109 S v1 v2 v3 v4 v5 = some z → ∀ (H : Heap) (locs : List Loc) (ls : Array Slot), gV wdY G ad A s.heap S H locs → lv_has ls 8 [(0, .ref (ad 0)), (1, .int v1), (2, .int v2), (3, .int v3), (4, .int v4), (5, .int v5)] → W p l e rmX6_ground s m args below meth c H locs 0 0 (MQ below (gQi wdY G ad A z) args s 0 0 A) (F0 m 109 ls [])) (S : gS) (v1 : Int32) (v2 : Int32) (v3 : Int32) (v4 : Int32) (v5 : Int32) (v6 : Int32) (t0 : Int32) (h : fX6_ground_171 K100 K109 S v1 v2 v3 v4 v5 v6 t0 = some z) {H : Heap} {locs : List Loc} {ls : Array Slot} (hV : gV wdY G ad A s.heap S H locs) (hl : lv_has ls 8 [(0, .ref (ad 0)), (1, .int v1), (2, .int v2), (3, .int v3), (4, .int v4), (5, .int v5), (6, .int v6)]) : W p l e rmX6_ground s m args below meth c H locs 0 0 (MQ below (gQi wdY G ad A z) args s 0 0 A) (F0 m 171 ls [.int t0]) := by
  obtain ⟨hx, hb, hr, hml, hown, hts, hlk, hK⟩ := id X
  unfold fX6_ground_171 at h
  refine lv_istore (lv' := [(7, .int t0), (0, .ref (ad 0)), (1, .int v1), (2, .int v2), (3, .int v3), (4, .int v4), (5, .int v5), (6, .int v6)]) hx hb dX6_ground_171 hl (by decide) rfl (fun ls hl => ?_)
  refine lv_aload_n hx hb dX6_ground_173 rfl (lv_at hl 1 rfl) ?_
  refine ggX6_23 X hV (o := 0) rfl dX6_ground_174 ?_
  refine lv_iload hx hb dX6_ground_177 (lv_at hl 7 rfl) ?_
  refine lv_iload hx hb dX6_ground_179 (lv_at hl 0 rfl) ?_
  refine lv_if_eq (tgt := 188) hx hb dX6_ground_181 (by decide) (fun c_181 => ?_) (fun c_181 => ?_)
  · rw [if_pos c_181] at h
    refine lv_iconst (v := 4) hx hb dX6_ground_188 (by decide) ?_
    exact tX6_ground_189 X hA kK100 kK109 _ _ _ _ _ _ _ _ _ _ h hV (lv_sub hl [1, 2, 3, 4, 5, 6, 7, 0] rfl)
  · rw [if_neg c_181] at h
    refine lv_iconst (v := 0) hx hb dX6_ground_184 (by decide) ?_
    refine lv_goto (tgt := 189) hx hb dX6_ground_185 (by decide) ?_
    exact tX6_ground_189 X hA kK100 kK109 _ _ _ _ _ _ _ _ _ _ h hV (lv_sub hl [1, 2, 3, 4, 5, 6, 7, 0] rfl)
set_option maxHeartbeats 4000000 in
set_option maxRecDepth 20000 in
theorem tX6_ground_170 {p : Program} {l : Launch} {e : Env} {s : State} {m : MethodId} {args : Array Value} {below : List Frame} {meth : Method} {c : Code} {G : gG} {ad : Nat → Nat} {A : Nat → Prop} {z : Int32 × gS} {K100 : gS → Int32 → Int32 → Int32 → Int32 → Option (Int32 × gS)} {K109 : gS → Int32 → Int32 → Int32 → Int32 → Int32 → Option (Int32 × gS)} (X : gCx p s m args meth c G cX6_ground RX6 (some .int) 8) (hA : ∀ q, s.heap.size ≤ q → A q) (kK100 : ∀ (S : gS) (v1 : Int32) (v2 : Int32) (v3 : Int32) (v4 : Int32), K100 S v1 v2 v3 v4 = some z → ∀ (H : Heap) (locs : List Loc) (ls : Array Slot), gV wdY G ad A s.heap S H locs → lv_has ls 8 [(0, .ref (ad 0)), (1, .int v1), (2, .int v2), (3, .int v3), (4, .int v4)] → W p l e rmX6_ground s m args below meth c H locs 0 0 (MQ below (gQi wdY G ad A z) args s 0 0 A) (F0 m 100 ls [])) (kK109 : ∀ (S : gS) (v1 : Int32) (v2 : Int32) (v3 : Int32) (v4 : Int32) (v5 : Int32), K109 S v1 v2 v3 v4 v5 = some z → ∀ (H : Heap) (locs : List Loc) (ls : Array Slot), gV wdY G ad A s.heap S H locs → lv_has ls 8 [(0, .ref (ad 0)), (1, .int v1), (2, .int v2), (3, .int v3), (4, .int v4), (5, .int v5)] → W p l e rmX6_ground s m args below meth c H locs 0 0 (MQ below (gQi wdY G ad A z) args s 0 0 A) (F0 m 109 ls [])) (S : gS) (v1 : Int32) (v2 : Int32) (v3 : Int32) (v4 : Int32) (v5 : Int32) (v6 : Int32) (h : fX6_ground_170 K100 K109 S v1 v2 v3 v4 v5 v6 = some z) {H : Heap} {locs : List Loc} {ls : Array Slot} (hV : gV wdY G ad A s.heap S H locs) (hl : lv_has ls 8 [(0, .ref (ad 0)), (1, .int v1), (2, .int v2), (3, .int v3), (4, .int v4), (5, .int v5), (6, .int v6)]) : W p l e rmX6_ground s m args below meth c H locs 0 0 (MQ below (gQi wdY G ad A z) args s 0 0 A) (F0 m 170 ls []) := by
  obtain ⟨hx, hb, hr, hml, hown, hts, hlk, hK⟩ := id X
  unfold fX6_ground_170 at h
  refine lv_iconst (v := 0) hx hb dX6_ground_170 (by decide) ?_
  exact tX6_ground_171 X hA kK100 kK109 _ _ _ _ _ _ _ _ h hV (lv_sub hl [0, 1, 2, 3, 4, 5, 6] rfl)
set_option maxHeartbeats 4000000 in
set_option maxRecDepth 20000 in
theorem tX6_ground_109L {p : Program} {l : Launch} {e : Env} {s : State} {m : MethodId} {args : Array Value} {below : List Frame} {meth : Method} {c : Code} {G : gG} {ad : Nat → Nat} {A : Nat → Prop} {z : Int32 × gS} {K100 : gS → Int32 → Int32 → Int32 → Int32 → Option (Int32 × gS)} {K109 : gS → Int32 → Int32 → Int32 → Int32 → Int32 → Option (Int32 × gS)} (X : gCx p s m args meth c G cX6_ground RX6 (some .int) 8) (hA : ∀ q, s.heap.size ≤ q → A q) (kK100 : ∀ (S : gS) (v1 : Int32) (v2 : Int32) (v3 : Int32) (v4 : Int32), K100 S v1 v2 v3 v4 = some z → ∀ (H : Heap) (locs : List Loc) (ls : Array Slot), gV wdY G ad A s.heap S H locs → lv_has ls 8 [(0, .ref (ad 0)), (1, .int v1), (2, .int v2), (3, .int v3), (4, .int v4)] → W p l e rmX6_ground s m args below meth c H locs 0 0 (MQ below (gQi wdY G ad A z) args s 0 0 A) (F0 m 100 ls [])) (kK109 : ∀ (S : gS) (v1 : Int32) (v2 : Int32) (v3 : Int32) (v4 : Int32) (v5 : Int32), K109 S v1 v2 v3 v4 v5 = some z → ∀ (H : Heap) (locs : List Loc) (ls : Array Slot), gV wdY G ad A s.heap S H locs → lv_has ls 8 [(0, .ref (ad 0)), (1, .int v1), (2, .int v2), (3, .int v3), (4, .int v4), (5, .int v5)] → W p l e rmX6_ground s m args below meth c H locs 0 0 (MQ below (gQi wdY G ad A z) args s 0 0 A) (F0 m 109 ls [])) (S : gS) (v1 : Int32) (v2 : Int32) (v3 : Int32) (v4 : Int32) (v5 : Int32) (h : fX6_ground_109L K100 K109 S v1 v2 v3 v4 v5 = some z) {H : Heap} {locs : List Loc} {ls : Array Slot} (hV : gV wdY G ad A s.heap S H locs) (hl : lv_has ls 8 [(0, .ref (ad 0)), (1, .int v1), (2, .int v2), (3, .int v3), (4, .int v4), (5, .int v5)]) : W p l e rmX6_ground s m args below meth c H locs 0 0 (MQ below (gQi wdY G ad A z) args s 0 0 A) (F0 m 109 ls []) := by
  obtain ⟨hx, hb, hr, hml, hown, hts, hlk, hK⟩ := id X
  unfold fX6_ground_109L at h
  refine lv_iload hx hb dX6_ground_109 (lv_at hl 5 rfl) ?_
  refine lv_iload_n hx hb dX6_ground_111 rfl (lv_at hl 1 rfl) ?_
  refine lv_icmp_ge (tgt := 241) hx hb dX6_ground_112 (by decide) (fun c_112 => ?_) (fun c_112 => ?_)
  · rw [if_pos c_112] at h
    obtain ⟨v4_241, e_241⟩ : ∃ y : Int32, y = (v4 + (1 : Int32)) := ⟨_, rfl⟩
    refine lv_iinc (v := v4_241) (lv' := [(4, .int v4_241), (0, .ref (ad 0)), (1, .int v1), (2, .int v2), (3, .int v3), (5, .int v5)]) hx hb dX6_ground_241 hl (k := 4) rfl (by rw [e_241]; rfl) (by decide) rfl (fun ls hl => ?_)
    replace h := gx_let_e e_241 h
    clear e_241
    refine lv_goto (tgt := 100) hx hb dX6_ground_244 (by decide) ?_
    exact kK100 _ _ _ _ _ h _ _ _ hV (lv_sub hl [1, 2, 3, 4, 0] rfl)
  · rw [if_neg c_112] at h
    refine lv_bipush (v := 8) hx hb dX6_ground_115 (by decide) ?_
    refine lv_iload hx hb dX6_ground_117 (lv_at hl 4 rfl) ?_
    refine lv_imul hx hb dX6_ground_119 ?_
    refine lv_iload hx hb dX6_ground_120 (lv_at hl 5 rfl) ?_
    refine lv_iadd hx hb dX6_ground_122 ?_
    refine lv_topi (fun v6_123 e_123 => ?_)
    replace h := gx_let_e e_123 h
    clear e_123
    refine lv_istore (lv' := [(6, .int v6_123), (0, .ref (ad 0)), (1, .int v1), (2, .int v2), (3, .int v3), (4, .int v4), (5, .int v5)]) hx hb dX6_ground_123 hl (by decide) rfl (fun ls hl => ?_)
    refine lv_aload_n hx hb dX6_ground_125 rfl (lv_at hl 1 rfl) ?_
    refine ggX6_7 X hV (o := 0) rfl dX6_ground_126 ?_
    refine lv_iload hx hb dX6_ground_129 (lv_at hl 5 rfl) ?_
    obtain ⟨c_131, h⟩ := gx_chk_e h
    refine gw_iald X hV (iYA_1 (o := 1) rfl) c_131 dX6_ground_131 ?_
    refine lv_bipush (v := -9) hx hb dX6_ground_132 (by decide) ?_
    refine lv_icmp_eq (tgt := 170) hx hb dX6_ground_134 (by decide) (fun c_134 => ?_) (fun c_134 => ?_)
    · rw [if_pos c_134] at h
      exact tX6_ground_170 X hA kK100 kK109 _ _ _ _ _ _ _ h hV (lv_sub hl [1, 2, 3, 4, 5, 6, 0] rfl)
    · rw [if_neg c_134] at h
      refine lv_iload hx hb dX6_ground_137 (lv_at hl 6 rfl) ?_
      refine lv_aload_n hx hb dX6_ground_139 rfl (lv_at hl 1 rfl) ?_
      refine ggX6_13 X hV (o := 0) rfl dX6_ground_140 ?_
      refine lv_iload hx hb dX6_ground_143 (lv_at hl 5 rfl) ?_
      obtain ⟨c_145, h⟩ := gx_chk_e h
      refine gw_iald X hV (iYA_1 (o := 2) rfl) c_145 dX6_ground_145 ?_
      refine lv_icmp_ge (tgt := 170) hx hb dX6_ground_146 (by decide) (fun c_146 => ?_) (fun c_146 => ?_)
      · rw [if_pos c_146] at h
        exact tX6_ground_170 X hA kK100 kK109 _ _ _ _ _ _ _ h hV (lv_sub hl [1, 2, 3, 4, 5, 6, 0] rfl)
      · rw [if_neg c_146] at h
        refine lv_aload_n hx hb dX6_ground_149 rfl (lv_at hl 1 rfl) ?_
        refine ggX6_16 X hV (o := 0) rfl dX6_ground_150 ?_
        refine lv_iload hx hb dX6_ground_153 (lv_at hl 0 rfl) ?_
        obtain ⟨c_155, h⟩ := gx_chk_e h
        refine gw_lald X hV (iYJ_2 (o := 3) rfl) c_155 dX6_ground_155 ?_
        refine lv_lconst (v := 0) hx hb dX6_ground_156 (by decide) ?_
        refine lv_ldc2 (v := 9999) hx hb hown (hts _ q_662) dX6_ground_157 ?_
        obtain ⟨r160, S160, k_160, h⟩ := gx_bind_e h
        refine gw_callI X hA hV (gw_runS X hV (As := [.long (gJ S 3 (Int32.toNatClampNeg v6_123)), .long (0 : Int64), .long (9999 : Int64)]) (rest := []) (mX6_in l G ad _ S k_160) kc_RX6_77 rfl hl.1 rfl (Nat.le_of_ble_eq_true rfl) ⟨rfl, rfl⟩ ⟨Nat.le_of_ble_eq_true rfl, Nat.le_of_ble_eq_true rfl⟩ ⟨Nat.le_refl _, Nat.le_refl _⟩ dX6_ground_160) (fun H locs hV => ?_)
        refine lv_if_eq (tgt := 170) hx hb dX6_ground_163 (by decide) (fun c_163 => ?_) (fun c_163 => ?_)
        · rw [if_pos c_163] at h
          exact tX6_ground_170 X hA kK100 kK109 _ _ _ _ _ _ _ h hV (lv_sub hl [1, 2, 3, 4, 5, 6, 0] rfl)
        · rw [if_neg c_163] at h
          refine lv_iconst (v := 1) hx hb dX6_ground_166 (by decide) ?_
          refine lv_goto (tgt := 171) hx hb dX6_ground_167 (by decide) ?_
          exact tX6_ground_171 X hA kK100 kK109 _ _ _ _ _ _ _ _ h hV (lv_sub hl [1, 2, 3, 4, 5, 6, 0] rfl)
set_option maxHeartbeats 4000000 in
set_option maxRecDepth 20000 in
theorem tX6_ground_109 {p : Program} {l : Launch} {e : Env} {s : State} {m : MethodId} {args : Array Value} {below : List Frame} {meth : Method} {c : Code} {G : gG} {ad : Nat → Nat} {A : Nat → Prop} {z : Int32 × gS} {K100 : gS → Int32 → Int32 → Int32 → Int32 → Option (Int32 × gS)} (X : gCx p s m args meth c G cX6_ground RX6 (some .int) 8) (hA : ∀ q, s.heap.size ≤ q → A q) (kK100 : ∀ (S : gS) (v1 : Int32) (v2 : Int32) (v3 : Int32) (v4 : Int32), K100 S v1 v2 v3 v4 = some z → ∀ (H : Heap) (locs : List Loc) (ls : Array Slot), gV wdY G ad A s.heap S H locs → lv_has ls 8 [(0, .ref (ad 0)), (1, .int v1), (2, .int v2), (3, .int v3), (4, .int v4)] → W p l e rmX6_ground s m args below meth c H locs 0 0 (MQ below (gQi wdY G ad A z) args s 0 0 A) (F0 m 100 ls [])) : ∀ (f : Nat) (S : gS) (v1 : Int32) (v2 : Int32) (v3 : Int32) (v4 : Int32) (v5 : Int32) (h : fX6_ground_109 K100 f S v1 v2 v3 v4 v5 = some z) (H : Heap) (locs : List Loc) (ls : Array Slot) (hV : gV wdY G ad A s.heap S H locs) (hl : lv_has ls 8 [(0, .ref (ad 0)), (1, .int v1), (2, .int v2), (3, .int v3), (4, .int v4), (5, .int v5)]), W p l e rmX6_ground s m args below meth c H locs 0 0 (MQ below (gQi wdY G ad A z) args s 0 0 A) (F0 m 109 ls []) := by
  intro f
  induction f with
  | zero => intro S v1 v2 v3 v4 v5 h; exact absurd h (by simp [fX6_ground_109])
  | succ f ih => intro S v1 v2 v3 v4 v5 h H locs ls hV hl; exact tX6_ground_109L X hA kK100 ih S v1 v2 v3 v4 v5 h hV hl
set_option maxHeartbeats 4000000 in
set_option maxRecDepth 20000 in
theorem tX6_ground_100L {p : Program} {l : Launch} {e : Env} {s : State} {m : MethodId} {args : Array Value} {below : List Frame} {meth : Method} {c : Code} {G : gG} {ad : Nat → Nat} {A : Nat → Prop} {z : Int32 × gS} {K100 : gS → Int32 → Int32 → Int32 → Int32 → Option (Int32 × gS)} (X : gCx p s m args meth c G cX6_ground RX6 (some .int) 8) (hA : ∀ q, s.heap.size ≤ q → A q) (kK100 : ∀ (S : gS) (v1 : Int32) (v2 : Int32) (v3 : Int32) (v4 : Int32), K100 S v1 v2 v3 v4 = some z → ∀ (H : Heap) (locs : List Loc) (ls : Array Slot), gV wdY G ad A s.heap S H locs → lv_has ls 8 [(0, .ref (ad 0)), (1, .int v1), (2, .int v2), (3, .int v3), (4, .int v4)] → W p l e rmX6_ground s m args below meth c H locs 0 0 (MQ below (gQi wdY G ad A z) args s 0 0 A) (F0 m 100 ls [])) (S : gS) (v1 : Int32) (v2 : Int32) (v3 : Int32) (v4 : Int32) (h : fX6_ground_100L K100 S v1 v2 v3 v4 = some z) {H : Heap} {locs : List Loc} {ls : Array Slot} (hV : gV wdY G ad A s.heap S H locs) (hl : lv_has ls 8 [(0, .ref (ad 0)), (1, .int v1), (2, .int v2), (3, .int v3), (4, .int v4)]) : W p l e rmX6_ground s m args below meth c H locs 0 0 (MQ below (gQi wdY G ad A z) args s 0 0 A) (F0 m 100 ls []) := by
  obtain ⟨hx, hb, hr, hml, hown, hts, hlk, hK⟩ := id X
  unfold fX6_ground_100L at h
  refine lv_iload hx hb dX6_ground_100 (lv_at hl 4 rfl) ?_
  refine lv_iload_n hx hb dX6_ground_102 rfl (lv_at hl 2 rfl) ?_
  refine lv_icmp_ge (tgt := 247) hx hb dX6_ground_103 (by decide) (fun c_103 => ?_) (fun c_103 => ?_)
  · rw [if_pos c_103] at h
    refine lv_iload_n hx hb dX6_ground_247 rfl (lv_at hl 3 rfl) ?_
    exact gw_ireti X hV h dX6_ground_248
  · rw [if_neg c_103] at h
    refine lv_iconst (v := 0) hx hb dX6_ground_106 (by decide) ?_
    refine lv_istore (lv' := [(5, .int (0 : Int32)), (0, .ref (ad 0)), (1, .int v1), (2, .int v2), (3, .int v3), (4, .int v4)]) hx hb dX6_ground_107 hl (by decide) rfl (fun ls hl => ?_)
    exact tX6_ground_109 X hA kK100 gx_fuel _ _ _ _ _ _ h _ _ _ hV (lv_sub hl [1, 2, 3, 4, 5, 0] rfl)
set_option maxHeartbeats 4000000 in
set_option maxRecDepth 20000 in
theorem tX6_ground_100 {p : Program} {l : Launch} {e : Env} {s : State} {m : MethodId} {args : Array Value} {below : List Frame} {meth : Method} {c : Code} {G : gG} {ad : Nat → Nat} {A : Nat → Prop} {z : Int32 × gS} (X : gCx p s m args meth c G cX6_ground RX6 (some .int) 8) (hA : ∀ q, s.heap.size ≤ q → A q) : ∀ (f : Nat) (S : gS) (v1 : Int32) (v2 : Int32) (v3 : Int32) (v4 : Int32) (h : fX6_ground_100 f S v1 v2 v3 v4 = some z) (H : Heap) (locs : List Loc) (ls : Array Slot) (hV : gV wdY G ad A s.heap S H locs) (hl : lv_has ls 8 [(0, .ref (ad 0)), (1, .int v1), (2, .int v2), (3, .int v3), (4, .int v4)]), W p l e rmX6_ground s m args below meth c H locs 0 0 (MQ below (gQi wdY G ad A z) args s 0 0 A) (F0 m 100 ls []) := by
  intro f
  induction f with
  | zero => intro S v1 v2 v3 v4 h; exact absurd h (by simp [fX6_ground_100])
  | succ f ih => intro S v1 v2 v3 v4 h H locs ls hV hl; exact tX6_ground_100L X hA ih S v1 v2 v3 v4 h hV hl
set_option maxHeartbeats 4000000 in
set_option maxRecDepth 20000 in
theorem tX6_ground_75L {p : Program} {l : Launch} {e : Env} {s : State} {m : MethodId} {args : Array Value} {below : List Frame} {meth : Method} {c : Code} {G : gG} {ad : Nat → Nat} {A : Nat → Prop} {z : Int32 × gS} {K75 : gS → Int32 → Int32 → Int32 → Option (Int32 × gS)} (X : gCx p s m args meth c G cX6_ground RX6 (some .int) 8) (hA : ∀ q, s.heap.size ≤ q → A q) (kK75 : ∀ (S : gS) (v1 : Int32) (v2 : Int32) (v3 : Int32), K75 S v1 v2 v3 = some z → ∀ (H : Heap) (locs : List Loc) (ls : Array Slot), gV wdY G ad A s.heap S H locs → lv_has ls 8 [(0, .ref (ad 0)), (1, .int v1), (2, .int v2), (3, .int v3)] → W p l e rmX6_ground s m args below meth c H locs 0 0 (MQ below (gQi wdY G ad A z) args s 0 0 A) (F0 m 75 ls [])) (S : gS) (v1 : Int32) (v2 : Int32) (v3 : Int32) (h : fX6_ground_75L K75 S v1 v2 v3 = some z) {H : Heap} {locs : List Loc} {ls : Array Slot} (hV : gV wdY G ad A s.heap S H locs) (hl : lv_has ls 8 [(0, .ref (ad 0)), (1, .int v1), (2, .int v2), (3, .int v3)]) : W p l e rmX6_ground s m args below meth c H locs 0 0 (MQ below (gQi wdY G ad A z) args s 0 0 A) (F0 m 75 ls []) := by
  obtain ⟨hx, hb, hr, hml, hown, hts, hlk, hK⟩ := id X
  unfold fX6_ground_75L at h
  refine lv_iload_n hx hb dX6_ground_75 rfl (lv_at hl 3 rfl) ?_
  refine lv_sipush (v := 305) hx hb dX6_ground_76 (by decide) ?_
  refine lv_icmp_ge (tgt := 95) hx hb dX6_ground_79 (by decide) (fun c_79 => ?_) (fun c_79 => ?_)
  · rw [if_pos c_79] at h
    refine lv_iconst (v := 0) hx hb dX6_ground_95 (by decide) ?_
    refine lv_istore_n (lv' := [(3, .int (0 : Int32)), (0, .ref (ad 0)), (1, .int v1), (2, .int v2)]) hx hb dX6_ground_96 rfl hl (by decide) rfl (fun ls hl => ?_)
    refine lv_iconst (v := 0) hx hb dX6_ground_97 (by decide) ?_
    refine lv_istore (lv' := [(4, .int (0 : Int32)), (3, .int (0 : Int32)), (0, .ref (ad 0)), (1, .int v1), (2, .int v2)]) hx hb dX6_ground_98 hl (by decide) rfl (fun ls hl => ?_)
    exact tX6_ground_100 X hA gx_fuel _ _ _ _ _ h _ _ _ hV (lv_sub hl [2, 3, 4, 1, 0] rfl)
  · rw [if_neg c_79] at h
    refine lv_aload_n hx hb dX6_ground_82 rfl (lv_at hl 0 rfl) ?_
    refine ggX6_35 X hV (o := 0) rfl dX6_ground_83 ?_
    refine lv_iload_n hx hb dX6_ground_86 rfl (lv_at hl 3 rfl) ?_
    refine lv_lconst (v := 0) hx hb dX6_ground_87 (by decide) ?_
    obtain ⟨c_88, h⟩ := gx_chk_e h
    refine gw_last X hV (iYJ_6 (o := 9) rfl) c_88 dX6_ground_88 (fun S88 e_88 H locs hV => ?_)
    replace h := gx_let_e e_88 h
    clear e_88
    obtain ⟨v3_89, e_89⟩ : ∃ y : Int32, y = (v3 + (1 : Int32)) := ⟨_, rfl⟩
    refine lv_iinc (v := v3_89) (lv' := [(3, .int v3_89), (0, .ref (ad 0)), (1, .int v1), (2, .int v2)]) hx hb dX6_ground_89 hl (k := 3) rfl (by rw [e_89]; rfl) (by decide) rfl (fun ls hl => ?_)
    replace h := gx_let_e e_89 h
    clear e_89
    refine lv_goto (tgt := 75) hx hb dX6_ground_92 (by decide) ?_
    exact kK75 _ _ _ _ h _ _ _ hV (lv_sub hl [1, 2, 3, 0] rfl)
set_option maxHeartbeats 4000000 in
set_option maxRecDepth 20000 in
theorem tX6_ground_75 {p : Program} {l : Launch} {e : Env} {s : State} {m : MethodId} {args : Array Value} {below : List Frame} {meth : Method} {c : Code} {G : gG} {ad : Nat → Nat} {A : Nat → Prop} {z : Int32 × gS} (X : gCx p s m args meth c G cX6_ground RX6 (some .int) 8) (hA : ∀ q, s.heap.size ≤ q → A q) : ∀ (f : Nat) (S : gS) (v1 : Int32) (v2 : Int32) (v3 : Int32) (h : fX6_ground_75 f S v1 v2 v3 = some z) (H : Heap) (locs : List Loc) (ls : Array Slot) (hV : gV wdY G ad A s.heap S H locs) (hl : lv_has ls 8 [(0, .ref (ad 0)), (1, .int v1), (2, .int v2), (3, .int v3)]), W p l e rmX6_ground s m args below meth c H locs 0 0 (MQ below (gQi wdY G ad A z) args s 0 0 A) (F0 m 75 ls []) := by
  intro f
  induction f with
  | zero => intro S v1 v2 v3 h; exact absurd h (by simp [fX6_ground_75])
  | succ f ih => intro S v1 v2 v3 h H locs ls hV hl; exact tX6_ground_75L X hA ih S v1 v2 v3 h hV hl
set_option maxHeartbeats 4000000 in
set_option maxRecDepth 20000 in
theorem tX6_ground_53L {p : Program} {l : Launch} {e : Env} {s : State} {m : MethodId} {args : Array Value} {below : List Frame} {meth : Method} {c : Code} {G : gG} {ad : Nat → Nat} {A : Nat → Prop} {z : Int32 × gS} {K53 : gS → Int32 → Int32 → Int32 → Option (Int32 × gS)} (X : gCx p s m args meth c G cX6_ground RX6 (some .int) 8) (hA : ∀ q, s.heap.size ≤ q → A q) (kK53 : ∀ (S : gS) (v1 : Int32) (v2 : Int32) (v3 : Int32), K53 S v1 v2 v3 = some z → ∀ (H : Heap) (locs : List Loc) (ls : Array Slot), gV wdY G ad A s.heap S H locs → lv_has ls 8 [(0, .ref (ad 0)), (1, .int v1), (2, .int v2), (3, .int v3)] → W p l e rmX6_ground s m args below meth c H locs 0 0 (MQ below (gQi wdY G ad A z) args s 0 0 A) (F0 m 53 ls [])) (S : gS) (v1 : Int32) (v2 : Int32) (v3 : Int32) (h : fX6_ground_53L K53 S v1 v2 v3 = some z) {H : Heap} {locs : List Loc} {ls : Array Slot} (hV : gV wdY G ad A s.heap S H locs) (hl : lv_has ls 8 [(0, .ref (ad 0)), (1, .int v1), (2, .int v2), (3, .int v3)]) : W p l e rmX6_ground s m args below meth c H locs 0 0 (MQ below (gQi wdY G ad A z) args s 0 0 A) (F0 m 53 ls []) := by
  obtain ⟨hx, hb, hr, hml, hown, hts, hlk, hK⟩ := id X
  unfold fX6_ground_53L at h
  refine lv_iload_n hx hb dX6_ground_53 rfl (lv_at hl 3 rfl) ?_
  refine lv_sipush (v := 3904) hx hb dX6_ground_54 (by decide) ?_
  refine lv_icmp_ge (tgt := 73) hx hb dX6_ground_57 (by decide) (fun c_57 => ?_) (fun c_57 => ?_)
  · rw [if_pos c_57] at h
    refine lv_iconst (v := 0) hx hb dX6_ground_73 (by decide) ?_
    refine lv_istore_n (lv' := [(3, .int (0 : Int32)), (0, .ref (ad 0)), (1, .int v1), (2, .int v2)]) hx hb dX6_ground_74 rfl hl (by decide) rfl (fun ls hl => ?_)
    exact tX6_ground_75 X hA gx_fuel _ _ _ _ h _ _ _ hV (lv_sub hl [1, 2, 3, 0] rfl)
  · rw [if_neg c_57] at h
    refine lv_aload_n hx hb dX6_ground_60 rfl (lv_at hl 0 rfl) ?_
    refine ggX6_32 X hV (o := 0) rfl dX6_ground_61 ?_
    refine lv_iload_n hx hb dX6_ground_64 rfl (lv_at hl 3 rfl) ?_
    refine lv_lconst (v := 0) hx hb dX6_ground_65 (by decide) ?_
    obtain ⟨c_66, h⟩ := gx_chk_e h
    refine gw_last X hV (iYJ_5 (o := 8) rfl) c_66 dX6_ground_66 (fun S66 e_66 H locs hV => ?_)
    replace h := gx_let_e e_66 h
    clear e_66
    obtain ⟨v3_67, e_67⟩ : ∃ y : Int32, y = (v3 + (1 : Int32)) := ⟨_, rfl⟩
    refine lv_iinc (v := v3_67) (lv' := [(3, .int v3_67), (0, .ref (ad 0)), (1, .int v1), (2, .int v2)]) hx hb dX6_ground_67 hl (k := 3) rfl (by rw [e_67]; rfl) (by decide) rfl (fun ls hl => ?_)
    replace h := gx_let_e e_67 h
    clear e_67
    refine lv_goto (tgt := 53) hx hb dX6_ground_70 (by decide) ?_
    exact kK53 _ _ _ _ h _ _ _ hV (lv_sub hl [1, 2, 3, 0] rfl)
set_option maxHeartbeats 4000000 in
set_option maxRecDepth 20000 in
theorem tX6_ground_53 {p : Program} {l : Launch} {e : Env} {s : State} {m : MethodId} {args : Array Value} {below : List Frame} {meth : Method} {c : Code} {G : gG} {ad : Nat → Nat} {A : Nat → Prop} {z : Int32 × gS} (X : gCx p s m args meth c G cX6_ground RX6 (some .int) 8) (hA : ∀ q, s.heap.size ≤ q → A q) : ∀ (f : Nat) (S : gS) (v1 : Int32) (v2 : Int32) (v3 : Int32) (h : fX6_ground_53 f S v1 v2 v3 = some z) (H : Heap) (locs : List Loc) (ls : Array Slot) (hV : gV wdY G ad A s.heap S H locs) (hl : lv_has ls 8 [(0, .ref (ad 0)), (1, .int v1), (2, .int v2), (3, .int v3)]), W p l e rmX6_ground s m args below meth c H locs 0 0 (MQ below (gQi wdY G ad A z) args s 0 0 A) (F0 m 53 ls []) := by
  intro f
  induction f with
  | zero => intro S v1 v2 v3 h; exact absurd h (by simp [fX6_ground_53])
  | succ f ih => intro S v1 v2 v3 h H locs ls hV hl; exact tX6_ground_53L X hA ih S v1 v2 v3 h hV hl
set_option maxHeartbeats 4000000 in
set_option maxRecDepth 20000 in
theorem mX6_ground (l : Launch) (G : gG) (ad : Nat → Nat) (sz : Nat) (S : gS) {v1 : Int32} {v2 : Int32} {r : Int32} {S' : gS} (h : fX6_ground S v1 v2 = some (r, S')) : gMetI l yX6_ground cX6_ground 8 (some .int) rmX6_ground wdY G ad S sz [.ref (ad 0), .int v1, .int v2] r S' := by
  refine gMet_of (by decide) ?_
  intro p e s m below meth c A hA X hnm hV
  have hl := lv_entry ([.ref (ad 0), .int v1, .int v2]) (n := 8) (Nat.le_of_ble_eq_true rfl)
  rw [lg_entry_eq]
  generalize (lg_sl ([.ref (ad 0), .int v1, .int v2]) ++ List.replicate (8 - (lg_sl ([.ref (ad 0), .int v1, .int v2])).length) Slot.unset).toArray = ls at hl ⊢
  have hl : lv_has ls 8 [(0, .ref (ad 0)), (1, .int v1), (2, .int v2)] := hl
  obtain ⟨hx, hb, hr, hml, hown, hts, hlk, hK⟩ := id X
  unfold fX6_ground at h
  generalize ([.ref (ad 0), .int v1, .int v2].toArray : Array Value) = args at X ⊢
  have Y : ∀ (H : Heap) (locs : List Loc), gV wdY G ad A s.heap S H locs → W p l e rmX6_ground s m args below meth c H locs 0 0 (MQ below (gQi wdY G ad A (r, S')) args s 0 0 A) (F0 m 0 ls []) := by
    intro H locs hV
    refine lv_iload_n hx hb dX6_ground_0 rfl (lv_at hl 1 rfl) ?_
    refine lv_i2l hx hb dX6_ground_1 rfl ?_
    refine lv_ldc2 (v := 2) hx hb hown (hts _ q_631) dX6_ground_2 ?_
    refine lv_ldc2 (v := 8) hx hb hown (hts _ q_661) dX6_ground_5 ?_
    obtain ⟨r8, S8, k_8, h⟩ := gx_bind_e h
    refine gw_callI X hA hV (gw_runS X hV (As := [.long (Int32.toInt64 v1), .long (2 : Int64), .long (8 : Int64)]) (rest := []) (mX6_in l G ad _ S k_8) kc_RX6_77 rfl hl.1 rfl (Nat.le_of_ble_eq_true rfl) ⟨rfl, rfl⟩ ⟨Nat.le_of_ble_eq_true rfl, Nat.le_of_ble_eq_true rfl⟩ ⟨Nat.le_refl _, Nat.le_refl _⟩ dX6_ground_8) (fun H locs hV => ?_)
    refine lv_if_eq (tgt := 28) hx hb dX6_ground_11 (by decide) (fun c_11 => ?_) (fun c_11 => ?_)
    · rw [if_pos c_11] at h
      refine lv_bipush (v := -2) hx hb dX6_ground_28 (by decide) ?_
      exact gw_ireti X hV h dX6_ground_30
    · rw [if_neg c_11] at h
      refine lv_iload_n hx hb dX6_ground_14 rfl (lv_at hl 2 rfl) ?_
      refine lv_i2l hx hb dX6_ground_15 rfl ?_
      refine lv_ldc2 (v := 2) hx hb hown (hts _ q_631) dX6_ground_16 ?_
      refine lv_ldc2 (v := 8) hx hb hown (hts _ q_661) dX6_ground_19 ?_
      obtain ⟨r22, S22, k_22, h⟩ := gx_bind_e h
      refine gw_callI X hA hV (gw_runS X hV (As := [.long (Int32.toInt64 v2), .long (2 : Int64), .long (8 : Int64)]) (rest := []) (mX6_in l G ad _ S8 k_22) kc_RX6_77 rfl hl.1 rfl (Nat.le_of_ble_eq_true rfl) ⟨rfl, rfl⟩ ⟨Nat.le_of_ble_eq_true rfl, Nat.le_of_ble_eq_true rfl⟩ ⟨Nat.le_refl _, Nat.le_refl _⟩ dX6_ground_22) (fun H locs hV => ?_)
      refine lv_if_ne (tgt := 31) hx hb dX6_ground_25 (by decide) (fun c_25 => ?_) (fun c_25 => ?_)
      · rw [if_neg c_25] at h
        refine lv_aload_n hx hb dX6_ground_31 rfl (lv_at hl 0 rfl) ?_
        refine lv_iload_n hx hb dX6_ground_32 rfl (lv_at hl 1 rfl) ?_
        refine gpX6_99 X hV (o := 0) rfl dX6_ground_33 (fun S33 e_33 H locs hV => ?_)
        replace h := gx_let_e e_33 h
        clear e_33
        refine lv_aload_n hx hb dX6_ground_36 rfl (lv_at hl 0 rfl) ?_
        refine lv_iload_n hx hb dX6_ground_37 rfl (lv_at hl 2 rfl) ?_
        refine gpX6_102 X hV (o := 0) rfl dX6_ground_38 (fun S38 e_38 H locs hV => ?_)
        replace h := gx_let_e e_38 h
        clear e_38
        refine lv_aload_n hx hb dX6_ground_41 rfl (lv_at hl 0 rfl) ?_
        refine lv_iconst (v := 0) hx hb dX6_ground_42 (by decide) ?_
        refine gpX6_107 X hV (o := 0) rfl dX6_ground_43 (fun S43 e_43 H locs hV => ?_)
        replace h := gx_let_e e_43 h
        clear e_43
        refine lv_aload_n hx hb dX6_ground_46 rfl (lv_at hl 0 rfl) ?_
        refine lv_iconst (v := 0) hx hb dX6_ground_47 (by decide) ?_
        refine gpX6_110 X hV (o := 0) rfl dX6_ground_48 (fun S48 e_48 H locs hV => ?_)
        replace h := gx_let_e e_48 h
        clear e_48
        refine lv_iconst (v := 0) hx hb dX6_ground_51 (by decide) ?_
        refine lv_istore_n (lv' := [(3, .int (0 : Int32)), (0, .ref (ad 0)), (1, .int v1), (2, .int v2)]) hx hb dX6_ground_52 rfl hl (by decide) rfl (fun ls hl => ?_)
        exact tX6_ground_53 X hA gx_fuel _ _ _ _ h _ _ _ hV (lv_sub hl [1, 2, 3, 0] rfl)
      · rw [if_pos c_25] at h
        refine lv_bipush (v := -2) hx hb dX6_ground_28 (by decide) ?_
        exact gw_ireti X hV h dX6_ground_30
  exact Y _ _ hV
theorem kc_RX6_115 : gKV RX6 115 yX6_isPlace cX6_isPlace 3 (some .boolean) 2 := ⟨q_667, q_669, q_21, q_670, q_42, by decide +kernel⟩
def fX6_kind_98 (S : gS) (v6 : Int32) (t1 : Int32) (t2 : Int32) : Option (Int32 × gS) :=
gx_chk t1 64 <|
gx_let (gA_up S 6 (Int32.toNatClampNeg t1) t2) fun S98 =>
gx_let (gI_up S98 0 17 (0 : Int32)) fun S101 =>
some (v6, S101)
def fX6_kind_43 (S : gS) (v1 : Int32) (v2 : Int32) (v3 : Int32) (v4 : Int32) : Option (Int32 × gS) :=
gx_let (((8 : Int32) * v2) + v1) fun v5_49 =>
gx_chk v5_49 64 <|
if (gA S 5 (Int32.toNatClampNeg v5_49)) = (4 : Int32) then (some ((-3 : Int32), S)) else
gx_chk v5_49 64 <|
gx_let (gA S 5 (Int32.toNatClampNeg v5_49)) fun v6_72 =>
gx_chk v5_49 64 <|
gx_let (gA_up S 5 (Int32.toNatClampNeg v5_49) v3) fun S81 =>
if v3 = 0 then (fX6_kind_98 S81 v6_72 v5_49 (0 : Int32)) else
fX6_kind_98 S81 v6_72 v5_49 v4
def fX6_kind (S : gS) (v1 : Int32) (v2 : Int32) (v3 : Int32) (v4 : Int32) : Option (Int32 × gS) :=
gx_bind (fX6_isPlace S v1 v2) fun r3 S3 =>
if r3 = 0 then (some ((-1 : Int32), S3)) else
gx_bind (fX6_in S3 (Int32.toInt64 v3) (0 : Int64) (3 : Int64)) fun r17 S17 =>
if r17 = 0 then (some ((-2 : Int32), S17)) else
if v3 = 0 then (fX6_kind_43 S17 v1 v2 v3 v4) else
gx_bind (fX6_in S17 (Int32.toInt64 v4) (0 : Int64) (100 : Int64)) fun r34 S34 =>
if r34 = 0 then (some ((-2 : Int32), S34)) else
fX6_kind_43 S34 v1 v2 v3 v4
def rmX6_kind : Room := { frames := 2, cells := 0, slots := 0, locals := 47 }
set_option maxHeartbeats 4000000 in
set_option maxRecDepth 20000 in
theorem tX6_kind_98 {p : Program} {l : Launch} {e : Env} {s : State} {m : MethodId} {args : Array Value} {below : List Frame} {meth : Method} {c : Code} {G : gG} {ad : Nat → Nat} {A : Nat → Prop} {z : Int32 × gS} (X : gCx p s m args meth c G cX6_kind RX6 (some .int) 7) (hA : ∀ q, s.heap.size ≤ q → A q) (S : gS) (v6 : Int32) (t1 : Int32) (t2 : Int32) (h : fX6_kind_98 S v6 t1 t2 = some z) {H : Heap} {locs : List Loc} {ls : Array Slot} (hV : gV wdY G ad A s.heap S H locs) (hl : lv_has ls 7 [(0, .ref (ad 0)), (6, .int v6)]) : W p l e rmX6_kind s m args below meth c H locs 0 0 (MQ below (gQi wdY G ad A z) args s 0 0 A) (F0 m 98 ls [.int t2, .int t1, .ref (ad 6)]) := by
  obtain ⟨hx, hb, hr, hml, hown, hts, hlk, hK⟩ := id X
  unfold fX6_kind_98 at h
  obtain ⟨c_98, h⟩ := gx_chk_e h
  refine gw_iast X hV (iYA_4 (o := 6) rfl) c_98 dX6_kind_98 (fun S98 e_98 H locs hV => ?_)
  replace h := gx_let_e e_98 h
  clear e_98
  refine lv_aload_n hx hb dX6_kind_99 rfl (lv_at hl 0 rfl) ?_
  refine lv_iconst (v := 0) hx hb dX6_kind_100 (by decide) ?_
  refine gpX6_110 X hV (o := 0) rfl dX6_kind_101 (fun S101 e_101 H locs hV => ?_)
  replace h := gx_let_e e_101 h
  clear e_101
  refine lv_iload hx hb dX6_kind_104 (lv_at hl 1 rfl) ?_
  exact gw_ireti X hV h dX6_kind_106
set_option maxHeartbeats 4000000 in
set_option maxRecDepth 20000 in
theorem tX6_kind_43 {p : Program} {l : Launch} {e : Env} {s : State} {m : MethodId} {args : Array Value} {below : List Frame} {meth : Method} {c : Code} {G : gG} {ad : Nat → Nat} {A : Nat → Prop} {z : Int32 × gS} (X : gCx p s m args meth c G cX6_kind RX6 (some .int) 7) (hA : ∀ q, s.heap.size ≤ q → A q) (S : gS) (v1 : Int32) (v2 : Int32) (v3 : Int32) (v4 : Int32) (h : fX6_kind_43 S v1 v2 v3 v4 = some z) {H : Heap} {locs : List Loc} {ls : Array Slot} (hV : gV wdY G ad A s.heap S H locs) (hl : lv_has ls 7 [(0, .ref (ad 0)), (1, .int v1), (2, .int v2), (3, .int v3), (4, .int v4)]) : W p l e rmX6_kind s m args below meth c H locs 0 0 (MQ below (gQi wdY G ad A z) args s 0 0 A) (F0 m 43 ls []) := by
  obtain ⟨hx, hb, hr, hml, hown, hts, hlk, hK⟩ := id X
  unfold fX6_kind_43 at h
  refine lv_bipush (v := 8) hx hb dX6_kind_43 (by decide) ?_
  refine lv_iload_n hx hb dX6_kind_45 rfl (lv_at hl 2 rfl) ?_
  refine lv_imul hx hb dX6_kind_46 ?_
  refine lv_iload_n hx hb dX6_kind_47 rfl (lv_at hl 1 rfl) ?_
  refine lv_iadd hx hb dX6_kind_48 ?_
  refine lv_topi (fun v5_49 e_49 => ?_)
  replace h := gx_let_e e_49 h
  clear e_49
  refine lv_istore (lv' := [(5, .int v5_49), (0, .ref (ad 0)), (1, .int v1), (2, .int v2), (3, .int v3), (4, .int v4)]) hx hb dX6_kind_49 hl (by decide) rfl (fun ls hl => ?_)
  refine lv_aload_n hx hb dX6_kind_51 rfl (lv_at hl 1 rfl) ?_
  refine ggX6_23 X hV (o := 0) rfl dX6_kind_52 ?_
  refine lv_iload hx hb dX6_kind_55 (lv_at hl 0 rfl) ?_
  obtain ⟨c_57, h⟩ := gx_chk_e h
  refine gw_iald X hV (iYA_4 (o := 5) rfl) c_57 dX6_kind_57 ?_
  refine lv_iconst (v := 4) hx hb dX6_kind_58 (by decide) ?_
  refine lv_icmp_ne (tgt := 65) hx hb dX6_kind_59 (by decide) (fun c_59 => ?_) (fun c_59 => ?_)
  · rw [if_neg c_59] at h
    refine lv_aload_n hx hb dX6_kind_65 rfl (lv_at hl 1 rfl) ?_
    refine ggX6_23 X hV (o := 0) rfl dX6_kind_66 ?_
    refine lv_iload hx hb dX6_kind_69 (lv_at hl 0 rfl) ?_
    obtain ⟨c_71, h⟩ := gx_chk_e h
    refine gw_iald X hV (iYA_4 (o := 5) rfl) c_71 dX6_kind_71 ?_
    refine lv_topi (fun v6_72 e_72 => ?_)
    replace h := gx_let_e e_72 h
    clear e_72
    refine lv_istore (lv' := [(6, .int v6_72), (5, .int v5_49), (0, .ref (ad 0)), (1, .int v1), (2, .int v2), (3, .int v3), (4, .int v4)]) hx hb dX6_kind_72 hl (by decide) rfl (fun ls hl => ?_)
    refine lv_aload_n hx hb dX6_kind_74 rfl (lv_at hl 2 rfl) ?_
    refine ggX6_23 X hV (o := 0) rfl dX6_kind_75 ?_
    refine lv_iload hx hb dX6_kind_78 (lv_at hl 1 rfl) ?_
    refine lv_iload_n hx hb dX6_kind_80 rfl (lv_at hl 5 rfl) ?_
    obtain ⟨c_81, h⟩ := gx_chk_e h
    refine gw_iast X hV (iYA_4 (o := 5) rfl) c_81 dX6_kind_81 (fun S81 e_81 H locs hV => ?_)
    replace h := gx_let_e e_81 h
    clear e_81
    refine lv_aload_n hx hb dX6_kind_82 rfl (lv_at hl 2 rfl) ?_
    refine ggX6_26 X hV (o := 0) rfl dX6_kind_83 ?_
    refine lv_iload hx hb dX6_kind_86 (lv_at hl 1 rfl) ?_
    refine lv_iload_n hx hb dX6_kind_88 rfl (lv_at hl 5 rfl) ?_
    refine lv_if_ne (tgt := 96) hx hb dX6_kind_89 (by decide) (fun c_89 => ?_) (fun c_89 => ?_)
    · rw [if_neg c_89] at h
      refine lv_iload hx hb dX6_kind_96 (lv_at hl 6 rfl) ?_
      exact tX6_kind_98 X hA _ _ _ _ h hV (lv_sub hl [2, 0] rfl)
    · rw [if_pos c_89] at h
      refine lv_iconst (v := 0) hx hb dX6_kind_92 (by decide) ?_
      refine lv_goto (tgt := 98) hx hb dX6_kind_93 (by decide) ?_
      exact tX6_kind_98 X hA _ _ _ _ h hV (lv_sub hl [2, 0] rfl)
  · rw [if_pos c_59] at h
    refine lv_bipush (v := -3) hx hb dX6_kind_62 (by decide) ?_
    exact gw_ireti X hV h dX6_kind_64
set_option maxHeartbeats 4000000 in
set_option maxRecDepth 20000 in
theorem mX6_kind (l : Launch) (G : gG) (ad : Nat → Nat) (sz : Nat) (S : gS) {v1 : Int32} {v2 : Int32} {v3 : Int32} {v4 : Int32} {r : Int32} {S' : gS} (h : fX6_kind S v1 v2 v3 v4 = some (r, S')) : gMetI l yX6_kind cX6_kind 7 (some .int) rmX6_kind wdY G ad S sz [.ref (ad 0), .int v1, .int v2, .int v3, .int v4] r S' := by
  refine gMet_of (by decide) ?_
  intro p e s m below meth c A hA X hnm hV
  have hl := lv_entry ([.ref (ad 0), .int v1, .int v2, .int v3, .int v4]) (n := 7) (Nat.le_of_ble_eq_true rfl)
  rw [lg_entry_eq]
  generalize (lg_sl ([.ref (ad 0), .int v1, .int v2, .int v3, .int v4]) ++ List.replicate (7 - (lg_sl ([.ref (ad 0), .int v1, .int v2, .int v3, .int v4])).length) Slot.unset).toArray = ls at hl ⊢
  have hl : lv_has ls 7 [(0, .ref (ad 0)), (1, .int v1), (2, .int v2), (3, .int v3), (4, .int v4)] := hl
  obtain ⟨hx, hb, hr, hml, hown, hts, hlk, hK⟩ := id X
  unfold fX6_kind at h
  generalize ([.ref (ad 0), .int v1, .int v2, .int v3, .int v4].toArray : Array Value) = args at X ⊢
  have Y : ∀ (H : Heap) (locs : List Loc), gV wdY G ad A s.heap S H locs → W p l e rmX6_kind s m args below meth c H locs 0 0 (MQ below (gQi wdY G ad A (r, S')) args s 0 0 A) (F0 m 0 ls []) := by
    intro H locs hV
    refine lv_aload_n hx hb dX6_kind_0 rfl (lv_at hl 0 rfl) ?_
    refine lv_iload_n hx hb dX6_kind_1 rfl (lv_at hl 1 rfl) ?_
    refine lv_iload_n hx hb dX6_kind_2 rfl (lv_at hl 2 rfl) ?_
    obtain ⟨r3, S3, k_3, h⟩ := gx_bind_e h
    refine gw_callI X hA hV (gw_runV X hV (o := 0) (As := [.int v1, .int v2]) (rest := []) (mX6_isPlace l G ad _ S k_3) kc_RX6_115 (iYO_0 rfl) rfl rfl rfl hl.1 rfl (Nat.le_of_ble_eq_true rfl) ⟨rfl, rfl⟩ ⟨Nat.le_of_ble_eq_true rfl, Nat.le_of_ble_eq_true rfl⟩ ⟨Nat.le_refl _, Nat.le_refl _⟩ dX6_kind_3) (fun H locs hV => ?_)
    refine lv_if_ne (tgt := 11) hx hb dX6_kind_6 (by decide) (fun c_6 => ?_) (fun c_6 => ?_)
    · rw [if_neg c_6] at h
      refine lv_iload_n hx hb dX6_kind_11 rfl (lv_at hl 3 rfl) ?_
      refine lv_i2l hx hb dX6_kind_12 rfl ?_
      refine lv_lconst (v := 0) hx hb dX6_kind_13 (by decide) ?_
      refine lv_ldc2 (v := 3) hx hb hown (hts _ q_671) dX6_kind_14 ?_
      obtain ⟨r17, S17, k_17, h⟩ := gx_bind_e h
      refine gw_callI X hA hV (gw_runS X hV (As := [.long (Int32.toInt64 v3), .long (0 : Int64), .long (3 : Int64)]) (rest := []) (mX6_in l G ad _ S3 k_17) kc_RX6_77 rfl hl.1 rfl (Nat.le_of_ble_eq_true rfl) ⟨rfl, rfl⟩ ⟨Nat.le_of_ble_eq_true rfl, Nat.le_of_ble_eq_true rfl⟩ ⟨Nat.le_refl _, Nat.le_refl _⟩ dX6_kind_17) (fun H locs hV => ?_)
      refine lv_if_eq (tgt := 40) hx hb dX6_kind_20 (by decide) (fun c_20 => ?_) (fun c_20 => ?_)
      · rw [if_pos c_20] at h
        refine lv_bipush (v := -2) hx hb dX6_kind_40 (by decide) ?_
        exact gw_ireti X hV h dX6_kind_42
      · rw [if_neg c_20] at h
        refine lv_iload_n hx hb dX6_kind_23 rfl (lv_at hl 3 rfl) ?_
        refine lv_if_eq (tgt := 43) hx hb dX6_kind_24 (by decide) (fun c_24 => ?_) (fun c_24 => ?_)
        · rw [if_pos c_24] at h
          exact tX6_kind_43 X hA _ _ _ _ _ h hV (lv_sub hl [0, 1, 2, 3, 4] rfl)
        · rw [if_neg c_24] at h
          refine lv_iload hx hb dX6_kind_27 (lv_at hl 4 rfl) ?_
          refine lv_i2l hx hb dX6_kind_29 rfl ?_
          refine lv_lconst (v := 0) hx hb dX6_kind_30 (by decide) ?_
          refine lv_ldc2 (v := 100) hx hb hown (hts _ q_672) dX6_kind_31 ?_
          obtain ⟨r34, S34, k_34, h⟩ := gx_bind_e h
          refine gw_callI X hA hV (gw_runS X hV (As := [.long (Int32.toInt64 v4), .long (0 : Int64), .long (100 : Int64)]) (rest := []) (mX6_in l G ad _ S17 k_34) kc_RX6_77 rfl hl.1 rfl (Nat.le_of_ble_eq_true rfl) ⟨rfl, rfl⟩ ⟨Nat.le_of_ble_eq_true rfl, Nat.le_of_ble_eq_true rfl⟩ ⟨Nat.le_refl _, Nat.le_refl _⟩ dX6_kind_34) (fun H locs hV => ?_)
          refine lv_if_ne (tgt := 43) hx hb dX6_kind_37 (by decide) (fun c_37 => ?_) (fun c_37 => ?_)
          · rw [if_neg c_37] at h
            exact tX6_kind_43 X hA _ _ _ _ _ h hV (lv_sub hl [0, 1, 2, 3, 4] rfl)
          · rw [if_pos c_37] at h
            refine lv_bipush (v := -2) hx hb dX6_kind_40 (by decide) ?_
            exact gw_ireti X hV h dX6_kind_42
    · rw [if_pos c_6] at h
      refine lv_iconst (v := -1) hx hb dX6_kind_9 (by decide) ?_
      exact gw_ireti X hV h dX6_kind_10
  exact Y _ _ hV
def fX6_taken_91 (S : gS) (v4 : Int32) (v5 : Int32) (v6 : Int32) (t0 : Int32) : Option (Int32 × gS) :=
if t0 = 0 then (gx_bind (fX6_failed S (3 : Int32)) fun r100 S100 =>
some (r100, S100)) else
if v4 = 0 then (some (v6, S)) else
gx_chk v5 64 <|
some ((gA S 6 (Int32.toNatClampNeg v5)), S)
def fX6_taken_86 (S : gS) (v4 : Int32) (v5 : Int32) (v6 : Int32) : Option (Int32 × gS) :=
fX6_taken_91 S v4 v5 v6 (1 : Int32)
def fX6_taken_90 (S : gS) (v4 : Int32) (v5 : Int32) (v6 : Int32) : Option (Int32 × gS) :=
fX6_taken_91 S v4 v5 v6 (0 : Int32)
def fX6_taken_75 (S : gS) (v3 : Int32) (v4 : Int32) (v5 : Int32) (v6 : Int32) : Option (Int32 × gS) :=
if v3 = (1 : Int32) then (if v6 = (4 : Int32) then (fX6_taken_86 S v4 v5 v6) else
fX6_taken_90 S v4 v5 v6) else
fX6_taken_90 S v4 v5 v6
def fX6_taken (S : gS) (v1 : Int32) (v2 : Int32) (v3 : Int32) (v4 : Int32) : Option (Int32 × gS) :=
gx_bind (fX6_isPlace S v1 v2) fun r3 S3 =>
if r3 = 0 then (some ((-1 : Int32), S3)) else
gx_bind (fX6_in S3 (Int32.toInt64 v3) (0 : Int64) (4 : Int64)) fun r17 S17 =>
if r17 = 0 then (some ((-2 : Int32), S17)) else
gx_bind (fX6_in S17 (Int32.toInt64 v4) (0 : Int64) (1 : Int64)) fun r28 S28 =>
if r28 = 0 then (some ((-2 : Int32), S28)) else
gx_let (((8 : Int32) * v2) + v1) fun v5_43 =>
gx_chk v5_43 64 <|
gx_let (gA S28 5 (Int32.toNatClampNeg v5_43)) fun v6_52 =>
if v3 = 0 then (fX6_taken_86 S28 v4 v5_43 v6_52) else
if v3 = v6_52 then (fX6_taken_86 S28 v4 v5_43 v6_52) else
if v3 = (2 : Int32) then (if v6_52 = (3 : Int32) then (fX6_taken_86 S28 v4 v5_43 v6_52) else
fX6_taken_75 S28 v3 v4 v5_43 v6_52) else
fX6_taken_75 S28 v3 v4 v5_43 v6_52
def rmX6_taken : Room := { frames := 2, cells := 0, slots := 0, locals := 47 }
set_option maxHeartbeats 4000000 in
set_option maxRecDepth 20000 in
theorem tX6_taken_91 {p : Program} {l : Launch} {e : Env} {s : State} {m : MethodId} {args : Array Value} {below : List Frame} {meth : Method} {c : Code} {G : gG} {ad : Nat → Nat} {A : Nat → Prop} {z : Int32 × gS} (X : gCx p s m args meth c G cX6_taken RX6 (some .int) 8) (hA : ∀ q, s.heap.size ≤ q → A q) (S : gS) (v4 : Int32) (v5 : Int32) (v6 : Int32) (t0 : Int32) (h : fX6_taken_91 S v4 v5 v6 t0 = some z) {H : Heap} {locs : List Loc} {ls : Array Slot} (hV : gV wdY G ad A s.heap S H locs) (hl : lv_has ls 8 [(0, .ref (ad 0)), (4, .int v4), (5, .int v5), (6, .int v6)]) : W p l e rmX6_taken s m args below meth c H locs 0 0 (MQ below (gQi wdY G ad A z) args s 0 0 A) (F0 m 91 ls [.int t0]) := by
  obtain ⟨hx, hb, hr, hml, hown, hts, hlk, hK⟩ := id X
  unfold fX6_taken_91 at h
  refine lv_istore (lv' := [(7, .int t0), (0, .ref (ad 0)), (4, .int v4), (5, .int v5), (6, .int v6)]) hx hb dX6_taken_91 hl (by decide) rfl (fun ls hl => ?_)
  refine lv_iload hx hb dX6_taken_93 (lv_at hl 0 rfl) ?_
  refine lv_if_ne (tgt := 104) hx hb dX6_taken_95 (by decide) (fun c_95 => ?_) (fun c_95 => ?_)
  · rw [if_neg c_95] at h
    refine lv_iload hx hb dX6_taken_104 (lv_at hl 2 rfl) ?_
    refine lv_if_ne (tgt := 114) hx hb dX6_taken_106 (by decide) (fun c_106 => ?_) (fun c_106 => ?_)
    · rw [if_neg c_106] at h
      refine lv_aload_n hx hb dX6_taken_114 rfl (lv_at hl 1 rfl) ?_
      refine ggX6_26 X hV (o := 0) rfl dX6_taken_115 ?_
      refine lv_iload hx hb dX6_taken_118 (lv_at hl 3 rfl) ?_
      obtain ⟨c_120, h⟩ := gx_chk_e h
      refine gw_iald X hV (iYA_4 (o := 6) rfl) c_120 dX6_taken_120 ?_
      exact gw_ireti X hV h dX6_taken_121
    · rw [if_pos c_106] at h
      refine lv_iload hx hb dX6_taken_109 (lv_at hl 4 rfl) ?_
      refine lv_goto (tgt := 121) hx hb dX6_taken_111 (by decide) ?_
      exact gw_ireti X hV h dX6_taken_121
  · rw [if_pos c_95] at h
    refine lv_aload_n hx hb dX6_taken_98 rfl (lv_at hl 1 rfl) ?_
    refine lv_iconst (v := 3) hx hb dX6_taken_99 (by decide) ?_
    obtain ⟨r100, S100, k_100, h⟩ := gx_bind_e h
    refine gw_callI X hA hV (gw_runV X hV (o := 0) (As := [.int (3 : Int32)]) (rest := []) (mX6_failed l G ad _ S k_100) kc_RX6_87 (iYO_0 rfl) rfl rfl rfl hl.1 rfl (Nat.le_of_ble_eq_true rfl) ⟨rfl, rfl⟩ ⟨Nat.le_of_ble_eq_true rfl, Nat.le_of_ble_eq_true rfl⟩ ⟨Nat.le_refl _, Nat.le_refl _⟩ dX6_taken_100) (fun H locs hV => ?_)
    exact gw_ireti X hV h dX6_taken_103
set_option maxHeartbeats 4000000 in
set_option maxRecDepth 20000 in
theorem tX6_taken_86 {p : Program} {l : Launch} {e : Env} {s : State} {m : MethodId} {args : Array Value} {below : List Frame} {meth : Method} {c : Code} {G : gG} {ad : Nat → Nat} {A : Nat → Prop} {z : Int32 × gS} (X : gCx p s m args meth c G cX6_taken RX6 (some .int) 8) (hA : ∀ q, s.heap.size ≤ q → A q) (S : gS) (v4 : Int32) (v5 : Int32) (v6 : Int32) (h : fX6_taken_86 S v4 v5 v6 = some z) {H : Heap} {locs : List Loc} {ls : Array Slot} (hV : gV wdY G ad A s.heap S H locs) (hl : lv_has ls 8 [(0, .ref (ad 0)), (4, .int v4), (5, .int v5), (6, .int v6)]) : W p l e rmX6_taken s m args below meth c H locs 0 0 (MQ below (gQi wdY G ad A z) args s 0 0 A) (F0 m 86 ls []) := by
  obtain ⟨hx, hb, hr, hml, hown, hts, hlk, hK⟩ := id X
  unfold fX6_taken_86 at h
  refine lv_iconst (v := 1) hx hb dX6_taken_86 (by decide) ?_
  refine lv_goto (tgt := 91) hx hb dX6_taken_87 (by decide) ?_
  exact tX6_taken_91 X hA _ _ _ _ _ h hV (lv_sub hl [0, 1, 2, 3] rfl)
set_option maxHeartbeats 4000000 in
set_option maxRecDepth 20000 in
theorem tX6_taken_90 {p : Program} {l : Launch} {e : Env} {s : State} {m : MethodId} {args : Array Value} {below : List Frame} {meth : Method} {c : Code} {G : gG} {ad : Nat → Nat} {A : Nat → Prop} {z : Int32 × gS} (X : gCx p s m args meth c G cX6_taken RX6 (some .int) 8) (hA : ∀ q, s.heap.size ≤ q → A q) (S : gS) (v4 : Int32) (v5 : Int32) (v6 : Int32) (h : fX6_taken_90 S v4 v5 v6 = some z) {H : Heap} {locs : List Loc} {ls : Array Slot} (hV : gV wdY G ad A s.heap S H locs) (hl : lv_has ls 8 [(0, .ref (ad 0)), (4, .int v4), (5, .int v5), (6, .int v6)]) : W p l e rmX6_taken s m args below meth c H locs 0 0 (MQ below (gQi wdY G ad A z) args s 0 0 A) (F0 m 90 ls []) := by
  obtain ⟨hx, hb, hr, hml, hown, hts, hlk, hK⟩ := id X
  unfold fX6_taken_90 at h
  refine lv_iconst (v := 0) hx hb dX6_taken_90 (by decide) ?_
  exact tX6_taken_91 X hA _ _ _ _ _ h hV (lv_sub hl [0, 1, 2, 3] rfl)
set_option maxHeartbeats 4000000 in
set_option maxRecDepth 20000 in
theorem tX6_taken_75 {p : Program} {l : Launch} {e : Env} {s : State} {m : MethodId} {args : Array Value} {below : List Frame} {meth : Method} {c : Code} {G : gG} {ad : Nat → Nat} {A : Nat → Prop} {z : Int32 × gS} (X : gCx p s m args meth c G cX6_taken RX6 (some .int) 8) (hA : ∀ q, s.heap.size ≤ q → A q) (S : gS) (v3 : Int32) (v4 : Int32) (v5 : Int32) (v6 : Int32) (h : fX6_taken_75 S v3 v4 v5 v6 = some z) {H : Heap} {locs : List Loc} {ls : Array Slot} (hV : gV wdY G ad A s.heap S H locs) (hl : lv_has ls 8 [(0, .ref (ad 0)), (3, .int v3), (4, .int v4), (5, .int v5), (6, .int v6)]) : W p l e rmX6_taken s m args below meth c H locs 0 0 (MQ below (gQi wdY G ad A z) args s 0 0 A) (F0 m 75 ls []) := by
  obtain ⟨hx, hb, hr, hml, hown, hts, hlk, hK⟩ := id X
  unfold fX6_taken_75 at h
  refine lv_iload_n hx hb dX6_taken_75 rfl (lv_at hl 1 rfl) ?_
  refine lv_iconst (v := 1) hx hb dX6_taken_76 (by decide) ?_
  refine lv_icmp_ne (tgt := 90) hx hb dX6_taken_77 (by decide) (fun c_77 => ?_) (fun c_77 => ?_)
  · rw [if_neg c_77] at h
    exact tX6_taken_90 X hA _ _ _ _ h hV (lv_sub hl [0, 2, 3, 4] rfl)
  · rw [if_pos c_77] at h
    refine lv_iload hx hb dX6_taken_80 (lv_at hl 4 rfl) ?_
    refine lv_iconst (v := 4) hx hb dX6_taken_82 (by decide) ?_
    refine lv_icmp_ne (tgt := 90) hx hb dX6_taken_83 (by decide) (fun c_83 => ?_) (fun c_83 => ?_)
    · rw [if_neg c_83] at h
      exact tX6_taken_90 X hA _ _ _ _ h hV (lv_sub hl [0, 2, 3, 4] rfl)
    · rw [if_pos c_83] at h
      exact tX6_taken_86 X hA _ _ _ _ h hV (lv_sub hl [0, 2, 3, 4] rfl)
set_option maxHeartbeats 4000000 in
set_option maxRecDepth 20000 in
theorem mX6_taken (l : Launch) (G : gG) (ad : Nat → Nat) (sz : Nat) (S : gS) {v1 : Int32} {v2 : Int32} {v3 : Int32} {v4 : Int32} {r : Int32} {S' : gS} (h : fX6_taken S v1 v2 v3 v4 = some (r, S')) : gMetI l yX6_taken cX6_taken 8 (some .int) rmX6_taken wdY G ad S sz [.ref (ad 0), .int v1, .int v2, .int v3, .int v4] r S' := by
  refine gMet_of (by decide) ?_
  intro p e s m below meth c A hA X hnm hV
  have hl := lv_entry ([.ref (ad 0), .int v1, .int v2, .int v3, .int v4]) (n := 8) (Nat.le_of_ble_eq_true rfl)
  rw [lg_entry_eq]
  generalize (lg_sl ([.ref (ad 0), .int v1, .int v2, .int v3, .int v4]) ++ List.replicate (8 - (lg_sl ([.ref (ad 0), .int v1, .int v2, .int v3, .int v4])).length) Slot.unset).toArray = ls at hl ⊢
  have hl : lv_has ls 8 [(0, .ref (ad 0)), (1, .int v1), (2, .int v2), (3, .int v3), (4, .int v4)] := hl
  obtain ⟨hx, hb, hr, hml, hown, hts, hlk, hK⟩ := id X
  unfold fX6_taken at h
  generalize ([.ref (ad 0), .int v1, .int v2, .int v3, .int v4].toArray : Array Value) = args at X ⊢
  have Y : ∀ (H : Heap) (locs : List Loc), gV wdY G ad A s.heap S H locs → W p l e rmX6_taken s m args below meth c H locs 0 0 (MQ below (gQi wdY G ad A (r, S')) args s 0 0 A) (F0 m 0 ls []) := by
    intro H locs hV
    refine lv_aload_n hx hb dX6_taken_0 rfl (lv_at hl 0 rfl) ?_
    refine lv_iload_n hx hb dX6_taken_1 rfl (lv_at hl 1 rfl) ?_
    refine lv_iload_n hx hb dX6_taken_2 rfl (lv_at hl 2 rfl) ?_
    obtain ⟨r3, S3, k_3, h⟩ := gx_bind_e h
    refine gw_callI X hA hV (gw_runV X hV (o := 0) (As := [.int v1, .int v2]) (rest := []) (mX6_isPlace l G ad _ S k_3) kc_RX6_115 (iYO_0 rfl) rfl rfl rfl hl.1 rfl (Nat.le_of_ble_eq_true rfl) ⟨rfl, rfl⟩ ⟨Nat.le_of_ble_eq_true rfl, Nat.le_of_ble_eq_true rfl⟩ ⟨Nat.le_refl _, Nat.le_refl _⟩ dX6_taken_3) (fun H locs hV => ?_)
    refine lv_if_ne (tgt := 11) hx hb dX6_taken_6 (by decide) (fun c_6 => ?_) (fun c_6 => ?_)
    · rw [if_neg c_6] at h
      refine lv_iload_n hx hb dX6_taken_11 rfl (lv_at hl 3 rfl) ?_
      refine lv_i2l hx hb dX6_taken_12 rfl ?_
      refine lv_lconst (v := 0) hx hb dX6_taken_13 (by decide) ?_
      refine lv_ldc2 (v := 4) hx hb hown (hts _ q_677) dX6_taken_14 ?_
      obtain ⟨r17, S17, k_17, h⟩ := gx_bind_e h
      refine gw_callI X hA hV (gw_runS X hV (As := [.long (Int32.toInt64 v3), .long (0 : Int64), .long (4 : Int64)]) (rest := []) (mX6_in l G ad _ S3 k_17) kc_RX6_77 rfl hl.1 rfl (Nat.le_of_ble_eq_true rfl) ⟨rfl, rfl⟩ ⟨Nat.le_of_ble_eq_true rfl, Nat.le_of_ble_eq_true rfl⟩ ⟨Nat.le_refl _, Nat.le_refl _⟩ dX6_taken_17) (fun H locs hV => ?_)
      refine lv_if_eq (tgt := 34) hx hb dX6_taken_20 (by decide) (fun c_20 => ?_) (fun c_20 => ?_)
      · rw [if_pos c_20] at h
        refine lv_bipush (v := -2) hx hb dX6_taken_34 (by decide) ?_
        exact gw_ireti X hV h dX6_taken_36
      · rw [if_neg c_20] at h
        refine lv_iload hx hb dX6_taken_23 (lv_at hl 4 rfl) ?_
        refine lv_i2l hx hb dX6_taken_25 rfl ?_
        refine lv_lconst (v := 0) hx hb dX6_taken_26 (by decide) ?_
        refine lv_lconst (v := 1) hx hb dX6_taken_27 (by decide) ?_
        obtain ⟨r28, S28, k_28, h⟩ := gx_bind_e h
        refine gw_callI X hA hV (gw_runS X hV (As := [.long (Int32.toInt64 v4), .long (0 : Int64), .long (1 : Int64)]) (rest := []) (mX6_in l G ad _ S17 k_28) kc_RX6_77 rfl hl.1 rfl (Nat.le_of_ble_eq_true rfl) ⟨rfl, rfl⟩ ⟨Nat.le_of_ble_eq_true rfl, Nat.le_of_ble_eq_true rfl⟩ ⟨Nat.le_refl _, Nat.le_refl _⟩ dX6_taken_28) (fun H locs hV => ?_)
        refine lv_if_ne (tgt := 37) hx hb dX6_taken_31 (by decide) (fun c_31 => ?_) (fun c_31 => ?_)
        · rw [if_neg c_31] at h
          refine lv_bipush (v := 8) hx hb dX6_taken_37 (by decide) ?_
          refine lv_iload_n hx hb dX6_taken_39 rfl (lv_at hl 2 rfl) ?_
          refine lv_imul hx hb dX6_taken_40 ?_
          refine lv_iload_n hx hb dX6_taken_41 rfl (lv_at hl 1 rfl) ?_
          refine lv_iadd hx hb dX6_taken_42 ?_
          refine lv_topi (fun v5_43 e_43 => ?_)
          replace h := gx_let_e e_43 h
          clear e_43
          refine lv_istore (lv' := [(5, .int v5_43), (0, .ref (ad 0)), (1, .int v1), (2, .int v2), (3, .int v3), (4, .int v4)]) hx hb dX6_taken_43 hl (by decide) rfl (fun ls hl => ?_)
          refine lv_aload_n hx hb dX6_taken_45 rfl (lv_at hl 1 rfl) ?_
          refine ggX6_23 X hV (o := 0) rfl dX6_taken_46 ?_
          refine lv_iload hx hb dX6_taken_49 (lv_at hl 0 rfl) ?_
          obtain ⟨c_51, h⟩ := gx_chk_e h
          refine gw_iald X hV (iYA_4 (o := 5) rfl) c_51 dX6_taken_51 ?_
          refine lv_topi (fun v6_52 e_52 => ?_)
          replace h := gx_let_e e_52 h
          clear e_52
          refine lv_istore (lv' := [(6, .int v6_52), (5, .int v5_43), (0, .ref (ad 0)), (1, .int v1), (2, .int v2), (3, .int v3), (4, .int v4)]) hx hb dX6_taken_52 hl (by decide) rfl (fun ls hl => ?_)
          refine lv_iload_n hx hb dX6_taken_54 rfl (lv_at hl 5 rfl) ?_
          refine lv_if_eq (tgt := 86) hx hb dX6_taken_55 (by decide) (fun c_55 => ?_) (fun c_55 => ?_)
          · rw [if_pos c_55] at h
            exact tX6_taken_86 X hA _ _ _ _ h hV (lv_sub hl [2, 6, 1, 0] rfl)
          · rw [if_neg c_55] at h
            refine lv_iload_n hx hb dX6_taken_58 rfl (lv_at hl 5 rfl) ?_
            refine lv_iload hx hb dX6_taken_59 (lv_at hl 0 rfl) ?_
            refine lv_icmp_eq (tgt := 86) hx hb dX6_taken_61 (by decide) (fun c_61 => ?_) (fun c_61 => ?_)
            · rw [if_pos c_61] at h
              exact tX6_taken_86 X hA _ _ _ _ h hV (lv_sub hl [2, 6, 1, 0] rfl)
            · rw [if_neg c_61] at h
              refine lv_iload_n hx hb dX6_taken_64 rfl (lv_at hl 5 rfl) ?_
              refine lv_iconst (v := 2) hx hb dX6_taken_65 (by decide) ?_
              refine lv_icmp_ne (tgt := 75) hx hb dX6_taken_66 (by decide) (fun c_66 => ?_) (fun c_66 => ?_)
              · rw [if_neg c_66] at h
                exact tX6_taken_75 X hA _ _ _ _ _ h hV (lv_sub hl [2, 5, 6, 1, 0] rfl)
              · rw [if_pos c_66] at h
                refine lv_iload hx hb dX6_taken_69 (lv_at hl 0 rfl) ?_
                refine lv_iconst (v := 3) hx hb dX6_taken_71 (by decide) ?_
                refine lv_icmp_eq (tgt := 86) hx hb dX6_taken_72 (by decide) (fun c_72 => ?_) (fun c_72 => ?_)
                · rw [if_pos c_72] at h
                  exact tX6_taken_86 X hA _ _ _ _ h hV (lv_sub hl [2, 6, 1, 0] rfl)
                · rw [if_neg c_72] at h
                  exact tX6_taken_75 X hA _ _ _ _ _ h hV (lv_sub hl [2, 5, 6, 1, 0] rfl)
        · rw [if_pos c_31] at h
          refine lv_bipush (v := -2) hx hb dX6_taken_34 (by decide) ?_
          exact gw_ireti X hV h dX6_taken_36
    · rw [if_pos c_6] at h
      refine lv_iconst (v := -1) hx hb dX6_taken_9 (by decide) ?_
      exact gw_ireti X hV h dX6_taken_10
  exact Y _ _ hV
def fX6_tell_46 (S : gS) (v1 : Int32) (v2 : Int32) (v3 : Int32) (t0 : Int32) : Option (Int32 × gS) :=
if v1 = 0 then (gx_chk v2 10 <|
gx_let (gA_up S 10 (Int32.toNatClampNeg v2) v3) fun S68 =>
some (t0, S68)) else
gx_chk v2 10 <|
gx_let (gA_up S 11 (Int32.toNatClampNeg v2) v3) fun S58 =>
some (t0, S58)
def fX6_tell (S : gS) (v1 : Int32) (v2 : Int32) (v3 : Int32) : Option (Int32 × gS) :=
gx_bind (fX6_in S (Int32.toInt64 v2) (0 : Int64) (9 : Int64)) fun r6 S6 =>
if r6 = 0 then (some ((-2 : Int32), S6)) else
gx_bind (fX6_in S6 (Int32.toInt64 v3) (0 : Int64) (100000 : Int64)) fun r18 S18 =>
if r18 = 0 then (some ((-2 : Int32), S18)) else
if v1 = 0 then (gx_chk v2 10 <|
fX6_tell_46 S18 v1 v2 v3 (gA S18 10 (Int32.toNatClampNeg v2))) else
gx_chk v2 10 <|
fX6_tell_46 S18 v1 v2 v3 (gA S18 11 (Int32.toNatClampNeg v2))
def rmX6_tell : Room := { frames := 1, cells := 0, slots := 0, locals := 25 }
set_option maxHeartbeats 4000000 in
set_option maxRecDepth 20000 in
theorem tX6_tell_46 {p : Program} {l : Launch} {e : Env} {s : State} {m : MethodId} {args : Array Value} {below : List Frame} {meth : Method} {c : Code} {G : gG} {ad : Nat → Nat} {A : Nat → Prop} {z : Int32 × gS} (X : gCx p s m args meth c G cX6_tell RX6 (some .int) 5) (hA : ∀ q, s.heap.size ≤ q → A q) (S : gS) (v1 : Int32) (v2 : Int32) (v3 : Int32) (t0 : Int32) (h : fX6_tell_46 S v1 v2 v3 t0 = some z) {H : Heap} {locs : List Loc} {ls : Array Slot} (hV : gV wdY G ad A s.heap S H locs) (hl : lv_has ls 5 [(0, .ref (ad 0)), (1, .int v1), (2, .int v2), (3, .int v3)]) : W p l e rmX6_tell s m args below meth c H locs 0 0 (MQ below (gQi wdY G ad A z) args s 0 0 A) (F0 m 46 ls [.int t0]) := by
  obtain ⟨hx, hb, hr, hml, hown, hts, hlk, hK⟩ := id X
  unfold fX6_tell_46 at h
  refine lv_istore (lv' := [(4, .int t0), (0, .ref (ad 0)), (1, .int v1), (2, .int v2), (3, .int v3)]) hx hb dX6_tell_46 hl (by decide) rfl (fun ls hl => ?_)
  refine lv_iload_n hx hb dX6_tell_48 rfl (lv_at hl 2 rfl) ?_
  refine lv_if_eq (tgt := 62) hx hb dX6_tell_49 (by decide) (fun c_49 => ?_) (fun c_49 => ?_)
  · rw [if_pos c_49] at h
    refine lv_aload_n hx hb dX6_tell_62 rfl (lv_at hl 1 rfl) ?_
    refine ggX6_38 X hV (o := 0) rfl dX6_tell_63 ?_
    refine lv_iload_n hx hb dX6_tell_66 rfl (lv_at hl 3 rfl) ?_
    refine lv_iload_n hx hb dX6_tell_67 rfl (lv_at hl 4 rfl) ?_
    obtain ⟨c_68, h⟩ := gx_chk_e h
    refine gw_iast X hV (iYA_7 (o := 10) rfl) c_68 dX6_tell_68 (fun S68 e_68 H locs hV => ?_)
    replace h := gx_let_e e_68 h
    clear e_68
    refine lv_iload hx hb dX6_tell_69 (lv_at hl 0 rfl) ?_
    exact gw_ireti X hV h dX6_tell_71
  · rw [if_neg c_49] at h
    refine lv_aload_n hx hb dX6_tell_52 rfl (lv_at hl 1 rfl) ?_
    refine ggX6_41 X hV (o := 0) rfl dX6_tell_53 ?_
    refine lv_iload_n hx hb dX6_tell_56 rfl (lv_at hl 3 rfl) ?_
    refine lv_iload_n hx hb dX6_tell_57 rfl (lv_at hl 4 rfl) ?_
    obtain ⟨c_58, h⟩ := gx_chk_e h
    refine gw_iast X hV (iYA_7 (o := 11) rfl) c_58 dX6_tell_58 (fun S58 e_58 H locs hV => ?_)
    replace h := gx_let_e e_58 h
    clear e_58
    refine lv_goto (tgt := 69) hx hb dX6_tell_59 (by decide) ?_
    refine lv_iload hx hb dX6_tell_69 (lv_at hl 0 rfl) ?_
    exact gw_ireti X hV h dX6_tell_71
set_option maxHeartbeats 4000000 in
set_option maxRecDepth 20000 in
theorem mX6_tell (l : Launch) (G : gG) (ad : Nat → Nat) (sz : Nat) (S : gS) {v1 : Int32} {v2 : Int32} {v3 : Int32} {r : Int32} {S' : gS} (h : fX6_tell S v1 v2 v3 = some (r, S')) : gMetI l yX6_tell cX6_tell 5 (some .int) rmX6_tell wdY G ad S sz [.ref (ad 0), .int v1, .int v2, .int v3] r S' := by
  refine gMet_of (by decide) ?_
  intro p e s m below meth c A hA X hnm hV
  have hl := lv_entry ([.ref (ad 0), .int v1, .int v2, .int v3]) (n := 5) (Nat.le_of_ble_eq_true rfl)
  rw [lg_entry_eq]
  generalize (lg_sl ([.ref (ad 0), .int v1, .int v2, .int v3]) ++ List.replicate (5 - (lg_sl ([.ref (ad 0), .int v1, .int v2, .int v3])).length) Slot.unset).toArray = ls at hl ⊢
  have hl : lv_has ls 5 [(0, .ref (ad 0)), (1, .int v1), (2, .int v2), (3, .int v3)] := hl
  obtain ⟨hx, hb, hr, hml, hown, hts, hlk, hK⟩ := id X
  unfold fX6_tell at h
  generalize ([.ref (ad 0), .int v1, .int v2, .int v3].toArray : Array Value) = args at X ⊢
  have Y : ∀ (H : Heap) (locs : List Loc), gV wdY G ad A s.heap S H locs → W p l e rmX6_tell s m args below meth c H locs 0 0 (MQ below (gQi wdY G ad A (r, S')) args s 0 0 A) (F0 m 0 ls []) := by
    intro H locs hV
    refine lv_iload_n hx hb dX6_tell_0 rfl (lv_at hl 2 rfl) ?_
    refine lv_i2l hx hb dX6_tell_1 rfl ?_
    refine lv_lconst (v := 0) hx hb dX6_tell_2 (by decide) ?_
    refine lv_ldc2 (v := 9) hx hb hown (hts _ q_682) dX6_tell_3 ?_
    obtain ⟨r6, S6, k_6, h⟩ := gx_bind_e h
    refine gw_callI X hA hV (gw_runS X hV (As := [.long (Int32.toInt64 v2), .long (0 : Int64), .long (9 : Int64)]) (rest := []) (mX6_in l G ad _ S k_6) kc_RX6_77 rfl hl.1 rfl (Nat.le_of_ble_eq_true rfl) ⟨rfl, rfl⟩ ⟨Nat.le_of_ble_eq_true rfl, Nat.le_of_ble_eq_true rfl⟩ ⟨Nat.le_refl _, Nat.le_refl _⟩ dX6_tell_6) (fun H locs hV => ?_)
    refine lv_if_eq (tgt := 24) hx hb dX6_tell_9 (by decide) (fun c_9 => ?_) (fun c_9 => ?_)
    · rw [if_pos c_9] at h
      refine lv_bipush (v := -2) hx hb dX6_tell_24 (by decide) ?_
      exact gw_ireti X hV h dX6_tell_26
    · rw [if_neg c_9] at h
      refine lv_iload_n hx hb dX6_tell_12 rfl (lv_at hl 3 rfl) ?_
      refine lv_i2l hx hb dX6_tell_13 rfl ?_
      refine lv_lconst (v := 0) hx hb dX6_tell_14 (by decide) ?_
      refine lv_ldc2 (v := 100000) hx hb hown (hts _ q_683) dX6_tell_15 ?_
      obtain ⟨r18, S18, k_18, h⟩ := gx_bind_e h
      refine gw_callI X hA hV (gw_runS X hV (As := [.long (Int32.toInt64 v3), .long (0 : Int64), .long (100000 : Int64)]) (rest := []) (mX6_in l G ad _ S6 k_18) kc_RX6_77 rfl hl.1 rfl (Nat.le_of_ble_eq_true rfl) ⟨rfl, rfl⟩ ⟨Nat.le_of_ble_eq_true rfl, Nat.le_of_ble_eq_true rfl⟩ ⟨Nat.le_refl _, Nat.le_refl _⟩ dX6_tell_18) (fun H locs hV => ?_)
      refine lv_if_ne (tgt := 27) hx hb dX6_tell_21 (by decide) (fun c_21 => ?_) (fun c_21 => ?_)
      · rw [if_neg c_21] at h
        refine lv_iload_n hx hb dX6_tell_27 rfl (lv_at hl 1 rfl) ?_
        refine lv_if_eq (tgt := 40) hx hb dX6_tell_28 (by decide) (fun c_28 => ?_) (fun c_28 => ?_)
        · rw [if_pos c_28] at h
          refine lv_aload_n hx hb dX6_tell_40 rfl (lv_at hl 0 rfl) ?_
          refine ggX6_38 X hV (o := 0) rfl dX6_tell_41 ?_
          refine lv_iload_n hx hb dX6_tell_44 rfl (lv_at hl 2 rfl) ?_
          obtain ⟨c_45, h⟩ := gx_chk_e h
          refine gw_iald X hV (iYA_7 (o := 10) rfl) c_45 dX6_tell_45 ?_
          exact tX6_tell_46 X hA _ _ _ _ _ h hV (lv_sub hl [0, 1, 2, 3] rfl)
        · rw [if_neg c_28] at h
          refine lv_aload_n hx hb dX6_tell_31 rfl (lv_at hl 0 rfl) ?_
          refine ggX6_41 X hV (o := 0) rfl dX6_tell_32 ?_
          refine lv_iload_n hx hb dX6_tell_35 rfl (lv_at hl 2 rfl) ?_
          obtain ⟨c_36, h⟩ := gx_chk_e h
          refine gw_iald X hV (iYA_7 (o := 11) rfl) c_36 dX6_tell_36 ?_
          refine lv_goto (tgt := 46) hx hb dX6_tell_37 (by decide) ?_
          exact tX6_tell_46 X hA _ _ _ _ _ h hV (lv_sub hl [0, 1, 2, 3] rfl)
      · rw [if_pos c_21] at h
        refine lv_bipush (v := -2) hx hb dX6_tell_24 (by decide) ?_
        exact gw_ireti X hV h dX6_tell_26
  exact Y _ _ hV
def fX6_rule (S : gS) (v1 : Int32) (v2 : Int32) : Option (Int32 × gS) :=
gx_bind (fX6_in S (Int32.toInt64 v1) (0 : Int64) (100 : Int64)) fun r6 S6 =>
if r6 = 0 then (some ((-2 : Int32), S6)) else
gx_bind (fX6_in S6 (Int32.toInt64 v2) (1 : Int64) (1000000 : Int64)) fun r18 S18 =>
if r18 = 0 then (some ((-2 : Int32), S18)) else
gx_let (gI S18 0 16) fun v3_31 =>
gx_let (gI_up S18 0 15 v1) fun S34 =>
gx_let (gI_up S34 0 16 v2) fun S39 =>
some (v3_31, S39)
def rmX6_rule : Room := { frames := 1, cells := 0, slots := 0, locals := 25 }
set_option maxHeartbeats 4000000 in
set_option maxRecDepth 20000 in
theorem mX6_rule (l : Launch) (G : gG) (ad : Nat → Nat) (sz : Nat) (S : gS) {v1 : Int32} {v2 : Int32} {r : Int32} {S' : gS} (h : fX6_rule S v1 v2 = some (r, S')) : gMetI l yX6_rule cX6_rule 4 (some .int) rmX6_rule wdY G ad S sz [.ref (ad 0), .int v1, .int v2] r S' := by
  refine gMet_of (by decide) ?_
  intro p e s m below meth c A hA X hnm hV
  have hl := lv_entry ([.ref (ad 0), .int v1, .int v2]) (n := 4) (Nat.le_of_ble_eq_true rfl)
  rw [lg_entry_eq]
  generalize (lg_sl ([.ref (ad 0), .int v1, .int v2]) ++ List.replicate (4 - (lg_sl ([.ref (ad 0), .int v1, .int v2])).length) Slot.unset).toArray = ls at hl ⊢
  have hl : lv_has ls 4 [(0, .ref (ad 0)), (1, .int v1), (2, .int v2)] := hl
  obtain ⟨hx, hb, hr, hml, hown, hts, hlk, hK⟩ := id X
  unfold fX6_rule at h
  generalize ([.ref (ad 0), .int v1, .int v2].toArray : Array Value) = args at X ⊢
  have Y : ∀ (H : Heap) (locs : List Loc), gV wdY G ad A s.heap S H locs → W p l e rmX6_rule s m args below meth c H locs 0 0 (MQ below (gQi wdY G ad A (r, S')) args s 0 0 A) (F0 m 0 ls []) := by
    intro H locs hV
    refine lv_iload_n hx hb dX6_rule_0 rfl (lv_at hl 1 rfl) ?_
    refine lv_i2l hx hb dX6_rule_1 rfl ?_
    refine lv_lconst (v := 0) hx hb dX6_rule_2 (by decide) ?_
    refine lv_ldc2 (v := 100) hx hb hown (hts _ q_672) dX6_rule_3 ?_
    obtain ⟨r6, S6, k_6, h⟩ := gx_bind_e h
    refine gw_callI X hA hV (gw_runS X hV (As := [.long (Int32.toInt64 v1), .long (0 : Int64), .long (100 : Int64)]) (rest := []) (mX6_in l G ad _ S k_6) kc_RX6_77 rfl hl.1 rfl (Nat.le_of_ble_eq_true rfl) ⟨rfl, rfl⟩ ⟨Nat.le_of_ble_eq_true rfl, Nat.le_of_ble_eq_true rfl⟩ ⟨Nat.le_refl _, Nat.le_refl _⟩ dX6_rule_6) (fun H locs hV => ?_)
    refine lv_if_eq (tgt := 24) hx hb dX6_rule_9 (by decide) (fun c_9 => ?_) (fun c_9 => ?_)
    · rw [if_pos c_9] at h
      refine lv_bipush (v := -2) hx hb dX6_rule_24 (by decide) ?_
      exact gw_ireti X hV h dX6_rule_26
    · rw [if_neg c_9] at h
      refine lv_iload_n hx hb dX6_rule_12 rfl (lv_at hl 2 rfl) ?_
      refine lv_i2l hx hb dX6_rule_13 rfl ?_
      refine lv_lconst (v := 1) hx hb dX6_rule_14 (by decide) ?_
      refine lv_ldc2 (v := 1000000) hx hb hown (hts _ q_688) dX6_rule_15 ?_
      obtain ⟨r18, S18, k_18, h⟩ := gx_bind_e h
      refine gw_callI X hA hV (gw_runS X hV (As := [.long (Int32.toInt64 v2), .long (1 : Int64), .long (1000000 : Int64)]) (rest := []) (mX6_in l G ad _ S6 k_18) kc_RX6_77 rfl hl.1 rfl (Nat.le_of_ble_eq_true rfl) ⟨rfl, rfl⟩ ⟨Nat.le_of_ble_eq_true rfl, Nat.le_of_ble_eq_true rfl⟩ ⟨Nat.le_refl _, Nat.le_refl _⟩ dX6_rule_18) (fun H locs hV => ?_)
      refine lv_if_ne (tgt := 27) hx hb dX6_rule_21 (by decide) (fun c_21 => ?_) (fun c_21 => ?_)
      · rw [if_neg c_21] at h
        refine lv_aload_n hx hb dX6_rule_27 rfl (lv_at hl 0 rfl) ?_
        refine ggX6_44 X hV (o := 0) rfl dX6_rule_28 ?_
        refine lv_topi (fun v3_31 e_31 => ?_)
        replace h := gx_let_e e_31 h
        clear e_31
        refine lv_istore_n (lv' := [(3, .int v3_31), (0, .ref (ad 0)), (1, .int v1), (2, .int v2)]) hx hb dX6_rule_31 rfl hl (by decide) rfl (fun ls hl => ?_)
        refine lv_aload_n hx hb dX6_rule_32 rfl (lv_at hl 1 rfl) ?_
        refine lv_iload_n hx hb dX6_rule_33 rfl (lv_at hl 2 rfl) ?_
        refine gpX6_131 X hV (o := 0) rfl dX6_rule_34 (fun S34 e_34 H locs hV => ?_)
        replace h := gx_let_e e_34 h
        clear e_34
        refine lv_aload_n hx hb dX6_rule_37 rfl (lv_at hl 1 rfl) ?_
        refine lv_iload_n hx hb dX6_rule_38 rfl (lv_at hl 3 rfl) ?_
        refine gpX6_44 X hV (o := 0) rfl dX6_rule_39 (fun S39 e_39 H locs hV => ?_)
        replace h := gx_let_e e_39 h
        clear e_39
        refine lv_iload_n hx hb dX6_rule_42 rfl (lv_at hl 0 rfl) ?_
        exact gw_ireti X hV h dX6_rule_43
      · rw [if_pos c_21] at h
        refine lv_bipush (v := -2) hx hb dX6_rule_24 (by decide) ?_
        exact gw_ireti X hV h dX6_rule_26
  exact Y _ _ hV
def fX6_thick_5L (K5 : gS → Int32 → Int64 → Int32 → Option (Int64 × gS)) (S : gS) (v1 : Int32) (v2 : Int64) (v4 : Int32) : Option (Int64 × gS) :=
if (61 : Int32) ≤ v4 then (some (v2, S)) else
gx_chk (((61 : Int32) * v1) + v4) 3904 <|
gx_let (v2 + (gJ S 8 (Int32.toNatClampNeg (((61 : Int32) * v1) + v4)))) fun v2_26 =>
gx_let (v4 + (1 : Int32)) fun v4_27 =>
K5 S v1 v2_26 v4_27
def fX6_thick_5 : Nat → gS → Int32 → Int64 → Int32 → Option (Int64 × gS)
  | 0, _, _, _, _ => none
  | f + 1, S, v1, v2, v4 => fX6_thick_5L (fX6_thick_5 f) S v1 v2 v4
def fX6_thick (S : gS) (v1 : Int32) : Option (Int64 × gS) :=
fX6_thick_5 gx_fuel S v1 (0 : Int64) (0 : Int32)
def rmX6_thick : Room := { frames := 0, cells := 0, slots := 0, locals := 0 }
set_option maxHeartbeats 4000000 in
set_option maxRecDepth 20000 in
theorem tX6_thick_5L {p : Program} {l : Launch} {e : Env} {s : State} {m : MethodId} {args : Array Value} {below : List Frame} {meth : Method} {c : Code} {G : gG} {ad : Nat → Nat} {A : Nat → Prop} {z : Int64 × gS} {K5 : gS → Int32 → Int64 → Int32 → Option (Int64 × gS)} (X : gCx p s m args meth c G cX6_thick RX6 (some .long) 5) (hA : ∀ q, s.heap.size ≤ q → A q) (kK5 : ∀ (S : gS) (v1 : Int32) (v2 : Int64) (v4 : Int32), K5 S v1 v2 v4 = some z → ∀ (H : Heap) (locs : List Loc) (ls : Array Slot), gV wdY G ad A s.heap S H locs → lv_has ls 5 [(0, .ref (ad 0)), (1, .int v1), (2, .long v2), (4, .int v4)] → W p l e rmX6_thick s m args below meth c H locs 0 0 (MQ below (gQl wdY G ad A z) args s 0 0 A) (F0 m 5 ls [])) (S : gS) (v1 : Int32) (v2 : Int64) (v4 : Int32) (h : fX6_thick_5L K5 S v1 v2 v4 = some z) {H : Heap} {locs : List Loc} {ls : Array Slot} (hV : gV wdY G ad A s.heap S H locs) (hl : lv_has ls 5 [(0, .ref (ad 0)), (1, .int v1), (2, .long v2), (4, .int v4)]) : W p l e rmX6_thick s m args below meth c H locs 0 0 (MQ below (gQl wdY G ad A z) args s 0 0 A) (F0 m 5 ls []) := by
  obtain ⟨hx, hb, hr, hml, hown, hts, hlk, hK⟩ := id X
  unfold fX6_thick_5L at h
  refine lv_iload hx hb dX6_thick_5 (lv_at hl 3 rfl) ?_
  refine lv_bipush (v := 61) hx hb dX6_thick_7 (by decide) ?_
  refine lv_icmp_ge (tgt := 33) hx hb dX6_thick_9 (by decide) (fun c_9 => ?_) (fun c_9 => ?_)
  · rw [if_pos c_9] at h
    refine lv_lload_n hx hb dX6_thick_33 rfl (lv_at hl 2 rfl) ?_
    exact gw_lret X hV h dX6_thick_34
  · rw [if_neg c_9] at h
    refine lv_lload_n hx hb dX6_thick_12 rfl (lv_at hl 2 rfl) ?_
    refine lv_aload_n hx hb dX6_thick_13 rfl (lv_at hl 0 rfl) ?_
    refine ggX6_32 X hV (o := 0) rfl dX6_thick_14 ?_
    refine lv_bipush (v := 61) hx hb dX6_thick_17 (by decide) ?_
    refine lv_iload_n hx hb dX6_thick_19 rfl (lv_at hl 1 rfl) ?_
    refine lv_imul hx hb dX6_thick_20 ?_
    refine lv_iload hx hb dX6_thick_21 (lv_at hl 3 rfl) ?_
    refine lv_iadd hx hb dX6_thick_23 ?_
    obtain ⟨c_24, h⟩ := gx_chk_e h
    refine gw_lald X hV (iYJ_5 (o := 8) rfl) c_24 dX6_thick_24 ?_
    refine lv_ladd hx hb dX6_thick_25 ?_
    refine lv_topl (fun v2_26 e_26 => ?_)
    replace h := gx_let_e e_26 h
    clear e_26
    refine lv_lstore_n (lv' := [(2, .long v2_26), (0, .ref (ad 0)), (1, .int v1), (4, .int v4)]) hx hb dX6_thick_26 rfl hl (by decide) rfl (fun ls hl => ?_)
    obtain ⟨v4_27, e_27⟩ : ∃ y : Int32, y = (v4 + (1 : Int32)) := ⟨_, rfl⟩
    refine lv_iinc (v := v4_27) (lv' := [(4, .int v4_27), (2, .long v2_26), (0, .ref (ad 0)), (1, .int v1)]) hx hb dX6_thick_27 hl (k := 3) rfl (by rw [e_27]; rfl) (by decide) rfl (fun ls hl => ?_)
    replace h := gx_let_e e_27 h
    clear e_27
    refine lv_goto (tgt := 5) hx hb dX6_thick_30 (by decide) ?_
    exact kK5 _ _ _ _ h _ _ _ hV (lv_sub hl [2, 3, 1, 0] rfl)
set_option maxHeartbeats 4000000 in
set_option maxRecDepth 20000 in
theorem tX6_thick_5 {p : Program} {l : Launch} {e : Env} {s : State} {m : MethodId} {args : Array Value} {below : List Frame} {meth : Method} {c : Code} {G : gG} {ad : Nat → Nat} {A : Nat → Prop} {z : Int64 × gS} (X : gCx p s m args meth c G cX6_thick RX6 (some .long) 5) (hA : ∀ q, s.heap.size ≤ q → A q) : ∀ (f : Nat) (S : gS) (v1 : Int32) (v2 : Int64) (v4 : Int32) (h : fX6_thick_5 f S v1 v2 v4 = some z) (H : Heap) (locs : List Loc) (ls : Array Slot) (hV : gV wdY G ad A s.heap S H locs) (hl : lv_has ls 5 [(0, .ref (ad 0)), (1, .int v1), (2, .long v2), (4, .int v4)]), W p l e rmX6_thick s m args below meth c H locs 0 0 (MQ below (gQl wdY G ad A z) args s 0 0 A) (F0 m 5 ls []) := by
  intro f
  induction f with
  | zero => intro S v1 v2 v4 h; exact absurd h (by simp [fX6_thick_5])
  | succ f ih => intro S v1 v2 v4 h H locs ls hV hl; exact tX6_thick_5L X hA ih S v1 v2 v4 h hV hl
set_option maxHeartbeats 4000000 in
set_option maxRecDepth 20000 in
theorem mX6_thick (l : Launch) (G : gG) (ad : Nat → Nat) (sz : Nat) (S : gS) {v1 : Int32} {r : Int64} {S' : gS} (h : fX6_thick S v1 = some (r, S')) : gMetL l yX6_thick cX6_thick 5 (some .long) rmX6_thick wdY G ad S sz [.ref (ad 0), .int v1] r S' := by
  refine gMet_of (by decide) ?_
  intro p e s m below meth c A hA X hnm hV
  have hl := lv_entry ([.ref (ad 0), .int v1]) (n := 5) (Nat.le_of_ble_eq_true rfl)
  rw [lg_entry_eq]
  generalize (lg_sl ([.ref (ad 0), .int v1]) ++ List.replicate (5 - (lg_sl ([.ref (ad 0), .int v1])).length) Slot.unset).toArray = ls at hl ⊢
  have hl : lv_has ls 5 [(0, .ref (ad 0)), (1, .int v1)] := hl
  obtain ⟨hx, hb, hr, hml, hown, hts, hlk, hK⟩ := id X
  unfold fX6_thick at h
  generalize ([.ref (ad 0), .int v1].toArray : Array Value) = args at X ⊢
  have Y : ∀ (H : Heap) (locs : List Loc), gV wdY G ad A s.heap S H locs → W p l e rmX6_thick s m args below meth c H locs 0 0 (MQ below (gQl wdY G ad A (r, S')) args s 0 0 A) (F0 m 0 ls []) := by
    intro H locs hV
    refine lv_lconst (v := 0) hx hb dX6_thick_0 (by decide) ?_
    refine lv_lstore_n (lv' := [(2, .long (0 : Int64)), (0, .ref (ad 0)), (1, .int v1)]) hx hb dX6_thick_1 rfl hl (by decide) rfl (fun ls hl => ?_)
    refine lv_iconst (v := 0) hx hb dX6_thick_2 (by decide) ?_
    refine lv_istore (lv' := [(4, .int (0 : Int32)), (2, .long (0 : Int64)), (0, .ref (ad 0)), (1, .int v1)]) hx hb dX6_thick_3 hl (by decide) rfl (fun ls hl => ?_)
    exact tX6_thick_5 X hA gx_fuel _ _ _ _ h _ _ _ hV (lv_sub hl [2, 3, 1, 0] rfl)
  exact Y _ _ hV
theorem kc_RX6_136 : gKV RX6 136 yX6_thick cX6_thick 5 (some .long) 1 := ⟨q_694, q_696, q_22, q_697, q_42, by decide +kernel⟩
def fX6_ice (S : gS) (v1 : Int32) (v2 : Int32) (v3 : Int32) : Option (Int64 × gS) :=
gx_bind (fX6_isPlace S v1 v2) fun r3 S3 =>
if r3 = 0 then (some ((-1 : Int64), S3)) else
gx_bind (fX6_in S3 (Int32.toInt64 v3) (0 : Int64) (1000000 : Int64)) fun r19 S19 =>
if r19 = 0 then (some ((-2 : Int64), S19)) else
gx_let (((8 : Int32) * v2) + v1) fun v4_35 =>
gx_chk v4_35 64 <|
if (gA S19 5 (Int32.toNatClampNeg v4_35)) = (4 : Int32) then (some ((-3 : Int64), S19)) else
if (gI S19 0 7) = 0 then (gx_chk ((61 : Int32) * v4_35) 3904 <|
gx_chk ((61 : Int32) * v4_35) 3904 <|
gx_let (gJ_up S19 8 (Int32.toNatClampNeg ((61 : Int32) * v4_35)) ((gJ S19 8 (Int32.toNatClampNeg ((61 : Int32) * v4_35))) + (Int32.toInt64 v3))) fun S73 =>
gx_chk (244 : Int32) 305 <|
gx_chk (244 : Int32) 305 <|
gx_let (gJ_up S73 9 (Int32.toNatClampNeg (244 : Int32)) ((gJ S73 9 (Int32.toNatClampNeg (244 : Int32))) + (Int32.toInt64 v3))) fun S86 =>
gx_let (gI_up S86 0 17 (0 : Int32)) fun S89 =>
gx_bind (fX6_thick S89 v4_35) fun r95 S95 =>
some (r95, S95)) else
some ((-3 : Int64), S19)
def rmX6_ice : Room := { frames := 2, cells := 0, slots := 0, locals := 47 }
set_option maxHeartbeats 4000000 in
set_option maxRecDepth 20000 in
theorem mX6_ice (l : Launch) (G : gG) (ad : Nat → Nat) (sz : Nat) (S : gS) {v1 : Int32} {v2 : Int32} {v3 : Int32} {r : Int64} {S' : gS} (h : fX6_ice S v1 v2 v3 = some (r, S')) : gMetL l yX6_ice cX6_ice 5 (some .long) rmX6_ice wdY G ad S sz [.ref (ad 0), .int v1, .int v2, .int v3] r S' := by
  refine gMet_of (by decide) ?_
  intro p e s m below meth c A hA X hnm hV
  have hl := lv_entry ([.ref (ad 0), .int v1, .int v2, .int v3]) (n := 5) (Nat.le_of_ble_eq_true rfl)
  rw [lg_entry_eq]
  generalize (lg_sl ([.ref (ad 0), .int v1, .int v2, .int v3]) ++ List.replicate (5 - (lg_sl ([.ref (ad 0), .int v1, .int v2, .int v3])).length) Slot.unset).toArray = ls at hl ⊢
  have hl : lv_has ls 5 [(0, .ref (ad 0)), (1, .int v1), (2, .int v2), (3, .int v3)] := hl
  obtain ⟨hx, hb, hr, hml, hown, hts, hlk, hK⟩ := id X
  unfold fX6_ice at h
  generalize ([.ref (ad 0), .int v1, .int v2, .int v3].toArray : Array Value) = args at X ⊢
  have Y : ∀ (H : Heap) (locs : List Loc), gV wdY G ad A s.heap S H locs → W p l e rmX6_ice s m args below meth c H locs 0 0 (MQ below (gQl wdY G ad A (r, S')) args s 0 0 A) (F0 m 0 ls []) := by
    intro H locs hV
    refine lv_aload_n hx hb dX6_ice_0 rfl (lv_at hl 0 rfl) ?_
    refine lv_iload_n hx hb dX6_ice_1 rfl (lv_at hl 1 rfl) ?_
    refine lv_iload_n hx hb dX6_ice_2 rfl (lv_at hl 2 rfl) ?_
    obtain ⟨r3, S3, k_3, h⟩ := gx_bind_e h
    refine gw_callI X hA hV (gw_runV X hV (o := 0) (As := [.int v1, .int v2]) (rest := []) (mX6_isPlace l G ad _ S k_3) kc_RX6_115 (iYO_0 rfl) rfl rfl rfl hl.1 rfl (Nat.le_of_ble_eq_true rfl) ⟨rfl, rfl⟩ ⟨Nat.le_of_ble_eq_true rfl, Nat.le_of_ble_eq_true rfl⟩ ⟨Nat.le_refl _, Nat.le_refl _⟩ dX6_ice_3) (fun H locs hV => ?_)
    refine lv_if_ne (tgt := 13) hx hb dX6_ice_6 (by decide) (fun c_6 => ?_) (fun c_6 => ?_)
    · rw [if_neg c_6] at h
      refine lv_iload_n hx hb dX6_ice_13 rfl (lv_at hl 3 rfl) ?_
      refine lv_i2l hx hb dX6_ice_14 rfl ?_
      refine lv_lconst (v := 0) hx hb dX6_ice_15 (by decide) ?_
      refine lv_ldc2 (v := 1000000) hx hb hown (hts _ q_688) dX6_ice_16 ?_
      obtain ⟨r19, S19, k_19, h⟩ := gx_bind_e h
      refine gw_callI X hA hV (gw_runS X hV (As := [.long (Int32.toInt64 v3), .long (0 : Int64), .long (1000000 : Int64)]) (rest := []) (mX6_in l G ad _ S3 k_19) kc_RX6_77 rfl hl.1 rfl (Nat.le_of_ble_eq_true rfl) ⟨rfl, rfl⟩ ⟨Nat.le_of_ble_eq_true rfl, Nat.le_of_ble_eq_true rfl⟩ ⟨Nat.le_refl _, Nat.le_refl _⟩ dX6_ice_19) (fun H locs hV => ?_)
      refine lv_if_ne (tgt := 29) hx hb dX6_ice_22 (by decide) (fun c_22 => ?_) (fun c_22 => ?_)
      · rw [if_neg c_22] at h
        refine lv_bipush (v := 8) hx hb dX6_ice_29 (by decide) ?_
        refine lv_iload_n hx hb dX6_ice_31 rfl (lv_at hl 2 rfl) ?_
        refine lv_imul hx hb dX6_ice_32 ?_
        refine lv_iload_n hx hb dX6_ice_33 rfl (lv_at hl 1 rfl) ?_
        refine lv_iadd hx hb dX6_ice_34 ?_
        refine lv_topi (fun v4_35 e_35 => ?_)
        replace h := gx_let_e e_35 h
        clear e_35
        refine lv_istore (lv' := [(4, .int v4_35), (0, .ref (ad 0)), (1, .int v1), (2, .int v2), (3, .int v3)]) hx hb dX6_ice_35 hl (by decide) rfl (fun ls hl => ?_)
        refine lv_aload_n hx hb dX6_ice_37 rfl (lv_at hl 1 rfl) ?_
        refine ggX6_23 X hV (o := 0) rfl dX6_ice_38 ?_
        refine lv_iload hx hb dX6_ice_41 (lv_at hl 0 rfl) ?_
        obtain ⟨c_43, h⟩ := gx_chk_e h
        refine gw_iald X hV (iYA_4 (o := 5) rfl) c_43 dX6_ice_43 ?_
        refine lv_iconst (v := 4) hx hb dX6_ice_44 (by decide) ?_
        refine lv_icmp_eq (tgt := 55) hx hb dX6_ice_45 (by decide) (fun c_45 => ?_) (fun c_45 => ?_)
        · rw [if_pos c_45] at h
          refine lv_ldc2 (v := -3) hx hb hown (hts _ q_693) dX6_ice_55 ?_
          exact gw_lret X hV h dX6_ice_58
        · rw [if_neg c_45] at h
          refine lv_aload_n hx hb dX6_ice_48 rfl (lv_at hl 1 rfl) ?_
          refine ggX6_107 X hV (o := 0) rfl dX6_ice_49 ?_
          refine lv_if_eq (tgt := 59) hx hb dX6_ice_52 (by decide) (fun c_52 => ?_) (fun c_52 => ?_)
          · rw [if_pos c_52] at h
            refine lv_aload_n hx hb dX6_ice_59 rfl (lv_at hl 1 rfl) ?_
            refine ggX6_32 X hV (o := 0) rfl dX6_ice_60 ?_
            refine lv_bipush (v := 61) hx hb dX6_ice_63 (by decide) ?_
            refine lv_iload hx hb dX6_ice_65 (lv_at hl 0 rfl) ?_
            refine lv_imul hx hb dX6_ice_67 ?_
            refine lv_dup2_11 hx hb dX6_ice_68 rfl rfl ?_
            obtain ⟨c_69, h⟩ := gx_chk_e h
            refine gw_lald X hV (iYJ_5 (o := 8) rfl) c_69 dX6_ice_69 ?_
            refine lv_iload_n hx hb dX6_ice_70 rfl (lv_at hl 4 rfl) ?_
            refine lv_i2l hx hb dX6_ice_71 rfl ?_
            refine lv_ladd hx hb dX6_ice_72 ?_
            obtain ⟨c_73, h⟩ := gx_chk_e h
            refine gw_last X hV (iYJ_5 (o := 8) rfl) c_73 dX6_ice_73 (fun S73 e_73 H locs hV => ?_)
            replace h := gx_let_e e_73 h
            clear e_73
            refine lv_aload_n hx hb dX6_ice_74 rfl (lv_at hl 1 rfl) ?_
            refine ggX6_35 X hV (o := 0) rfl dX6_ice_75 ?_
            refine lv_sipush (v := 244) hx hb dX6_ice_78 (by decide) ?_
            refine lv_dup2_11 hx hb dX6_ice_81 rfl rfl ?_
            obtain ⟨c_82, h⟩ := gx_chk_e h
            refine gw_lald X hV (iYJ_6 (o := 9) rfl) c_82 dX6_ice_82 ?_
            refine lv_iload_n hx hb dX6_ice_83 rfl (lv_at hl 4 rfl) ?_
            refine lv_i2l hx hb dX6_ice_84 rfl ?_
            refine lv_ladd hx hb dX6_ice_85 ?_
            obtain ⟨c_86, h⟩ := gx_chk_e h
            refine gw_last X hV (iYJ_6 (o := 9) rfl) c_86 dX6_ice_86 (fun S86 e_86 H locs hV => ?_)
            replace h := gx_let_e e_86 h
            clear e_86
            refine lv_aload_n hx hb dX6_ice_87 rfl (lv_at hl 1 rfl) ?_
            refine lv_iconst (v := 0) hx hb dX6_ice_88 (by decide) ?_
            refine gpX6_110 X hV (o := 0) rfl dX6_ice_89 (fun S89 e_89 H locs hV => ?_)
            replace h := gx_let_e e_89 h
            clear e_89
            refine lv_aload_n hx hb dX6_ice_92 rfl (lv_at hl 1 rfl) ?_
            refine lv_iload hx hb dX6_ice_93 (lv_at hl 0 rfl) ?_
            obtain ⟨r95, S95, k_95, h⟩ := gx_bind_e h
            refine gw_callL X hA hV (gw_runV X hV (o := 0) (As := [.int v4_35]) (rest := []) (mX6_thick l G ad _ S89 k_95) kc_RX6_136 (iYO_0 rfl) rfl rfl rfl hl.1 rfl (Nat.le_of_ble_eq_true rfl) ⟨rfl, rfl⟩ ⟨Nat.le_of_ble_eq_true rfl, Nat.le_of_ble_eq_true rfl⟩ ⟨Nat.le_refl _, Nat.le_refl _⟩ dX6_ice_95) (fun H locs hV => ?_)
            exact gw_lret X hV h dX6_ice_98
          · rw [if_neg c_52] at h
            refine lv_ldc2 (v := -3) hx hb hown (hts _ q_693) dX6_ice_55 ?_
            exact gw_lret X hV h dX6_ice_58
      · rw [if_pos c_22] at h
        refine lv_ldc2 (v := -2) hx hb hown (hts _ q_652) dX6_ice_25 ?_
        exact gw_lret X hV h dX6_ice_28
    · rw [if_pos c_6] at h
      refine lv_ldc2 (v := -1) hx hb hown (hts _ q_651) dX6_ice_9 ?_
      exact gw_lret X hV h dX6_ice_12
  exact Y _ _ hV
def fX6_keep_38L (K38 : gS → Int32 → Option (Unit × gS)) (S : gS) (v1 : Int32) : Option (Unit × gS) :=
if (305 : Int32) ≤ v1 then (gx_let (gI_up S 0 18 (((gI S 0 18) + (1 : Int32)) - ((gI S 0 18) + (1 : Int32)) / (5 : Int32) * (5 : Int32))) fun S81 =>
if (5 : Int32) ≤ (gI S81 0 17) then (gx_let (gI_up S81 0 17 (5 : Int32)) fun S103 =>
some ((), S103)) else
gx_let (gI_up S81 0 17 ((gI S81 0 17) + (1 : Int32))) fun S103 =>
some ((), S103)) else
gx_chk v1 305 <|
gx_chk (((305 : Int32) * (gI S 0 18)) + v1) 1525 <|
gx_let (gJ_up S 13 (Int32.toNatClampNeg (((305 : Int32) * (gI S 0 18)) + v1)) (gJ S 9 (Int32.toNatClampNeg v1))) fun S65 =>
gx_let (v1 + (1 : Int32)) fun v1_66 =>
K38 S65 v1_66
def fX6_keep_38 : Nat → gS → Int32 → Option (Unit × gS)
  | 0, _, _ => none
  | f + 1, S, v1 => fX6_keep_38L (fX6_keep_38 f) S v1
def fX6_keep_2L (K2 : gS → Int32 → Option (Unit × gS)) (S : gS) (v1 : Int32) : Option (Unit × gS) :=
if (3904 : Int32) ≤ v1 then (fX6_keep_38 gx_fuel S (0 : Int32)) else
gx_chk v1 3904 <|
gx_chk (((3904 : Int32) * (gI S 0 18)) + v1) 19520 <|
gx_let (gJ_up S 12 (Int32.toNatClampNeg (((3904 : Int32) * (gI S 0 18)) + v1)) (gJ S 8 (Int32.toNatClampNeg v1))) fun S29 =>
gx_let (v1 + (1 : Int32)) fun v1_30 =>
K2 S29 v1_30
def fX6_keep_2 : Nat → gS → Int32 → Option (Unit × gS)
  | 0, _, _ => none
  | f + 1, S, v1 => fX6_keep_2L (fX6_keep_2 f) S v1
def fX6_keep (S : gS) : Option (Unit × gS) :=
fX6_keep_2 gx_fuel S (0 : Int32)
def rmX6_keep : Room := { frames := 0, cells := 0, slots := 0, locals := 0 }
set_option maxHeartbeats 4000000 in
set_option maxRecDepth 20000 in
theorem tX6_keep_38L {p : Program} {l : Launch} {e : Env} {s : State} {m : MethodId} {args : Array Value} {below : List Frame} {meth : Method} {c : Code} {G : gG} {ad : Nat → Nat} {A : Nat → Prop} {z : Unit × gS} {K38 : gS → Int32 → Option (Unit × gS)} (X : gCx p s m args meth c G cX6_keep RX6 none 2) (hA : ∀ q, s.heap.size ≤ q → A q) (kK38 : ∀ (S : gS) (v1 : Int32), K38 S v1 = some z → ∀ (H : Heap) (locs : List Loc) (ls : Array Slot), gV wdY G ad A s.heap S H locs → lv_has ls 2 [(0, .ref (ad 0)), (1, .int v1)] → W p l e rmX6_keep s m args below meth c H locs 0 0 (MQ below (gQv wdY G ad A z) args s 0 0 A) (F0 m 38 ls [])) (S : gS) (v1 : Int32) (h : fX6_keep_38L K38 S v1 = some z) {H : Heap} {locs : List Loc} {ls : Array Slot} (hV : gV wdY G ad A s.heap S H locs) (hl : lv_has ls 2 [(0, .ref (ad 0)), (1, .int v1)]) : W p l e rmX6_keep s m args below meth c H locs 0 0 (MQ below (gQv wdY G ad A z) args s 0 0 A) (F0 m 38 ls []) := by
  obtain ⟨hx, hb, hr, hml, hown, hts, hlk, hK⟩ := id X
  unfold fX6_keep_38L at h
  refine lv_iload_n hx hb dX6_keep_38 rfl (lv_at hl 1 rfl) ?_
  refine lv_sipush (v := 305) hx hb dX6_keep_39 (by decide) ?_
  refine lv_icmp_ge (tgt := 72) hx hb dX6_keep_42 (by decide) (fun c_42 => ?_) (fun c_42 => ?_)
  · rw [if_pos c_42] at h
    refine lv_aload_n hx hb dX6_keep_72 rfl (lv_at hl 0 rfl) ?_
    refine lv_aload_n hx hb dX6_keep_73 rfl (lv_at hl 0 rfl) ?_
    refine ggX6_140 X hV (o := 0) rfl dX6_keep_74 ?_
    refine lv_iconst (v := 1) hx hb dX6_keep_77 (by decide) ?_
    refine lv_iadd hx hb dX6_keep_78 ?_
    refine lv_iconst (v := 5) hx hb dX6_keep_79 (by decide) ?_
    refine lv_irem hx hb dX6_keep_80 (by decide) ?_
    refine gpX6_140 X hV (o := 0) rfl dX6_keep_81 (fun S81 e_81 H locs hV => ?_)
    replace h := gx_let_e e_81 h
    clear e_81
    refine lv_aload_n hx hb dX6_keep_84 rfl (lv_at hl 0 rfl) ?_
    refine lv_aload_n hx hb dX6_keep_85 rfl (lv_at hl 0 rfl) ?_
    refine ggX6_110 X hV (o := 0) rfl dX6_keep_86 ?_
    refine lv_iconst (v := 5) hx hb dX6_keep_89 (by decide) ?_
    refine lv_icmp_ge (tgt := 102) hx hb dX6_keep_90 (by decide) (fun c_90 => ?_) (fun c_90 => ?_)
    · rw [if_pos c_90] at h
      refine lv_iconst (v := 5) hx hb dX6_keep_102 (by decide) ?_
      refine gpX6_110 X hV (o := 0) rfl dX6_keep_103 (fun S103 e_103 H locs hV => ?_)
      replace h := gx_let_e e_103 h
      clear e_103
      exact gw_vret X hV h dX6_keep_106
    · rw [if_neg c_90] at h
      refine lv_aload_n hx hb dX6_keep_93 rfl (lv_at hl 0 rfl) ?_
      refine ggX6_110 X hV (o := 0) rfl dX6_keep_94 ?_
      refine lv_iconst (v := 1) hx hb dX6_keep_97 (by decide) ?_
      refine lv_iadd hx hb dX6_keep_98 ?_
      refine lv_goto (tgt := 103) hx hb dX6_keep_99 (by decide) ?_
      refine gpX6_110 X hV (o := 0) rfl dX6_keep_103 (fun S103 e_103 H locs hV => ?_)
      replace h := gx_let_e e_103 h
      clear e_103
      exact gw_vret X hV h dX6_keep_106
  · rw [if_neg c_42] at h
    refine lv_aload_n hx hb dX6_keep_45 rfl (lv_at hl 0 rfl) ?_
    refine ggX6_51 X hV (o := 0) rfl dX6_keep_46 ?_
    refine lv_sipush (v := 305) hx hb dX6_keep_49 (by decide) ?_
    refine lv_aload_n hx hb dX6_keep_52 rfl (lv_at hl 0 rfl) ?_
    refine ggX6_140 X hV (o := 0) rfl dX6_keep_53 ?_
    refine lv_imul hx hb dX6_keep_56 ?_
    refine lv_iload_n hx hb dX6_keep_57 rfl (lv_at hl 1 rfl) ?_
    refine lv_iadd hx hb dX6_keep_58 ?_
    refine lv_aload_n hx hb dX6_keep_59 rfl (lv_at hl 0 rfl) ?_
    refine ggX6_35 X hV (o := 0) rfl dX6_keep_60 ?_
    refine lv_iload_n hx hb dX6_keep_63 rfl (lv_at hl 1 rfl) ?_
    obtain ⟨c_64, h⟩ := gx_chk_e h
    refine gw_lald X hV (iYJ_6 (o := 9) rfl) c_64 dX6_keep_64 ?_
    obtain ⟨c_65, h⟩ := gx_chk_e h
    refine gw_last X hV (iYJ_9 (o := 13) rfl) c_65 dX6_keep_65 (fun S65 e_65 H locs hV => ?_)
    replace h := gx_let_e e_65 h
    clear e_65
    obtain ⟨v1_66, e_66⟩ : ∃ y : Int32, y = (v1 + (1 : Int32)) := ⟨_, rfl⟩
    refine lv_iinc (v := v1_66) (lv' := [(1, .int v1_66), (0, .ref (ad 0))]) hx hb dX6_keep_66 hl (k := 1) rfl (by rw [e_66]; rfl) (by decide) rfl (fun ls hl => ?_)
    replace h := gx_let_e e_66 h
    clear e_66
    refine lv_goto (tgt := 38) hx hb dX6_keep_69 (by decide) ?_
    exact kK38 _ _ h _ _ _ hV (lv_sub hl [1, 0] rfl)
set_option maxHeartbeats 4000000 in
set_option maxRecDepth 20000 in
theorem tX6_keep_38 {p : Program} {l : Launch} {e : Env} {s : State} {m : MethodId} {args : Array Value} {below : List Frame} {meth : Method} {c : Code} {G : gG} {ad : Nat → Nat} {A : Nat → Prop} {z : Unit × gS} (X : gCx p s m args meth c G cX6_keep RX6 none 2) (hA : ∀ q, s.heap.size ≤ q → A q) : ∀ (f : Nat) (S : gS) (v1 : Int32) (h : fX6_keep_38 f S v1 = some z) (H : Heap) (locs : List Loc) (ls : Array Slot) (hV : gV wdY G ad A s.heap S H locs) (hl : lv_has ls 2 [(0, .ref (ad 0)), (1, .int v1)]), W p l e rmX6_keep s m args below meth c H locs 0 0 (MQ below (gQv wdY G ad A z) args s 0 0 A) (F0 m 38 ls []) := by
  intro f
  induction f with
  | zero => intro S v1 h; exact absurd h (by simp [fX6_keep_38])
  | succ f ih => intro S v1 h H locs ls hV hl; exact tX6_keep_38L X hA ih S v1 h hV hl
set_option maxHeartbeats 4000000 in
set_option maxRecDepth 20000 in
theorem tX6_keep_2L {p : Program} {l : Launch} {e : Env} {s : State} {m : MethodId} {args : Array Value} {below : List Frame} {meth : Method} {c : Code} {G : gG} {ad : Nat → Nat} {A : Nat → Prop} {z : Unit × gS} {K2 : gS → Int32 → Option (Unit × gS)} (X : gCx p s m args meth c G cX6_keep RX6 none 2) (hA : ∀ q, s.heap.size ≤ q → A q) (kK2 : ∀ (S : gS) (v1 : Int32), K2 S v1 = some z → ∀ (H : Heap) (locs : List Loc) (ls : Array Slot), gV wdY G ad A s.heap S H locs → lv_has ls 2 [(0, .ref (ad 0)), (1, .int v1)] → W p l e rmX6_keep s m args below meth c H locs 0 0 (MQ below (gQv wdY G ad A z) args s 0 0 A) (F0 m 2 ls [])) (S : gS) (v1 : Int32) (h : fX6_keep_2L K2 S v1 = some z) {H : Heap} {locs : List Loc} {ls : Array Slot} (hV : gV wdY G ad A s.heap S H locs) (hl : lv_has ls 2 [(0, .ref (ad 0)), (1, .int v1)]) : W p l e rmX6_keep s m args below meth c H locs 0 0 (MQ below (gQv wdY G ad A z) args s 0 0 A) (F0 m 2 ls []) := by
  obtain ⟨hx, hb, hr, hml, hown, hts, hlk, hK⟩ := id X
  unfold fX6_keep_2L at h
  refine lv_iload_n hx hb dX6_keep_2 rfl (lv_at hl 1 rfl) ?_
  refine lv_sipush (v := 3904) hx hb dX6_keep_3 (by decide) ?_
  refine lv_icmp_ge (tgt := 36) hx hb dX6_keep_6 (by decide) (fun c_6 => ?_) (fun c_6 => ?_)
  · rw [if_pos c_6] at h
    refine lv_iconst (v := 0) hx hb dX6_keep_36 (by decide) ?_
    refine lv_istore_n (lv' := [(1, .int (0 : Int32)), (0, .ref (ad 0))]) hx hb dX6_keep_37 rfl hl (by decide) rfl (fun ls hl => ?_)
    exact tX6_keep_38 X hA gx_fuel _ _ h _ _ _ hV (lv_sub hl [1, 0] rfl)
  · rw [if_neg c_6] at h
    refine lv_aload_n hx hb dX6_keep_9 rfl (lv_at hl 0 rfl) ?_
    refine ggX6_48 X hV (o := 0) rfl dX6_keep_10 ?_
    refine lv_sipush (v := 3904) hx hb dX6_keep_13 (by decide) ?_
    refine lv_aload_n hx hb dX6_keep_16 rfl (lv_at hl 0 rfl) ?_
    refine ggX6_140 X hV (o := 0) rfl dX6_keep_17 ?_
    refine lv_imul hx hb dX6_keep_20 ?_
    refine lv_iload_n hx hb dX6_keep_21 rfl (lv_at hl 1 rfl) ?_
    refine lv_iadd hx hb dX6_keep_22 ?_
    refine lv_aload_n hx hb dX6_keep_23 rfl (lv_at hl 0 rfl) ?_
    refine ggX6_32 X hV (o := 0) rfl dX6_keep_24 ?_
    refine lv_iload_n hx hb dX6_keep_27 rfl (lv_at hl 1 rfl) ?_
    obtain ⟨c_28, h⟩ := gx_chk_e h
    refine gw_lald X hV (iYJ_5 (o := 8) rfl) c_28 dX6_keep_28 ?_
    obtain ⟨c_29, h⟩ := gx_chk_e h
    refine gw_last X hV (iYJ_8 (o := 12) rfl) c_29 dX6_keep_29 (fun S29 e_29 H locs hV => ?_)
    replace h := gx_let_e e_29 h
    clear e_29
    obtain ⟨v1_30, e_30⟩ : ∃ y : Int32, y = (v1 + (1 : Int32)) := ⟨_, rfl⟩
    refine lv_iinc (v := v1_30) (lv' := [(1, .int v1_30), (0, .ref (ad 0))]) hx hb dX6_keep_30 hl (k := 1) rfl (by rw [e_30]; rfl) (by decide) rfl (fun ls hl => ?_)
    replace h := gx_let_e e_30 h
    clear e_30
    refine lv_goto (tgt := 2) hx hb dX6_keep_33 (by decide) ?_
    exact kK2 _ _ h _ _ _ hV (lv_sub hl [1, 0] rfl)
set_option maxHeartbeats 4000000 in
set_option maxRecDepth 20000 in
theorem tX6_keep_2 {p : Program} {l : Launch} {e : Env} {s : State} {m : MethodId} {args : Array Value} {below : List Frame} {meth : Method} {c : Code} {G : gG} {ad : Nat → Nat} {A : Nat → Prop} {z : Unit × gS} (X : gCx p s m args meth c G cX6_keep RX6 none 2) (hA : ∀ q, s.heap.size ≤ q → A q) : ∀ (f : Nat) (S : gS) (v1 : Int32) (h : fX6_keep_2 f S v1 = some z) (H : Heap) (locs : List Loc) (ls : Array Slot) (hV : gV wdY G ad A s.heap S H locs) (hl : lv_has ls 2 [(0, .ref (ad 0)), (1, .int v1)]), W p l e rmX6_keep s m args below meth c H locs 0 0 (MQ below (gQv wdY G ad A z) args s 0 0 A) (F0 m 2 ls []) := by
  intro f
  induction f with
  | zero => intro S v1 h; exact absurd h (by simp [fX6_keep_2])
  | succ f ih => intro S v1 h H locs ls hV hl; exact tX6_keep_2L X hA ih S v1 h hV hl
set_option maxHeartbeats 4000000 in
set_option maxRecDepth 20000 in
theorem mX6_keep (l : Launch) (G : gG) (ad : Nat → Nat) (sz : Nat) (S : gS) {r : Unit} {S' : gS} (h : fX6_keep S = some (r, S')) : gMetV l yX6_keep cX6_keep 2 none rmX6_keep wdY G ad S sz [.ref (ad 0)] r S' := by
  refine gMet_of (by decide) ?_
  intro p e s m below meth c A hA X hnm hV
  have hl := lv_entry ([.ref (ad 0)]) (n := 2) (Nat.le_of_ble_eq_true rfl)
  rw [lg_entry_eq]
  generalize (lg_sl ([.ref (ad 0)]) ++ List.replicate (2 - (lg_sl ([.ref (ad 0)])).length) Slot.unset).toArray = ls at hl ⊢
  have hl : lv_has ls 2 [(0, .ref (ad 0))] := hl
  obtain ⟨hx, hb, hr, hml, hown, hts, hlk, hK⟩ := id X
  unfold fX6_keep at h
  generalize ([.ref (ad 0)].toArray : Array Value) = args at X ⊢
  have Y : ∀ (H : Heap) (locs : List Loc), gV wdY G ad A s.heap S H locs → W p l e rmX6_keep s m args below meth c H locs 0 0 (MQ below (gQv wdY G ad A (r, S')) args s 0 0 A) (F0 m 0 ls []) := by
    intro H locs hV
    refine lv_iconst (v := 0) hx hb dX6_keep_0 (by decide) ?_
    refine lv_istore_n (lv' := [(1, .int (0 : Int32)), (0, .ref (ad 0))]) hx hb dX6_keep_1 rfl hl (by decide) rfl (fun ls hl => ?_)
    exact tX6_keep_2 X hA gx_fuel _ _ h _ _ _ hV (lv_sub hl [1, 0] rfl)
  exact Y _ _ hV
def fX6_back_70L (K70 : gS → Int32 → Option (Int32 × gS)) (S : gS) (v1 : Int32) : Option (Int32 × gS) :=
if (305 : Int32) ≤ v1 then (gx_let (gI_up S 0 7 ((gI S 0 7) - (1 : Int32))) fun S111 =>
some ((gI S111 0 7), S111)) else
gx_chk (((305 : Int32) * (gI S 0 18)) + v1) 1525 <|
gx_chk v1 305 <|
gx_let (gJ_up S 9 (Int32.toNatClampNeg v1) (gJ S 13 (Int32.toNatClampNeg (((305 : Int32) * (gI S 0 18)) + v1)))) fun S97 =>
gx_let (v1 + (1 : Int32)) fun v1_98 =>
K70 S97 v1_98
def fX6_back_70 : Nat → gS → Int32 → Option (Int32 × gS)
  | 0, _, _ => none
  | f + 1, S, v1 => fX6_back_70L (fX6_back_70 f) S v1
def fX6_back_34L (K34 : gS → Int32 → Option (Int32 × gS)) (S : gS) (v1 : Int32) : Option (Int32 × gS) :=
if (3904 : Int32) ≤ v1 then (fX6_back_70 gx_fuel S (0 : Int32)) else
gx_chk (((3904 : Int32) * (gI S 0 18)) + v1) 19520 <|
gx_chk v1 3904 <|
gx_let (gJ_up S 8 (Int32.toNatClampNeg v1) (gJ S 12 (Int32.toNatClampNeg (((3904 : Int32) * (gI S 0 18)) + v1)))) fun S61 =>
gx_let (v1 + (1 : Int32)) fun v1_62 =>
K34 S61 v1_62
def fX6_back_34 : Nat → gS → Int32 → Option (Int32 × gS)
  | 0, _, _ => none
  | f + 1, S, v1 => fX6_back_34L (fX6_back_34 f) S v1
def fX6_back (S : gS) : Option (Int32 × gS) :=
if (gI S 0 17) = 0 then (some ((-3 : Int32), S)) else
gx_let (gI_up S 0 17 ((gI S 0 17) - (1 : Int32))) fun S17 =>
gx_let (gI_up S17 0 18 (((gI S17 0 18) + (4 : Int32)) - ((gI S17 0 18) + (4 : Int32)) / (5 : Int32) * (5 : Int32))) fun S29 =>
fX6_back_34 gx_fuel S29 (0 : Int32)
def rmX6_back : Room := { frames := 0, cells := 0, slots := 0, locals := 0 }
set_option maxHeartbeats 4000000 in
set_option maxRecDepth 20000 in
theorem tX6_back_70L {p : Program} {l : Launch} {e : Env} {s : State} {m : MethodId} {args : Array Value} {below : List Frame} {meth : Method} {c : Code} {G : gG} {ad : Nat → Nat} {A : Nat → Prop} {z : Int32 × gS} {K70 : gS → Int32 → Option (Int32 × gS)} (X : gCx p s m args meth c G cX6_back RX6 (some .int) 2) (hA : ∀ q, s.heap.size ≤ q → A q) (kK70 : ∀ (S : gS) (v1 : Int32), K70 S v1 = some z → ∀ (H : Heap) (locs : List Loc) (ls : Array Slot), gV wdY G ad A s.heap S H locs → lv_has ls 2 [(0, .ref (ad 0)), (1, .int v1)] → W p l e rmX6_back s m args below meth c H locs 0 0 (MQ below (gQi wdY G ad A z) args s 0 0 A) (F0 m 70 ls [])) (S : gS) (v1 : Int32) (h : fX6_back_70L K70 S v1 = some z) {H : Heap} {locs : List Loc} {ls : Array Slot} (hV : gV wdY G ad A s.heap S H locs) (hl : lv_has ls 2 [(0, .ref (ad 0)), (1, .int v1)]) : W p l e rmX6_back s m args below meth c H locs 0 0 (MQ below (gQi wdY G ad A z) args s 0 0 A) (F0 m 70 ls []) := by
  obtain ⟨hx, hb, hr, hml, hown, hts, hlk, hK⟩ := id X
  unfold fX6_back_70L at h
  refine lv_iload_n hx hb dX6_back_70 rfl (lv_at hl 1 rfl) ?_
  refine lv_sipush (v := 305) hx hb dX6_back_71 (by decide) ?_
  refine lv_icmp_ge (tgt := 104) hx hb dX6_back_74 (by decide) (fun c_74 => ?_) (fun c_74 => ?_)
  · rw [if_pos c_74] at h
    refine lv_aload_n hx hb dX6_back_104 rfl (lv_at hl 0 rfl) ?_
    refine lv_dup hx hb dX6_back_105 rfl ?_
    refine ggX6_107 X hV (o := 0) rfl dX6_back_106 ?_
    refine lv_iconst (v := 1) hx hb dX6_back_109 (by decide) ?_
    refine lv_isub hx hb dX6_back_110 ?_
    refine gpX6_107 X hV (o := 0) rfl dX6_back_111 (fun S111 e_111 H locs hV => ?_)
    replace h := gx_let_e e_111 h
    clear e_111
    refine lv_aload_n hx hb dX6_back_114 rfl (lv_at hl 0 rfl) ?_
    refine ggX6_107 X hV (o := 0) rfl dX6_back_115 ?_
    exact gw_ireti X hV h dX6_back_118
  · rw [if_neg c_74] at h
    refine lv_aload_n hx hb dX6_back_77 rfl (lv_at hl 0 rfl) ?_
    refine ggX6_35 X hV (o := 0) rfl dX6_back_78 ?_
    refine lv_iload_n hx hb dX6_back_81 rfl (lv_at hl 1 rfl) ?_
    refine lv_aload_n hx hb dX6_back_82 rfl (lv_at hl 0 rfl) ?_
    refine ggX6_51 X hV (o := 0) rfl dX6_back_83 ?_
    refine lv_sipush (v := 305) hx hb dX6_back_86 (by decide) ?_
    refine lv_aload_n hx hb dX6_back_89 rfl (lv_at hl 0 rfl) ?_
    refine ggX6_140 X hV (o := 0) rfl dX6_back_90 ?_
    refine lv_imul hx hb dX6_back_93 ?_
    refine lv_iload_n hx hb dX6_back_94 rfl (lv_at hl 1 rfl) ?_
    refine lv_iadd hx hb dX6_back_95 ?_
    obtain ⟨c_96, h⟩ := gx_chk_e h
    refine gw_lald X hV (iYJ_9 (o := 13) rfl) c_96 dX6_back_96 ?_
    obtain ⟨c_97, h⟩ := gx_chk_e h
    refine gw_last X hV (iYJ_6 (o := 9) rfl) c_97 dX6_back_97 (fun S97 e_97 H locs hV => ?_)
    replace h := gx_let_e e_97 h
    clear e_97
    obtain ⟨v1_98, e_98⟩ : ∃ y : Int32, y = (v1 + (1 : Int32)) := ⟨_, rfl⟩
    refine lv_iinc (v := v1_98) (lv' := [(1, .int v1_98), (0, .ref (ad 0))]) hx hb dX6_back_98 hl (k := 1) rfl (by rw [e_98]; rfl) (by decide) rfl (fun ls hl => ?_)
    replace h := gx_let_e e_98 h
    clear e_98
    refine lv_goto (tgt := 70) hx hb dX6_back_101 (by decide) ?_
    exact kK70 _ _ h _ _ _ hV (lv_sub hl [1, 0] rfl)
set_option maxHeartbeats 4000000 in
set_option maxRecDepth 20000 in
theorem tX6_back_70 {p : Program} {l : Launch} {e : Env} {s : State} {m : MethodId} {args : Array Value} {below : List Frame} {meth : Method} {c : Code} {G : gG} {ad : Nat → Nat} {A : Nat → Prop} {z : Int32 × gS} (X : gCx p s m args meth c G cX6_back RX6 (some .int) 2) (hA : ∀ q, s.heap.size ≤ q → A q) : ∀ (f : Nat) (S : gS) (v1 : Int32) (h : fX6_back_70 f S v1 = some z) (H : Heap) (locs : List Loc) (ls : Array Slot) (hV : gV wdY G ad A s.heap S H locs) (hl : lv_has ls 2 [(0, .ref (ad 0)), (1, .int v1)]), W p l e rmX6_back s m args below meth c H locs 0 0 (MQ below (gQi wdY G ad A z) args s 0 0 A) (F0 m 70 ls []) := by
  intro f
  induction f with
  | zero => intro S v1 h; exact absurd h (by simp [fX6_back_70])
  | succ f ih => intro S v1 h H locs ls hV hl; exact tX6_back_70L X hA ih S v1 h hV hl
set_option maxHeartbeats 4000000 in
set_option maxRecDepth 20000 in
theorem tX6_back_34L {p : Program} {l : Launch} {e : Env} {s : State} {m : MethodId} {args : Array Value} {below : List Frame} {meth : Method} {c : Code} {G : gG} {ad : Nat → Nat} {A : Nat → Prop} {z : Int32 × gS} {K34 : gS → Int32 → Option (Int32 × gS)} (X : gCx p s m args meth c G cX6_back RX6 (some .int) 2) (hA : ∀ q, s.heap.size ≤ q → A q) (kK34 : ∀ (S : gS) (v1 : Int32), K34 S v1 = some z → ∀ (H : Heap) (locs : List Loc) (ls : Array Slot), gV wdY G ad A s.heap S H locs → lv_has ls 2 [(0, .ref (ad 0)), (1, .int v1)] → W p l e rmX6_back s m args below meth c H locs 0 0 (MQ below (gQi wdY G ad A z) args s 0 0 A) (F0 m 34 ls [])) (S : gS) (v1 : Int32) (h : fX6_back_34L K34 S v1 = some z) {H : Heap} {locs : List Loc} {ls : Array Slot} (hV : gV wdY G ad A s.heap S H locs) (hl : lv_has ls 2 [(0, .ref (ad 0)), (1, .int v1)]) : W p l e rmX6_back s m args below meth c H locs 0 0 (MQ below (gQi wdY G ad A z) args s 0 0 A) (F0 m 34 ls []) := by
  obtain ⟨hx, hb, hr, hml, hown, hts, hlk, hK⟩ := id X
  unfold fX6_back_34L at h
  refine lv_iload_n hx hb dX6_back_34 rfl (lv_at hl 1 rfl) ?_
  refine lv_sipush (v := 3904) hx hb dX6_back_35 (by decide) ?_
  refine lv_icmp_ge (tgt := 68) hx hb dX6_back_38 (by decide) (fun c_38 => ?_) (fun c_38 => ?_)
  · rw [if_pos c_38] at h
    refine lv_iconst (v := 0) hx hb dX6_back_68 (by decide) ?_
    refine lv_istore_n (lv' := [(1, .int (0 : Int32)), (0, .ref (ad 0))]) hx hb dX6_back_69 rfl hl (by decide) rfl (fun ls hl => ?_)
    exact tX6_back_70 X hA gx_fuel _ _ h _ _ _ hV (lv_sub hl [1, 0] rfl)
  · rw [if_neg c_38] at h
    refine lv_aload_n hx hb dX6_back_41 rfl (lv_at hl 0 rfl) ?_
    refine ggX6_32 X hV (o := 0) rfl dX6_back_42 ?_
    refine lv_iload_n hx hb dX6_back_45 rfl (lv_at hl 1 rfl) ?_
    refine lv_aload_n hx hb dX6_back_46 rfl (lv_at hl 0 rfl) ?_
    refine ggX6_48 X hV (o := 0) rfl dX6_back_47 ?_
    refine lv_sipush (v := 3904) hx hb dX6_back_50 (by decide) ?_
    refine lv_aload_n hx hb dX6_back_53 rfl (lv_at hl 0 rfl) ?_
    refine ggX6_140 X hV (o := 0) rfl dX6_back_54 ?_
    refine lv_imul hx hb dX6_back_57 ?_
    refine lv_iload_n hx hb dX6_back_58 rfl (lv_at hl 1 rfl) ?_
    refine lv_iadd hx hb dX6_back_59 ?_
    obtain ⟨c_60, h⟩ := gx_chk_e h
    refine gw_lald X hV (iYJ_8 (o := 12) rfl) c_60 dX6_back_60 ?_
    obtain ⟨c_61, h⟩ := gx_chk_e h
    refine gw_last X hV (iYJ_5 (o := 8) rfl) c_61 dX6_back_61 (fun S61 e_61 H locs hV => ?_)
    replace h := gx_let_e e_61 h
    clear e_61
    obtain ⟨v1_62, e_62⟩ : ∃ y : Int32, y = (v1 + (1 : Int32)) := ⟨_, rfl⟩
    refine lv_iinc (v := v1_62) (lv' := [(1, .int v1_62), (0, .ref (ad 0))]) hx hb dX6_back_62 hl (k := 1) rfl (by rw [e_62]; rfl) (by decide) rfl (fun ls hl => ?_)
    replace h := gx_let_e e_62 h
    clear e_62
    refine lv_goto (tgt := 34) hx hb dX6_back_65 (by decide) ?_
    exact kK34 _ _ h _ _ _ hV (lv_sub hl [1, 0] rfl)
set_option maxHeartbeats 4000000 in
set_option maxRecDepth 20000 in
theorem tX6_back_34 {p : Program} {l : Launch} {e : Env} {s : State} {m : MethodId} {args : Array Value} {below : List Frame} {meth : Method} {c : Code} {G : gG} {ad : Nat → Nat} {A : Nat → Prop} {z : Int32 × gS} (X : gCx p s m args meth c G cX6_back RX6 (some .int) 2) (hA : ∀ q, s.heap.size ≤ q → A q) : ∀ (f : Nat) (S : gS) (v1 : Int32) (h : fX6_back_34 f S v1 = some z) (H : Heap) (locs : List Loc) (ls : Array Slot) (hV : gV wdY G ad A s.heap S H locs) (hl : lv_has ls 2 [(0, .ref (ad 0)), (1, .int v1)]), W p l e rmX6_back s m args below meth c H locs 0 0 (MQ below (gQi wdY G ad A z) args s 0 0 A) (F0 m 34 ls []) := by
  intro f
  induction f with
  | zero => intro S v1 h; exact absurd h (by simp [fX6_back_34])
  | succ f ih => intro S v1 h H locs ls hV hl; exact tX6_back_34L X hA ih S v1 h hV hl
set_option maxHeartbeats 4000000 in
set_option maxRecDepth 20000 in
theorem mX6_back (l : Launch) (G : gG) (ad : Nat → Nat) (sz : Nat) (S : gS) {r : Int32} {S' : gS} (h : fX6_back S = some (r, S')) : gMetI l yX6_back cX6_back 2 (some .int) rmX6_back wdY G ad S sz [.ref (ad 0)] r S' := by
  refine gMet_of (by decide) ?_
  intro p e s m below meth c A hA X hnm hV
  have hl := lv_entry ([.ref (ad 0)]) (n := 2) (Nat.le_of_ble_eq_true rfl)
  rw [lg_entry_eq]
  generalize (lg_sl ([.ref (ad 0)]) ++ List.replicate (2 - (lg_sl ([.ref (ad 0)])).length) Slot.unset).toArray = ls at hl ⊢
  have hl : lv_has ls 2 [(0, .ref (ad 0))] := hl
  obtain ⟨hx, hb, hr, hml, hown, hts, hlk, hK⟩ := id X
  unfold fX6_back at h
  generalize ([.ref (ad 0)].toArray : Array Value) = args at X ⊢
  have Y : ∀ (H : Heap) (locs : List Loc), gV wdY G ad A s.heap S H locs → W p l e rmX6_back s m args below meth c H locs 0 0 (MQ below (gQi wdY G ad A (r, S')) args s 0 0 A) (F0 m 0 ls []) := by
    intro H locs hV
    refine lv_aload_n hx hb dX6_back_0 rfl (lv_at hl 0 rfl) ?_
    refine ggX6_110 X hV (o := 0) rfl dX6_back_1 ?_
    refine lv_if_ne (tgt := 10) hx hb dX6_back_4 (by decide) (fun c_4 => ?_) (fun c_4 => ?_)
    · rw [if_neg c_4] at h
      refine lv_aload_n hx hb dX6_back_10 rfl (lv_at hl 0 rfl) ?_
      refine lv_dup hx hb dX6_back_11 rfl ?_
      refine ggX6_110 X hV (o := 0) rfl dX6_back_12 ?_
      refine lv_iconst (v := 1) hx hb dX6_back_15 (by decide) ?_
      refine lv_isub hx hb dX6_back_16 ?_
      refine gpX6_110 X hV (o := 0) rfl dX6_back_17 (fun S17 e_17 H locs hV => ?_)
      replace h := gx_let_e e_17 h
      clear e_17
      refine lv_aload_n hx hb dX6_back_20 rfl (lv_at hl 0 rfl) ?_
      refine lv_aload_n hx hb dX6_back_21 rfl (lv_at hl 0 rfl) ?_
      refine ggX6_140 X hV (o := 0) rfl dX6_back_22 ?_
      refine lv_iconst (v := 4) hx hb dX6_back_25 (by decide) ?_
      refine lv_iadd hx hb dX6_back_26 ?_
      refine lv_iconst (v := 5) hx hb dX6_back_27 (by decide) ?_
      refine lv_irem hx hb dX6_back_28 (by decide) ?_
      refine gpX6_140 X hV (o := 0) rfl dX6_back_29 (fun S29 e_29 H locs hV => ?_)
      replace h := gx_let_e e_29 h
      clear e_29
      refine lv_iconst (v := 0) hx hb dX6_back_32 (by decide) ?_
      refine lv_istore_n (lv' := [(1, .int (0 : Int32)), (0, .ref (ad 0))]) hx hb dX6_back_33 rfl hl (by decide) rfl (fun ls hl => ?_)
      exact tX6_back_34 X hA gx_fuel _ _ h _ _ _ hV (lv_sub hl [1, 0] rfl)
    · rw [if_pos c_4] at h
      refine lv_bipush (v := -3) hx hb dX6_back_7 (by decide) ?_
      exact gw_ireti X hV h dX6_back_9
  exact Y _ _ hV

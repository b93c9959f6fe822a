theorem kc_RX5_210 : gKV RX5 210 yX1_lies cX1_lies 1 (some .boolean) 0 := ⟨q_355, q_356, q_357, q_358, q_38, by decide +kernel⟩
def fX5_refusalOfYears (S : gS) (v1 : Int32) : Option (Int32 × gS) :=
if v1 < (1 : Int32) then (some ((-2 : Int32), S)) else
if v1 ≤ (60 : Int32) then (gx_bind (fX1_lies 5 S) fun r18 S18 =>
if r18 = 0 then (some ((-3 : Int32), S18)) else
if ((gI S18 10 3) + v1) ≤ (60 : Int32) then (some ((0 : Int32), S18)) else
some ((-4 : Int32), S18)) else
some ((-2 : Int32), S)
def rmX5_refusalOfYears : Room := { frames := 1, cells := 0, slots := 0, locals := 20 }
set_option maxHeartbeats 4000000 in
set_option maxRecDepth 20000 in
theorem mX5_refusalOfYears (l : Launch) (G : gG) (ad : Nat → Nat) (sz : Nat) (S : gS) {v1 : Int32} {r : Int32} {S' : gS} (h : fX5_refusalOfYears S v1 = some (r, S')) : gMetI l yX5_refusalOfYears cX5_refusalOfYears 2 (some .int) rmX5_refusalOfYears wdX G ad S sz [.ref (ad 0), .int v1] r S' := by
  refine gMet_of (by decide) ?_
  intro p e s m below meth c A hA X hnm hV
  have hl := lv_entry ([.ref (ad 0), .int v1]) (n := 2) (Nat.le_of_ble_eq_true rfl)
  rw [lg_entry_eq]
  generalize (lg_sl ([.ref (ad 0), .int v1]) ++ List.replicate (2 - (lg_sl ([.ref (ad 0), .int v1])).length) Slot.unset).toArray = ls at hl ⊢
  have hl : lv_has ls 2 [(0, .ref (ad 0)), (1, .int v1)] := hl
  obtain ⟨hx, hb, hr, hml, hown, hts, hlk, hK⟩ := id X
  unfold fX5_refusalOfYears at h
  generalize ([.ref (ad 0), .int v1].toArray : Array Value) = args at X ⊢
  have Y : ∀ (H : Heap) (locs : List Loc), gV wdX G ad A s.heap S H locs → W p l e rmX5_refusalOfYears s m args below meth c H locs 0 0 (MQ below (gQi wdX G ad A (r, S')) args s 0 0 A) (F0 m 0 ls []) := by
    intro H locs hV
    refine lv_iload_n hx hb dX5_refusalOfYears_0 rfl (lv_at hl 1 rfl) ?_
    refine lv_iconst (v := 1) hx hb dX5_refusalOfYears_1 (by decide) ?_
    refine lv_icmp_lt (tgt := 11) hx hb dX5_refusalOfYears_2 (by decide) (fun c_2 => ?_) (fun c_2 => ?_)
    · rw [if_pos c_2] at h
      refine lv_bipush (v := -2) hx hb dX5_refusalOfYears_11 (by decide) ?_
      exact gw_ireti X hV h dX5_refusalOfYears_13
    · rw [if_neg c_2] at h
      refine lv_iload_n hx hb dX5_refusalOfYears_5 rfl (lv_at hl 1 rfl) ?_
      refine lv_bipush (v := 60) hx hb dX5_refusalOfYears_6 (by decide) ?_
      refine lv_icmp_le (tgt := 14) hx hb dX5_refusalOfYears_8 (by decide) (fun c_8 => ?_) (fun c_8 => ?_)
      · rw [if_pos c_8] at h
        refine lv_aload_n hx hb dX5_refusalOfYears_14 rfl (lv_at hl 0 rfl) ?_
        refine ggX5_25 X hV (o := 0) rfl dX5_refusalOfYears_15 ?_
        obtain ⟨r18, S18, k_18, h⟩ := gx_bind_e h
        refine gw_callI X hA hV (gw_runV X hV (o := 5) (As := []) (rest := []) (mX1_lies l G ad _ S rfl k_18) kc_RX5_210 (iXO_4 rfl) rfl rfl rfl hl.1 rfl (Nat.le_of_ble_eq_true rfl) ⟨rfl, rfl⟩ ⟨Nat.le_of_ble_eq_true rfl, Nat.le_of_ble_eq_true rfl⟩ ⟨Nat.le_refl _, Nat.le_refl _⟩ dX5_refusalOfYears_18) (fun H locs hV => ?_)
        refine lv_if_ne (tgt := 27) hx hb dX5_refusalOfYears_21 (by decide) (fun c_21 => ?_) (fun c_21 => ?_)
        · rw [if_neg c_21] at h
          refine lv_aload_n hx hb dX5_refusalOfYears_27 rfl (lv_at hl 0 rfl) ?_
          refine ggX5_32 X hV (o := 0) rfl dX5_refusalOfYears_28 ?_
          refine ggX5_160 X hV (o := 10) rfl dX5_refusalOfYears_31 ?_
          refine lv_iload_n hx hb dX5_refusalOfYears_34 rfl (lv_at hl 1 rfl) ?_
          refine lv_iadd hx hb dX5_refusalOfYears_35 ?_
          refine lv_bipush (v := 60) hx hb dX5_refusalOfYears_36 (by decide) ?_
          refine lv_icmp_le (tgt := 46) hx hb dX5_refusalOfYears_38 (by decide) (fun c_38 => ?_) (fun c_38 => ?_)
          · rw [if_pos c_38] at h
            refine lv_iconst (v := 0) hx hb dX5_refusalOfYears_46 (by decide) ?_
            exact gw_ireti X hV h dX5_refusalOfYears_47
          · rw [if_neg c_38] at h
            refine lv_bipush (v := -4) hx hb dX5_refusalOfYears_41 (by decide) ?_
            refine lv_goto (tgt := 47) hx hb dX5_refusalOfYears_43 (by decide) ?_
            exact gw_ireti X hV h dX5_refusalOfYears_47
        · rw [if_pos c_21] at h
          refine lv_bipush (v := -3) hx hb dX5_refusalOfYears_24 (by decide) ?_
          exact gw_ireti X hV h dX5_refusalOfYears_26
      · rw [if_neg c_8] at h
        refine lv_bipush (v := -2) hx hb dX5_refusalOfYears_11 (by decide) ?_
        exact gw_ireti X hV h dX5_refusalOfYears_13
  exact Y _ _ hV
theorem kc_RX5_204 : gKV RX5 204 yX1_band cX1_band 2 (some .int) 1 := ⟨q_376, q_377, q_378, q_379, q_38, by decide +kernel⟩
theorem kc_RX5_279 : gKV RX5 279 yX1_meltLeft cX1_meltLeft 5 (some .long) 2 := ⟨q_380, q_381, q_382, q_383, q_38, by decide +kernel⟩
theorem kc_RX5_283 : gKV RX5 283 yX0_lose cX0_lose 10 none 3 := ⟨q_385, q_386, q_387, q_388, q_39, by decide +kernel⟩
def fX5_snowAndMelt_2L (K2 : gS → Int32 → Option (Unit × gS)) (S : gS) (v1 : Int32) : Option (Unit × gS) :=
if (gI S 5 4) ≤ v1 then (some ((), S)) else
gx_chk v1 64 <|
gx_let (gA S 9 (Int32.toNatClampNeg v1)) fun v2_22 =>
gx_bind (fX1_band 5 S v2_22) fun r28 S28 =>
gx_chk r28 10 <|
gx_bind (fX0_arrive 10 S28 v2_22 (gI S28 10 3) (Int32.toInt64 (gA S28 3 (Int32.toNatClampNeg r28)))) fun r54 S54 =>
gx_chk r28 10 <|
gx_bind (fX1_meltLeft 5 S54 v2_22 (Int32.toInt64 (gA S54 4 (Int32.toNatClampNeg r28)))) fun r77 S77 =>
gx_bind (fX0_lose 10 S77 v2_22 r77 (1 : Int32)) fun r81 S81 =>
gx_let (v1 + (1 : Int32)) fun v1_84 =>
K2 S81 v1_84
def fX5_snowAndMelt_2 : Nat → gS → Int32 → Option (Unit × gS)
  | 0, _, _ => none
  | f + 1, S, v1 => fX5_snowAndMelt_2L (fX5_snowAndMelt_2 f) S v1
def fX5_snowAndMelt (S : gS) : Option (Unit × gS) :=
fX5_snowAndMelt_2 gx_fuel S (0 : Int32)
def rmX5_snowAndMelt : Room := { frames := 3, cells := 0, slots := 0, locals := 77 }
set_option maxHeartbeats 4000000 in
set_option maxRecDepth 20000 in
theorem tX5_snowAndMelt_2L {p : Program} {l : Launch} {e : Env} {s : State} {m : MethodId} {args : Array Value} {below : List Frame} {meth : Method} {c : Code} {G : gG} {ad : Nat → Nat} {A : Nat → Prop} {z : Unit × gS} {K2 : gS → Int32 → Option (Unit × gS)} (X : gCx p s m args meth c G cX5_snowAndMelt RX5 none 4) (hA : ∀ q, s.heap.size ≤ q → A q) (kK2 : ∀ (S : gS) (v1 : Int32), K2 S v1 = some z → ∀ (H : Heap) (locs : List Loc) (ls : Array Slot), gV wdX G ad A s.heap S H locs → lv_has ls 4 [(0, .ref (ad 0)), (1, .int v1)] → W p l e rmX5_snowAndMelt s m args below meth c H locs 0 0 (MQ below (gQv wdX G ad A z) args s 0 0 A) (F0 m 2 ls [])) (S : gS) (v1 : Int32) (h : fX5_snowAndMelt_2L K2 S v1 = some z) {H : Heap} {locs : List Loc} {ls : Array Slot} (hV : gV wdX G ad A s.heap S H locs) (hl : lv_has ls 4 [(0, .ref (ad 0)), (1, .int v1)]) : W p l e rmX5_snowAndMelt s m args below meth c H locs 0 0 (MQ below (gQv wdX G ad A z) args s 0 0 A) (F0 m 2 ls []) := by
  obtain ⟨hx, hb, hr, hml, hown, hts, hlk, hK⟩ := id X
  unfold fX5_snowAndMelt_2L at h
  refine lv_iload_n hx hb dX5_snowAndMelt_2 rfl (lv_at hl 1 rfl) ?_
  refine lv_aload_n hx hb dX5_snowAndMelt_3 rfl (lv_at hl 0 rfl) ?_
  refine ggX5_25 X hV (o := 0) rfl dX5_snowAndMelt_4 ?_
  refine ggX5_273 X hV (o := 5) rfl dX5_snowAndMelt_7 ?_
  refine lv_icmp_ge (tgt := 90) hx hb dX5_snowAndMelt_10 (by decide) (fun c_10 => ?_) (fun c_10 => ?_)
  · rw [if_pos c_10] at h
    exact gw_vret X hV h dX5_snowAndMelt_90
  · rw [if_neg c_10] at h
    refine lv_aload_n hx hb dX5_snowAndMelt_13 rfl (lv_at hl 0 rfl) ?_
    refine ggX5_25 X hV (o := 0) rfl dX5_snowAndMelt_14 ?_
    refine ggX5_276 X hV (o := 5) rfl dX5_snowAndMelt_17 ?_
    refine lv_iload_n hx hb dX5_snowAndMelt_20 rfl (lv_at hl 1 rfl) ?_
    obtain ⟨c_21, h⟩ := gx_chk_e h
    refine gw_iald X hV (iXA_5 (o := 9) rfl) c_21 dX5_snowAndMelt_21 ?_
    refine lv_topi (fun v2_22 e_22 => ?_)
    replace h := gx_let_e e_22 h
    clear e_22
    refine lv_istore_n (lv' := [(2, .int v2_22), (0, .ref (ad 0)), (1, .int v1)]) hx hb dX5_snowAndMelt_22 rfl hl (by decide) rfl (fun ls hl => ?_)
    refine lv_aload_n hx hb dX5_snowAndMelt_23 rfl (lv_at hl 1 rfl) ?_
    refine ggX5_25 X hV (o := 0) rfl dX5_snowAndMelt_24 ?_
    refine lv_iload_n hx hb dX5_snowAndMelt_27 rfl (lv_at hl 0 rfl) ?_
    obtain ⟨r28, S28, k_28, h⟩ := gx_bind_e h
    refine gw_callI X hA hV (gw_runV X hV (o := 5) (As := [.int v2_22]) (rest := []) (mX1_band l G ad _ S rfl k_28) kc_RX5_204 (iXO_4 rfl) rfl rfl rfl hl.1 rfl (Nat.le_of_ble_eq_true rfl) ⟨rfl, rfl⟩ ⟨Nat.le_of_ble_eq_true rfl, Nat.le_of_ble_eq_true rfl⟩ ⟨Nat.le_refl _, Nat.le_refl _⟩ dX5_snowAndMelt_28) (fun H locs hV => ?_)
    refine lv_istore_n (lv' := [(3, .int r28), (2, .int v2_22), (0, .ref (ad 0)), (1, .int v1)]) hx hb dX5_snowAndMelt_31 rfl hl (by decide) rfl (fun ls hl => ?_)
    refine lv_aload_n hx hb dX5_snowAndMelt_32 rfl (lv_at hl 2 rfl) ?_
    refine ggX5_32 X hV (o := 0) rfl dX5_snowAndMelt_33 ?_
    refine lv_iload_n hx hb dX5_snowAndMelt_36 rfl (lv_at hl 1 rfl) ?_
    refine lv_aload_n hx hb dX5_snowAndMelt_37 rfl (lv_at hl 2 rfl) ?_
    refine ggX5_32 X hV (o := 0) rfl dX5_snowAndMelt_38 ?_
    refine ggX5_160 X hV (o := 10) rfl dX5_snowAndMelt_41 ?_
    refine lv_aload_n hx hb dX5_snowAndMelt_44 rfl (lv_at hl 2 rfl) ?_
    refine ggX5_18 X hV (o := 0) rfl dX5_snowAndMelt_45 ?_
    refine ggX5_150 X hV (o := 2) rfl dX5_snowAndMelt_48 ?_
    refine lv_iload_n hx hb dX5_snowAndMelt_51 rfl (lv_at hl 0 rfl) ?_
    obtain ⟨c_52, h⟩ := gx_chk_e h
    refine gw_iald X hV (iXA_3 (o := 3) rfl) c_52 dX5_snowAndMelt_52 ?_
    refine lv_i2l hx hb dX5_snowAndMelt_53 rfl ?_
    obtain ⟨r54, S54, k_54, h⟩ := gx_bind_e h
    refine gw_callv X hA hV (gw_runV X hV (o := 10) (As := [.int v2_22, .int (gI S28 10 3), .long (Int32.toInt64 (gA S28 3 (Int32.toNatClampNeg r28)))]) (rest := []) (mX0_arrive l G ad _ S28 rfl k_54) kc_RX5_165 (iXO_6 rfl) rfl rfl rfl hl.1 rfl (Nat.le_of_ble_eq_true rfl) ⟨rfl, rfl⟩ ⟨Nat.le_of_ble_eq_true rfl, Nat.le_of_ble_eq_true rfl⟩ ⟨Nat.le_refl _, Nat.le_refl _⟩ dX5_snowAndMelt_54) (fun H locs hV => ?_)
    refine lv_aload_n hx hb dX5_snowAndMelt_57 rfl (lv_at hl 2 rfl) ?_
    refine ggX5_32 X hV (o := 0) rfl dX5_snowAndMelt_58 ?_
    refine lv_iload_n hx hb dX5_snowAndMelt_61 rfl (lv_at hl 1 rfl) ?_
    refine lv_aload_n hx hb dX5_snowAndMelt_62 rfl (lv_at hl 2 rfl) ?_
    refine ggX5_25 X hV (o := 0) rfl dX5_snowAndMelt_63 ?_
    refine lv_iload_n hx hb dX5_snowAndMelt_66 rfl (lv_at hl 1 rfl) ?_
    refine lv_aload_n hx hb dX5_snowAndMelt_67 rfl (lv_at hl 2 rfl) ?_
    refine ggX5_18 X hV (o := 0) rfl dX5_snowAndMelt_68 ?_
    refine ggX5_147 X hV (o := 2) rfl dX5_snowAndMelt_71 ?_
    refine lv_iload_n hx hb dX5_snowAndMelt_74 rfl (lv_at hl 0 rfl) ?_
    obtain ⟨c_75, h⟩ := gx_chk_e h
    refine gw_iald X hV (iXA_3 (o := 4) rfl) c_75 dX5_snowAndMelt_75 ?_
    refine lv_i2l hx hb dX5_snowAndMelt_76 rfl ?_
    obtain ⟨r77, S77, k_77, h⟩ := gx_bind_e h
    refine gw_callL X hA hV (gw_runV X hV (o := 5) (As := [.int v2_22, .long (Int32.toInt64 (gA S54 4 (Int32.toNatClampNeg r28)))]) (rest := [.int v2_22, .ref (ad 10)]) (mX1_meltLeft l G ad _ S54 rfl k_77) kc_RX5_279 (iXO_4 rfl) rfl rfl rfl hl.1 rfl (Nat.le_of_ble_eq_true rfl) ⟨rfl, rfl⟩ ⟨Nat.le_of_ble_eq_true rfl, Nat.le_of_ble_eq_true rfl⟩ ⟨Nat.le_refl _, Nat.le_refl _⟩ dX5_snowAndMelt_77) (fun H locs hV => ?_)
    refine lv_iconst (v := 1) hx hb dX5_snowAndMelt_80 (by decide) ?_
    obtain ⟨r81, S81, k_81, h⟩ := gx_bind_e h
    refine gw_callv X hA hV (gw_runV X hV (o := 10) (As := [.int v2_22, .long r77, .int (1 : Int32)]) (rest := []) (mX0_lose l G ad _ S77 rfl k_81) kc_RX5_283 (iXO_6 rfl) rfl rfl rfl hl.1 rfl (Nat.le_of_ble_eq_true rfl) ⟨rfl, rfl⟩ ⟨Nat.le_of_ble_eq_true rfl, Nat.le_of_ble_eq_true rfl⟩ ⟨Nat.le_refl _, Nat.le_refl _⟩ dX5_snowAndMelt_81) (fun H locs hV => ?_)
    obtain ⟨v1_84, e_84⟩ : ∃ y : Int32, y = (v1 + (1 : Int32)) := ⟨_, rfl⟩
    refine lv_iinc (v := v1_84) (lv' := [(1, .int v1_84), (3, .int r28), (2, .int v2_22), (0, .ref (ad 0))]) hx hb dX5_snowAndMelt_84 hl (k := 3) rfl (by rw [e_84]; rfl) (by decide) rfl (fun ls hl => ?_)
    replace h := gx_let_e e_84 h
    clear e_84
    refine lv_goto (tgt := 2) hx hb dX5_snowAndMelt_87 (by decide) ?_
    exact kK2 _ _ h _ _ _ hV (lv_sub hl [3, 0] rfl)
set_option maxHeartbeats 4000000 in
set_option maxRecDepth 20000 in
theorem tX5_snowAndMelt_2 {p : Program} {l : Launch} {e : Env} {s : State} {m : MethodId} {args : Array Value} {below : List Frame} {meth : Method} {c : Code} {G : gG} {ad : Nat → Nat} {A : Nat → Prop} {z : Unit × gS} (X : gCx p s m args meth c G cX5_snowAndMelt RX5 none 4) (hA : ∀ q, s.heap.size ≤ q → A q) : ∀ (f : Nat) (S : gS) (v1 : Int32) (h : fX5_snowAndMelt_2 f S v1 = some z) (H : Heap) (locs : List Loc) (ls : Array Slot) (hV : gV wdX G ad A s.heap S H locs) (hl : lv_has ls 4 [(0, .ref (ad 0)), (1, .int v1)]), W p l e rmX5_snowAndMelt s m args below meth c H locs 0 0 (MQ below (gQv wdX G ad A z) args s 0 0 A) (F0 m 2 ls []) := by
  intro f
  induction f with
  | zero => intro S v1 h; exact absurd h (by simp [fX5_snowAndMelt_2])
  | succ f ih => intro S v1 h H locs ls hV hl; exact tX5_snowAndMelt_2L X hA ih S v1 h hV hl
set_option maxHeartbeats 4000000 in
set_option maxRecDepth 20000 in
theorem mX5_snowAndMelt (l : Launch) (G : gG) (ad : Nat → Nat) (sz : Nat) (S : gS) {r : Unit} {S' : gS} (h : fX5_snowAndMelt S = some (r, S')) : gMetV l yX5_snowAndMelt cX5_snowAndMelt 4 none rmX5_snowAndMelt wdX G ad S sz [.ref (ad 0)] r S' := by
  refine gMet_of (by decide) ?_
  intro p e s m below meth c A hA X hnm hV
  have hl := lv_entry ([.ref (ad 0)]) (n := 4) (Nat.le_of_ble_eq_true rfl)
  rw [lg_entry_eq]
  generalize (lg_sl ([.ref (ad 0)]) ++ List.replicate (4 - (lg_sl ([.ref (ad 0)])).length) Slot.unset).toArray = ls at hl ⊢
  have hl : lv_has ls 4 [(0, .ref (ad 0))] := hl
  obtain ⟨hx, hb, hr, hml, hown, hts, hlk, hK⟩ := id X
  unfold fX5_snowAndMelt at h
  generalize ([.ref (ad 0)].toArray : Array Value) = args at X ⊢
  have Y : ∀ (H : Heap) (locs : List Loc), gV wdX G ad A s.heap S H locs → W p l e rmX5_snowAndMelt s m args below meth c H locs 0 0 (MQ below (gQv wdX G ad A (r, S')) args s 0 0 A) (F0 m 0 ls []) := by
    intro H locs hV
    refine lv_iconst (v := 0) hx hb dX5_snowAndMelt_0 (by decide) ?_
    refine lv_istore_n (lv' := [(1, .int (0 : Int32)), (0, .ref (ad 0))]) hx hb dX5_snowAndMelt_1 rfl hl (by decide) rfl (fun ls hl => ?_)
    exact tX5_snowAndMelt_2 X hA gx_fuel _ _ h _ _ _ hV (lv_sub hl [1, 0] rfl)
  exact Y _ _ hV
def fX5_surface (S : gS) (v1 : Int32) : Option (Int64 × gS) :=
gx_chk v1 64 <|
gx_chk v1 64 <|
some (((Int32.toInt64 (gA S 6 (Int32.toNatClampNeg v1))) + (gJ S 12 (Int32.toNatClampNeg v1))), S)
def rmX5_surface : Room := { frames := 0, cells := 0, slots := 0, locals := 0 }
set_option maxHeartbeats 4000000 in
set_option maxRecDepth 20000 in
theorem mX5_surface (l : Launch) (G : gG) (ad : Nat → Nat) (sz : Nat) (S : gS) {v1 : Int32} {r : Int64} {S' : gS} (h : fX5_surface S v1 = some (r, S')) : gMetL l yX5_surface cX5_surface 2 (some .long) rmX5_surface wdX G ad S sz [.ref (ad 0), .int v1] r S' := by
  refine gMet_of (by decide) ?_
  intro p e s m below meth c A hA X hnm hV
  have hl := lv_entry ([.ref (ad 0), .int v1]) (n := 2) (Nat.le_of_ble_eq_true rfl)
  rw [lg_entry_eq]
  generalize (lg_sl ([.ref (ad 0), .int v1]) ++ List.replicate (2 - (lg_sl ([.ref (ad 0), .int v1])).length) Slot.unset).toArray = ls at hl ⊢
  have hl : lv_has ls 2 [(0, .ref (ad 0)), (1, .int v1)] := hl
  obtain ⟨hx, hb, hr, hml, hown, hts, hlk, hK⟩ := id X
  unfold fX5_surface at h
  generalize ([.ref (ad 0), .int v1].toArray : Array Value) = args at X ⊢
  have Y : ∀ (H : Heap) (locs : List Loc), gV wdX G ad A s.heap S H locs → W p l e rmX5_surface s m args below meth c H locs 0 0 (MQ below (gQl wdX G ad A (r, S')) args s 0 0 A) (F0 m 0 ls []) := by
    intro H locs hV
    refine lv_aload_n hx hb dX5_surface_0 rfl (lv_at hl 0 rfl) ?_
    refine ggX5_25 X hV (o := 0) rfl dX5_surface_1 ?_
    refine ggX5_191 X hV (o := 5) rfl dX5_surface_4 ?_
    refine lv_iload_n hx hb dX5_surface_7 rfl (lv_at hl 1 rfl) ?_
    obtain ⟨c_8, h⟩ := gx_chk_e h
    refine gw_iald X hV (iXA_5 (o := 6) rfl) c_8 dX5_surface_8 ?_
    refine lv_i2l hx hb dX5_surface_9 rfl ?_
    refine lv_aload_n hx hb dX5_surface_10 rfl (lv_at hl 0 rfl) ?_
    refine ggX5_32 X hV (o := 0) rfl dX5_surface_11 ?_
    refine ggX5_168 X hV (o := 10) rfl dX5_surface_14 ?_
    refine lv_iload_n hx hb dX5_surface_17 rfl (lv_at hl 1 rfl) ?_
    obtain ⟨c_18, h⟩ := gx_chk_e h
    refine gw_lald X hV (iXJ_8 (o := 12) rfl) c_18 dX5_surface_18 ?_
    refine lv_ladd hx hb dX5_surface_19 ?_
    exact gw_lret X hV h dX5_surface_20
  exact Y _ _ hV
theorem kc_RX5_194 : gKV RX5 194 yX5_surface cX5_surface 2 (some .long) 1 := ⟨q_408, q_410, q_8, q_411, q_36, by decide +kernel⟩
theorem kc_RX5_287 : gKV RX5 287 yX1_neighbour cX1_neighbour 5 (some .int) 2 := ⟨q_404, q_405, q_406, q_407, q_38, by decide +kernel⟩
def fX5_gift_121 (S : gS) (v4 : Int64) (v7 : Int64) (t0 : Int64) : Option (Int64 × gS) :=
gx_let (((t0 * v7) * (gmin (Int32.toInt64 (gI S 2 3)) v4)) / (100 : Int64)) fun v11_146 =>
some ((gmin v11_146 ((gmin v7 v4) / (8 : Int64))), S)
def fX5_gift_76 (S : gS) (v1 : Int32) (v4 : Int64) (t0 : Int64) : Option (Int64 × gS) :=
if (0 : Int64) < t0 then (gx_chk v1 64 <|
if (gA S 7 (Int32.toNatClampNeg v1)) = (1 : Int32) then (gx_chk v1 64 <|
fX5_gift_121 S v4 t0 (Int32.toInt64 (gA S 8 (Int32.toNatClampNeg v1)))) else
fX5_gift_121 S v4 t0 (Int32.toInt64 (gI S 2 2))) else
some ((0 : Int64), S)
def fX5_gift_53 (S : gS) (v1 : Int32) (v3 : Int32) (v4 : Int64) (t0 : Int32) : Option (Int64 × gS) :=
if t0 = 0 then (gx_bind (fX5_surface S v1) fun r67 S67 =>
gx_bind (fX5_surface S67 v3) fun r72 S72 =>
fX5_gift_76 S72 v1 v4 (r67 - r72)) else
fX5_gift_76 S v1 v4 v4
def fX5_gift (S : gS) (v1 : Int32) (v2 : Int32) : Option (Int64 × gS) :=
gx_bind (fX1_neighbour 5 S v1 v2) fun r6 S6 =>
gx_chk v1 64 <|
gx_let (gJ S6 12 (Int32.toNatClampNeg v1)) fun v4_19 =>
if r6 = (-1 : Int32) then (some ((0 : Int64), S6)) else
if v4_19 = (0 : Int64) then (some ((0 : Int64), S6)) else
gx_chk r6 64 <|
if (gA S6 7 (Int32.toNatClampNeg r6)) = (4 : Int32) then (fX5_gift_53 S6 v1 r6 v4_19 (1 : Int32)) else
fX5_gift_53 S6 v1 r6 v4_19 (0 : Int32)
def rmX5_gift : Room := { frames := 2, cells := 0, slots := 0, locals := 46 }
set_option maxHeartbeats 4000000 in
set_option maxRecDepth 20000 in
theorem tX5_gift_121 {p : Program} {l : Launch} {e : Env} {s : State} {m : MethodId} {args : Array Value} {below : List Frame} {meth : Method} {c : Code} {G : gG} {ad : Nat → Nat} {A : Nat → Prop} {z : Int64 × gS} (X : gCx p s m args meth c G cX5_gift RX5 (some .long) 13) (hA : ∀ q, s.heap.size ≤ q → A q) (S : gS) (v4 : Int64) (v7 : Int64) (t0 : Int64) (h : fX5_gift_121 S v4 v7 t0 = some z) {H : Heap} {locs : List Loc} {ls : Array Slot} (hV : gV wdX G ad A s.heap S H locs) (hl : lv_has ls 13 [(0, .ref (ad 0)), (4, .long v4), (7, .long v7)]) : W p l e rmX5_gift s m args below meth c H locs 0 0 (MQ below (gQl wdX G ad A z) args s 0 0 A) (F0 m 121 ls [.long t0]) := by
  obtain ⟨hx, hb, hr, hml, hown, hts, hlk, hK⟩ := id X
  unfold fX5_gift_121 at h
  refine lv_lstore (lv' := [(9, .long t0), (0, .ref (ad 0)), (4, .long v4), (7, .long v7)]) hx hb dX5_gift_121 hl (by decide) rfl (fun ls hl => ?_)
  refine lv_lload hx hb dX5_gift_123 (lv_at hl 0 rfl) ?_
  refine lv_lload hx hb dX5_gift_125 (lv_at hl 3 rfl) ?_
  refine lv_lmul hx hb dX5_gift_127 ?_
  refine lv_aload_n hx hb dX5_gift_128 rfl (lv_at hl 1 rfl) ?_
  refine ggX5_18 X hV (o := 0) rfl dX5_gift_129 ?_
  refine ggX5_154 X hV (o := 2) rfl dX5_gift_132 ?_
  refine lv_i2l hx hb dX5_gift_135 rfl ?_
  refine lv_lload hx hb dX5_gift_136 (lv_at hl 2 rfl) ?_
  refine gw_min X hl.1 q_412 q_390 q_45 q_391 (Nat.le_of_ble_eq_true rfl) (Nat.le_of_ble_eq_true rfl) (Nat.zero_le _) (Nat.zero_le _) dX5_gift_138 ?_
  refine lv_lmul hx hb dX5_gift_141 ?_
  refine lv_ldc2 (v := 100) hx hb hown (hts _ q_413) dX5_gift_142 ?_
  refine lv_ldiv hx hb dX5_gift_145 (by decide) ?_
  refine lv_topl (fun v11_146 e_146 => ?_)
  replace h := gx_let_e e_146 h
  clear e_146
  refine lv_lstore (lv' := [(11, .long v11_146), (9, .long t0), (0, .ref (ad 0)), (4, .long v4), (7, .long v7)]) hx hb dX5_gift_146 hl (by decide) rfl (fun ls hl => ?_)
  refine lv_lload hx hb dX5_gift_148 (lv_at hl 0 rfl) ?_
  refine lv_lload hx hb dX5_gift_150 (lv_at hl 4 rfl) ?_
  refine lv_lload hx hb dX5_gift_152 (lv_at hl 3 rfl) ?_
  refine gw_min X hl.1 q_412 q_390 q_45 q_391 (Nat.le_of_ble_eq_true rfl) (Nat.le_of_ble_eq_true rfl) (Nat.zero_le _) (Nat.zero_le _) dX5_gift_154 ?_
  refine lv_ldc2 (v := 8) hx hb hown (hts _ q_414) dX5_gift_157 ?_
  refine lv_ldiv hx hb dX5_gift_160 (by decide) ?_
  refine gw_min X hl.1 q_412 q_390 q_45 q_391 (Nat.le_of_ble_eq_true rfl) (Nat.le_of_ble_eq_true rfl) (Nat.zero_le _) (Nat.zero_le _) dX5_gift_161 ?_
  exact gw_lret X hV h dX5_gift_164
set_option maxHeartbeats 4000000 in
set_option maxRecDepth 20000 in
theorem tX5_gift_76 {p : Program} {l : Launch} {e : Env} {s : State} {m : MethodId} {args : Array Value} {below : List Frame} {meth : Method} {c : Code} {G : gG} {ad : Nat → Nat} {A : Nat → Prop} {z : Int64 × gS} (X : gCx p s m args meth c G cX5_gift RX5 (some .long) 13) (hA : ∀ q, s.heap.size ≤ q → A q) (S : gS) (v1 : Int32) (v4 : Int64) (t0 : Int64) (h : fX5_gift_76 S v1 v4 t0 = some z) {H : Heap} {locs : List Loc} {ls : Array Slot} (hV : gV wdX G ad A s.heap S H locs) (hl : lv_has ls 13 [(0, .ref (ad 0)), (1, .int v1), (4, .long v4)]) : W p l e rmX5_gift s m args below meth c H locs 0 0 (MQ below (gQl wdX G ad A z) args s 0 0 A) (F0 m 76 ls [.long t0]) := by
  obtain ⟨hx, hb, hr, hml, hown, hts, hlk, hK⟩ := id X
  unfold fX5_gift_76 at h
  refine lv_lstore (lv' := [(7, .long t0), (0, .ref (ad 0)), (1, .int v1), (4, .long v4)]) hx hb dX5_gift_76 hl (by decide) rfl (fun ls hl => ?_)
  refine lv_lload hx hb dX5_gift_78 (lv_at hl 0 rfl) ?_
  refine lv_lconst (v := 0) hx hb dX5_gift_80 (by decide) ?_
  refine gw_cmp_gt (tgt := 87) X dX5_gift_81 dX5_gift_82 (by decide) (fun c_81 => ?_) (fun c_81 => ?_)
  · rw [if_pos c_81] at h
    refine lv_aload_n hx hb dX5_gift_87 rfl (lv_at hl 1 rfl) ?_
    refine ggX5_25 X hV (o := 0) rfl dX5_gift_88 ?_
    refine ggX5_136 X hV (o := 5) rfl dX5_gift_91 ?_
    refine lv_iload_n hx hb dX5_gift_94 rfl (lv_at hl 2 rfl) ?_
    obtain ⟨c_95, h⟩ := gx_chk_e h
    refine gw_iald X hV (iXA_5 (o := 7) rfl) c_95 dX5_gift_95 ?_
    refine lv_iconst (v := 1) hx hb dX5_gift_96 (by decide) ?_
    refine lv_icmp_ne (tgt := 113) hx hb dX5_gift_97 (by decide) (fun c_97 => ?_) (fun c_97 => ?_)
    · rw [if_neg c_97] at h
      refine lv_aload_n hx hb dX5_gift_113 rfl (lv_at hl 1 rfl) ?_
      refine ggX5_18 X hV (o := 0) rfl dX5_gift_114 ?_
      refine ggX5_157 X hV (o := 2) rfl dX5_gift_117 ?_
      refine lv_i2l hx hb dX5_gift_120 rfl ?_
      exact tX5_gift_121 X hA _ _ _ _ h hV (lv_sub hl [1, 3, 0] rfl)
    · rw [if_pos c_97] at h
      refine lv_aload_n hx hb dX5_gift_100 rfl (lv_at hl 1 rfl) ?_
      refine ggX5_25 X hV (o := 0) rfl dX5_gift_101 ?_
      refine ggX5_140 X hV (o := 5) rfl dX5_gift_104 ?_
      refine lv_iload_n hx hb dX5_gift_107 rfl (lv_at hl 2 rfl) ?_
      obtain ⟨c_108, h⟩ := gx_chk_e h
      refine gw_iald X hV (iXA_5 (o := 8) rfl) c_108 dX5_gift_108 ?_
      refine lv_i2l hx hb dX5_gift_109 rfl ?_
      refine lv_goto (tgt := 121) hx hb dX5_gift_110 (by decide) ?_
      exact tX5_gift_121 X hA _ _ _ _ h hV (lv_sub hl [1, 3, 0] rfl)
  · rw [if_neg c_81] at h
    refine lv_lconst (v := 0) hx hb dX5_gift_85 (by decide) ?_
    exact gw_lret X hV h dX5_gift_86
set_option maxHeartbeats 4000000 in
set_option maxRecDepth 20000 in
theorem tX5_gift_53 {p : Program} {l : Launch} {e : Env} {s : State} {m : MethodId} {args : Array Value} {below : List Frame} {meth : Method} {c : Code} {G : gG} {ad : Nat → Nat} {A : Nat → Prop} {z : Int64 × gS} (X : gCx p s m args meth c G cX5_gift RX5 (some .long) 13) (hA : ∀ q, s.heap.size ≤ q → A q) (S : gS) (v1 : Int32) (v3 : Int32) (v4 : Int64) (t0 : Int32) (h : fX5_gift_53 S v1 v3 v4 t0 = some z) {H : Heap} {locs : List Loc} {ls : Array Slot} (hV : gV wdX G ad A s.heap S H locs) (hl : lv_has ls 13 [(0, .ref (ad 0)), (1, .int v1), (3, .int v3), (4, .long v4)]) : W p l e rmX5_gift s m args below meth c H locs 0 0 (MQ below (gQl wdX G ad A z) args s 0 0 A) (F0 m 53 ls [.int t0]) := by
  obtain ⟨hx, hb, hr, hml, hown, hts, hlk, hK⟩ := id X
  unfold fX5_gift_53 at h
  refine lv_istore (lv' := [(6, .int t0), (0, .ref (ad 0)), (1, .int v1), (3, .int v3), (4, .long v4)]) hx hb dX5_gift_53 hl (by decide) rfl (fun ls hl => ?_)
  refine lv_iload hx hb dX5_gift_55 (lv_at hl 0 rfl) ?_
  refine lv_if_eq (tgt := 65) hx hb dX5_gift_57 (by decide) (fun c_57 => ?_) (fun c_57 => ?_)
  · rw [if_pos c_57] at h
    refine lv_aload_n hx hb dX5_gift_65 rfl (lv_at hl 1 rfl) ?_
    refine lv_iload_n hx hb dX5_gift_66 rfl (lv_at hl 2 rfl) ?_
    obtain ⟨r67, S67, k_67, h⟩ := gx_bind_e h
    refine gw_callL X hA hV (gw_runV X hV (o := 0) (As := [.int v1]) (rest := []) (mX5_surface l G ad _ S k_67) kc_RX5_194 (iXO_0 rfl) rfl rfl rfl hl.1 rfl (Nat.le_of_ble_eq_true rfl) ⟨rfl, rfl⟩ ⟨Nat.le_of_ble_eq_true rfl, Nat.le_of_ble_eq_true rfl⟩ ⟨Nat.le_refl _, Nat.le_refl _⟩ dX5_gift_67) (fun H locs hV => ?_)
    refine lv_aload_n hx hb dX5_gift_70 rfl (lv_at hl 1 rfl) ?_
    refine lv_iload_n hx hb dX5_gift_71 rfl (lv_at hl 3 rfl) ?_
    obtain ⟨r72, S72, k_72, h⟩ := gx_bind_e h
    refine gw_callL X hA hV (gw_runV X hV (o := 0) (As := [.int v3]) (rest := [.long r67]) (mX5_surface l G ad _ S67 k_72) kc_RX5_194 (iXO_0 rfl) rfl rfl rfl hl.1 rfl (Nat.le_of_ble_eq_true rfl) ⟨rfl, rfl⟩ ⟨Nat.le_of_ble_eq_true rfl, Nat.le_of_ble_eq_true rfl⟩ ⟨Nat.le_refl _, Nat.le_refl _⟩ dX5_gift_72) (fun H locs hV => ?_)
    refine lv_lsub hx hb dX5_gift_75 ?_
    exact tX5_gift_76 X hA _ _ _ _ h hV (lv_sub hl [1, 2, 4] rfl)
  · rw [if_neg c_57] at h
    refine lv_lload hx hb dX5_gift_60 (lv_at hl 4 rfl) ?_
    refine lv_goto (tgt := 76) hx hb dX5_gift_62 (by decide) ?_
    exact tX5_gift_76 X hA _ _ _ _ h hV (lv_sub hl [1, 2, 4] rfl)
set_option maxHeartbeats 4000000 in
set_option maxRecDepth 20000 in
theorem mX5_gift (l : Launch) (G : gG) (ad : Nat → Nat) (sz : Nat) (S : gS) {v1 : Int32} {v2 : Int32} {r : Int64} {S' : gS} (h : fX5_gift S v1 v2 = some (r, S')) : gMetL l yX5_gift cX5_gift 13 (some .long) rmX5_gift wdX G ad S sz [.ref (ad 0), .int v1, .int v2] r S' := by
  refine gMet_of (by decide) ?_
  intro p e s m below meth c A hA X hnm hV
  have hl := lv_entry ([.ref (ad 0), .int v1, .int v2]) (n := 13) (Nat.le_of_ble_eq_true rfl)
  rw [lg_entry_eq]
  generalize (lg_sl ([.ref (ad 0), .int v1, .int v2]) ++ List.replicate (13 - (lg_sl ([.ref (ad 0), .int v1, .int v2])).length) Slot.unset).toArray = ls at hl ⊢
  have hl : lv_has ls 13 [(0, .ref (ad 0)), (1, .int v1), (2, .int v2)] := hl
  obtain ⟨hx, hb, hr, hml, hown, hts, hlk, hK⟩ := id X
  unfold fX5_gift at h
  generalize ([.ref (ad 0), .int v1, .int v2].toArray : Array Value) = args at X ⊢
  have Y : ∀ (H : Heap) (locs : List Loc), gV wdX G ad A s.heap S H locs → W p l e rmX5_gift s m args below meth c H locs 0 0 (MQ below (gQl wdX G ad A (r, S')) args s 0 0 A) (F0 m 0 ls []) := by
    intro H locs hV
    refine lv_aload_n hx hb dX5_gift_0 rfl (lv_at hl 0 rfl) ?_
    refine ggX5_25 X hV (o := 0) rfl dX5_gift_1 ?_
    refine lv_iload_n hx hb dX5_gift_4 rfl (lv_at hl 1 rfl) ?_
    refine lv_iload_n hx hb dX5_gift_5 rfl (lv_at hl 2 rfl) ?_
    obtain ⟨r6, S6, k_6, h⟩ := gx_bind_e h
    refine gw_callI X hA hV (gw_runV X hV (o := 5) (As := [.int v1, .int v2]) (rest := []) (mX1_neighbour l G ad _ S rfl k_6) kc_RX5_287 (iXO_4 rfl) rfl rfl rfl hl.1 rfl (Nat.le_of_ble_eq_true rfl) ⟨rfl, rfl⟩ ⟨Nat.le_of_ble_eq_true rfl, Nat.le_of_ble_eq_true rfl⟩ ⟨Nat.le_refl _, Nat.le_refl _⟩ dX5_gift_6) (fun H locs hV => ?_)
    refine lv_istore_n (lv' := [(3, .int r6), (0, .ref (ad 0)), (1, .int v1), (2, .int v2)]) hx hb dX5_gift_9 rfl hl (by decide) rfl (fun ls hl => ?_)
    refine lv_aload_n hx hb dX5_gift_10 rfl (lv_at hl 1 rfl) ?_
    refine ggX5_32 X hV (o := 0) rfl dX5_gift_11 ?_
    refine ggX5_168 X hV (o := 10) rfl dX5_gift_14 ?_
    refine lv_iload_n hx hb dX5_gift_17 rfl (lv_at hl 2 rfl) ?_
    obtain ⟨c_18, h⟩ := gx_chk_e h
    refine gw_lald X hV (iXJ_8 (o := 12) rfl) c_18 dX5_gift_18 ?_
    refine lv_topl (fun v4_19 e_19 => ?_)
    replace h := gx_let_e e_19 h
    clear e_19
    refine lv_lstore (lv' := [(4, .long v4_19), (3, .int r6), (0, .ref (ad 0)), (1, .int v1), (2, .int v2)]) hx hb dX5_gift_19 hl (by decide) rfl (fun ls hl => ?_)
    refine lv_iload_n hx hb dX5_gift_21 rfl (lv_at hl 1 rfl) ?_
    refine lv_iconst (v := -1) hx hb dX5_gift_22 (by decide) ?_
    refine lv_icmp_eq (tgt := 33) hx hb dX5_gift_23 (by decide) (fun c_23 => ?_) (fun c_23 => ?_)
    · rw [if_pos c_23] at h
      refine lv_lconst (v := 0) hx hb dX5_gift_33 (by decide) ?_
      exact gw_lret X hV h dX5_gift_34
    · rw [if_neg c_23] at h
      refine lv_lload hx hb dX5_gift_26 (lv_at hl 0 rfl) ?_
      refine lv_lconst (v := 0) hx hb dX5_gift_28 (by decide) ?_
      refine gw_cmp_ne (tgt := 35) X dX5_gift_29 dX5_gift_30 (by decide) (fun c_29 => ?_) (fun c_29 => ?_)
      · rw [if_neg c_29] at h
        refine lv_aload_n hx hb dX5_gift_35 rfl (lv_at hl 2 rfl) ?_
        refine ggX5_25 X hV (o := 0) rfl dX5_gift_36 ?_
        refine ggX5_136 X hV (o := 5) rfl dX5_gift_39 ?_
        refine lv_iload_n hx hb dX5_gift_42 rfl (lv_at hl 1 rfl) ?_
        obtain ⟨c_43, h⟩ := gx_chk_e h
        refine gw_iald X hV (iXA_5 (o := 7) rfl) c_43 dX5_gift_43 ?_
        refine lv_iconst (v := 4) hx hb dX5_gift_44 (by decide) ?_
        refine lv_icmp_ne (tgt := 52) hx hb dX5_gift_45 (by decide) (fun c_45 => ?_) (fun c_45 => ?_)
        · rw [if_neg c_45] at h
          refine lv_iconst (v := 0) hx hb dX5_gift_52 (by decide) ?_
          exact tX5_gift_53 X hA _ _ _ _ _ h hV (lv_sub hl [2, 3, 1, 0] rfl)
        · rw [if_pos c_45] at h
          refine lv_iconst (v := 1) hx hb dX5_gift_48 (by decide) ?_
          refine lv_goto (tgt := 53) hx hb dX5_gift_49 (by decide) ?_
          exact tX5_gift_53 X hA _ _ _ _ _ h hV (lv_sub hl [2, 3, 1, 0] rfl)
      · rw [if_pos c_29] at h
        refine lv_lconst (v := 0) hx hb dX5_gift_33 (by decide) ?_
        exact gw_lret X hV h dX5_gift_34
  exact Y _ _ hV
theorem kc_RX5_303 : gKV RX5 303 yX0_lift cX0_lift 5 none 3 := ⟨q_420, q_393, q_394, q_395, q_39, by decide +kernel⟩
theorem kc_RX5_306 : gKV RX5 306 yX0_lay cX0_lay 5 none 3 := ⟨q_421, q_344, q_345, q_346, q_39, by decide +kernel⟩
def fX5_hand_139 (K18 : gS → Int32 → Int32 → Int64 → Int32 → Option (Unit × gS)) (S : gS) (v1 : Int32) (v2 : Int32) (v5 : Int64) (v7 : Int32) : Option (Unit × gS) :=
gx_let (v7 + (-1 : Int32)) fun v7_139 =>
K18 S v1 v2 v5 v7_139
def fX5_hand_132 (K18 : gS → Int32 → Int32 → Int64 → Int32 → Option (Unit × gS)) (S : gS) (v1 : Int32) (v2 : Int32) (v5 : Int64) (v7 : Int32) (v8 : Int64) : Option (Unit × gS) :=
gx_let (v5 - v8) fun v5_137 =>
fX5_hand_139 K18 S v1 v2 v5_137 v7
def fX5_hand_18L (K18 : gS → Int32 → Int32 → Int64 → Int32 → Option (Unit × gS)) (S : gS) (v1 : Int32) (v2 : Int32) (v5 : Int64) (v7 : Int32) : Option (Unit × gS) :=
if v7 < 0 then (some ((), S)) else
if v5 ≤ (0 : Int64) then (some ((), S)) else
gx_chk ((v1 * (61 : Int32)) + v7) 3904 <|
gx_let (gmin v5 (gJ S 42 (Int32.toNatClampNeg ((v1 * (61 : Int32)) + v7)))) fun v8_50 =>
if v8_50 = (0 : Int64) then (fX5_hand_139 K18 S v1 v2 v5 v7) else
gx_bind (fX0_lift 41 S v1 v7 v8_50) fun r71 S71 =>
gx_bind (fX0_lift 10 S71 v1 v7 v8_50) fun r83 S83 =>
gx_chk v2 64 <|
if (gA S83 7 (Int32.toNatClampNeg v2)) = (4 : Int32) then (gx_chk ((122 : Int32) + v7) 305 <|
gx_chk ((122 : Int32) + v7) 305 <|
gx_let (gJ_up S83 13 (Int32.toNatClampNeg ((122 : Int32) + v7)) ((gJ S83 13 (Int32.toNatClampNeg ((122 : Int32) + v7))) + v8_50)) fun S116 =>
fX5_hand_132 K18 S116 v1 v2 v5 v7 v8_50) else
gx_bind (fX0_lay 10 S83 v2 v7 v8_50) fun r129 S129 =>
fX5_hand_132 K18 S129 v1 v2 v5 v7 v8_50
def fX5_hand_18 : Nat → gS → Int32 → Int32 → Int64 → Int32 → Option (Unit × gS)
  | 0, _, _, _, _, _ => none
  | f + 1, S, v1, v2, v5, v7 => fX5_hand_18L (fX5_hand_18 f) S v1 v2 v5 v7
def fX5_hand (S : gS) (v1 : Int32) (v2 : Int32) (v3 : Int64) : Option (Unit × gS) :=
if v2 = (-1 : Int32) then (some ((), S)) else
gx_let (gI S 10 3) fun v7_16 =>
fX5_hand_18 gx_fuel S v1 v2 v3 v7_16
def rmX5_hand : Room := { frames := 2, cells := 0, slots := 0, locals := 48 }
set_option maxHeartbeats 4000000 in
set_option maxRecDepth 20000 in
theorem tX5_hand_139 {p : Program} {l : Launch} {e : Env} {s : State} {m : MethodId} {args : Array Value} {below : List Frame} {meth : Method} {c : Code} {G : gG} {ad : Nat → Nat} {A : Nat → Prop} {z : Unit × gS} {K18 : gS → Int32 → Int32 → Int64 → Int32 → Option (Unit × gS)} (X : gCx p s m args meth c G cX5_hand RX5 none 10) (hA : ∀ q, s.heap.size ≤ q → A q) (kK18 : ∀ (S : gS) (v1 : Int32) (v2 : Int32) (v5 : Int64) (v7 : Int32), K18 S v1 v2 v5 v7 = some z → ∀ (H : Heap) (locs : List Loc) (ls : Array Slot), gV wdX G ad A s.heap S H locs → lv_has ls 10 [(0, .ref (ad 0)), (1, .int v1), (2, .int v2), (5, .long v5), (7, .int v7)] → W p l e rmX5_hand s m args below meth c H locs 0 0 (MQ below (gQv wdX G ad A z) args s 0 0 A) (F0 m 18 ls [])) (S : gS) (v1 : Int32) (v2 : Int32) (v5 : Int64) (v7 : Int32) (h : fX5_hand_139 K18 S v1 v2 v5 v7 = some z) {H : Heap} {locs : List Loc} {ls : Array Slot} (hV : gV wdX G ad A s.heap S H locs) (hl : lv_has ls 10 [(0, .ref (ad 0)), (1, .int v1), (2, .int v2), (5, .long v5), (7, .int v7)]) : W p l e rmX5_hand s m args below meth c H locs 0 0 (MQ below (gQv wdX G ad A z) args s 0 0 A) (F0 m 139 ls []) := by
  obtain ⟨hx, hb, hr, hml, hown, hts, hlk, hK⟩ := id X
  unfold fX5_hand_139 at h
  obtain ⟨v7_139, e_139⟩ : ∃ y : Int32, y = (v7 + (-1 : Int32)) := ⟨_, rfl⟩
  refine lv_iinc (v := v7_139) (lv' := [(7, .int v7_139), (0, .ref (ad 0)), (1, .int v1), (2, .int v2), (5, .long v5)]) hx hb dX5_hand_139 hl (k := 4) rfl (by rw [e_139]; rfl) (by decide) rfl (fun ls hl => ?_)
  replace h := gx_let_e e_139 h
  clear e_139
  refine lv_goto (tgt := 18) hx hb dX5_hand_142 (by decide) ?_
  exact kK18 _ _ _ _ _ h _ _ _ hV (lv_sub hl [1, 2, 3, 4, 0] rfl)
set_option maxHeartbeats 4000000 in
set_option maxRecDepth 20000 in
theorem tX5_hand_132 {p : Program} {l : Launch} {e : Env} {s : State} {m : MethodId} {args : Array Value} {below : List Frame} {meth : Method} {c : Code} {G : gG} {ad : Nat → Nat} {A : Nat → Prop} {z : Unit × gS} {K18 : gS → Int32 → Int32 → Int64 → Int32 → Option (Unit × gS)} (X : gCx p s m args meth c G cX5_hand RX5 none 10) (hA : ∀ q, s.heap.size ≤ q → A q) (kK18 : ∀ (S : gS) (v1 : Int32) (v2 : Int32) (v5 : Int64) (v7 : Int32), K18 S v1 v2 v5 v7 = some z → ∀ (H : Heap) (locs : List Loc) (ls : Array Slot), gV wdX G ad A s.heap S H locs → lv_has ls 10 [(0, .ref (ad 0)), (1, .int v1), (2, .int v2), (5, .long v5), (7, .int v7)] → W p l e rmX5_hand s m args below meth c H locs 0 0 (MQ below (gQv wdX G ad A z) args s 0 0 A) (F0 m 18 ls [])) (S : gS) (v1 : Int32) (v2 : Int32) (v5 : Int64) (v7 : Int32) (v8 : Int64) (h : fX5_hand_132 K18 S v1 v2 v5 v7 v8 = some z) {H : Heap} {locs : List Loc} {ls : Array Slot} (hV : gV wdX G ad A s.heap S H locs) (hl : lv_has ls 10 [(0, .ref (ad 0)), (1, .int v1), (2, .int v2), (5, .long v5), (7, .int v7), (8, .long v8)]) : W p l e rmX5_hand s m args below meth c H locs 0 0 (MQ below (gQv wdX G ad A z) args s 0 0 A) (F0 m 132 ls []) := by
  obtain ⟨hx, hb, hr, hml, hown, hts, hlk, hK⟩ := id X
  unfold fX5_hand_132 at h
  refine lv_lload hx hb dX5_hand_132 (lv_at hl 3 rfl) ?_
  refine lv_lload hx hb dX5_hand_134 (lv_at hl 5 rfl) ?_
  refine lv_lsub hx hb dX5_hand_136 ?_
  refine lv_topl (fun v5_137 e_137 => ?_)
  replace h := gx_let_e e_137 h
  clear e_137
  refine lv_lstore (lv' := [(5, .long v5_137), (0, .ref (ad 0)), (1, .int v1), (2, .int v2), (7, .int v7), (8, .long v8)]) hx hb dX5_hand_137 hl (by decide) rfl (fun ls hl => ?_)
  exact tX5_hand_139 X hA kK18 _ _ _ _ _ h hV (lv_sub hl [1, 2, 3, 0, 4] rfl)
set_option maxHeartbeats 4000000 in
set_option maxRecDepth 20000 in
theorem tX5_hand_18L {p : Program} {l : Launch} {e : Env} {s : State} {m : MethodId} {args : Array Value} {below : List Frame} {meth : Method} {c : Code} {G : gG} {ad : Nat → Nat} {A : Nat → Prop} {z : Unit × gS} {K18 : gS → Int32 → Int32 → Int64 → Int32 → Option (Unit × gS)} (X : gCx p s m args meth c G cX5_hand RX5 none 10) (hA : ∀ q, s.heap.size ≤ q → A q) (kK18 : ∀ (S : gS) (v1 : Int32) (v2 : Int32) (v5 : Int64) (v7 : Int32), K18 S v1 v2 v5 v7 = some z → ∀ (H : Heap) (locs : List Loc) (ls : Array Slot), gV wdX G ad A s.heap S H locs → lv_has ls 10 [(0, .ref (ad 0)), (1, .int v1), (2, .int v2), (5, .long v5), (7, .int v7)] → W p l e rmX5_hand s m args below meth c H locs 0 0 (MQ below (gQv wdX G ad A z) args s 0 0 A) (F0 m 18 ls [])) (S : gS) (v1 : Int32) (v2 : Int32) (v5 : Int64) (v7 : Int32) (h : fX5_hand_18L K18 S v1 v2 v5 v7 = some z) {H : Heap} {locs : List Loc} {ls : Array Slot} (hV : gV wdX G ad A s.heap S H locs) (hl : lv_has ls 10 [(0, .ref (ad 0)), (1, .int v1), (2, .int v2), (5, .long v5), (7, .int v7)]) : W p l e rmX5_hand s m args below meth c H locs 0 0 (MQ below (gQv wdX G ad A z) args s 0 0 A) (F0 m 18 ls []) := by
  obtain ⟨hx, hb, hr, hml, hown, hts, hlk, hK⟩ := id X
  unfold fX5_hand_18L at h
  refine lv_iload hx hb dX5_hand_18 (lv_at hl 4 rfl) ?_
  refine lv_if_lt (tgt := 145) hx hb dX5_hand_20 (by decide) (fun c_20 => ?_) (fun c_20 => ?_)
  · rw [if_pos c_20] at h
    exact gw_vret X hV h dX5_hand_145
  · rw [if_neg c_20] at h
    refine lv_lload hx hb dX5_hand_23 (lv_at hl 3 rfl) ?_
    refine lv_lconst (v := 0) hx hb dX5_hand_25 (by decide) ?_
    refine gw_cmp_le (tgt := 145) X dX5_hand_26 dX5_hand_27 (by decide) (fun c_26 => ?_) (fun c_26 => ?_)
    · rw [if_pos c_26] at h
      exact gw_vret X hV h dX5_hand_145
    · rw [if_neg c_26] at h
      refine lv_lload hx hb dX5_hand_30 (lv_at hl 3 rfl) ?_
      refine lv_aload_n hx hb dX5_hand_32 rfl (lv_at hl 0 rfl) ?_
      refine ggX5_46 X hV (o := 0) rfl dX5_hand_33 ?_
      refine ggX5_207 X hV (o := 41) rfl dX5_hand_36 ?_
      refine lv_iload_n hx hb dX5_hand_39 rfl (lv_at hl 1 rfl) ?_
      refine lv_bipush (v := 61) hx hb dX5_hand_40 (by decide) ?_
      refine lv_imul hx hb dX5_hand_42 ?_
      refine lv_iload hx hb dX5_hand_43 (lv_at hl 4 rfl) ?_
      refine lv_iadd hx hb dX5_hand_45 ?_
      obtain ⟨c_46, h⟩ := gx_chk_e h
      refine gw_lald X hV (iXJ_7 (o := 42) rfl) c_46 dX5_hand_46 ?_
      refine gw_min X hl.1 q_412 q_390 q_45 q_391 (Nat.le_of_ble_eq_true rfl) (Nat.le_of_ble_eq_true rfl) (Nat.zero_le _) (Nat.zero_le _) dX5_hand_47 ?_
      refine lv_topl (fun v8_50 e_50 => ?_)
      replace h := gx_let_e e_50 h
      clear e_50
      refine lv_lstore (lv' := [(8, .long v8_50), (0, .ref (ad 0)), (1, .int v1), (2, .int v2), (5, .long v5), (7, .int v7)]) hx hb dX5_hand_50 hl (by decide) rfl (fun ls hl => ?_)
      refine lv_lload hx hb dX5_hand_52 (lv_at hl 0 rfl) ?_
      refine lv_lconst (v := 0) hx hb dX5_hand_54 (by decide) ?_
      refine gw_cmp_ne (tgt := 62) X dX5_hand_55 dX5_hand_56 (by decide) (fun c_55 => ?_) (fun c_55 => ?_)
      · rw [if_neg c_55] at h
        refine lv_aload_n hx hb dX5_hand_62 rfl (lv_at hl 1 rfl) ?_
        refine ggX5_46 X hV (o := 0) rfl dX5_hand_63 ?_
        refine lv_iload_n hx hb dX5_hand_66 rfl (lv_at hl 2 rfl) ?_
        refine lv_iload hx hb dX5_hand_67 (lv_at hl 5 rfl) ?_
        refine lv_lload hx hb dX5_hand_69 (lv_at hl 0 rfl) ?_
        obtain ⟨r71, S71, k_71, h⟩ := gx_bind_e h
        refine gw_callv X hA hV (gw_runV X hV (o := 41) (As := [.int v1, .int v7, .long v8_50]) (rest := []) (mX0_lift l G ad _ S rfl k_71) kc_RX5_303 (iXO_6 rfl) rfl rfl rfl hl.1 rfl (Nat.le_of_ble_eq_true rfl) ⟨rfl, rfl⟩ ⟨Nat.le_of_ble_eq_true rfl, Nat.le_of_ble_eq_true rfl⟩ ⟨Nat.le_refl _, Nat.le_refl _⟩ dX5_hand_71) (fun H locs hV => ?_)
        refine lv_aload_n hx hb dX5_hand_74 rfl (lv_at hl 1 rfl) ?_
        refine ggX5_32 X hV (o := 0) rfl dX5_hand_75 ?_
        refine lv_iload_n hx hb dX5_hand_78 rfl (lv_at hl 2 rfl) ?_
        refine lv_iload hx hb dX5_hand_79 (lv_at hl 5 rfl) ?_
        refine lv_lload hx hb dX5_hand_81 (lv_at hl 0 rfl) ?_
        obtain ⟨r83, S83, k_83, h⟩ := gx_bind_e h
        refine gw_callv X hA hV (gw_runV X hV (o := 10) (As := [.int v1, .int v7, .long v8_50]) (rest := []) (mX0_lift l G ad _ S71 rfl k_83) kc_RX5_303 (iXO_6 rfl) rfl rfl rfl hl.1 rfl (Nat.le_of_ble_eq_true rfl) ⟨rfl, rfl⟩ ⟨Nat.le_of_ble_eq_true rfl, Nat.le_of_ble_eq_true rfl⟩ ⟨Nat.le_refl _, Nat.le_refl _⟩ dX5_hand_83) (fun H locs hV => ?_)
        refine lv_aload_n hx hb dX5_hand_86 rfl (lv_at hl 1 rfl) ?_
        refine ggX5_25 X hV (o := 0) rfl dX5_hand_87 ?_
        refine ggX5_136 X hV (o := 5) rfl dX5_hand_90 ?_
        refine lv_iload_n hx hb dX5_hand_93 rfl (lv_at hl 3 rfl) ?_
        obtain ⟨c_94, h⟩ := gx_chk_e h
        refine gw_iald X hV (iXA_5 (o := 7) rfl) c_94 dX5_hand_94 ?_
        refine lv_iconst (v := 4) hx hb dX5_hand_95 (by decide) ?_
        refine lv_icmp_ne (tgt := 120) hx hb dX5_hand_96 (by decide) (fun c_96 => ?_) (fun c_96 => ?_)
        · rw [if_neg c_96] at h
          refine lv_aload_n hx hb dX5_hand_120 rfl (lv_at hl 1 rfl) ?_
          refine ggX5_32 X hV (o := 0) rfl dX5_hand_121 ?_
          refine lv_iload_n hx hb dX5_hand_124 rfl (lv_at hl 3 rfl) ?_
          refine lv_iload hx hb dX5_hand_125 (lv_at hl 5 rfl) ?_
          refine lv_lload hx hb dX5_hand_127 (lv_at hl 0 rfl) ?_
          obtain ⟨r129, S129, k_129, h⟩ := gx_bind_e h
          refine gw_callv X hA hV (gw_runV X hV (o := 10) (As := [.int v2, .int v7, .long v8_50]) (rest := []) (mX0_lay l G ad _ S83 rfl k_129) kc_RX5_306 (iXO_6 rfl) rfl rfl rfl hl.1 rfl (Nat.le_of_ble_eq_true rfl) ⟨rfl, rfl⟩ ⟨Nat.le_of_ble_eq_true rfl, Nat.le_of_ble_eq_true rfl⟩ ⟨Nat.le_refl _, Nat.le_refl _⟩ dX5_hand_129) (fun H locs hV => ?_)
          exact tX5_hand_132 X hA kK18 _ _ _ _ _ _ h hV (lv_sub hl [1, 2, 3, 4, 5, 0] rfl)
        · rw [if_pos c_96] at h
          refine lv_aload_n hx hb dX5_hand_99 rfl (lv_at hl 1 rfl) ?_
          refine ggX5_32 X hV (o := 0) rfl dX5_hand_100 ?_
          refine ggX5_217 X hV (o := 10) rfl dX5_hand_103 ?_
          refine lv_bipush (v := 122) hx hb dX5_hand_106 (by decide) ?_
          refine lv_iload hx hb dX5_hand_108 (lv_at hl 5 rfl) ?_
          refine lv_iadd hx hb dX5_hand_110 ?_
          refine lv_dup2_11 hx hb dX5_hand_111 rfl rfl ?_
          obtain ⟨c_112, h⟩ := gx_chk_e h
          refine gw_lald X hV (iXJ_9 (o := 13) rfl) c_112 dX5_hand_112 ?_
          refine lv_lload hx hb dX5_hand_113 (lv_at hl 0 rfl) ?_
          refine lv_ladd hx hb dX5_hand_115 ?_
          obtain ⟨c_116, h⟩ := gx_chk_e h
          refine gw_last X hV (iXJ_9 (o := 13) rfl) c_116 dX5_hand_116 (fun S116 e_116 H locs hV => ?_)
          replace h := gx_let_e e_116 h
          clear e_116
          refine lv_goto (tgt := 132) hx hb dX5_hand_117 (by decide) ?_
          exact tX5_hand_132 X hA kK18 _ _ _ _ _ _ h hV (lv_sub hl [1, 2, 3, 4, 5, 0] rfl)
      · rw [if_pos c_55] at h
        refine lv_goto (tgt := 139) hx hb dX5_hand_59 (by decide) ?_
        exact tX5_hand_139 X hA kK18 _ _ _ _ _ h hV (lv_sub hl [1, 2, 3, 4, 5] rfl)
set_option maxHeartbeats 4000000 in
set_option maxRecDepth 20000 in
theorem tX5_hand_18 {p : Program} {l : Launch} {e : Env} {s : State} {m : MethodId} {args : Array Value} {below : List Frame} {meth : Method} {c : Code} {G : gG} {ad : Nat → Nat} {A : Nat → Prop} {z : Unit × gS} (X : gCx p s m args meth c G cX5_hand RX5 none 10) (hA : ∀ q, s.heap.size ≤ q → A q) : ∀ (f : Nat) (S : gS) (v1 : Int32) (v2 : Int32) (v5 : Int64) (v7 : Int32) (h : fX5_hand_18 f S v1 v2 v5 v7 = some z) (H : Heap) (locs : List Loc) (ls : Array Slot) (hV : gV wdX G ad A s.heap S H locs) (hl : lv_has ls 10 [(0, .ref (ad 0)), (1, .int v1), (2, .int v2), (5, .long v5), (7, .int v7)]), W p l e rmX5_hand s m args below meth c H locs 0 0 (MQ below (gQv wdX G ad A z) args s 0 0 A) (F0 m 18 ls []) := by
  intro f
  induction f with
  | zero => intro S v1 v2 v5 v7 h; exact absurd h (by simp [fX5_hand_18])
  | succ f ih => intro S v1 v2 v5 v7 h H locs ls hV hl; exact tX5_hand_18L X hA ih S v1 v2 v5 v7 h hV hl
set_option maxHeartbeats 4000000 in
set_option maxRecDepth 20000 in
theorem mX5_hand (l : Launch) (G : gG) (ad : Nat → Nat) (sz : Nat) (S : gS) {v1 : Int32} {v2 : Int32} {v3 : Int64} {r : Unit} {S' : gS} (h : fX5_hand S v1 v2 v3 = some (r, S')) : gMetV l yX5_hand cX5_hand 10 none rmX5_hand wdX G ad S sz [.ref (ad 0), .int v1, .int v2, .long v3] r S' := by
  refine gMet_of (by decide) ?_
  intro p e s m below meth c A hA X hnm hV
  have hl := lv_entry ([.ref (ad 0), .int v1, .int v2, .long v3]) (n := 10) (Nat.le_of_ble_eq_true rfl)
  rw [lg_entry_eq]
  generalize (lg_sl ([.ref (ad 0), .int v1, .int v2, .long v3]) ++ List.replicate (10 - (lg_sl ([.ref (ad 0), .int v1, .int v2, .long v3])).length) Slot.unset).toArray = ls at hl ⊢
  have hl : lv_has ls 10 [(0, .ref (ad 0)), (1, .int v1), (2, .int v2), (3, .long v3)] := hl
  obtain ⟨hx, hb, hr, hml, hown, hts, hlk, hK⟩ := id X
  unfold fX5_hand at h
  generalize ([.ref (ad 0), .int v1, .int v2, .long v3].toArray : Array Value) = args at X ⊢
  have Y : ∀ (H : Heap) (locs : List Loc), gV wdX G ad A s.heap S H locs → W p l e rmX5_hand s m args below meth c H locs 0 0 (MQ below (gQv wdX G ad A (r, S')) args s 0 0 A) (F0 m 0 ls []) := by
    intro H locs hV
    refine lv_iload_n hx hb dX5_hand_0 rfl (lv_at hl 2 rfl) ?_
    refine lv_iconst (v := -1) hx hb dX5_hand_1 (by decide) ?_
    refine lv_icmp_ne (tgt := 6) hx hb dX5_hand_2 (by decide) (fun c_2 => ?_) (fun c_2 => ?_)
    · rw [if_neg c_2] at h
      refine lv_lload_n hx hb dX5_hand_6 rfl (lv_at hl 3 rfl) ?_
      refine lv_lstore (lv' := [(5, .long v3), (0, .ref (ad 0)), (1, .int v1), (2, .int v2), (3, .long v3)]) hx hb dX5_hand_7 hl (by decide) rfl (fun ls hl => ?_)
      refine lv_aload_n hx hb dX5_hand_9 rfl (lv_at hl 1 rfl) ?_
      refine ggX5_32 X hV (o := 0) rfl dX5_hand_10 ?_
      refine ggX5_160 X hV (o := 10) rfl dX5_hand_13 ?_
      refine lv_topi (fun v7_16 e_16 => ?_)
      replace h := gx_let_e e_16 h
      clear e_16
      refine lv_istore (lv' := [(7, .int v7_16), (5, .long v3), (0, .ref (ad 0)), (1, .int v1), (2, .int v2), (3, .long v3)]) hx hb dX5_hand_16 hl (by decide) rfl (fun ls hl => ?_)
      exact tX5_hand_18 X hA gx_fuel _ _ _ _ _ h _ _ _ hV (lv_sub hl [2, 3, 4, 1, 0] rfl)
    · rw [if_pos c_2] at h
      exact gw_vret X hV h dX5_hand_5
  exact Y _ _ hV
theorem kc_RX5_235 : gKV RX5 235 yX5_gift cX5_gift 13 (some .long) 2 := ⟨q_400, q_402, q_7, q_403, q_36, by decide +kernel⟩
theorem kc_RX5_242 : gKV RX5 242 yX0_become cX0_become 2 none 1 := ⟨q_415, q_368, q_369, q_370, q_39, by decide +kernel⟩
theorem kc_RX5_290 : gKV RX5 290 yX5_hand cX5_hand 10 none 3 := ⟨q_416, q_418, q_9, q_419, q_36, by decide +kernel⟩
def fX5_moveIce_94L (K71 : gS → Int32 → Option (Unit × gS)) (K94 : gS → Int32 → Int32 → Int32 → Option (Unit × gS)) (S : gS) (v1 : Int32) (v2 : Int32) (v3 : Int32) : Option (Unit × gS) :=
if (4 : Int32) ≤ v3 then (gx_let (v1 + (1 : Int32)) fun v1_129 =>
K71 S v1_129) else
gx_bind (fX1_neighbour 5 S v2 v3) fun r107 S107 =>
gx_chk ((v2 * (4 : Int32)) + v3) 256 <|
gx_bind (fX5_hand S107 v2 r107 (gJ S107 45 (Int32.toNatClampNeg ((v2 * (4 : Int32)) + v3)))) fun r120 S120 =>
gx_let (v3 + (1 : Int32)) fun v3_123 =>
K94 S120 v1 v2 v3_123
def fX5_moveIce_94 (K71 : gS → Int32 → Option (Unit × gS)) : Nat → gS → Int32 → Int32 → Int32 → Option (Unit × gS)
  | 0, _, _, _, _ => none
  | f + 1, S, v1, v2, v3 => fX5_moveIce_94L K71 (fX5_moveIce_94 K71 f) S v1 v2 v3
def fX5_moveIce_71L (K71 : gS → Int32 → Option (Unit × gS)) (S : gS) (v1 : Int32) : Option (Unit × gS) :=
if (gI S 5 4) ≤ v1 then (some ((), S)) else
gx_chk v1 64 <|
gx_let (gA S 9 (Int32.toNatClampNeg v1)) fun v2_91 =>
fX5_moveIce_94 K71 gx_fuel S v1 v2_91 (0 : Int32)
def fX5_moveIce_71 : Nat → gS → Int32 → Option (Unit × gS)
  | 0, _, _ => none
  | f + 1, S, v1 => fX5_moveIce_71L (fX5_moveIce_71 f) S v1
def fX5_moveIce_25L (K2 : gS → Int32 → Option (Unit × gS)) (K25 : gS → Int32 → Int32 → Int32 → Option (Unit × gS)) (S : gS) (v1 : Int32) (v2 : Int32) (v3 : Int32) : Option (Unit × gS) :=
if (4 : Int32) ≤ v3 then (gx_let (v1 + (1 : Int32)) fun v1_52 =>
K2 S v1_52) else
gx_bind (fX5_gift S v2 v3) fun r42 S42 =>
gx_chk ((v2 * (4 : Int32)) + v3) 256 <|
gx_let (gJ_up S42 45 (Int32.toNatClampNeg ((v2 * (4 : Int32)) + v3)) r42) fun S45 =>
gx_let (v3 + (1 : Int32)) fun v3_46 =>
K25 S45 v1 v2 v3_46
def fX5_moveIce_25 (K2 : gS → Int32 → Option (Unit × gS)) : Nat → gS → Int32 → Int32 → Int32 → Option (Unit × gS)
  | 0, _, _, _, _ => none
  | f + 1, S, v1, v2, v3 => fX5_moveIce_25L K2 (fX5_moveIce_25 K2 f) S v1 v2 v3
def fX5_moveIce_2L (K2 : gS → Int32 → Option (Unit × gS)) (S : gS) (v1 : Int32) : Option (Unit × gS) :=
if (gI S 5 4) ≤ v1 then (gx_bind (fX0_become 41 10 S) fun r66 S66 =>
fX5_moveIce_71 gx_fuel S66 (0 : Int32)) else
gx_chk v1 64 <|
gx_let (gA S 9 (Int32.toNatClampNeg v1)) fun v2_22 =>
fX5_moveIce_25 K2 gx_fuel S v1 v2_22 (0 : Int32)
def fX5_moveIce_2 : Nat → gS → Int32 → Option (Unit × gS)
  | 0, _, _ => none
  | f + 1, S, v1 => fX5_moveIce_2L (fX5_moveIce_2 f) S v1
def fX5_moveIce (S : gS) : Option (Unit × gS) :=
fX5_moveIce_2 gx_fuel S (0 : Int32)
def rmX5_moveIce : Room := { frames := 3, cells := 0, slots := 0, locals := 78 }
set_option maxHeartbeats 4000000 in
set_option maxRecDepth 20000 in
theorem tX5_moveIce_94L {p : Program} {l : Launch} {e : Env} {s : State} {m : MethodId} {args : Array Value} {below : List Frame} {meth : Method} {c : Code} {G : gG} {ad : Nat → Nat} {A : Nat → Prop} {z : Unit × gS} {K71 : gS → Int32 → Option (Unit × gS)} {K94 : gS → Int32 → Int32 → Int32 → Option (Unit × gS)} (X : gCx p s m args meth c G cX5_moveIce RX5 none 4) (hA : ∀ q, s.heap.size ≤ q → A q) (kK71 : ∀ (S : gS) (v1 : Int32), K71 S v1 = some z → ∀ (H : Heap) (locs : List Loc) (ls : Array Slot), gV wdX G ad A s.heap S H locs → lv_has ls 4 [(0, .ref (ad 0)), (1, .int v1)] → W p l e rmX5_moveIce s m args below meth c H locs 0 0 (MQ below (gQv wdX G ad A z) args s 0 0 A) (F0 m 71 ls [])) (kK94 : ∀ (S : gS) (v1 : Int32) (v2 : Int32) (v3 : Int32), K94 S v1 v2 v3 = some z → ∀ (H : Heap) (locs : List Loc) (ls : Array Slot), gV wdX G ad A s.heap S H locs → lv_has ls 4 [(0, .ref (ad 0)), (1, .int v1), (2, .int v2), (3, .int v3)] → W p l e rmX5_moveIce s m args below meth c H locs 0 0 (MQ below (gQv wdX G ad A z) args s 0 0 A) (F0 m 94 ls [])) (S : gS) (v1 : Int32) (v2 : Int32) (v3 : Int32) (h : fX5_moveIce_94L K71 K94 S v1 v2 v3 = some z) {H : Heap} {locs : List Loc} {ls : Array Slot} (hV : gV wdX G ad A s.heap S H locs) (hl : lv_has ls 4 [(0, .ref (ad 0)), (1, .int v1), (2, .int v2), (3, .int v3)]) : W p l e rmX5_moveIce s m args below meth c H locs 0 0 (MQ below (gQv wdX G ad A z) args s 0 0 A) (F0 m 94 ls []) := by
  obtain ⟨hx, hb, hr, hml, hown, hts, hlk, hK⟩ := id X
  unfold fX5_moveIce_94L at h
  refine lv_iload_n hx hb dX5_moveIce_94 rfl (lv_at hl 3 rfl) ?_
  refine lv_iconst (v := 4) hx hb dX5_moveIce_95 (by decide) ?_
  refine lv_icmp_ge (tgt := 129) hx hb dX5_moveIce_96 (by decide) (fun c_96 => ?_) (fun c_96 => ?_)
  · rw [if_pos c_96] at h
    obtain ⟨v1_129, e_129⟩ : ∃ y : Int32, y = (v1 + (1 : Int32)) := ⟨_, rfl⟩
    refine lv_iinc (v := v1_129) (lv' := [(1, .int v1_129), (0, .ref (ad 0)), (2, .int v2), (3, .int v3)]) hx hb dX5_moveIce_129 hl (k := 1) rfl (by rw [e_129]; rfl) (by decide) rfl (fun ls hl => ?_)
    replace h := gx_let_e e_129 h
    clear e_129
    refine lv_goto (tgt := 71) hx hb dX5_moveIce_132 (by decide) ?_
    exact kK71 _ _ h _ _ _ hV (lv_sub hl [1, 0] rfl)
  · rw [if_neg c_96] at h
    refine lv_aload_n hx hb dX5_moveIce_99 rfl (lv_at hl 0 rfl) ?_
    refine lv_iload_n hx hb dX5_moveIce_100 rfl (lv_at hl 2 rfl) ?_
    refine lv_aload_n hx hb dX5_moveIce_101 rfl (lv_at hl 0 rfl) ?_
    refine ggX5_25 X hV (o := 0) rfl dX5_moveIce_102 ?_
    refine lv_iload_n hx hb dX5_moveIce_105 rfl (lv_at hl 2 rfl) ?_
    refine lv_iload_n hx hb dX5_moveIce_106 rfl (lv_at hl 3 rfl) ?_
    obtain ⟨r107, S107, k_107, h⟩ := gx_bind_e h
    refine gw_callI X hA hV (gw_runV X hV (o := 5) (As := [.int v2, .int v3]) (rest := [.int v2, .ref (ad 0)]) (mX1_neighbour l G ad _ S rfl k_107) kc_RX5_287 (iXO_4 rfl) rfl rfl rfl hl.1 rfl (Nat.le_of_ble_eq_true rfl) ⟨rfl, rfl⟩ ⟨Nat.le_of_ble_eq_true rfl, Nat.le_of_ble_eq_true rfl⟩ ⟨Nat.le_refl _, Nat.le_refl _⟩ dX5_moveIce_107) (fun H locs hV => ?_)
    refine lv_aload_n hx hb dX5_moveIce_110 rfl (lv_at hl 0 rfl) ?_
    refine ggX5_49 X hV (o := 0) rfl dX5_moveIce_111 ?_
    refine lv_iload_n hx hb dX5_moveIce_114 rfl (lv_at hl 2 rfl) ?_
    refine lv_iconst (v := 4) hx hb dX5_moveIce_115 (by decide) ?_
    refine lv_imul hx hb dX5_moveIce_116 ?_
    refine lv_iload_n hx hb dX5_moveIce_117 rfl (lv_at hl 3 rfl) ?_
    refine lv_iadd hx hb dX5_moveIce_118 ?_
    obtain ⟨c_119, h⟩ := gx_chk_e h
    refine gw_lald X hV (iXJ_12 (o := 45) rfl) c_119 dX5_moveIce_119 ?_
    obtain ⟨r120, S120, k_120, h⟩ := gx_bind_e h
    refine gw_callv X hA hV (gw_runV X hV (o := 0) (As := [.int v2, .int r107, .long (gJ S107 45 (Int32.toNatClampNeg ((v2 * (4 : Int32)) + v3)))]) (rest := []) (mX5_hand l G ad _ S107 k_120) kc_RX5_290 (iXO_0 rfl) rfl rfl rfl hl.1 rfl (Nat.le_of_ble_eq_true rfl) ⟨rfl, rfl⟩ ⟨Nat.le_of_ble_eq_true rfl, Nat.le_of_ble_eq_true rfl⟩ ⟨Nat.le_refl _, Nat.le_refl _⟩ dX5_moveIce_120) (fun H locs hV => ?_)
    obtain ⟨v3_123, e_123⟩ : ∃ y : Int32, y = (v3 + (1 : Int32)) := ⟨_, rfl⟩
    refine lv_iinc (v := v3_123) (lv' := [(3, .int v3_123), (0, .ref (ad 0)), (1, .int v1), (2, .int v2)]) hx hb dX5_moveIce_123 hl (k := 3) rfl (by rw [e_123]; rfl) (by decide) rfl (fun ls hl => ?_)
    replace h := gx_let_e e_123 h
    clear e_123
    refine lv_goto (tgt := 94) hx hb dX5_moveIce_126 (by decide) ?_
    exact kK94 _ _ _ _ h _ _ _ hV (lv_sub hl [1, 2, 3, 0] rfl)
set_option maxHeartbeats 4000000 in
set_option maxRecDepth 20000 in
theorem tX5_moveIce_94 {p : Program} {l : Launch} {e : Env} {s : State} {m : MethodId} {args : Array Value} {below : List Frame} {meth : Method} {c : Code} {G : gG} {ad : Nat → Nat} {A : Nat → Prop} {z : Unit × gS} {K71 : gS → Int32 → Option (Unit × gS)} (X : gCx p s m args meth c G cX5_moveIce RX5 none 4) (hA : ∀ q, s.heap.size ≤ q → A q) (kK71 : ∀ (S : gS) (v1 : Int32), K71 S v1 = some z → ∀ (H : Heap) (locs : List Loc) (ls : Array Slot), gV wdX G ad A s.heap S H locs → lv_has ls 4 [(0, .ref (ad 0)), (1, .int v1)] → W p l e rmX5_moveIce s m args below meth c H locs 0 0 (MQ below (gQv wdX G ad A z) args s 0 0 A) (F0 m 71 ls [])) : ∀ (f : Nat) (S : gS) (v1 : Int32) (v2 : Int32) (v3 : Int32) (h : fX5_moveIce_94 K71 f S v1 v2 v3 = some z) (H : Heap) (locs : List Loc) (ls : Array Slot) (hV : gV wdX G ad A s.heap S H locs) (hl : lv_has ls 4 [(0, .ref (ad 0)), (1, .int v1), (2, .int v2), (3, .int v3)]), W p l e rmX5_moveIce s m args below meth c H locs 0 0 (MQ below (gQv wdX G ad A z) args s 0 0 A) (F0 m 94 ls []) := by
  intro f
  induction f with
  | zero => intro S v1 v2 v3 h; exact absurd h (by simp [fX5_moveIce_94])
  | succ f ih => intro S v1 v2 v3 h H locs ls hV hl; exact tX5_moveIce_94L X hA kK71 ih S v1 v2 v3 h hV hl
set_option maxHeartbeats 4000000 in
set_option maxRecDepth 20000 in
theorem tX5_moveIce_71L {p : Program} {l : Launch} {e : Env} {s : State} {m : MethodId} {args : Array Value} {below : List Frame} {meth : Method} {c : Code} {G : gG} {ad : Nat → Nat} {A : Nat → Prop} {z : Unit × gS} {K71 : gS → Int32 → Option (Unit × gS)} (X : gCx p s m args meth c G cX5_moveIce RX5 none 4) (hA : ∀ q, s.heap.size ≤ q → A q) (kK71 : ∀ (S : gS) (v1 : Int32), K71 S v1 = some z → ∀ (H : Heap) (locs : List Loc) (ls : Array Slot), gV wdX G ad A s.heap S H locs → lv_has ls 4 [(0, .ref (ad 0)), (1, .int v1)] → W p l e rmX5_moveIce s m args below meth c H locs 0 0 (MQ below (gQv wdX G ad A z) args s 0 0 A) (F0 m 71 ls [])) (S : gS) (v1 : Int32) (h : fX5_moveIce_71L K71 S v1 = some z) {H : Heap} {locs : List Loc} {ls : Array Slot} (hV : gV wdX G ad A s.heap S H locs) (hl : lv_has ls 4 [(0, .ref (ad 0)), (1, .int v1)]) : W p l e rmX5_moveIce s m args below meth c H locs 0 0 (MQ below (gQv wdX G ad A z) args s 0 0 A) (F0 m 71 ls []) := by
  obtain ⟨hx, hb, hr, hml, hown, hts, hlk, hK⟩ := id X
  unfold fX5_moveIce_71L at h
  refine lv_iload_n hx hb dX5_moveIce_71 rfl (lv_at hl 1 rfl) ?_
  refine lv_aload_n hx hb dX5_moveIce_72 rfl (lv_at hl 0 rfl) ?_
  refine ggX5_25 X hV (o := 0) rfl dX5_moveIce_73 ?_
  refine ggX5_273 X hV (o := 5) rfl dX5_moveIce_76 ?_
  refine lv_icmp_ge (tgt := 135) hx hb dX5_moveIce_79 (by decide) (fun c_79 => ?_) (fun c_79 => ?_)
  · rw [if_pos c_79] at h
    exact gw_vret X hV h dX5_moveIce_135
  · rw [if_neg c_79] at h
    refine lv_aload_n hx hb dX5_moveIce_82 rfl (lv_at hl 0 rfl) ?_
    refine ggX5_25 X hV (o := 0) rfl dX5_moveIce_83 ?_
    refine ggX5_276 X hV (o := 5) rfl dX5_moveIce_86 ?_
    refine lv_iload_n hx hb dX5_moveIce_89 rfl (lv_at hl 1 rfl) ?_
    obtain ⟨c_90, h⟩ := gx_chk_e h
    refine gw_iald X hV (iXA_5 (o := 9) rfl) c_90 dX5_moveIce_90 ?_
    refine lv_topi (fun v2_91 e_91 => ?_)
    replace h := gx_let_e e_91 h
    clear e_91
    refine lv_istore_n (lv' := [(2, .int v2_91), (0, .ref (ad 0)), (1, .int v1)]) hx hb dX5_moveIce_91 rfl hl (by decide) rfl (fun ls hl => ?_)
    refine lv_iconst (v := 0) hx hb dX5_moveIce_92 (by decide) ?_
    refine lv_istore_n (lv' := [(3, .int (0 : Int32)), (2, .int v2_91), (0, .ref (ad 0)), (1, .int v1)]) hx hb dX5_moveIce_93 rfl hl (by decide) rfl (fun ls hl => ?_)
    exact tX5_moveIce_94 X hA kK71 gx_fuel _ _ _ _ h _ _ _ hV (lv_sub hl [2, 3, 1, 0] rfl)
set_option maxHeartbeats 4000000 in
set_option maxRecDepth 20000 in
theorem tX5_moveIce_71 {p : Program} {l : Launch} {e : Env} {s : State} {m : MethodId} {args : Array Value} {below : List Frame} {meth : Method} {c : Code} {G : gG} {ad : Nat → Nat} {A : Nat → Prop} {z : Unit × gS} (X : gCx p s m args meth c G cX5_moveIce RX5 none 4) (hA : ∀ q, s.heap.size ≤ q → A q) : ∀ (f : Nat) (S : gS) (v1 : Int32) (h : fX5_moveIce_71 f S v1 = some z) (H : Heap) (locs : List Loc) (ls : Array Slot) (hV : gV wdX G ad A s.heap S H locs) (hl : lv_has ls 4 [(0, .ref (ad 0)), (1, .int v1)]), W p l e rmX5_moveIce s m args below meth c H locs 0 0 (MQ below (gQv wdX G ad A z) args s 0 0 A) (F0 m 71 ls []) := by
  intro f
  induction f with
  | zero => intro S v1 h; exact absurd h (by simp [fX5_moveIce_71])
  | succ f ih => intro S v1 h H locs ls hV hl; exact tX5_moveIce_71L X hA ih S v1 h hV hl
set_option maxHeartbeats 4000000 in
set_option maxRecDepth 20000 in
theorem tX5_moveIce_25L {p : Program} {l : Launch} {e : Env} {s : State} {m : MethodId} {args : Array Value} {below : List Frame} {meth : Method} {c : Code} {G : gG} {ad : Nat → Nat} {A : Nat → Prop} {z : Unit × gS} {K2 : gS → Int32 → Option (Unit × gS)} {K25 : gS → Int32 → Int32 → Int32 → Option (Unit × gS)} (X : gCx p s m args meth c G cX5_moveIce RX5 none 4) (hA : ∀ q, s.heap.size ≤ q → A q) (kK2 : ∀ (S : gS) (v1 : Int32), K2 S v1 = some z → ∀ (H : Heap) (locs : List Loc) (ls : Array Slot), gV wdX G ad A s.heap S H locs → lv_has ls 4 [(0, .ref (ad 0)), (1, .int v1)] → W p l e rmX5_moveIce s m args below meth c H locs 0 0 (MQ below (gQv wdX G ad A z) args s 0 0 A) (F0 m 2 ls [])) (kK25 : ∀ (S : gS) (v1 : Int32) (v2 : Int32) (v3 : Int32), K25 S v1 v2 v3 = some z → ∀ (H : Heap) (locs : List Loc) (ls : Array Slot), gV wdX G ad A s.heap S H locs → lv_has ls 4 [(0, .ref (ad 0)), (1, .int v1), (2, .int v2), (3, .int v3)] → W p l e rmX5_moveIce s m args below meth c H locs 0 0 (MQ below (gQv wdX G ad A z) args s 0 0 A) (F0 m 25 ls [])) (S : gS) (v1 : Int32) (v2 : Int32) (v3 : Int32) (h : fX5_moveIce_25L K2 K25 S v1 v2 v3 = some z) {H : Heap} {locs : List Loc} {ls : Array Slot} (hV : gV wdX G ad A s.heap S H locs) (hl : lv_has ls 4 [(0, .ref (ad 0)), (1, .int v1), (2, .int v2), (3, .int v3)]) : W p l e rmX5_moveIce s m args below meth c H locs 0 0 (MQ below (gQv wdX G ad A z) args s 0 0 A) (F0 m 25 ls []) := by
  obtain ⟨hx, hb, hr, hml, hown, hts, hlk, hK⟩ := id X
  unfold fX5_moveIce_25L at h
  refine lv_iload_n hx hb dX5_moveIce_25 rfl (lv_at hl 3 rfl) ?_
  refine lv_iconst (v := 4) hx hb dX5_moveIce_26 (by decide) ?_
  refine lv_icmp_ge (tgt := 52) hx hb dX5_moveIce_27 (by decide) (fun c_27 => ?_) (fun c_27 => ?_)
  · rw [if_pos c_27] at h
    obtain ⟨v1_52, e_52⟩ : ∃ y : Int32, y = (v1 + (1 : Int32)) := ⟨_, rfl⟩
    refine lv_iinc (v := v1_52) (lv' := [(1, .int v1_52), (0, .ref (ad 0)), (2, .int v2), (3, .int v3)]) hx hb dX5_moveIce_52 hl (k := 1) rfl (by rw [e_52]; rfl) (by decide) rfl (fun ls hl => ?_)
    replace h := gx_let_e e_52 h
    clear e_52
    refine lv_goto (tgt := 2) hx hb dX5_moveIce_55 (by decide) ?_
    exact kK2 _ _ h _ _ _ hV (lv_sub hl [1, 0] rfl)
  · rw [if_neg c_27] at h
    refine lv_aload_n hx hb dX5_moveIce_30 rfl (lv_at hl 0 rfl) ?_
    refine ggX5_49 X hV (o := 0) rfl dX5_moveIce_31 ?_
    refine lv_iload_n hx hb dX5_moveIce_34 rfl (lv_at hl 2 rfl) ?_
    refine lv_iconst (v := 4) hx hb dX5_moveIce_35 (by decide) ?_
    refine lv_imul hx hb dX5_moveIce_36 ?_
    refine lv_iload_n hx hb dX5_moveIce_37 rfl (lv_at hl 3 rfl) ?_
    refine lv_iadd hx hb dX5_moveIce_38 ?_
    refine lv_aload_n hx hb dX5_moveIce_39 rfl (lv_at hl 0 rfl) ?_
    refine lv_iload_n hx hb dX5_moveIce_40 rfl (lv_at hl 2 rfl) ?_
    refine lv_iload_n hx hb dX5_moveIce_41 rfl (lv_at hl 3 rfl) ?_
    obtain ⟨r42, S42, k_42, h⟩ := gx_bind_e h
    refine gw_callL X hA hV (gw_runV X hV (o := 0) (As := [.int v2, .int v3]) (rest := [.int ((v2 * (4 : Int32)) + v3), .ref (ad 45)]) (mX5_gift l G ad _ S k_42) kc_RX5_235 (iXO_0 rfl) rfl rfl rfl hl.1 rfl (Nat.le_of_ble_eq_true rfl) ⟨rfl, rfl⟩ ⟨Nat.le_of_ble_eq_true rfl, Nat.le_of_ble_eq_true rfl⟩ ⟨Nat.le_refl _, Nat.le_refl _⟩ dX5_moveIce_42) (fun H locs hV => ?_)
    obtain ⟨c_45, h⟩ := gx_chk_e h
    refine gw_last X hV (iXJ_12 (o := 45) rfl) c_45 dX5_moveIce_45 (fun S45 e_45 H locs hV => ?_)
    replace h := gx_let_e e_45 h
    clear e_45
    obtain ⟨v3_46, e_46⟩ : ∃ y : Int32, y = (v3 + (1 : Int32)) := ⟨_, rfl⟩
    refine lv_iinc (v := v3_46) (lv' := [(3, .int v3_46), (0, .ref (ad 0)), (1, .int v1), (2, .int v2)]) hx hb dX5_moveIce_46 hl (k := 3) rfl (by rw [e_46]; rfl) (by decide) rfl (fun ls hl => ?_)
    replace h := gx_let_e e_46 h
    clear e_46
    refine lv_goto (tgt := 25) hx hb dX5_moveIce_49 (by decide) ?_
    exact kK25 _ _ _ _ h _ _ _ hV (lv_sub hl [1, 2, 3, 0] rfl)
set_option maxHeartbeats 4000000 in
set_option maxRecDepth 20000 in
theorem tX5_moveIce_25 {p : Program} {l : Launch} {e : Env} {s : State} {m : MethodId} {args : Array Value} {below : List Frame} {meth : Method} {c : Code} {G : gG} {ad : Nat → Nat} {A : Nat → Prop} {z : Unit × gS} {K2 : gS → Int32 → Option (Unit × gS)} (X : gCx p s m args meth c G cX5_moveIce RX5 none 4) (hA : ∀ q, s.heap.size ≤ q → A q) (kK2 : ∀ (S : gS) (v1 : Int32), K2 S v1 = some z → ∀ (H : Heap) (locs : List Loc) (ls : Array Slot), gV wdX G ad A s.heap S H locs → lv_has ls 4 [(0, .ref (ad 0)), (1, .int v1)] → W p l e rmX5_moveIce s m args below meth c H locs 0 0 (MQ below (gQv wdX G ad A z) args s 0 0 A) (F0 m 2 ls [])) : ∀ (f : Nat) (S : gS) (v1 : Int32) (v2 : Int32) (v3 : Int32) (h : fX5_moveIce_25 K2 f S v1 v2 v3 = some z) (H : Heap) (locs : List Loc) (ls : Array Slot) (hV : gV wdX G ad A s.heap S H locs) (hl : lv_has ls 4 [(0, .ref (ad 0)), (1, .int v1), (2, .int v2), (3, .int v3)]), W p l e rmX5_moveIce s m args below meth c H locs 0 0 (MQ below (gQv wdX G ad A z) args s 0 0 A) (F0 m 25 ls []) := by
  intro f
  induction f with
  | zero => intro S v1 v2 v3 h; exact absurd h (by simp [fX5_moveIce_25])
  | succ f ih => intro S v1 v2 v3 h H locs ls hV hl; exact tX5_moveIce_25L X hA kK2 ih S v1 v2 v3 h hV hl
set_option maxHeartbeats 4000000 in
set_option maxRecDepth 20000 in
theorem tX5_moveIce_2L {p : Program} {l : Launch} {e : Env} {s : State} {m : MethodId} {args : Array Value} {below : List Frame} {meth : Method} {c : Code} {G : gG} {ad : Nat → Nat} {A : Nat → Prop} {z : Unit × gS} {K2 : gS → Int32 → Option (Unit × gS)} (X : gCx p s m args meth c G cX5_moveIce RX5 none 4) (hA : ∀ q, s.heap.size ≤ q → A q) (kK2 : ∀ (S : gS) (v1 : Int32), K2 S v1 = some z → ∀ (H : Heap) (locs : List Loc) (ls : Array Slot), gV wdX G ad A s.heap S H locs → lv_has ls 4 [(0, .ref (ad 0)), (1, .int v1)] → W p l e rmX5_moveIce s m args below meth c H locs 0 0 (MQ below (gQv wdX G ad A z) args s 0 0 A) (F0 m 2 ls [])) (S : gS) (v1 : Int32) (h : fX5_moveIce_2L K2 S v1 = some z) {H : Heap} {locs : List Loc} {ls : Array Slot} (hV : gV wdX G ad A s.heap S H locs) (hl : lv_has ls 4 [(0, .ref (ad 0)), (1, .int v1)]) : W p l e rmX5_moveIce s m args below meth c H locs 0 0 (MQ below (gQv wdX G ad A z) args s 0 0 A) (F0 m 2 ls []) := by
  obtain ⟨hx, hb, hr, hml, hown, hts, hlk, hK⟩ := id X
  unfold fX5_moveIce_2L at h
  refine lv_iload_n hx hb dX5_moveIce_2 rfl (lv_at hl 1 rfl) ?_
  refine lv_aload_n hx hb dX5_moveIce_3 rfl (lv_at hl 0 rfl) ?_
  refine ggX5_25 X hV (o := 0) rfl dX5_moveIce_4 ?_
  refine ggX5_273 X hV (o := 5) rfl dX5_moveIce_7 ?_
  refine lv_icmp_ge (tgt := 58) hx hb dX5_moveIce_10 (by decide) (fun c_10 => ?_) (fun c_10 => ?_)
  · rw [if_pos c_10] at h
    refine lv_aload_n hx hb dX5_moveIce_58 rfl (lv_at hl 0 rfl) ?_
    refine ggX5_46 X hV (o := 0) rfl dX5_moveIce_59 ?_
    refine lv_aload_n hx hb dX5_moveIce_62 rfl (lv_at hl 0 rfl) ?_
    refine ggX5_32 X hV (o := 0) rfl dX5_moveIce_63 ?_
    obtain ⟨r66, S66, k_66, h⟩ := gx_bind_e h
    refine gw_callv X hA hV (gw_runV X hV (o := 41) (As := [.ref (ad 10)]) (rest := []) (mX0_become l G ad _ S rfl rfl k_66) kc_RX5_242 (iXO_6 rfl) rfl rfl rfl hl.1 rfl (Nat.le_of_ble_eq_true rfl) ⟨rfl, rfl⟩ ⟨Nat.le_of_ble_eq_true rfl, Nat.le_of_ble_eq_true rfl⟩ ⟨Nat.le_refl _, Nat.le_refl _⟩ dX5_moveIce_66) (fun H locs hV => ?_)
    refine lv_iconst (v := 0) hx hb dX5_moveIce_69 (by decide) ?_
    refine lv_istore_n (lv' := [(1, .int (0 : Int32)), (0, .ref (ad 0))]) hx hb dX5_moveIce_70 rfl hl (by decide) rfl (fun ls hl => ?_)
    exact tX5_moveIce_71 X hA gx_fuel _ _ h _ _ _ hV (lv_sub hl [1, 0] rfl)
  · rw [if_neg c_10] at h
    refine lv_aload_n hx hb dX5_moveIce_13 rfl (lv_at hl 0 rfl) ?_
    refine ggX5_25 X hV (o := 0) rfl dX5_moveIce_14 ?_
    refine ggX5_276 X hV (o := 5) rfl dX5_moveIce_17 ?_
    refine lv_iload_n hx hb dX5_moveIce_20 rfl (lv_at hl 1 rfl) ?_
    obtain ⟨c_21, h⟩ := gx_chk_e h
    refine gw_iald X hV (iXA_5 (o := 9) rfl) c_21 dX5_moveIce_21 ?_
    refine lv_topi (fun v2_22 e_22 => ?_)
    replace h := gx_let_e e_22 h
    clear e_22
    refine lv_istore_n (lv' := [(2, .int v2_22), (0, .ref (ad 0)), (1, .int v1)]) hx hb dX5_moveIce_22 rfl hl (by decide) rfl (fun ls hl => ?_)
    refine lv_iconst (v := 0) hx hb dX5_moveIce_23 (by decide) ?_
    refine lv_istore_n (lv' := [(3, .int (0 : Int32)), (2, .int v2_22), (0, .ref (ad 0)), (1, .int v1)]) hx hb dX5_moveIce_24 rfl hl (by decide) rfl (fun ls hl => ?_)
    exact tX5_moveIce_25 X hA kK2 gx_fuel _ _ _ _ h _ _ _ hV (lv_sub hl [2, 3, 1, 0] rfl)
set_option maxHeartbeats 4000000 in
set_option maxRecDepth 20000 in
theorem tX5_moveIce_2 {p : Program} {l : Launch} {e : Env} {s : State} {m : MethodId} {args : Array Value} {below : List Frame} {meth : Method} {c : Code} {G : gG} {ad : Nat → Nat} {A : Nat → Prop} {z : Unit × gS} (X : gCx p s m args meth c G cX5_moveIce RX5 none 4) (hA : ∀ q, s.heap.size ≤ q → A q) : ∀ (f : Nat) (S : gS) (v1 : Int32) (h : fX5_moveIce_2 f S v1 = some z) (H : Heap) (locs : List Loc) (ls : Array Slot) (hV : gV wdX G ad A s.heap S H locs) (hl : lv_has ls 4 [(0, .ref (ad 0)), (1, .int v1)]), W p l e rmX5_moveIce s m args below meth c H locs 0 0 (MQ below (gQv wdX G ad A z) args s 0 0 A) (F0 m 2 ls []) := by
  intro f
  induction f with
  | zero => intro S v1 h; exact absurd h (by simp [fX5_moveIce_2])
  | succ f ih => intro S v1 h H locs ls hV hl; exact tX5_moveIce_2L X hA ih S v1 h hV hl
set_option maxHeartbeats 4000000 in
set_option maxRecDepth 20000 in
theorem mX5_moveIce (l : Launch) (G : gG) (ad : Nat → Nat) (sz : Nat) (S : gS) {r : Unit} {S' : gS} (h : fX5_moveIce S = some (r, S')) : gMetV l yX5_moveIce cX5_moveIce 4 none rmX5_moveIce wdX G ad S sz [.ref (ad 0)] r S' := by
  refine gMet_of (by decide) ?_
  intro p e s m below meth c A hA X hnm hV
  have hl := lv_entry ([.ref (ad 0)]) (n := 4) (Nat.le_of_ble_eq_true rfl)
  rw [lg_entry_eq]
  generalize (lg_sl ([.ref (ad 0)]) ++ List.replicate (4 - (lg_sl ([.ref (ad 0)])).length) Slot.unset).toArray = ls at hl ⊢
  have hl : lv_has ls 4 [(0, .ref (ad 0))] := hl
  obtain ⟨hx, hb, hr, hml, hown, hts, hlk, hK⟩ := id X
  unfold fX5_moveIce at h
  generalize ([.ref (ad 0)].toArray : Array Value) = args at X ⊢
  have Y : ∀ (H : Heap) (locs : List Loc), gV wdX G ad A s.heap S H locs → W p l e rmX5_moveIce s m args below meth c H locs 0 0 (MQ below (gQv wdX G ad A (r, S')) args s 0 0 A) (F0 m 0 ls []) := by
    intro H locs hV
    refine lv_iconst (v := 0) hx hb dX5_moveIce_0 (by decide) ?_
    refine lv_istore_n (lv' := [(1, .int (0 : Int32)), (0, .ref (ad 0))]) hx hb dX5_moveIce_1 rfl hl (by decide) rfl (fun ls hl => ?_)
    exact tX5_moveIce_2 X hA gx_fuel _ _ h _ _ _ hV (lv_sub hl [1, 0] rfl)
  exact Y _ _ hV
def fX5_floatIce_54 (K2 : gS → Int32 → Option (Unit × gS)) (S : gS) (v1 : Int32) : Option (Unit × gS) :=
gx_let (v1 + (1 : Int32)) fun v1_54 =>
K2 S v1_54
def fX5_floatIce_2L (K2 : gS → Int32 → Option (Unit × gS)) (S : gS) (v1 : Int32) : Option (Unit × gS) :=
if (gI S 5 4) ≤ v1 then (some ((), S)) else
gx_chk v1 64 <|
gx_let (gA S 9 (Int32.toNatClampNeg v1)) fun v2_22 =>
gx_chk v2_22 64 <|
if (gA S 7 (Int32.toNatClampNeg v2_22)) = (3 : Int32) then (gx_chk v2_22 64 <|
gx_bind (fX0_lose 10 S v2_22 (gJ S 12 (Int32.toNatClampNeg v2_22)) (3 : Int32)) fun r51 S51 =>
fX5_floatIce_54 K2 S51 v1) else
fX5_floatIce_54 K2 S v1
def fX5_floatIce_2 : Nat → gS → Int32 → Option (Unit × gS)
  | 0, _, _ => none
  | f + 1, S, v1 => fX5_floatIce_2L (fX5_floatIce_2 f) S v1
def fX5_floatIce (S : gS) : Option (Unit × gS) :=
fX5_floatIce_2 gx_fuel S (0 : Int32)
def rmX5_floatIce : Room := { frames := 3, cells := 0, slots := 0, locals := 77 }
set_option maxHeartbeats 4000000 in
set_option maxRecDepth 20000 in
theorem tX5_floatIce_54 {p : Program} {l : Launch} {e : Env} {s : State} {m : MethodId} {args : Array Value} {below : List Frame} {meth : Method} {c : Code} {G : gG} {ad : Nat → Nat} {A : Nat → Prop} {z : Unit × gS} {K2 : gS → Int32 → Option (Unit × gS)} (X : gCx p s m args meth c G cX5_floatIce RX5 none 3) (hA : ∀ q, s.heap.size ≤ q → A q) (kK2 : ∀ (S : gS) (v1 : Int32), K2 S v1 = some z → ∀ (H : Heap) (locs : List Loc) (ls : Array Slot), gV wdX G ad A s.heap S H locs → lv_has ls 3 [(0, .ref (ad 0)), (1, .int v1)] → W p l e rmX5_floatIce s m args below meth c H locs 0 0 (MQ below (gQv wdX G ad A z) args s 0 0 A) (F0 m 2 ls [])) (S : gS) (v1 : Int32) (h : fX5_floatIce_54 K2 S v1 = some z) {H : Heap} {locs : List Loc} {ls : Array Slot} (hV : gV wdX G ad A s.heap S H locs) (hl : lv_has ls 3 [(0, .ref (ad 0)), (1, .int v1)]) : W p l e rmX5_floatIce s m args below meth c H locs 0 0 (MQ below (gQv wdX G ad A z) args s 0 0 A) (F0 m 54 ls []) := by
  obtain ⟨hx, hb, hr, hml, hown, hts, hlk, hK⟩ := id X
  unfold fX5_floatIce_54 at h
  obtain ⟨v1_54, e_54⟩ : ∃ y : Int32, y = (v1 + (1 : Int32)) := ⟨_, rfl⟩
  refine lv_iinc (v := v1_54) (lv' := [(1, .int v1_54), (0, .ref (ad 0))]) hx hb dX5_floatIce_54 hl (k := 1) rfl (by rw [e_54]; rfl) (by decide) rfl (fun ls hl => ?_)
  replace h := gx_let_e e_54 h
  clear e_54
  refine lv_goto (tgt := 2) hx hb dX5_floatIce_57 (by decide) ?_
  exact kK2 _ _ h _ _ _ hV (lv_sub hl [1, 0] rfl)
set_option maxHeartbeats 4000000 in
set_option maxRecDepth 20000 in
theorem tX5_floatIce_2L {p : Program} {l : Launch} {e : Env} {s : State} {m : MethodId} {args : Array Value} {below : List Frame} {meth : Method} {c : Code} {G : gG} {ad : Nat → Nat} {A : Nat → Prop} {z : Unit × gS} {K2 : gS → Int32 → Option (Unit × gS)} (X : gCx p s m args meth c G cX5_floatIce RX5 none 3) (hA : ∀ q, s.heap.size ≤ q → A q) (kK2 : ∀ (S : gS) (v1 : Int32), K2 S v1 = some z → ∀ (H : Heap) (locs : List Loc) (ls : Array Slot), gV wdX G ad A s.heap S H locs → lv_has ls 3 [(0, .ref (ad 0)), (1, .int v1)] → W p l e rmX5_floatIce s m args below meth c H locs 0 0 (MQ below (gQv wdX G ad A z) args s 0 0 A) (F0 m 2 ls [])) (S : gS) (v1 : Int32) (h : fX5_floatIce_2L K2 S v1 = some z) {H : Heap} {locs : List Loc} {ls : Array Slot} (hV : gV wdX G ad A s.heap S H locs) (hl : lv_has ls 3 [(0, .ref (ad 0)), (1, .int v1)]) : W p l e rmX5_floatIce s m args below meth c H locs 0 0 (MQ below (gQv wdX G ad A z) args s 0 0 A) (F0 m 2 ls []) := by
  obtain ⟨hx, hb, hr, hml, hown, hts, hlk, hK⟩ := id X
  unfold fX5_floatIce_2L at h
  refine lv_iload_n hx hb dX5_floatIce_2 rfl (lv_at hl 1 rfl) ?_
  refine lv_aload_n hx hb dX5_floatIce_3 rfl (lv_at hl 0 rfl) ?_
  refine ggX5_25 X hV (o := 0) rfl dX5_floatIce_4 ?_
  refine ggX5_273 X hV (o := 5) rfl dX5_floatIce_7 ?_
  refine lv_icmp_ge (tgt := 60) hx hb dX5_floatIce_10 (by decide) (fun c_10 => ?_) (fun c_10 => ?_)
  · rw [if_pos c_10] at h
    exact gw_vret X hV h dX5_floatIce_60
  · rw [if_neg c_10] at h
    refine lv_aload_n hx hb dX5_floatIce_13 rfl (lv_at hl 0 rfl) ?_
    refine ggX5_25 X hV (o := 0) rfl dX5_floatIce_14 ?_
    refine ggX5_276 X hV (o := 5) rfl dX5_floatIce_17 ?_
    refine lv_iload_n hx hb dX5_floatIce_20 rfl (lv_at hl 1 rfl) ?_
    obtain ⟨c_21, h⟩ := gx_chk_e h
    refine gw_iald X hV (iXA_5 (o := 9) rfl) c_21 dX5_floatIce_21 ?_
    refine lv_topi (fun v2_22 e_22 => ?_)
    replace h := gx_let_e e_22 h
    clear e_22
    refine lv_istore_n (lv' := [(2, .int v2_22), (0, .ref (ad 0)), (1, .int v1)]) hx hb dX5_floatIce_22 rfl hl (by decide) rfl (fun ls hl => ?_)
    refine lv_aload_n hx hb dX5_floatIce_23 rfl (lv_at hl 1 rfl) ?_
    refine ggX5_25 X hV (o := 0) rfl dX5_floatIce_24 ?_
    refine ggX5_136 X hV (o := 5) rfl dX5_floatIce_27 ?_
    refine lv_iload_n hx hb dX5_floatIce_30 rfl (lv_at hl 0 rfl) ?_
    obtain ⟨c_31, h⟩ := gx_chk_e h
    refine gw_iald X hV (iXA_5 (o := 7) rfl) c_31 dX5_floatIce_31 ?_
    refine lv_iconst (v := 3) hx hb dX5_floatIce_32 (by decide) ?_
    refine lv_icmp_ne (tgt := 54) hx hb dX5_floatIce_33 (by decide) (fun c_33 => ?_) (fun c_33 => ?_)
    · rw [if_neg c_33] at h
      exact tX5_floatIce_54 X hA kK2 _ _ h hV (lv_sub hl [1, 2] rfl)
    · rw [if_pos c_33] at h
      refine lv_aload_n hx hb dX5_floatIce_36 rfl (lv_at hl 1 rfl) ?_
      refine ggX5_32 X hV (o := 0) rfl dX5_floatIce_37 ?_
      refine lv_iload_n hx hb dX5_floatIce_40 rfl (lv_at hl 0 rfl) ?_
      refine lv_aload_n hx hb dX5_floatIce_41 rfl (lv_at hl 1 rfl) ?_
      refine ggX5_32 X hV (o := 0) rfl dX5_floatIce_42 ?_
      refine ggX5_168 X hV (o := 10) rfl dX5_floatIce_45 ?_
      refine lv_iload_n hx hb dX5_floatIce_48 rfl (lv_at hl 0 rfl) ?_
      obtain ⟨c_49, h⟩ := gx_chk_e h
      refine gw_lald X hV (iXJ_8 (o := 12) rfl) c_49 dX5_floatIce_49 ?_
      refine lv_iconst (v := 3) hx hb dX5_floatIce_50 (by decide) ?_
      obtain ⟨r51, S51, k_51, h⟩ := gx_bind_e h
      refine gw_callv X hA hV (gw_runV X hV (o := 10) (As := [.int v2_22, .long (gJ S 12 (Int32.toNatClampNeg v2_22)), .int (3 : Int32)]) (rest := []) (mX0_lose l G ad _ S rfl k_51) kc_RX5_283 (iXO_6 rfl) rfl rfl rfl hl.1 rfl (Nat.le_of_ble_eq_true rfl) ⟨rfl, rfl⟩ ⟨Nat.le_of_ble_eq_true rfl, Nat.le_of_ble_eq_true rfl⟩ ⟨Nat.le_refl _, Nat.le_refl _⟩ dX5_floatIce_51) (fun H locs hV => ?_)
      exact tX5_floatIce_54 X hA kK2 _ _ h hV (lv_sub hl [1, 2] rfl)
set_option maxHeartbeats 4000000 in
set_option maxRecDepth 20000 in
theorem tX5_floatIce_2 {p : Program} {l : Launch} {e : Env} {s : State} {m : MethodId} {args : Array Value} {below : List Frame} {meth : Method} {c : Code} {G : gG} {ad : Nat → Nat} {A : Nat → Prop} {z : Unit × gS} (X : gCx p s m args meth c G cX5_floatIce RX5 none 3) (hA : ∀ q, s.heap.size ≤ q → A q) : ∀ (f : Nat) (S : gS) (v1 : Int32) (h : fX5_floatIce_2 f S v1 = some z) (H : Heap) (locs : List Loc) (ls : Array Slot) (hV : gV wdX G ad A s.heap S H locs) (hl : lv_has ls 3 [(0, .ref (ad 0)), (1, .int v1)]), W p l e rmX5_floatIce s m args below meth c H locs 0 0 (MQ below (gQv wdX G ad A z) args s 0 0 A) (F0 m 2 ls []) := by
  intro f
  induction f with
  | zero => intro S v1 h; exact absurd h (by simp [fX5_floatIce_2])
  | succ f ih => intro S v1 h H locs ls hV hl; exact tX5_floatIce_2L X hA ih S v1 h hV hl
set_option maxHeartbeats 4000000 in
set_option maxRecDepth 20000 in
theorem mX5_floatIce (l : Launch) (G : gG) (ad : Nat → Nat) (sz : Nat) (S : gS) {r : Unit} {S' : gS} (h : fX5_floatIce S = some (r, S')) : gMetV l yX5_floatIce cX5_floatIce 3 none rmX5_floatIce wdX G ad S sz [.ref (ad 0)] r S' := by
  refine gMet_of (by decide) ?_
  intro p e s m below meth c A hA X hnm hV
  have hl := lv_entry ([.ref (ad 0)]) (n := 3) (Nat.le_of_ble_eq_true rfl)
  rw [lg_entry_eq]
  generalize (lg_sl ([.ref (ad 0)]) ++ List.replicate (3 - (lg_sl ([.ref (ad 0)])).length) Slot.unset).toArray = ls at hl ⊢
  have hl : lv_has ls 3 [(0, .ref (ad 0))] := hl
  obtain ⟨hx, hb, hr, hml, hown, hts, hlk, hK⟩ := id X
  unfold fX5_floatIce at h
  generalize ([.ref (ad 0)].toArray : Array Value) = args at X ⊢
  have Y : ∀ (H : Heap) (locs : List Loc), gV wdX G ad A s.heap S H locs → W p l e rmX5_floatIce s m args below meth c H locs 0 0 (MQ below (gQv wdX G ad A (r, S')) args s 0 0 A) (F0 m 0 ls []) := by
    intro H locs hV
    refine lv_iconst (v := 0) hx hb dX5_floatIce_0 (by decide) ?_
    refine lv_istore_n (lv' := [(1, .int (0 : Int32)), (0, .ref (ad 0))]) hx hb dX5_floatIce_1 rfl hl (by decide) rfl (fun ls hl => ?_)
    exact tX5_floatIce_2 X hA gx_fuel _ _ h _ _ _ hV (lv_sub hl [1, 0] rfl)
  exact Y _ _ hV
theorem kc_RX5_261 : gKV RX5 261 yX2_keep cX2_keep 2 none 1 := ⟨q_363, q_364, q_365, q_366, q_40, by decide +kernel⟩
theorem kc_RX5_264 : gKV RX5 264 yX5_snowAndMelt cX5_snowAndMelt 4 none 0 := ⟨q_372, q_374, q_5, q_375, q_36, by decide +kernel⟩
theorem kc_RX5_267 : gKV RX5 267 yX5_moveIce cX5_moveIce 4 none 0 := ⟨q_396, q_398, q_6, q_399, q_36, by decide +kernel⟩
theorem kc_RX5_270 : gKV RX5 270 yX5_floatIce cX5_floatIce 3 none 0 := ⟨q_422, q_424, q_10, q_425, q_36, by decide +kernel⟩
def fX5_passYear (S : gS) : Option (Unit × gS) :=
gx_bind (fX2_keep 10 S) fun r8 S8 =>
gx_let (gI_up S8 10 3 ((gI S8 10 3) + (1 : Int32))) fun S21 =>
gx_bind (fX5_snowAndMelt S21) fun r25 S25 =>
gx_bind (fX5_moveIce S25) fun r29 S29 =>
gx_bind (fX5_floatIce S29) fun r33 S33 =>
some ((), S33)
def rmX5_passYear : Room := { frames := 4, cells := 0, slots := 0, locals := 101 }
set_option maxHeartbeats 4000000 in
set_option maxRecDepth 20000 in
theorem mX5_passYear (l : Launch) (G : gG) (ad : Nat → Nat) (sz : Nat) (S : gS) {r : Unit} {S' : gS} (h : fX5_passYear S = some (r, S')) : gMetV l yX5_passYear cX5_passYear 1 none rmX5_passYear wdX G ad S sz [.ref (ad 0)] r S' := by
  refine gMet_of (by decide) ?_
  intro p e s m below meth c A hA X hnm hV
  have hl := lv_entry ([.ref (ad 0)]) (n := 1) (Nat.le_of_ble_eq_true rfl)
  rw [lg_entry_eq]
  generalize (lg_sl ([.ref (ad 0)]) ++ List.replicate (1 - (lg_sl ([.ref (ad 0)])).length) Slot.unset).toArray = ls at hl ⊢
  have hl : lv_has ls 1 [(0, .ref (ad 0))] := hl
  obtain ⟨hx, hb, hr, hml, hown, hts, hlk, hK⟩ := id X
  unfold fX5_passYear at h
  generalize ([.ref (ad 0)].toArray : Array Value) = args at X ⊢
  have Y : ∀ (H : Heap) (locs : List Loc), gV wdX G ad A s.heap S H locs → W p l e rmX5_passYear s m args below meth c H locs 0 0 (MQ below (gQv wdX G ad A (r, S')) args s 0 0 A) (F0 m 0 ls []) := by
    intro H locs hV
    refine lv_aload_n hx hb dX5_passYear_0 rfl (lv_at hl 0 rfl) ?_
    refine ggX5_39 X hV (o := 0) rfl dX5_passYear_1 ?_
    refine lv_aload_n hx hb dX5_passYear_4 rfl (lv_at hl 0 rfl) ?_
    refine ggX5_32 X hV (o := 0) rfl dX5_passYear_5 ?_
    obtain ⟨r8, S8, k_8, h⟩ := gx_bind_e h
    refine gw_callv X hA hV (gw_runV X hV (o := 14) (As := [.ref (ad 10)]) (rest := []) (mX2_keep l G ad _ S rfl k_8) kc_RX5_261 (iXO_10 rfl) rfl rfl rfl hl.1 rfl (Nat.le_of_ble_eq_true rfl) ⟨rfl, rfl⟩ ⟨Nat.le_of_ble_eq_true rfl, Nat.le_of_ble_eq_true rfl⟩ ⟨Nat.le_refl _, Nat.le_refl _⟩ dX5_passYear_8) (fun H locs hV => ?_)
    refine lv_aload_n hx hb dX5_passYear_11 rfl (lv_at hl 0 rfl) ?_
    refine ggX5_32 X hV (o := 0) rfl dX5_passYear_12 ?_
    refine lv_dup hx hb dX5_passYear_15 rfl ?_
    refine ggX5_160 X hV (o := 10) rfl dX5_passYear_16 ?_
    refine lv_iconst (v := 1) hx hb dX5_passYear_19 (by decide) ?_
    refine lv_iadd hx hb dX5_passYear_20 ?_
    refine gpX5_160 X hV (o := 10) rfl dX5_passYear_21 (fun S21 e_21 H locs hV => ?_)
    replace h := gx_let_e e_21 h
    clear e_21
    refine lv_aload_n hx hb dX5_passYear_24 rfl (lv_at hl 0 rfl) ?_
    obtain ⟨r25, S25, k_25, h⟩ := gx_bind_e h
    refine gw_callv X hA hV (gw_runV X hV (o := 0) (As := []) (rest := []) (mX5_snowAndMelt l G ad _ S21 k_25) kc_RX5_264 (iXO_0 rfl) rfl rfl rfl hl.1 rfl (Nat.le_of_ble_eq_true rfl) ⟨rfl, rfl⟩ ⟨Nat.le_of_ble_eq_true rfl, Nat.le_of_ble_eq_true rfl⟩ ⟨Nat.le_refl _, Nat.le_refl _⟩ dX5_passYear_25) (fun H locs hV => ?_)
    refine lv_aload_n hx hb dX5_passYear_28 rfl (lv_at hl 0 rfl) ?_
    obtain ⟨r29, S29, k_29, h⟩ := gx_bind_e h
    refine gw_callv X hA hV (gw_runV X hV (o := 0) (As := []) (rest := []) (mX5_moveIce l G ad _ S25 k_29) kc_RX5_267 (iXO_0 rfl) rfl rfl rfl hl.1 rfl (Nat.le_of_ble_eq_true rfl) ⟨rfl, rfl⟩ ⟨Nat.le_of_ble_eq_true rfl, Nat.le_of_ble_eq_true rfl⟩ ⟨Nat.le_refl _, Nat.le_refl _⟩ dX5_passYear_29) (fun H locs hV => ?_)
    refine lv_aload_n hx hb dX5_passYear_32 rfl (lv_at hl 0 rfl) ?_
    obtain ⟨r33, S33, k_33, h⟩ := gx_bind_e h
    refine gw_callv X hA hV (gw_runV X hV (o := 0) (As := []) (rest := []) (mX5_floatIce l G ad _ S29 k_33) kc_RX5_270 (iXO_0 rfl) rfl rfl rfl hl.1 rfl (Nat.le_of_ble_eq_true rfl) ⟨rfl, rfl⟩ ⟨Nat.le_of_ble_eq_true rfl, Nat.le_of_ble_eq_true rfl⟩ ⟨Nat.le_refl _, Nat.le_refl _⟩ dX5_passYear_33) (fun H locs hV => ?_)
    exact gw_vret X hV h dX5_passYear_36
  exact Y _ _ hV
theorem kc_RX5_171 : gKV RX5 171 yX5_refusalOfYears cX5_refusalOfYears 2 (some .int) 1 := ⟨q_351, q_353, q_3, q_354, q_36, by decide +kernel⟩
theorem kc_RX5_174 : gKV RX5 174 yX5_passYear cX5_passYear 1 none 0 := ⟨q_359, q_361, q_4, q_362, q_36, by decide +kernel⟩
def fX5_years_14L (K14 : gS → Int32 → Int32 → Option (Int32 × gS)) (S : gS) (v1 : Int32) (v3 : Int32) : Option (Int32 × gS) :=
if v1 ≤ v3 then (some ((gI S 10 3), S)) else
gx_bind (fX5_passYear S) fun r20 S20 =>
gx_let (v3 + (1 : Int32)) fun v3_23 =>
K14 S20 v1 v3_23
def fX5_years_14 : Nat → gS → Int32 → Int32 → Option (Int32 × gS)
  | 0, _, _, _ => none
  | f + 1, S, v1, v3 => fX5_years_14L (fX5_years_14 f) S v1 v3
def fX5_years (S : gS) (v1 : Int32) : Option (Int32 × gS) :=
gx_bind (fX5_refusalOfYears S v1) fun r2 S2 =>
if r2 = 0 then (fX5_years_14 gx_fuel S2 v1 (0 : Int32)) else
some (r2, S2)
def rmX5_years : Room := { frames := 5, cells := 0, slots := 0, locals := 121 }
set_option maxHeartbeats 4000000 in
set_option maxRecDepth 20000 in
theorem tX5_years_14L {p : Program} {l : Launch} {e : Env} {s : State} {m : MethodId} {args : Array Value} {below : List Frame} {meth : Method} {c : Code} {G : gG} {ad : Nat → Nat} {A : Nat → Prop} {z : Int32 × gS} {K14 : gS → Int32 → Int32 → Option (Int32 × gS)} (X : gCx p s m args meth c G cX5_years RX5 (some .int) 4) (hA : ∀ q, s.heap.size ≤ q → A q) (kK14 : ∀ (S : gS) (v1 : Int32) (v3 : Int32), K14 S v1 v3 = some z → ∀ (H : Heap) (locs : List Loc) (ls : Array Slot), gV wdX G ad A s.heap S H locs → lv_has ls 4 [(0, .ref (ad 0)), (1, .int v1), (3, .int v3)] → W p l e rmX5_years s m args below meth c H locs 0 0 (MQ below (gQi wdX G ad A z) args s 0 0 A) (F0 m 14 ls [])) (S : gS) (v1 : Int32) (v3 : Int32) (h : fX5_years_14L K14 S v1 v3 = some z) {H : Heap} {locs : List Loc} {ls : Array Slot} (hV : gV wdX G ad A s.heap S H locs) (hl : lv_has ls 4 [(0, .ref (ad 0)), (1, .int v1), (3, .int v3)]) : W p l e rmX5_years s m args below meth c H locs 0 0 (MQ below (gQi wdX G ad A z) args s 0 0 A) (F0 m 14 ls []) := by
  obtain ⟨hx, hb, hr, hml, hown, hts, hlk, hK⟩ := id X
  unfold fX5_years_14L at h
  refine lv_iload_n hx hb dX5_years_14 rfl (lv_at hl 2 rfl) ?_
  refine lv_iload_n hx hb dX5_years_15 rfl (lv_at hl 1 rfl) ?_
  refine lv_icmp_ge (tgt := 29) hx hb dX5_years_16 (by decide) (fun c_16 => ?_) (fun c_16 => ?_)
  · rw [if_pos c_16] at h
    refine lv_aload_n hx hb dX5_years_29 rfl (lv_at hl 0 rfl) ?_
    refine ggX5_32 X hV (o := 0) rfl dX5_years_30 ?_
    refine ggX5_160 X hV (o := 10) rfl dX5_years_33 ?_
    exact gw_ireti X hV h dX5_years_36
  · rw [if_neg c_16] at h
    refine lv_aload_n hx hb dX5_years_19 rfl (lv_at hl 0 rfl) ?_
    obtain ⟨r20, S20, k_20, h⟩ := gx_bind_e h
    refine gw_callv X hA hV (gw_runV X hV (o := 0) (As := []) (rest := []) (mX5_passYear l G ad _ S k_20) kc_RX5_174 (iXO_0 rfl) rfl rfl rfl hl.1 rfl (Nat.le_of_ble_eq_true rfl) ⟨rfl, rfl⟩ ⟨Nat.le_of_ble_eq_true rfl, Nat.le_of_ble_eq_true rfl⟩ ⟨Nat.le_refl _, Nat.le_refl _⟩ dX5_years_20) (fun H locs hV => ?_)
    obtain ⟨v3_23, e_23⟩ : ∃ y : Int32, y = (v3 + (1 : Int32)) := ⟨_, rfl⟩
    refine lv_iinc (v := v3_23) (lv' := [(3, .int v3_23), (0, .ref (ad 0)), (1, .int v1)]) hx hb dX5_years_23 hl (k := 2) rfl (by rw [e_23]; rfl) (by decide) rfl (fun ls hl => ?_)
    replace h := gx_let_e e_23 h
    clear e_23
    refine lv_goto (tgt := 14) hx hb dX5_years_26 (by decide) ?_
    exact kK14 _ _ _ h _ _ _ hV (lv_sub hl [1, 2, 0] rfl)
set_option maxHeartbeats 4000000 in
set_option maxRecDepth 20000 in
theorem tX5_years_14 {p : Program} {l : Launch} {e : Env} {s : State} {m : MethodId} {args : Array Value} {below : List Frame} {meth : Method} {c : Code} {G : gG} {ad : Nat → Nat} {A : Nat → Prop} {z : Int32 × gS} (X : gCx p s m args meth c G cX5_years RX5 (some .int) 4) (hA : ∀ q, s.heap.size ≤ q → A q) : ∀ (f : Nat) (S : gS) (v1 : Int32) (v3 : Int32) (h : fX5_years_14 f S v1 v3 = some z) (H : Heap) (locs : List Loc) (ls : Array Slot) (hV : gV wdX G ad A s.heap S H locs) (hl : lv_has ls 4 [(0, .ref (ad 0)), (1, .int v1), (3, .int v3)]), W p l e rmX5_years s m args below meth c H locs 0 0 (MQ below (gQi wdX G ad A z) args s 0 0 A) (F0 m 14 ls []) := by
  intro f
  induction f with
  | zero => intro S v1 v3 h; exact absurd h (by simp [fX5_years_14])
  | succ f ih => intro S v1 v3 h H locs ls hV hl; exact tX5_years_14L X hA ih S v1 v3 h hV hl
set_option maxHeartbeats 4000000 in
set_option maxRecDepth 20000 in
theorem mX5_years (l : Launch) (G : gG) (ad : Nat → Nat) (sz : Nat) (S : gS) {v1 : Int32} {r : Int32} {S' : gS} (h : fX5_years S v1 = some (r, S')) : gMetI l yX5_years cX5_years 4 (some .int) rmX5_years wdX G ad S sz [.ref (ad 0), .int v1] r S' := by
  refine gMet_of (by decide) ?_
  intro p e s m below meth c A hA X hnm hV
  have hl := lv_entry ([.ref (ad 0), .int v1]) (n := 4) (Nat.le_of_ble_eq_true rfl)
  rw [lg_entry_eq]
  generalize (lg_sl ([.ref (ad 0), .int v1]) ++ List.replicate (4 - (lg_sl ([.ref (ad 0), .int v1])).length) Slot.unset).toArray = ls at hl ⊢
  have hl : lv_has ls 4 [(0, .ref (ad 0)), (1, .int v1)] := hl
  obtain ⟨hx, hb, hr, hml, hown, hts, hlk, hK⟩ := id X
  unfold fX5_years at h
  generalize ([.ref (ad 0), .int v1].toArray : Array Value) = args at X ⊢
  have Y : ∀ (H : Heap) (locs : List Loc), gV wdX G ad A s.heap S H locs → W p l e rmX5_years s m args below meth c H locs 0 0 (MQ below (gQi wdX G ad A (r, S')) args s 0 0 A) (F0 m 0 ls []) := by
    intro H locs hV
    refine lv_aload_n hx hb dX5_years_0 rfl (lv_at hl 0 rfl) ?_
    refine lv_iload_n hx hb dX5_years_1 rfl (lv_at hl 1 rfl) ?_
    obtain ⟨r2, S2, k_2, h⟩ := gx_bind_e h
    refine gw_callI X hA hV (gw_runV X hV (o := 0) (As := [.int v1]) (rest := []) (mX5_refusalOfYears l G ad _ S k_2) kc_RX5_171 (iXO_0 rfl) rfl rfl rfl hl.1 rfl (Nat.le_of_ble_eq_true rfl) ⟨rfl, rfl⟩ ⟨Nat.le_of_ble_eq_true rfl, Nat.le_of_ble_eq_true rfl⟩ ⟨Nat.le_refl _, Nat.le_refl _⟩ dX5_years_2) (fun H locs hV => ?_)
    refine lv_istore_n (lv' := [(2, .int r2), (0, .ref (ad 0)), (1, .int v1)]) hx hb dX5_years_5 rfl hl (by decide) rfl (fun ls hl => ?_)
    refine lv_iload_n hx hb dX5_years_6 rfl (lv_at hl 0 rfl) ?_
    refine lv_if_eq (tgt := 12) hx hb dX5_years_7 (by decide) (fun c_7 => ?_) (fun c_7 => ?_)
    · rw [if_pos c_7] at h
      refine lv_iconst (v := 0) hx hb dX5_years_12 (by decide) ?_
      refine lv_istore_n (lv' := [(3, .int (0 : Int32)), (2, .int r2), (0, .ref (ad 0)), (1, .int v1)]) hx hb dX5_years_13 rfl hl (by decide) rfl (fun ls hl => ?_)
      exact tX5_years_14 X hA gx_fuel _ _ _ h _ _ _ hV (lv_sub hl [2, 3, 0] rfl)
    · rw [if_neg c_7] at h
      refine lv_iload_n hx hb dX5_years_10 rfl (lv_at hl 0 rfl) ?_
      exact gw_ireti X hV h dX5_years_11
  exact Y _ _ hV
theorem kc_RX5_180 : gKV RX5 180 yX2_restore cX2_restore 2 none 1 := ⟨q_430, q_431, q_432, q_433, q_40, by decide +kernel⟩
def fX5_back (S : gS) : Option (Int32 × gS) :=
if (gI S 14 2) = 0 then (some ((-3 : Int32), S)) else
gx_bind (fX2_restore 10 S) fun r21 S21 =>
some ((gI S21 10 3), S21)
def rmX5_back : Room := { frames := 3, cells := 0, slots := 0, locals := 68 }
set_option maxHeartbeats 4000000 in
set_option maxRecDepth 20000 in
theorem mX5_back (l : Launch) (G : gG) (ad : Nat → Nat) (sz : Nat) (S : gS) {r : Int32} {S' : gS} (h : fX5_back S = some (r, S')) : gMetI l yX5_back cX5_back 1 (some .int) rmX5_back wdX G ad S sz [.ref (ad 0)] r S' := by
  refine gMet_of (by decide) ?_
  intro p e s m below meth c A hA X hnm hV
  have hl := lv_entry ([.ref (ad 0)]) (n := 1) (Nat.le_of_ble_eq_true rfl)
  rw [lg_entry_eq]
  generalize (lg_sl ([.ref (ad 0)]) ++ List.replicate (1 - (lg_sl ([.ref (ad 0)])).length) Slot.unset).toArray = ls at hl ⊢
  have hl : lv_has ls 1 [(0, .ref (ad 0))] := hl
  obtain ⟨hx, hb, hr, hml, hown, hts, hlk, hK⟩ := id X
  unfold fX5_back at h
  generalize ([.ref (ad 0)].toArray : Array Value) = args at X ⊢
  have Y : ∀ (H : Heap) (locs : List Loc), gV wdX G ad A s.heap S H locs → W p l e rmX5_back s m args below meth c H locs 0 0 (MQ below (gQi wdX G ad A (r, S')) args s 0 0 A) (F0 m 0 ls []) := by
    intro H locs hV
    refine lv_aload_n hx hb dX5_back_0 rfl (lv_at hl 0 rfl) ?_
    refine ggX5_39 X hV (o := 0) rfl dX5_back_1 ?_
    refine ggX5_177 X hV (o := 14) rfl dX5_back_4 ?_
    refine lv_if_ne (tgt := 13) hx hb dX5_back_7 (by decide) (fun c_7 => ?_) (fun c_7 => ?_)
    · rw [if_neg c_7] at h
      refine lv_aload_n hx hb dX5_back_13 rfl (lv_at hl 0 rfl) ?_
      refine ggX5_39 X hV (o := 0) rfl dX5_back_14 ?_
      refine lv_aload_n hx hb dX5_back_17 rfl (lv_at hl 0 rfl) ?_
      refine ggX5_32 X hV (o := 0) rfl dX5_back_18 ?_
      obtain ⟨r21, S21, k_21, h⟩ := gx_bind_e h
      refine gw_callv X hA hV (gw_runV X hV (o := 14) (As := [.ref (ad 10)]) (rest := []) (mX2_restore l G ad _ S rfl k_21) kc_RX5_180 (iXO_10 rfl) rfl rfl rfl hl.1 rfl (Nat.le_of_ble_eq_true rfl) ⟨rfl, rfl⟩ ⟨Nat.le_of_ble_eq_true rfl, Nat.le_of_ble_eq_true rfl⟩ ⟨Nat.le_refl _, Nat.le_refl _⟩ dX5_back_21) (fun H locs hV => ?_)
      refine lv_aload_n hx hb dX5_back_24 rfl (lv_at hl 0 rfl) ?_
      refine ggX5_32 X hV (o := 0) rfl dX5_back_25 ?_
      refine ggX5_160 X hV (o := 10) rfl dX5_back_28 ?_
      exact gw_ireti X hV h dX5_back_31
    · rw [if_pos c_7] at h
      refine lv_bipush (v := -3) hx hb dX5_back_10 (by decide) ?_
      exact gw_ireti X hV h dX5_back_12
  exact Y _ _ hV
def fX5_remember (S : gS) (v1 : Int32) : Option (Unit × gS) :=
gx_cpyJ S 12 46 64 3904 (0 : Int32) (v1 * (64 : Int32)) (64 : Int32) fun S18 =>
some ((), S18)
def rmX5_remember : Room := { frames := 1, cells := 0, slots := 0, locals := 26 }
set_option maxHeartbeats 4000000 in
set_option maxRecDepth 20000 in
theorem mX5_remember (l : Launch) (G : gG) (ad : Nat → Nat) (sz : Nat) (S : gS) {v1 : Int32} {r : Unit} {S' : gS} (h : fX5_remember S v1 = some (r, S')) : gMetV l yX5_remember cX5_remember 2 none rmX5_remember wdX G ad S sz [.ref (ad 0), .int v1] r S' := by
  refine gMet_of (by decide) ?_
  intro p e s m below meth c A hA X hnm hV
  have hl := lv_entry ([.ref (ad 0), .int v1]) (n := 2) (Nat.le_of_ble_eq_true rfl)
  rw [lg_entry_eq]
  generalize (lg_sl ([.ref (ad 0), .int v1]) ++ List.replicate (2 - (lg_sl ([.ref (ad 0), .int v1])).length) Slot.unset).toArray = ls at hl ⊢
  have hl : lv_has ls 2 [(0, .ref (ad 0)), (1, .int v1)] := hl
  obtain ⟨hx, hb, hr, hml, hown, hts, hlk, hK⟩ := id X
  unfold fX5_remember at h
  generalize ([.ref (ad 0), .int v1].toArray : Array Value) = args at X ⊢
  have Y : ∀ (H : Heap) (locs : List Loc), gV wdX G ad A s.heap S H locs → W p l e rmX5_remember s m args below meth c H locs 0 0 (MQ below (gQv wdX G ad A (r, S')) args s 0 0 A) (F0 m 0 ls []) := by
    intro H locs hV
    refine lv_aload_n hx hb dX5_remember_0 rfl (lv_at hl 0 rfl) ?_
    refine ggX5_32 X hV (o := 0) rfl dX5_remember_1 ?_
    refine ggX5_168 X hV (o := 10) rfl dX5_remember_4 ?_
    refine lv_iconst (v := 0) hx hb dX5_remember_7 (by decide) ?_
    refine lv_aload_n hx hb dX5_remember_8 rfl (lv_at hl 0 rfl) ?_
    refine ggX5_53 X hV (o := 0) rfl dX5_remember_9 ?_
    refine lv_iload_n hx hb dX5_remember_12 rfl (lv_at hl 1 rfl) ?_
    refine lv_bipush (v := 64) hx hb dX5_remember_13 (by decide) ?_
    refine lv_imul hx hb dX5_remember_15 ?_
    refine lv_bipush (v := 64) hx hb dX5_remember_16 (by decide) ?_
    obtain ⟨c_18, h⟩ := gx_cpyJ_e h
    refine gw_cpyJ X hV (iXJ_8 (o := 12) rfl) (iXJ_7 (o := 46) rfl) hl.1 q_265 q_267 q_266 q_44 c_18 (Nat.le_of_ble_eq_true rfl) (Nat.le_of_ble_eq_true rfl) dX5_remember_18 (fun S18 e_18 H locs hV => ?_)
    replace h := gx_let_e e_18 h
    clear e_18
    exact gw_vret X hV h dX5_remember_21
  exact Y _ _ hV
def fX5_liesAsIn_2L (K2 : gS → Int32 → Int32 → Option (Int32 × gS)) (S : gS) (v1 : Int32) (v2 : Int32) : Option (Int32 × gS) :=
if (gI S 5 4) ≤ v2 then (some ((1 : Int32), S)) else
gx_chk v2 64 <|
gx_let (gA S 9 (Int32.toNatClampNeg v2)) fun v3_22 =>
gx_chk ((v1 * (64 : Int32)) + v3_22) 3904 <|
gx_chk v3_22 64 <|
if (gJ S 46 (Int32.toNatClampNeg ((v1 * (64 : Int32)) + v3_22))) = (gJ S 12 (Int32.toNatClampNeg v3_22)) then (gx_let (v2 + (1 : Int32)) fun v2_49 =>
K2 S v1 v2_49) else
some ((0 : Int32), S)
def fX5_liesAsIn_2 : Nat → gS → Int32 → Int32 → Option (Int32 × gS)
  | 0, _, _, _ => none
  | f + 1, S, v1, v2 => fX5_liesAsIn_2L (fX5_liesAsIn_2 f) S v1 v2
def fX5_liesAsIn (S : gS) (v1 : Int32) : Option (Int32 × gS) :=
fX5_liesAsIn_2 gx_fuel S v1 (0 : Int32)
def rmX5_liesAsIn : Room := { frames := 0, cells := 0, slots := 0, locals := 0 }
set_option maxHeartbeats 4000000 in
set_option maxRecDepth 20000 in
theorem tX5_liesAsIn_2L {p : Program} {l : Launch} {e : Env} {s : State} {m : MethodId} {args : Array Value} {below : List Frame} {meth : Method} {c : Code} {G : gG} {ad : Nat → Nat} {A : Nat → Prop} {z : Int32 × gS} {K2 : gS → Int32 → Int32 → Option (Int32 × gS)} (X : gCx p s m args meth c G cX5_liesAsIn RX5 (some .boolean) 4) (hA : ∀ q, s.heap.size ≤ q → A q) (kK2 : ∀ (S : gS) (v1 : Int32) (v2 : Int32), K2 S v1 v2 = some z → ∀ (H : Heap) (locs : List Loc) (ls : Array Slot), gV wdX G ad A s.heap S H locs → lv_has ls 4 [(0, .ref (ad 0)), (1, .int v1), (2, .int v2)] → W p l e rmX5_liesAsIn s m args below meth c H locs 0 0 (MQ below (gQi wdX G ad A z) args s 0 0 A) (F0 m 2 ls [])) (S : gS) (v1 : Int32) (v2 : Int32) (h : fX5_liesAsIn_2L K2 S v1 v2 = some z) {H : Heap} {locs : List Loc} {ls : Array Slot} (hV : gV wdX G ad A s.heap S H locs) (hl : lv_has ls 4 [(0, .ref (ad 0)), (1, .int v1), (2, .int v2)]) : W p l e rmX5_liesAsIn s m args below meth c H locs 0 0 (MQ below (gQi wdX G ad A z) args s 0 0 A) (F0 m 2 ls []) := by
  obtain ⟨hx, hb, hr, hml, hown, hts, hlk, hK⟩ := id X
  unfold fX5_liesAsIn_2L at h
  refine lv_iload_n hx hb dX5_liesAsIn_2 rfl (lv_at hl 2 rfl) ?_
  refine lv_aload_n hx hb dX5_liesAsIn_3 rfl (lv_at hl 0 rfl) ?_
  refine ggX5_25 X hV (o := 0) rfl dX5_liesAsIn_4 ?_
  refine ggX5_273 X hV (o := 5) rfl dX5_liesAsIn_7 ?_
  refine lv_icmp_ge (tgt := 55) hx hb dX5_liesAsIn_10 (by decide) (fun c_10 => ?_) (fun c_10 => ?_)
  · rw [if_pos c_10] at h
    refine lv_iconst (v := 1) hx hb dX5_liesAsIn_55 (by decide) ?_
    exact gw_iretz X hV h g_bool1 dX5_liesAsIn_56
  · rw [if_neg c_10] at h
    refine lv_aload_n hx hb dX5_liesAsIn_13 rfl (lv_at hl 0 rfl) ?_
    refine ggX5_25 X hV (o := 0) rfl dX5_liesAsIn_14 ?_
    refine ggX5_276 X hV (o := 5) rfl dX5_liesAsIn_17 ?_
    refine lv_iload_n hx hb dX5_liesAsIn_20 rfl (lv_at hl 2 rfl) ?_
    obtain ⟨c_21, h⟩ := gx_chk_e h
    refine gw_iald X hV (iXA_5 (o := 9) rfl) c_21 dX5_liesAsIn_21 ?_
    refine lv_topi (fun v3_22 e_22 => ?_)
    replace h := gx_let_e e_22 h
    clear e_22
    refine lv_istore_n (lv' := [(3, .int v3_22), (0, .ref (ad 0)), (1, .int v1), (2, .int v2)]) hx hb dX5_liesAsIn_22 rfl hl (by decide) rfl (fun ls hl => ?_)
    refine lv_aload_n hx hb dX5_liesAsIn_23 rfl (lv_at hl 1 rfl) ?_
    refine ggX5_53 X hV (o := 0) rfl dX5_liesAsIn_24 ?_
    refine lv_iload_n hx hb dX5_liesAsIn_27 rfl (lv_at hl 2 rfl) ?_
    refine lv_bipush (v := 64) hx hb dX5_liesAsIn_28 (by decide) ?_
    refine lv_imul hx hb dX5_liesAsIn_30 ?_
    refine lv_iload_n hx hb dX5_liesAsIn_31 rfl (lv_at hl 0 rfl) ?_
    refine lv_iadd hx hb dX5_liesAsIn_32 ?_
    obtain ⟨c_33, h⟩ := gx_chk_e h
    refine gw_lald X hV (iXJ_7 (o := 46) rfl) c_33 dX5_liesAsIn_33 ?_
    refine lv_aload_n hx hb dX5_liesAsIn_34 rfl (lv_at hl 1 rfl) ?_
    refine ggX5_32 X hV (o := 0) rfl dX5_liesAsIn_35 ?_
    refine ggX5_168 X hV (o := 10) rfl dX5_liesAsIn_38 ?_
    refine lv_iload_n hx hb dX5_liesAsIn_41 rfl (lv_at hl 0 rfl) ?_
    obtain ⟨c_42, h⟩ := gx_chk_e h
    refine gw_lald X hV (iXJ_8 (o := 12) rfl) c_42 dX5_liesAsIn_42 ?_
    refine gw_cmp_eq (tgt := 49) X dX5_liesAsIn_43 dX5_liesAsIn_44 (by decide) (fun c_43 => ?_) (fun c_43 => ?_)
    · rw [if_pos c_43] at h
      obtain ⟨v2_49, e_49⟩ : ∃ y : Int32, y = (v2 + (1 : Int32)) := ⟨_, rfl⟩
      refine lv_iinc (v := v2_49) (lv' := [(2, .int v2_49), (3, .int v3_22), (0, .ref (ad 0)), (1, .int v1)]) hx hb dX5_liesAsIn_49 hl (k := 3) rfl (by rw [e_49]; rfl) (by decide) rfl (fun ls hl => ?_)
      replace h := gx_let_e e_49 h
      clear e_49
      refine lv_goto (tgt := 2) hx hb dX5_liesAsIn_52 (by decide) ?_
      exact kK2 _ _ _ h _ _ _ hV (lv_sub hl [2, 3, 0] rfl)
    · rw [if_neg c_43] at h
      refine lv_iconst (v := 0) hx hb dX5_liesAsIn_47 (by decide) ?_
      exact gw_iretz X hV h g_bool0 dX5_liesAsIn_48
set_option maxHeartbeats 4000000 in
set_option maxRecDepth 20000 in
theorem tX5_liesAsIn_2 {p : Program} {l : Launch} {e : Env} {s : State} {m : MethodId} {args : Array Value} {below : List Frame} {meth : Method} {c : Code} {G : gG} {ad : Nat → Nat} {A : Nat → Prop} {z : Int32 × gS} (X : gCx p s m args meth c G cX5_liesAsIn RX5 (some .boolean) 4) (hA : ∀ q, s.heap.size ≤ q → A q) : ∀ (f : Nat) (S : gS) (v1 : Int32) (v2 : Int32) (h : fX5_liesAsIn_2 f S v1 v2 = some z) (H : Heap) (locs : List Loc) (ls : Array Slot) (hV : gV wdX G ad A s.heap S H locs) (hl : lv_has ls 4 [(0, .ref (ad 0)), (1, .int v1), (2, .int v2)]), W p l e rmX5_liesAsIn s m args below meth c H locs 0 0 (MQ below (gQi wdX G ad A z) args s 0 0 A) (F0 m 2 ls []) := by
  intro f
  induction f with
  | zero => intro S v1 v2 h; exact absurd h (by simp [fX5_liesAsIn_2])
  | succ f ih => intro S v1 v2 h H locs ls hV hl; exact tX5_liesAsIn_2L X hA ih S v1 v2 h hV hl
set_option maxHeartbeats 4000000 in
set_option maxRecDepth 20000 in
theorem mX5_liesAsIn (l : Launch) (G : gG) (ad : Nat → Nat) (sz : Nat) (S : gS) {v1 : Int32} {r : Int32} {S' : gS} (h : fX5_liesAsIn S v1 = some (r, S')) : gMetI l yX5_liesAsIn cX5_liesAsIn 4 (some .boolean) rmX5_liesAsIn wdX G ad S sz [.ref (ad 0), .int v1] r S' := by
  refine gMet_of (by decide) ?_
  intro p e s m below meth c A hA X hnm hV
  have hl := lv_entry ([.ref (ad 0), .int v1]) (n := 4) (Nat.le_of_ble_eq_true rfl)
  rw [lg_entry_eq]
  generalize (lg_sl ([.ref (ad 0), .int v1]) ++ List.replicate (4 - (lg_sl ([.ref (ad 0), .int v1])).length) Slot.unset).toArray = ls at hl ⊢
  have hl : lv_has ls 4 [(0, .ref (ad 0)), (1, .int v1)] := hl
  obtain ⟨hx, hb, hr, hml, hown, hts, hlk, hK⟩ := id X
  unfold fX5_liesAsIn at h
  generalize ([.ref (ad 0), .int v1].toArray : Array Value) = args at X ⊢
  have Y : ∀ (H : Heap) (locs : List Loc), gV wdX G ad A s.heap S H locs → W p l e rmX5_liesAsIn s m args below meth c H locs 0 0 (MQ below (gQi wdX G ad A (r, S')) args s 0 0 A) (F0 m 0 ls []) := by
    intro H locs hV
    refine lv_iconst (v := 0) hx hb dX5_liesAsIn_0 (by decide) ?_
    refine lv_istore_n (lv' := [(2, .int (0 : Int32)), (0, .ref (ad 0)), (1, .int v1)]) hx hb dX5_liesAsIn_1 rfl hl (by decide) rfl (fun ls hl => ?_)
    exact tX5_liesAsIn_2 X hA gx_fuel _ _ _ h _ _ _ hV (lv_sub hl [1, 2, 0] rfl)
  exact Y _ _ hV
theorem kc_RX5_309 : gKV RX5 309 yX5_liesAsIn cX5_liesAsIn 4 (some .boolean) 1 := ⟨q_446, q_448, q_13, q_449, q_36, by decide +kernel⟩
def fX5_yearsSinceAlike_4L (K4 : gS → Int32 → Int32 → Option (Int32 × gS)) (S : gS) (v1 : Int32) (v2 : Int32) : Option (Int32 × gS) :=
if v2 < 0 then (some ((0 : Int32), S)) else
gx_bind (fX5_liesAsIn S v2) fun r10 S10 =>
if r10 = 0 then (gx_let (v2 + (-1 : Int32)) fun v2_20 =>
K4 S10 v1 v2_20) else
some ((v1 - v2), S10)
def fX5_yearsSinceAlike_4 : Nat → gS → Int32 → Int32 → Option (Int32 × gS)
  | 0, _, _, _ => none
  | f + 1, S, v1, v2 => fX5_yearsSinceAlike_4L (fX5_yearsSinceAlike_4 f) S v1 v2
def fX5_yearsSinceAlike (S : gS) (v1 : Int32) : Option (Int32 × gS) :=
gx_let (v1 - (1 : Int32)) fun v2_3 =>
fX5_yearsSinceAlike_4 gx_fuel S v1 v2_3
def rmX5_yearsSinceAlike : Room := { frames := 1, cells := 0, slots := 0, locals := 23 }
set_option maxHeartbeats 4000000 in
set_option maxRecDepth 20000 in
theorem tX5_yearsSinceAlike_4L {p : Program} {l : Launch} {e : Env} {s : State} {m : MethodId} {args : Array Value} {below : List Frame} {meth : Method} {c : Code} {G : gG} {ad : Nat → Nat} {A : Nat → Prop} {z : Int32 × gS} {K4 : gS → Int32 → Int32 → Option (Int32 × gS)} (X : gCx p s m args meth c G cX5_yearsSinceAlike RX5 (some .int) 3) (hA : ∀ q, s.heap.size ≤ q → A q) (kK4 : ∀ (S : gS) (v1 : Int32) (v2 : Int32), K4 S v1 v2 = some z → ∀ (H : Heap) (locs : List Loc) (ls : Array Slot), gV wdX G ad A s.heap S H locs → lv_has ls 3 [(0, .ref (ad 0)), (1, .int v1), (2, .int v2)] → W p l e rmX5_yearsSinceAlike s m args below meth c H locs 0 0 (MQ below (gQi wdX G ad A z) args s 0 0 A) (F0 m 4 ls [])) (S : gS) (v1 : Int32) (v2 : Int32) (h : fX5_yearsSinceAlike_4L K4 S v1 v2 = some z) {H : Heap} {locs : List Loc} {ls : Array Slot} (hV : gV wdX G ad A s.heap S H locs) (hl : lv_has ls 3 [(0, .ref (ad 0)), (1, .int v1), (2, .int v2)]) : W p l e rmX5_yearsSinceAlike s m args below meth c H locs 0 0 (MQ below (gQi wdX G ad A z) args s 0 0 A) (F0 m 4 ls []) := by
  obtain ⟨hx, hb, hr, hml, hown, hts, hlk, hK⟩ := id X
  unfold fX5_yearsSinceAlike_4L at h
  refine lv_iload_n hx hb dX5_yearsSinceAlike_4 rfl (lv_at hl 2 rfl) ?_
  refine lv_if_lt (tgt := 26) hx hb dX5_yearsSinceAlike_5 (by decide) (fun c_5 => ?_) (fun c_5 => ?_)
  · rw [if_pos c_5] at h
    refine lv_iconst (v := 0) hx hb dX5_yearsSinceAlike_26 (by decide) ?_
    exact gw_ireti X hV h dX5_yearsSinceAlike_27
  · rw [if_neg c_5] at h
    refine lv_aload_n hx hb dX5_yearsSinceAlike_8 rfl (lv_at hl 0 rfl) ?_
    refine lv_iload_n hx hb dX5_yearsSinceAlike_9 rfl (lv_at hl 2 rfl) ?_
    obtain ⟨r10, S10, k_10, h⟩ := gx_bind_e h
    refine gw_callI X hA hV (gw_runV X hV (o := 0) (As := [.int v2]) (rest := []) (mX5_liesAsIn l G ad _ S k_10) kc_RX5_309 (iXO_0 rfl) rfl rfl rfl hl.1 rfl (Nat.le_of_ble_eq_true rfl) ⟨rfl, rfl⟩ ⟨Nat.le_of_ble_eq_true rfl, Nat.le_of_ble_eq_true rfl⟩ ⟨Nat.le_refl _, Nat.le_refl _⟩ dX5_yearsSinceAlike_10) (fun H locs hV => ?_)
    refine lv_if_eq (tgt := 20) hx hb dX5_yearsSinceAlike_13 (by decide) (fun c_13 => ?_) (fun c_13 => ?_)
    · rw [if_pos c_13] at h
      obtain ⟨v2_20, e_20⟩ : ∃ y : Int32, y = (v2 + (-1 : Int32)) := ⟨_, rfl⟩
      refine lv_iinc (v := v2_20) (lv' := [(2, .int v2_20), (0, .ref (ad 0)), (1, .int v1)]) hx hb dX5_yearsSinceAlike_20 hl (k := 2) rfl (by rw [e_20]; rfl) (by decide) rfl (fun ls hl => ?_)
      replace h := gx_let_e e_20 h
      clear e_20
      refine lv_goto (tgt := 4) hx hb dX5_yearsSinceAlike_23 (by decide) ?_
      exact kK4 _ _ _ h _ _ _ hV (lv_sub hl [1, 2, 0] rfl)
    · rw [if_neg c_13] at h
      refine lv_iload_n hx hb dX5_yearsSinceAlike_16 rfl (lv_at hl 1 rfl) ?_
      refine lv_iload_n hx hb dX5_yearsSinceAlike_17 rfl (lv_at hl 2 rfl) ?_
      refine lv_isub hx hb dX5_yearsSinceAlike_18 ?_
      exact gw_ireti X hV h dX5_yearsSinceAlike_19
set_option maxHeartbeats 4000000 in
set_option maxRecDepth 20000 in
theorem tX5_yearsSinceAlike_4 {p : Program} {l : Launch} {e : Env} {s : State} {m : MethodId} {args : Array Value} {below : List Frame} {meth : Method} {c : Code} {G : gG} {ad : Nat → Nat} {A : Nat → Prop} {z : Int32 × gS} (X : gCx p s m args meth c G cX5_yearsSinceAlike RX5 (some .int) 3) (hA : ∀ q, s.heap.size ≤ q → A q) : ∀ (f : Nat) (S : gS) (v1 : Int32) (v2 : Int32) (h : fX5_yearsSinceAlike_4 f S v1 v2 = some z) (H : Heap) (locs : List Loc) (ls : Array Slot) (hV : gV wdX G ad A s.heap S H locs) (hl : lv_has ls 3 [(0, .ref (ad 0)), (1, .int v1), (2, .int v2)]), W p l e rmX5_yearsSinceAlike s m args below meth c H locs 0 0 (MQ below (gQi wdX G ad A z) args s 0 0 A) (F0 m 4 ls []) := by
  intro f
  induction f with
  | zero => intro S v1 v2 h; exact absurd h (by simp [fX5_yearsSinceAlike_4])
  | succ f ih => intro S v1 v2 h H locs ls hV hl; exact tX5_yearsSinceAlike_4L X hA ih S v1 v2 h hV hl
set_option maxHeartbeats 4000000 in
set_option maxRecDepth 20000 in
theorem mX5_yearsSinceAlike (l : Launch) (G : gG) (ad : Nat → Nat) (sz : Nat) (S : gS) {v1 : Int32} {r : Int32} {S' : gS} (h : fX5_yearsSinceAlike S v1 = some (r, S')) : gMetI l yX5_yearsSinceAlike cX5_yearsSinceAlike 3 (some .int) rmX5_yearsSinceAlike wdX G ad S sz [.ref (ad 0), .int v1] r S' := by
  refine gMet_of (by decide) ?_
  intro p e s m below meth c A hA X hnm hV
  have hl := lv_entry ([.ref (ad 0), .int v1]) (n := 3) (Nat.le_of_ble_eq_true rfl)
  rw [lg_entry_eq]
  generalize (lg_sl ([.ref (ad 0), .int v1]) ++ List.replicate (3 - (lg_sl ([.ref (ad 0), .int v1])).length) Slot.unset).toArray = ls at hl ⊢
  have hl : lv_has ls 3 [(0, .ref (ad 0)), (1, .int v1)] := hl
  obtain ⟨hx, hb, hr, hml, hown, hts, hlk, hK⟩ := id X
  unfold fX5_yearsSinceAlike at h
  generalize ([.ref (ad 0), .int v1].toArray : Array Value) = args at X ⊢
  have Y : ∀ (H : Heap) (locs : List Loc), gV wdX G ad A s.heap S H locs → W p l e rmX5_yearsSinceAlike s m args below meth c H locs 0 0 (MQ below (gQi wdX G ad A (r, S')) args s 0 0 A) (F0 m 0 ls []) := by
    intro H locs hV
    refine lv_iload_n hx hb dX5_yearsSinceAlike_0 rfl (lv_at hl 1 rfl) ?_
    refine lv_iconst (v := 1) hx hb dX5_yearsSinceAlike_1 (by decide) ?_
    refine lv_isub hx hb dX5_yearsSinceAlike_2 ?_
    refine lv_topi (fun v2_3 e_3 => ?_)
    replace h := gx_let_e e_3 h
    clear e_3
    refine lv_istore_n (lv' := [(2, .int v2_3), (0, .ref (ad 0)), (1, .int v1)]) hx hb dX5_yearsSinceAlike_3 rfl hl (by decide) rfl (fun ls hl => ?_)
    exact tX5_yearsSinceAlike_4 X hA gx_fuel _ _ _ h _ _ _ hV (lv_sub hl [1, 2, 0] rfl)
  exact Y _ _ hV
theorem kc_RX5_184 : gKV RX5 184 yX5_remember cX5_remember 2 none 1 := ⟨q_438, q_440, q_11, q_441, q_36, by decide +kernel⟩
theorem kc_RX5_188 : gKV RX5 188 yX5_yearsSinceAlike cX5_yearsSinceAlike 3 (some .int) 1 := ⟨q_442, q_444, q_12, q_445, q_36, by decide +kernel⟩
def fX5_steady_19L (K19 : gS → Int32 → Int32 → Option (Int32 × gS)) (S : gS) (v1 : Int32) (v3 : Int32) : Option (Int32 × gS) :=
if v1 < v3 then (some ((0 : Int32), S)) else
gx_bind (fX5_passYear S) fun r25 S25 =>
gx_bind (fX5_yearsSinceAlike S25 v3) fun r30 S30 =>
if r30 ≤ 0 then (gx_bind (fX5_remember S30 v3) fun r45 S45 =>
gx_let (v3 + (1 : Int32)) fun v3_48 =>
K19 S45 v1 v3_48) else
some (r30, S30)
def fX5_steady_19 : Nat → gS → Int32 → Int32 → Option (Int32 × gS)
  | 0, _, _, _ => none
  | f + 1, S, v1, v3 => fX5_steady_19L (fX5_steady_19 f) S v1 v3
def fX5_steady (S : gS) (v1 : Int32) : Option (Int32 × gS) :=
gx_bind (fX5_refusalOfYears S v1) fun r2 S2 =>
if r2 = 0 then (gx_bind (fX5_remember S2 (0 : Int32)) fun r14 S14 =>
fX5_steady_19 gx_fuel S14 v1 (1 : Int32)) else
some (r2, S2)
def rmX5_steady : Room := { frames := 5, cells := 0, slots := 0, locals := 121 }
set_option maxHeartbeats 4000000 in
set_option maxRecDepth 20000 in
theorem tX5_steady_19L {p : Program} {l : Launch} {e : Env} {s : State} {m : MethodId} {args : Array Value} {below : List Frame} {meth : Method} {c : Code} {G : gG} {ad : Nat → Nat} {A : Nat → Prop} {z : Int32 × gS} {K19 : gS → Int32 → Int32 → Option (Int32 × gS)} (X : gCx p s m args meth c G cX5_steady RX5 (some .int) 5) (hA : ∀ q, s.heap.size ≤ q → A q) (kK19 : ∀ (S : gS) (v1 : Int32) (v3 : Int32), K19 S v1 v3 = some z → ∀ (H : Heap) (locs : List Loc) (ls : Array Slot), gV wdX G ad A s.heap S H locs → lv_has ls 5 [(0, .ref (ad 0)), (1, .int v1), (3, .int v3)] → W p l e rmX5_steady s m args below meth c H locs 0 0 (MQ below (gQi wdX G ad A z) args s 0 0 A) (F0 m 19 ls [])) (S : gS) (v1 : Int32) (v3 : Int32) (h : fX5_steady_19L K19 S v1 v3 = some z) {H : Heap} {locs : List Loc} {ls : Array Slot} (hV : gV wdX G ad A s.heap S H locs) (hl : lv_has ls 5 [(0, .ref (ad 0)), (1, .int v1), (3, .int v3)]) : W p l e rmX5_steady s m args below meth c H locs 0 0 (MQ below (gQi wdX G ad A z) args s 0 0 A) (F0 m 19 ls []) := by
  obtain ⟨hx, hb, hr, hml, hown, hts, hlk, hK⟩ := id X
  unfold fX5_steady_19L at h
  refine lv_iload_n hx hb dX5_steady_19 rfl (lv_at hl 2 rfl) ?_
  refine lv_iload_n hx hb dX5_steady_20 rfl (lv_at hl 1 rfl) ?_
  refine lv_icmp_gt (tgt := 54) hx hb dX5_steady_21 (by decide) (fun c_21 => ?_) (fun c_21 => ?_)
  · rw [if_pos c_21] at h
    refine lv_iconst (v := 0) hx hb dX5_steady_54 (by decide) ?_
    exact gw_ireti X hV h dX5_steady_55
  · rw [if_neg c_21] at h
    refine lv_aload_n hx hb dX5_steady_24 rfl (lv_at hl 0 rfl) ?_
    obtain ⟨r25, S25, k_25, h⟩ := gx_bind_e h
    refine gw_callv X hA hV (gw_runV X hV (o := 0) (As := []) (rest := []) (mX5_passYear l G ad _ S k_25) kc_RX5_174 (iXO_0 rfl) rfl rfl rfl hl.1 rfl (Nat.le_of_ble_eq_true rfl) ⟨rfl, rfl⟩ ⟨Nat.le_of_ble_eq_true rfl, Nat.le_of_ble_eq_true rfl⟩ ⟨Nat.le_refl _, Nat.le_refl _⟩ dX5_steady_25) (fun H locs hV => ?_)
    refine lv_aload_n hx hb dX5_steady_28 rfl (lv_at hl 0 rfl) ?_
    refine lv_iload_n hx hb dX5_steady_29 rfl (lv_at hl 2 rfl) ?_
    obtain ⟨r30, S30, k_30, h⟩ := gx_bind_e h
    refine gw_callI X hA hV (gw_runV X hV (o := 0) (As := [.int v3]) (rest := []) (mX5_yearsSinceAlike l G ad _ S25 k_30) kc_RX5_188 (iXO_0 rfl) rfl rfl rfl hl.1 rfl (Nat.le_of_ble_eq_true rfl) ⟨rfl, rfl⟩ ⟨Nat.le_of_ble_eq_true rfl, Nat.le_of_ble_eq_true rfl⟩ ⟨Nat.le_refl _, Nat.le_refl _⟩ dX5_steady_30) (fun H locs hV => ?_)
    refine lv_istore (lv' := [(4, .int r30), (0, .ref (ad 0)), (1, .int v1), (3, .int v3)]) hx hb dX5_steady_33 hl (by decide) rfl (fun ls hl => ?_)
    refine lv_iload hx hb dX5_steady_35 (lv_at hl 0 rfl) ?_
    refine lv_if_le (tgt := 43) hx hb dX5_steady_37 (by decide) (fun c_37 => ?_) (fun c_37 => ?_)
    · rw [if_pos c_37] at h
      refine lv_aload_n hx hb dX5_steady_43 rfl (lv_at hl 1 rfl) ?_
      refine lv_iload_n hx hb dX5_steady_44 rfl (lv_at hl 3 rfl) ?_
      obtain ⟨r45, S45, k_45, h⟩ := gx_bind_e h
      refine gw_callv X hA hV (gw_runV X hV (o := 0) (As := [.int v3]) (rest := []) (mX5_remember l G ad _ S30 k_45) kc_RX5_184 (iXO_0 rfl) rfl rfl rfl hl.1 rfl (Nat.le_of_ble_eq_true rfl) ⟨rfl, rfl⟩ ⟨Nat.le_of_ble_eq_true rfl, Nat.le_of_ble_eq_true rfl⟩ ⟨Nat.le_refl _, Nat.le_refl _⟩ dX5_steady_45) (fun H locs hV => ?_)
      obtain ⟨v3_48, e_48⟩ : ∃ y : Int32, y = (v3 + (1 : Int32)) := ⟨_, rfl⟩
      refine lv_iinc (v := v3_48) (lv' := [(3, .int v3_48), (4, .int r30), (0, .ref (ad 0)), (1, .int v1)]) hx hb dX5_steady_48 hl (k := 3) rfl (by rw [e_48]; rfl) (by decide) rfl (fun ls hl => ?_)
      replace h := gx_let_e e_48 h
      clear e_48
      refine lv_goto (tgt := 19) hx hb dX5_steady_51 (by decide) ?_
      exact kK19 _ _ _ h _ _ _ hV (lv_sub hl [2, 3, 0] rfl)
    · rw [if_neg c_37] at h
      refine lv_iload hx hb dX5_steady_40 (lv_at hl 0 rfl) ?_
      exact gw_ireti X hV h dX5_steady_42
set_option maxHeartbeats 4000000 in
set_option maxRecDepth 20000 in
theorem tX5_steady_19 {p : Program} {l : Launch} {e : Env} {s : State} {m : MethodId} {args : Array Value} {below : List Frame} {meth : Method} {c : Code} {G : gG} {ad : Nat → Nat} {A : Nat → Prop} {z : Int32 × gS} (X : gCx p s m args meth c G cX5_steady RX5 (some .int) 5) (hA : ∀ q, s.heap.size ≤ q → A q) : ∀ (f : Nat) (S : gS) (v1 : Int32) (v3 : Int32) (h : fX5_steady_19 f S v1 v3 = some z) (H : Heap) (locs : List Loc) (ls : Array Slot) (hV : gV wdX G ad A s.heap S H locs) (hl : lv_has ls 5 [(0, .ref (ad 0)), (1, .int v1), (3, .int v3)]), W p l e rmX5_steady s m args below meth c H locs 0 0 (MQ below (gQi wdX G ad A z) args s 0 0 A) (F0 m 19 ls []) := by
  intro f
  induction f with
  | zero => intro S v1 v3 h; exact absurd h (by simp [fX5_steady_19])
  | succ f ih => intro S v1 v3 h H locs ls hV hl; exact tX5_steady_19L X hA ih S v1 v3 h hV hl
set_option maxHeartbeats 4000000 in
set_option maxRecDepth 20000 in
theorem mX5_steady (l : Launch) (G : gG) (ad : Nat → Nat) (sz : Nat) (S : gS) {v1 : Int32} {r : Int32} {S' : gS} (h : fX5_steady S v1 = some (r, S')) : gMetI l yX5_steady cX5_steady 5 (some .int) rmX5_steady wdX G ad S sz [.ref (ad 0), .int v1] r S' := by
  refine gMet_of (by decide) ?_
  intro p e s m below meth c A hA X hnm hV
  have hl := lv_entry ([.ref (ad 0), .int v1]) (n := 5) (Nat.le_of_ble_eq_true rfl)
  rw [lg_entry_eq]
  generalize (lg_sl ([.ref (ad 0), .int v1]) ++ List.replicate (5 - (lg_sl ([.ref (ad 0), .int v1])).length) Slot.unset).toArray = ls at hl ⊢
  have hl : lv_has ls 5 [(0, .ref (ad 0)), (1, .int v1)] := hl
  obtain ⟨hx, hb, hr, hml, hown, hts, hlk, hK⟩ := id X
  unfold fX5_steady at h
  generalize ([.ref (ad 0), .int v1].toArray : Array Value) = args at X ⊢
  have Y : ∀ (H : Heap) (locs : List Loc), gV wdX G ad A s.heap S H locs → W p l e rmX5_steady s m args below meth c H locs 0 0 (MQ below (gQi wdX G ad A (r, S')) args s 0 0 A) (F0 m 0 ls []) := by
    intro H locs hV
    refine lv_aload_n hx hb dX5_steady_0 rfl (lv_at hl 0 rfl) ?_
    refine lv_iload_n hx hb dX5_steady_1 rfl (lv_at hl 1 rfl) ?_
    obtain ⟨r2, S2, k_2, h⟩ := gx_bind_e h
    refine gw_callI X hA hV (gw_runV X hV (o := 0) (As := [.int v1]) (rest := []) (mX5_refusalOfYears l G ad _ S k_2) kc_RX5_171 (iXO_0 rfl) rfl rfl rfl hl.1 rfl (Nat.le_of_ble_eq_true rfl) ⟨rfl, rfl⟩ ⟨Nat.le_of_ble_eq_true rfl, Nat.le_of_ble_eq_true rfl⟩ ⟨Nat.le_refl _, Nat.le_refl _⟩ dX5_steady_2) (fun H locs hV => ?_)
    refine lv_istore_n (lv' := [(2, .int r2), (0, .ref (ad 0)), (1, .int v1)]) hx hb dX5_steady_5 rfl hl (by decide) rfl (fun ls hl => ?_)
    refine lv_iload_n hx hb dX5_steady_6 rfl (lv_at hl 0 rfl) ?_
    refine lv_if_eq (tgt := 12) hx hb dX5_steady_7 (by decide) (fun c_7 => ?_) (fun c_7 => ?_)
    · rw [if_pos c_7] at h
      refine lv_aload_n hx hb dX5_steady_12 rfl (lv_at hl 1 rfl) ?_
      refine lv_iconst (v := 0) hx hb dX5_steady_13 (by decide) ?_
      obtain ⟨r14, S14, k_14, h⟩ := gx_bind_e h
      refine gw_callv X hA hV (gw_runV X hV (o := 0) (As := [.int (0 : Int32)]) (rest := []) (mX5_remember l G ad _ S2 k_14) kc_RX5_184 (iXO_0 rfl) rfl rfl rfl hl.1 rfl (Nat.le_of_ble_eq_true rfl) ⟨rfl, rfl⟩ ⟨Nat.le_of_ble_eq_true rfl, Nat.le_of_ble_eq_true rfl⟩ ⟨Nat.le_refl _, Nat.le_refl _⟩ dX5_steady_14) (fun H locs hV => ?_)
      refine lv_iconst (v := 1) hx hb dX5_steady_17 (by decide) ?_
      refine lv_istore_n (lv' := [(3, .int (1 : Int32)), (2, .int r2), (0, .ref (ad 0)), (1, .int v1)]) hx hb dX5_steady_18 rfl hl (by decide) rfl (fun ls hl => ?_)
      exact tX5_steady_19 X hA gx_fuel _ _ _ h _ _ _ hV (lv_sub hl [2, 3, 0] rfl)
    · rw [if_neg c_7] at h
      refine lv_iload_n hx hb dX5_steady_10 rfl (lv_at hl 0 rfl) ?_
      exact gw_ireti X hV h dX5_steady_11
  exact Y _ _ hV
theorem kc_RX5_198 : gKV RX5 198 yX0_layerCount cX0_layerCount 4 (some .int) 1 := ⟨q_454, q_455, q_456, q_457, q_39, by decide +kernel⟩
theorem kc_RX5_201 : gKV RX5 201 yX0_layerYear cX0_layerYear 5 (some .int) 2 := ⟨q_458, q_459, q_460, q_461, q_39, by decide +kernel⟩
def fX5_cell (S : gS) (v1 : Int32) (v2 : Int32) (v3 : Int32) : Option (Int64 × gS) :=
gx_bind (fX1_placeAt 5 S v1 v2) fun r6 S6 =>
if r6 = (-1 : Int32) then (some ((-1 : Int64), S6)) else
if v3 < 0 then (some ((-2 : Int64), S6)) else
if v3 ≤ (6 : Int32) then (gx_chk r6 64 <|
if (gA S6 7 (Int32.toNatClampNeg r6)) = (4 : Int32) then (some ((-3 : Int64), S6)) else
if v3 = 0 then (gx_chk r6 64 <|
some ((Int32.toInt64 (gA S6 6 (Int32.toNatClampNeg r6))), S6)) else
if v3 = 1 then (gx_chk r6 64 <|
some ((gJ S6 12 (Int32.toNatClampNeg r6)), S6)) else
if v3 = 2 then (gx_bind (fX5_surface S6 r6) fun r118 S118 =>
some (r118, S118)) else
if v3 = 3 then (gx_bind (fX0_layerCount 10 S6 r6) fun r128 S128 =>
some ((Int32.toInt64 r128), S128)) else
if v3 = 4 then (gx_bind (fX0_layerYear 10 S6 r6 (0 : Int32)) fun r140 S140 =>
some ((Int32.toInt64 r140), S140)) else
if v3 = 5 then (gx_bind (fX0_layerCount 10 S6 r6) fun r157 S157 =>
gx_bind (fX0_layerYear 10 S157 r6 (r157 - (1 : Int32))) fun r162 S162 =>
some ((Int32.toInt64 r162), S162)) else
gx_bind (fX1_band 5 S6 r6) fun r173 S173 =>
some ((Int32.toInt64 r173), S173)) else
some ((-2 : Int64), S6)
def rmX5_cell : Room := { frames := 1, cells := 0, slots := 0, locals := 24 }
set_option maxHeartbeats 4000000 in
set_option maxRecDepth 20000 in
theorem mX5_cell (l : Launch) (G : gG) (ad : Nat → Nat) (sz : Nat) (S : gS) {v1 : Int32} {v2 : Int32} {v3 : Int32} {r : Int64} {S' : gS} (h : fX5_cell S v1 v2 v3 = some (r, S')) : gMetL l yX5_cell cX5_cell 5 (some .long) rmX5_cell wdX G ad S sz [.ref (ad 0), .int v1, .int v2, .int v3] r S' := by
  refine gMet_of (by decide) ?_
  intro p e s m below meth c A hA X hnm hV
  have hl := lv_entry ([.ref (ad 0), .int v1, .int v2, .int v3]) (n := 5) (Nat.le_of_ble_eq_true rfl)
  rw [lg_entry_eq]
  generalize (lg_sl ([.ref (ad 0), .int v1, .int v2, .int v3]) ++ List.replicate (5 - (lg_sl ([.ref (ad 0), .int v1, .int v2, .int v3])).length) Slot.unset).toArray = ls at hl ⊢
  have hl : lv_has ls 5 [(0, .ref (ad 0)), (1, .int v1), (2, .int v2), (3, .int v3)] := hl
  obtain ⟨hx, hb, hr, hml, hown, hts, hlk, hK⟩ := id X
  unfold fX5_cell at h
  generalize ([.ref (ad 0), .int v1, .int v2, .int v3].toArray : Array Value) = args at X ⊢
  have Y : ∀ (H : Heap) (locs : List Loc), gV wdX G ad A s.heap S H locs → W p l e rmX5_cell s m args below meth c H locs 0 0 (MQ below (gQl wdX G ad A (r, S')) args s 0 0 A) (F0 m 0 ls []) := by
    intro H locs hV
    refine lv_aload_n hx hb dX5_cell_0 rfl (lv_at hl 0 rfl) ?_
    refine ggX5_25 X hV (o := 0) rfl dX5_cell_1 ?_
    refine lv_iload_n hx hb dX5_cell_4 rfl (lv_at hl 1 rfl) ?_
    refine lv_iload_n hx hb dX5_cell_5 rfl (lv_at hl 2 rfl) ?_
    obtain ⟨r6, S6, k_6, h⟩ := gx_bind_e h
    refine gw_callI X hA hV (gw_runV X hV (o := 5) (As := [.int v1, .int v2]) (rest := []) (mX1_placeAt l G ad _ S rfl k_6) kc_RX5_129 (iXO_4 rfl) rfl rfl rfl hl.1 rfl (Nat.le_of_ble_eq_true rfl) ⟨rfl, rfl⟩ ⟨Nat.le_of_ble_eq_true rfl, Nat.le_of_ble_eq_true rfl⟩ ⟨Nat.le_refl _, Nat.le_refl _⟩ dX5_cell_6) (fun H locs hV => ?_)
    refine lv_istore (lv' := [(4, .int r6), (0, .ref (ad 0)), (1, .int v1), (2, .int v2), (3, .int v3)]) hx hb dX5_cell_9 hl (by decide) rfl (fun ls hl => ?_)
    refine lv_iload hx hb dX5_cell_11 (lv_at hl 0 rfl) ?_
    refine lv_iconst (v := -1) hx hb dX5_cell_13 (by decide) ?_
    refine lv_icmp_ne (tgt := 21) hx hb dX5_cell_14 (by decide) (fun c_14 => ?_) (fun c_14 => ?_)
    · rw [if_neg c_14] at h
      refine lv_iload_n hx hb dX5_cell_21 rfl (lv_at hl 4 rfl) ?_
      refine lv_if_lt (tgt := 31) hx hb dX5_cell_22 (by decide) (fun c_22 => ?_) (fun c_22 => ?_)
      · rw [if_pos c_22] at h
        refine lv_ldc2 (v := -2) hx hb hown (hts _ q_256) dX5_cell_31 ?_
        exact gw_lret X hV h dX5_cell_34
      · rw [if_neg c_22] at h
        refine lv_iload_n hx hb dX5_cell_25 rfl (lv_at hl 4 rfl) ?_
        refine lv_bipush (v := 6) hx hb dX5_cell_26 (by decide) ?_
        refine lv_icmp_le (tgt := 35) hx hb dX5_cell_28 (by decide) (fun c_28 => ?_) (fun c_28 => ?_)
        · rw [if_pos c_28] at h
          refine lv_aload_n hx hb dX5_cell_35 rfl (lv_at hl 1 rfl) ?_
          refine ggX5_25 X hV (o := 0) rfl dX5_cell_36 ?_
          refine ggX5_136 X hV (o := 5) rfl dX5_cell_39 ?_
          refine lv_iload hx hb dX5_cell_42 (lv_at hl 0 rfl) ?_
          obtain ⟨c_44, h⟩ := gx_chk_e h
          refine gw_iald X hV (iXA_5 (o := 7) rfl) c_44 dX5_cell_44 ?_
          refine lv_iconst (v := 4) hx hb dX5_cell_45 (by decide) ?_
          refine lv_icmp_ne (tgt := 53) hx hb dX5_cell_46 (by decide) (fun c_46 => ?_) (fun c_46 => ?_)
          · rw [if_neg c_46] at h
            refine lv_iload_n hx hb dX5_cell_53 rfl (lv_at hl 4 rfl) ?_
            by_cases c_54_0 : v3 = 0
            · rw [if_pos c_54_0] at h
              refine lv_tableIn (off := 38) (tgt := 92) hx hb dX5_cell_54 (by rw [c_54_0]; decide) (by rw [c_54_0]; decide) (by rw [c_54_0]; rfl) (by decide) ?_
              refine lv_aload_n hx hb dX5_cell_92 rfl (lv_at hl 1 rfl) ?_
              refine ggX5_25 X hV (o := 0) rfl dX5_cell_93 ?_
              refine ggX5_191 X hV (o := 5) rfl dX5_cell_96 ?_
              refine lv_iload hx hb dX5_cell_99 (lv_at hl 0 rfl) ?_
              obtain ⟨c_101, h⟩ := gx_chk_e h
              refine gw_iald X hV (iXA_5 (o := 6) rfl) c_101 dX5_cell_101 ?_
              refine lv_i2l hx hb dX5_cell_102 rfl ?_
              exact gw_lret X hV h dX5_cell_103
            · rw [if_neg c_54_0] at h
              by_cases c_54_1 : v3 = 1
              · rw [if_pos c_54_1] at h
                refine lv_tableIn (off := 50) (tgt := 104) hx hb dX5_cell_54 (by rw [c_54_1]; decide) (by rw [c_54_1]; decide) (by rw [c_54_1]; rfl) (by decide) ?_
                refine lv_aload_n hx hb dX5_cell_104 rfl (lv_at hl 1 rfl) ?_
                refine ggX5_32 X hV (o := 0) rfl dX5_cell_105 ?_
                refine ggX5_168 X hV (o := 10) rfl dX5_cell_108 ?_
                refine lv_iload hx hb dX5_cell_111 (lv_at hl 0 rfl) ?_
                obtain ⟨c_113, h⟩ := gx_chk_e h
                refine gw_lald X hV (iXJ_8 (o := 12) rfl) c_113 dX5_cell_113 ?_
                exact gw_lret X hV h dX5_cell_114
              · rw [if_neg c_54_1] at h
                by_cases c_54_2 : v3 = 2
                · rw [if_pos c_54_2] at h
                  refine lv_tableIn (off := 61) (tgt := 115) hx hb dX5_cell_54 (by rw [c_54_2]; decide) (by rw [c_54_2]; decide) (by rw [c_54_2]; rfl) (by decide) ?_
                  refine lv_aload_n hx hb dX5_cell_115 rfl (lv_at hl 1 rfl) ?_
                  refine lv_iload hx hb dX5_cell_116 (lv_at hl 0 rfl) ?_
                  obtain ⟨r118, S118, k_118, h⟩ := gx_bind_e h
                  refine gw_callL X hA hV (gw_runV X hV (o := 0) (As := [.int r6]) (rest := []) (mX5_surface l G ad _ S6 k_118) kc_RX5_194 (iXO_0 rfl) rfl rfl rfl hl.1 rfl (Nat.le_of_ble_eq_true rfl) ⟨rfl, rfl⟩ ⟨Nat.le_of_ble_eq_true rfl, Nat.le_of_ble_eq_true rfl⟩ ⟨Nat.le_refl _, Nat.le_refl _⟩ dX5_cell_118) (fun H locs hV => ?_)
                  exact gw_lret X hV h dX5_cell_121
                · rw [if_neg c_54_2] at h
                  by_cases c_54_3 : v3 = 3
                  · rw [if_pos c_54_3] at h
                    refine lv_tableIn (off := 68) (tgt := 122) hx hb dX5_cell_54 (by rw [c_54_3]; decide) (by rw [c_54_3]; decide) (by rw [c_54_3]; rfl) (by decide) ?_
                    refine lv_aload_n hx hb dX5_cell_122 rfl (lv_at hl 1 rfl) ?_
                    refine ggX5_32 X hV (o := 0) rfl dX5_cell_123 ?_
                    refine lv_iload hx hb dX5_cell_126 (lv_at hl 0 rfl) ?_
                    obtain ⟨r128, S128, k_128, h⟩ := gx_bind_e h
                    refine gw_callI X hA hV (gw_runV X hV (o := 10) (As := [.int r6]) (rest := []) (mX0_layerCount l G ad _ S6 rfl k_128) kc_RX5_198 (iXO_6 rfl) rfl rfl rfl hl.1 rfl (Nat.le_of_ble_eq_true rfl) ⟨rfl, rfl⟩ ⟨Nat.le_of_ble_eq_true rfl, Nat.le_of_ble_eq_true rfl⟩ ⟨Nat.le_refl _, Nat.le_refl _⟩ dX5_cell_128) (fun H locs hV => ?_)
                    refine lv_i2l hx hb dX5_cell_131 rfl ?_
                    exact gw_lret X hV h dX5_cell_132
                  · rw [if_neg c_54_3] at h
                    by_cases c_54_4 : v3 = 4
                    · rw [if_pos c_54_4] at h
                      refine lv_tableIn (off := 79) (tgt := 133) hx hb dX5_cell_54 (by rw [c_54_4]; decide) (by rw [c_54_4]; decide) (by rw [c_54_4]; rfl) (by decide) ?_
                      refine lv_aload_n hx hb dX5_cell_133 rfl (lv_at hl 1 rfl) ?_
                      refine ggX5_32 X hV (o := 0) rfl dX5_cell_134 ?_
                      refine lv_iload hx hb dX5_cell_137 (lv_at hl 0 rfl) ?_
                      refine lv_iconst (v := 0) hx hb dX5_cell_139 (by decide) ?_
                      obtain ⟨r140, S140, k_140, h⟩ := gx_bind_e h
                      refine gw_callI X hA hV (gw_runV X hV (o := 10) (As := [.int r6, .int (0 : Int32)]) (rest := []) (mX0_layerYear l G ad _ S6 rfl k_140) kc_RX5_201 (iXO_6 rfl) rfl rfl rfl hl.1 rfl (Nat.le_of_ble_eq_true rfl) ⟨rfl, rfl⟩ ⟨Nat.le_of_ble_eq_true rfl, Nat.le_of_ble_eq_true rfl⟩ ⟨Nat.le_refl _, Nat.le_refl _⟩ dX5_cell_140) (fun H locs hV => ?_)
                      refine lv_i2l hx hb dX5_cell_143 rfl ?_
                      exact gw_lret X hV h dX5_cell_144
                    · rw [if_neg c_54_4] at h
                      by_cases c_54_5 : v3 = 5
                      · rw [if_pos c_54_5] at h
                        refine lv_tableIn (off := 91) (tgt := 145) hx hb dX5_cell_54 (by rw [c_54_5]; decide) (by rw [c_54_5]; decide) (by rw [c_54_5]; rfl) (by decide) ?_
                        refine lv_aload_n hx hb dX5_cell_145 rfl (lv_at hl 1 rfl) ?_
                        refine ggX5_32 X hV (o := 0) rfl dX5_cell_146 ?_
                        refine lv_iload hx hb dX5_cell_149 (lv_at hl 0 rfl) ?_
                        refine lv_aload_n hx hb dX5_cell_151 rfl (lv_at hl 1 rfl) ?_
                        refine ggX5_32 X hV (o := 0) rfl dX5_cell_152 ?_
                        refine lv_iload hx hb dX5_cell_155 (lv_at hl 0 rfl) ?_
                        obtain ⟨r157, S157, k_157, h⟩ := gx_bind_e h
                        refine gw_callI X hA hV (gw_runV X hV (o := 10) (As := [.int r6]) (rest := [.int r6, .ref (ad 10)]) (mX0_layerCount l G ad _ S6 rfl k_157) kc_RX5_198 (iXO_6 rfl) rfl rfl rfl hl.1 rfl (Nat.le_of_ble_eq_true rfl) ⟨rfl, rfl⟩ ⟨Nat.le_of_ble_eq_true rfl, Nat.le_of_ble_eq_true rfl⟩ ⟨Nat.le_refl _, Nat.le_refl _⟩ dX5_cell_157) (fun H locs hV => ?_)
                        refine lv_iconst (v := 1) hx hb dX5_cell_160 (by decide) ?_
                        refine lv_isub hx hb dX5_cell_161 ?_
                        obtain ⟨r162, S162, k_162, h⟩ := gx_bind_e h
                        refine gw_callI X hA hV (gw_runV X hV (o := 10) (As := [.int r6, .int (r157 - (1 : Int32))]) (rest := []) (mX0_layerYear l G ad _ S157 rfl k_162) kc_RX5_201 (iXO_6 rfl) rfl rfl rfl hl.1 rfl (Nat.le_of_ble_eq_true rfl) ⟨rfl, rfl⟩ ⟨Nat.le_of_ble_eq_true rfl, Nat.le_of_ble_eq_true rfl⟩ ⟨Nat.le_refl _, Nat.le_refl _⟩ dX5_cell_162) (fun H locs hV => ?_)
                        refine lv_i2l hx hb dX5_cell_165 rfl ?_
                        exact gw_lret X hV h dX5_cell_166
                      · rw [if_neg c_54_5] at h
                        refine lv_tableOut (tgt := 167) hx hb dX5_cell_54 (g_tabOut 6 (fun j hj => by
                          match j, hj with
                          | 0, _ => exact c_54_0
                          | 1, _ => exact c_54_1
                          | 2, _ => exact c_54_2
                          | 3, _ => exact c_54_3
                          | 4, _ => exact c_54_4
                          | 5, _ => exact c_54_5
                          | j + 6, hj => omega)) (by decide) ?_
                        refine lv_aload_n hx hb dX5_cell_167 rfl (lv_at hl 1 rfl) ?_
                        refine ggX5_25 X hV (o := 0) rfl dX5_cell_168 ?_
                        refine lv_iload hx hb dX5_cell_171 (lv_at hl 0 rfl) ?_
                        obtain ⟨r173, S173, k_173, h⟩ := gx_bind_e h
                        refine gw_callI X hA hV (gw_runV X hV (o := 5) (As := [.int r6]) (rest := []) (mX1_band l G ad _ S6 rfl k_173) kc_RX5_204 (iXO_4 rfl) rfl rfl rfl hl.1 rfl (Nat.le_of_ble_eq_true rfl) ⟨rfl, rfl⟩ ⟨Nat.le_of_ble_eq_true rfl, Nat.le_of_ble_eq_true rfl⟩ ⟨Nat.le_refl _, Nat.le_refl _⟩ dX5_cell_173) (fun H locs hV => ?_)
                        refine lv_i2l hx hb dX5_cell_176 rfl ?_
                        exact gw_lret X hV h dX5_cell_177
          · rw [if_pos c_46] at h
            refine lv_ldc2 (v := -3) hx hb hown (hts _ q_338) dX5_cell_49 ?_
            exact gw_lret X hV h dX5_cell_52
        · rw [if_neg c_28] at h
          refine lv_ldc2 (v := -2) hx hb hown (hts _ q_256) dX5_cell_31 ?_
          exact gw_lret X hV h dX5_cell_34
    · rw [if_pos c_14] at h
      refine lv_ldc2 (v := -1) hx hb hown (hts _ q_255) dX5_cell_17 ?_
      exact gw_lret X hV h dX5_cell_20
  exact Y _ _ hV
def fX5_layer (S : gS) (v1 : Int32) (v2 : Int32) (v3 : Int32) (v4 : Int32) : Option (Int64 × gS) :=
gx_bind (fX1_placeAt 5 S v1 v2) fun r6 S6 =>
if r6 = (-1 : Int32) then (some ((-1 : Int64), S6)) else
if v4 < 0 then (some ((-2 : Int64), S6)) else
if v4 ≤ (1 : Int32) then (gx_chk r6 64 <|
if (gA S6 7 (Int32.toNatClampNeg r6)) = (4 : Int32) then (some ((-3 : Int64), S6)) else
gx_bind (fX0_layerYear 10 S6 r6 v3) fun r61 S61 =>
if r61 = (-9 : Int32) then (some ((Int32.toInt64 r61), S61)) else
if v4 = 0 then (some ((Int32.toInt64 r61), S61)) else
gx_chk ((r6 * (61 : Int32)) + r61) 3904 <|
some ((gJ S61 11 (Int32.toNatClampNeg ((r6 * (61 : Int32)) + r61))), S61)) else
some ((-2 : Int64), S6)
def rmX5_layer : Room := { frames := 1, cells := 0, slots := 0, locals := 24 }
set_option maxHeartbeats 4000000 in
set_option maxRecDepth 20000 in
theorem mX5_layer (l : Launch) (G : gG) (ad : Nat → Nat) (sz : Nat) (S : gS) {v1 : Int32} {v2 : Int32} {v3 : Int32} {v4 : Int32} {r : Int64} {S' : gS} (h : fX5_layer S v1 v2 v3 v4 = some (r, S')) : gMetL l yX5_layer cX5_layer 7 (some .long) rmX5_layer wdX G ad S sz [.ref (ad 0), .int v1, .int v2, .int v3, .int v4] r S' := by
  refine gMet_of (by decide) ?_
  intro p e s m below meth c A hA X hnm hV
  have hl := lv_entry ([.ref (ad 0), .int v1, .int v2, .int v3, .int v4]) (n := 7) (Nat.le_of_ble_eq_true rfl)
  rw [lg_entry_eq]
  generalize (lg_sl ([.ref (ad 0), .int v1, .int v2, .int v3, .int v4]) ++ List.replicate (7 - (lg_sl ([.ref (ad 0), .int v1, .int v2, .int v3, .int v4])).length) Slot.unset).toArray = ls at hl ⊢
  have hl : lv_has ls 7 [(0, .ref (ad 0)), (1, .int v1), (2, .int v2), (3, .int v3), (4, .int v4)] := hl
  obtain ⟨hx, hb, hr, hml, hown, hts, hlk, hK⟩ := id X
  unfold fX5_layer at h
  generalize ([.ref (ad 0), .int v1, .int v2, .int v3, .int v4].toArray : Array Value) = args at X ⊢
  have Y : ∀ (H : Heap) (locs : List Loc), gV wdX G ad A s.heap S H locs → W p l e rmX5_layer s m args below meth c H locs 0 0 (MQ below (gQl wdX G ad A (r, S')) args s 0 0 A) (F0 m 0 ls []) := by
    intro H locs hV
    refine lv_aload_n hx hb dX5_layer_0 rfl (lv_at hl 0 rfl) ?_
    refine ggX5_25 X hV (o := 0) rfl dX5_layer_1 ?_
    refine lv_iload_n hx hb dX5_layer_4 rfl (lv_at hl 1 rfl) ?_
    refine lv_iload_n hx hb dX5_layer_5 rfl (lv_at hl 2 rfl) ?_
    obtain ⟨r6, S6, k_6, h⟩ := gx_bind_e h
    refine gw_callI X hA hV (gw_runV X hV (o := 5) (As := [.int v1, .int v2]) (rest := []) (mX1_placeAt l G ad _ S rfl k_6) kc_RX5_129 (iXO_4 rfl) rfl rfl rfl hl.1 rfl (Nat.le_of_ble_eq_true rfl) ⟨rfl, rfl⟩ ⟨Nat.le_of_ble_eq_true rfl, Nat.le_of_ble_eq_true rfl⟩ ⟨Nat.le_refl _, Nat.le_refl _⟩ dX5_layer_6) (fun H locs hV => ?_)
    refine lv_istore (lv' := [(5, .int r6), (0, .ref (ad 0)), (1, .int v1), (2, .int v2), (3, .int v3), (4, .int v4)]) hx hb dX5_layer_9 hl (by decide) rfl (fun ls hl => ?_)
    refine lv_iload hx hb dX5_layer_11 (lv_at hl 0 rfl) ?_
    refine lv_iconst (v := -1) hx hb dX5_layer_13 (by decide) ?_
    refine lv_icmp_ne (tgt := 21) hx hb dX5_layer_14 (by decide) (fun c_14 => ?_) (fun c_14 => ?_)
    · rw [if_neg c_14] at h
      refine lv_iload hx hb dX5_layer_21 (lv_at hl 5 rfl) ?_
      refine lv_if_lt (tgt := 32) hx hb dX5_layer_23 (by decide) (fun c_23 => ?_) (fun c_23 => ?_)
      · rw [if_pos c_23] at h
        refine lv_ldc2 (v := -2) hx hb hown (hts _ q_256) dX5_layer_32 ?_
        exact gw_lret X hV h dX5_layer_35
      · rw [if_neg c_23] at h
        refine lv_iload hx hb dX5_layer_26 (lv_at hl 5 rfl) ?_
        refine lv_iconst (v := 1) hx hb dX5_layer_28 (by decide) ?_
        refine lv_icmp_le (tgt := 36) hx hb dX5_layer_29 (by decide) (fun c_29 => ?_) (fun c_29 => ?_)
        · rw [if_pos c_29] at h
          refine lv_aload_n hx hb dX5_layer_36 rfl (lv_at hl 1 rfl) ?_
          refine ggX5_25 X hV (o := 0) rfl dX5_layer_37 ?_
          refine ggX5_136 X hV (o := 5) rfl dX5_layer_40 ?_
          refine lv_iload hx hb dX5_layer_43 (lv_at hl 0 rfl) ?_
          obtain ⟨c_45, h⟩ := gx_chk_e h
          refine gw_iald X hV (iXA_5 (o := 7) rfl) c_45 dX5_layer_45 ?_
          refine lv_iconst (v := 4) hx hb dX5_layer_46 (by decide) ?_
          refine lv_icmp_ne (tgt := 54) hx hb dX5_layer_47 (by decide) (fun c_47 => ?_) (fun c_47 => ?_)
          · rw [if_neg c_47] at h
            refine lv_aload_n hx hb dX5_layer_54 rfl (lv_at hl 1 rfl) ?_
            refine ggX5_32 X hV (o := 0) rfl dX5_layer_55 ?_
            refine lv_iload hx hb dX5_layer_58 (lv_at hl 0 rfl) ?_
            refine lv_iload_n hx hb dX5_layer_60 rfl (lv_at hl 4 rfl) ?_
            obtain ⟨r61, S61, k_61, h⟩ := gx_bind_e h
            refine gw_callI X hA hV (gw_runV X hV (o := 10) (As := [.int r6, .int v3]) (rest := []) (mX0_layerYear l G ad _ S6 rfl k_61) kc_RX5_201 (iXO_6 rfl) rfl rfl rfl hl.1 rfl (Nat.le_of_ble_eq_true rfl) ⟨rfl, rfl⟩ ⟨Nat.le_of_ble_eq_true rfl, Nat.le_of_ble_eq_true rfl⟩ ⟨Nat.le_refl _, Nat.le_refl _⟩ dX5_layer_61) (fun H locs hV => ?_)
            refine lv_istore (lv' := [(6, .int r61), (5, .int r6), (0, .ref (ad 0)), (1, .int v1), (2, .int v2), (3, .int v3), (4, .int v4)]) hx hb dX5_layer_64 hl (by decide) rfl (fun ls hl => ?_)
            refine lv_iload hx hb dX5_layer_66 (lv_at hl 0 rfl) ?_
            refine lv_bipush (v := -9) hx hb dX5_layer_68 (by decide) ?_
            refine lv_icmp_eq (tgt := 78) hx hb dX5_layer_70 (by decide) (fun c_70 => ?_) (fun c_70 => ?_)
            · rw [if_pos c_70] at h
              refine lv_iload hx hb dX5_layer_78 (lv_at hl 0 rfl) ?_
              refine lv_i2l hx hb dX5_layer_80 rfl ?_
              exact gw_lret X hV h dX5_layer_81
            · rw [if_neg c_70] at h
              refine lv_iload hx hb dX5_layer_73 (lv_at hl 6 rfl) ?_
              refine lv_if_ne (tgt := 82) hx hb dX5_layer_75 (by decide) (fun c_75 => ?_) (fun c_75 => ?_)
              · rw [if_neg c_75] at h
                refine lv_aload_n hx hb dX5_layer_82 rfl (lv_at hl 2 rfl) ?_
                refine ggX5_32 X hV (o := 0) rfl dX5_layer_83 ?_
                refine ggX5_207 X hV (o := 10) rfl dX5_layer_86 ?_
                refine lv_iload hx hb dX5_layer_89 (lv_at hl 1 rfl) ?_
                refine lv_bipush (v := 61) hx hb dX5_layer_91 (by decide) ?_
                refine lv_imul hx hb dX5_layer_93 ?_
                refine lv_iload hx hb dX5_layer_94 (lv_at hl 0 rfl) ?_
                refine lv_iadd hx hb dX5_layer_96 ?_
                obtain ⟨c_97, h⟩ := gx_chk_e h
                refine gw_lald X hV (iXJ_7 (o := 11) rfl) c_97 dX5_layer_97 ?_
                exact gw_lret X hV h dX5_layer_98
              · rw [if_pos c_75] at h
                refine lv_iload hx hb dX5_layer_78 (lv_at hl 0 rfl) ?_
                refine lv_i2l hx hb dX5_layer_80 rfl ?_
                exact gw_lret X hV h dX5_layer_81
          · rw [if_pos c_47] at h
            refine lv_ldc2 (v := -3) hx hb hown (hts _ q_338) dX5_layer_50 ?_
            exact gw_lret X hV h dX5_layer_53
        · rw [if_neg c_29] at h
          refine lv_ldc2 (v := -2) hx hb hown (hts _ q_256) dX5_layer_32 ?_
          exact gw_lret X hV h dX5_layer_35
    · rw [if_pos c_14] at h
      refine lv_ldc2 (v := -1) hx hb hown (hts _ q_255) dX5_layer_17 ?_
      exact gw_lret X hV h dX5_layer_20
  exact Y _ _ hV
theorem kc_RX5_214 : gKV RX5 214 yX0_tallyOfAll cX0_tallyOfAll 5 (some .long) 1 := ⟨q_470, q_471, q_472, q_473, q_39, by decide +kernel⟩
def fX5_sum_33 (S : gS) (v1 : Int32) (v2 : Int32) : Option (Int64 × gS) :=
gx_bind (fX1_lies 5 S) fun r37 S37 =>
if r37 = 0 then (some ((-3 : Int64), S37)) else
if v2 = (-9 : Int32) then (gx_bind (fX0_tallyOfAll 10 S37 v1) fun r58 S58 =>
some (r58, S58)) else
gx_chk ((v1 * (61 : Int32)) + v2) 305 <|
some ((gJ S37 13 (Int32.toNatClampNeg ((v1 * (61 : Int32)) + v2))), S37)
def fX5_sum (S : gS) (v1 : Int32) (v2 : Int32) : Option (Int64 × gS) :=
if v1 < 0 then (some ((-2 : Int64), S)) else
if v1 ≤ (4 : Int32) then (if v2 = (-9 : Int32) then (fX5_sum_33 S v1 v2) else
if v2 < 0 then (some ((-2 : Int64), S)) else
if v2 ≤ (60 : Int32) then (fX5_sum_33 S v1 v2) else
some ((-2 : Int64), S)) else
some ((-2 : Int64), S)
def rmX5_sum : Room := { frames := 1, cells := 0, slots := 0, locals := 24 }
set_option maxHeartbeats 4000000 in
set_option maxRecDepth 20000 in
theorem tX5_sum_33 {p : Program} {l : Launch} {e : Env} {s : State} {m : MethodId} {args : Array Value} {below : List Frame} {meth : Method} {c : Code} {G : gG} {ad : Nat → Nat} {A : Nat → Prop} {z : Int64 × gS} (X : gCx p s m args meth c G cX5_sum RX5 (some .long) 3) (hA : ∀ q, s.heap.size ≤ q → A q) (S : gS) (v1 : Int32) (v2 : Int32) (h : fX5_sum_33 S v1 v2 = some z) {H : Heap} {locs : List Loc} {ls : Array Slot} (hV : gV wdX G ad A s.heap S H locs) (hl : lv_has ls 3 [(0, .ref (ad 0)), (1, .int v1), (2, .int v2)]) : W p l e rmX5_sum s m args below meth c H locs 0 0 (MQ below (gQl wdX G ad A z) args s 0 0 A) (F0 m 33 ls []) := by
  obtain ⟨hx, hb, hr, hml, hown, hts, hlk, hK⟩ := id X
  unfold fX5_sum_33 at h
  refine lv_aload_n hx hb dX5_sum_33 rfl (lv_at hl 0 rfl) ?_
  refine ggX5_25 X hV (o := 0) rfl dX5_sum_34 ?_
  obtain ⟨r37, S37, k_37, h⟩ := gx_bind_e h
  refine gw_callI X hA hV (gw_runV X hV (o := 5) (As := []) (rest := []) (mX1_lies l G ad _ S rfl k_37) kc_RX5_210 (iXO_4 rfl) rfl rfl rfl hl.1 rfl (Nat.le_of_ble_eq_true rfl) ⟨rfl, rfl⟩ ⟨Nat.le_of_ble_eq_true rfl, Nat.le_of_ble_eq_true rfl⟩ ⟨Nat.le_refl _, Nat.le_refl _⟩ dX5_sum_37) (fun H locs hV => ?_)
  refine lv_if_ne (tgt := 47) hx hb dX5_sum_40 (by decide) (fun c_40 => ?_) (fun c_40 => ?_)
  · rw [if_neg c_40] at h
    refine lv_iload_n hx hb dX5_sum_47 rfl (lv_at hl 2 rfl) ?_
    refine lv_bipush (v := -9) hx hb dX5_sum_48 (by decide) ?_
    refine lv_icmp_ne (tgt := 64) hx hb dX5_sum_50 (by decide) (fun c_50 => ?_) (fun c_50 => ?_)
    · rw [if_neg c_50] at h
      refine lv_aload_n hx hb dX5_sum_64 rfl (lv_at hl 0 rfl) ?_
      refine ggX5_32 X hV (o := 0) rfl dX5_sum_65 ?_
      refine ggX5_217 X hV (o := 10) rfl dX5_sum_68 ?_
      refine lv_iload_n hx hb dX5_sum_71 rfl (lv_at hl 1 rfl) ?_
      refine lv_bipush (v := 61) hx hb dX5_sum_72 (by decide) ?_
      refine lv_imul hx hb dX5_sum_74 ?_
      refine lv_iload_n hx hb dX5_sum_75 rfl (lv_at hl 2 rfl) ?_
      refine lv_iadd hx hb dX5_sum_76 ?_
      obtain ⟨c_77, h⟩ := gx_chk_e h
      refine gw_lald X hV (iXJ_9 (o := 13) rfl) c_77 dX5_sum_77 ?_
      exact gw_lret X hV h dX5_sum_78
    · rw [if_pos c_50] at h
      refine lv_aload_n hx hb dX5_sum_53 rfl (lv_at hl 0 rfl) ?_
      refine ggX5_32 X hV (o := 0) rfl dX5_sum_54 ?_
      refine lv_iload_n hx hb dX5_sum_57 rfl (lv_at hl 1 rfl) ?_
      obtain ⟨r58, S58, k_58, h⟩ := gx_bind_e h
      refine gw_callL X hA hV (gw_runV X hV (o := 10) (As := [.int v1]) (rest := []) (mX0_tallyOfAll l G ad _ S37 rfl k_58) kc_RX5_214 (iXO_6 rfl) rfl rfl rfl hl.1 rfl (Nat.le_of_ble_eq_true rfl) ⟨rfl, rfl⟩ ⟨Nat.le_of_ble_eq_true rfl, Nat.le_of_ble_eq_true rfl⟩ ⟨Nat.le_refl _, Nat.le_refl _⟩ dX5_sum_58) (fun H locs hV => ?_)
      refine lv_goto (tgt := 78) hx hb dX5_sum_61 (by decide) ?_
      exact gw_lret X hV h dX5_sum_78
  · rw [if_pos c_40] at h
    refine lv_ldc2 (v := -3) hx hb hown (hts _ q_338) dX5_sum_43 ?_
    exact gw_lret X hV h dX5_sum_46
set_option maxHeartbeats 4000000 in
set_option maxRecDepth 20000 in
theorem mX5_sum (l : Launch) (G : gG) (ad : Nat → Nat) (sz : Nat) (S : gS) {v1 : Int32} {v2 : Int32} {r : Int64} {S' : gS} (h : fX5_sum S v1 v2 = some (r, S')) : gMetL l yX5_sum cX5_sum 3 (some .long) rmX5_sum wdX G ad S sz [.ref (ad 0), .int v1, .int v2] r S' := by
  refine gMet_of (by decide) ?_
  intro p e s m below meth c A hA X hnm hV
  have hl := lv_entry ([.ref (ad 0), .int v1, .int v2]) (n := 3) (Nat.le_of_ble_eq_true rfl)
  rw [lg_entry_eq]
  generalize (lg_sl ([.ref (ad 0), .int v1, .int v2]) ++ List.replicate (3 - (lg_sl ([.ref (ad 0), .int v1, .int v2])).length) Slot.unset).toArray = ls at hl ⊢
  have hl : lv_has ls 3 [(0, .ref (ad 0)), (1, .int v1), (2, .int v2)] := hl
  obtain ⟨hx, hb, hr, hml, hown, hts, hlk, hK⟩ := id X
  unfold fX5_sum at h
  generalize ([.ref (ad 0), .int v1, .int v2].toArray : Array Value) = args at X ⊢
  have Y : ∀ (H : Heap) (locs : List Loc), gV wdX G ad A s.heap S H locs → W p l e rmX5_sum s m args below meth c H locs 0 0 (MQ below (gQl wdX G ad A (r, S')) args s 0 0 A) (F0 m 0 ls []) := by
    intro H locs hV
    refine lv_iload_n hx hb dX5_sum_0 rfl (lv_at hl 1 rfl) ?_
    refine lv_if_lt (tgt := 9) hx hb dX5_sum_1 (by decide) (fun c_1 => ?_) (fun c_1 => ?_)
    · rw [if_pos c_1] at h
      refine lv_ldc2 (v := -2) hx hb hown (hts _ q_256) dX5_sum_9 ?_
      exact gw_lret X hV h dX5_sum_12
    · rw [if_neg c_1] at h
      refine lv_iload_n hx hb dX5_sum_4 rfl (lv_at hl 1 rfl) ?_
      refine lv_iconst (v := 4) hx hb dX5_sum_5 (by decide) ?_
      refine lv_icmp_le (tgt := 13) hx hb dX5_sum_6 (by decide) (fun c_6 => ?_) (fun c_6 => ?_)
      · rw [if_pos c_6] at h
        refine lv_iload_n hx hb dX5_sum_13 rfl (lv_at hl 2 rfl) ?_
        refine lv_bipush (v := -9) hx hb dX5_sum_14 (by decide) ?_
        refine lv_icmp_eq (tgt := 33) hx hb dX5_sum_16 (by decide) (fun c_16 => ?_) (fun c_16 => ?_)
        · rw [if_pos c_16] at h
          exact tX5_sum_33 X hA _ _ _ h hV (lv_sub hl [0, 1, 2] rfl)
        · rw [if_neg c_16] at h
          refine lv_iload_n hx hb dX5_sum_19 rfl (lv_at hl 2 rfl) ?_
          refine lv_if_lt (tgt := 29) hx hb dX5_sum_20 (by decide) (fun c_20 => ?_) (fun c_20 => ?_)
          · rw [if_pos c_20] at h
            refine lv_ldc2 (v := -2) hx hb hown (hts _ q_256) dX5_sum_29 ?_
            exact gw_lret X hV h dX5_sum_32
          · rw [if_neg c_20] at h
            refine lv_iload_n hx hb dX5_sum_23 rfl (lv_at hl 2 rfl) ?_
            refine lv_bipush (v := 60) hx hb dX5_sum_24 (by decide) ?_
            refine lv_icmp_le (tgt := 33) hx hb dX5_sum_26 (by decide) (fun c_26 => ?_) (fun c_26 => ?_)
            · rw [if_pos c_26] at h
              exact tX5_sum_33 X hA _ _ _ h hV (lv_sub hl [0, 1, 2] rfl)
            · rw [if_neg c_26] at h
              refine lv_ldc2 (v := -2) hx hb hown (hts _ q_256) dX5_sum_29 ?_
              exact gw_lret X hV h dX5_sum_32
      · rw [if_neg c_6] at h
        refine lv_ldc2 (v := -2) hx hb hown (hts _ q_256) dX5_sum_9 ?_
        exact gw_lret X hV h dX5_sum_12
  exact Y _ _ hV
def fX5_thickestPlace_60 (K7 : gS → Int32 → Int64 → Int32 → Option (Int32 × gS)) (S : gS) (v1 : Int32) (v2 : Int64) (v4 : Int32) : Option (Int32 × gS) :=
gx_let (v4 + (1 : Int32)) fun v4_60 =>
K7 S v1 v2 v4_60
def fX5_thickestPlace_7L (K7 : gS → Int32 → Int64 → Int32 → Option (Int32 × gS)) (S : gS) (v1 : Int32) (v2 : Int64) (v4 : Int32) : Option (Int32 × gS) :=
if (gI S 5 4) ≤ v4 then (some (v1, S)) else
gx_chk v4 64 <|
gx_let (gA S 9 (Int32.toNatClampNeg v4)) fun v5_29 =>
gx_chk v5_29 64 <|
if (gJ S 12 (Int32.toNatClampNeg v5_29)) ≤ v2 then (fX5_thickestPlace_60 K7 S v1 v2 v4) else
gx_chk v5_29 64 <|
gx_let (gJ S 12 (Int32.toNatClampNeg v5_29)) fun v2_56 =>
fX5_thickestPlace_60 K7 S v5_29 v2_56 v4
def fX5_thickestPlace_7 : Nat → gS → Int32 → Int64 → Int32 → Option (Int32 × gS)
  | 0, _, _, _, _ => none
  | f + 1, S, v1, v2, v4 => fX5_thickestPlace_7L (fX5_thickestPlace_7 f) S v1 v2 v4
def fX5_thickestPlace (S : gS) : Option (Int32 × gS) :=
fX5_thickestPlace_7 gx_fuel S (-1 : Int32) (0 : Int64) (0 : Int32)
def rmX5_thickestPlace : Room := { frames := 0, cells := 0, slots := 0, locals := 0 }
set_option maxHeartbeats 4000000 in
set_option maxRecDepth 20000 in
theorem tX5_thickestPlace_60 {p : Program} {l : Launch} {e : Env} {s : State} {m : MethodId} {args : Array Value} {below : List Frame} {meth : Method} {c : Code} {G : gG} {ad : Nat → Nat} {A : Nat → Prop} {z : Int32 × gS} {K7 : gS → Int32 → Int64 → Int32 → Option (Int32 × gS)} (X : gCx p s m args meth c G cX5_thickestPlace RX5 (some .int) 6) (hA : ∀ q, s.heap.size ≤ q → A q) (kK7 : ∀ (S : gS) (v1 : Int32) (v2 : Int64) (v4 : Int32), K7 S v1 v2 v4 = some z → ∀ (H : Heap) (locs : List Loc) (ls : Array Slot), gV wdX G ad A s.heap S H locs → lv_has ls 6 [(0, .ref (ad 0)), (1, .int v1), (2, .long v2), (4, .int v4)] → W p l e rmX5_thickestPlace s m args below meth c H locs 0 0 (MQ below (gQi wdX G ad A z) args s 0 0 A) (F0 m 7 ls [])) (S : gS) (v1 : Int32) (v2 : Int64) (v4 : Int32) (h : fX5_thickestPlace_60 K7 S v1 v2 v4 = some z) {H : Heap} {locs : List Loc} {ls : Array Slot} (hV : gV wdX G ad A s.heap S H locs) (hl : lv_has ls 6 [(0, .ref (ad 0)), (1, .int v1), (2, .long v2), (4, .int v4)]) : W p l e rmX5_thickestPlace s m args below meth c H locs 0 0 (MQ below (gQi wdX G ad A z) args s 0 0 A) (F0 m 60 ls []) := by
  obtain ⟨hx, hb, hr, hml, hown, hts, hlk, hK⟩ := id X
  unfold fX5_thickestPlace_60 at h
  obtain ⟨v4_60, e_60⟩ : ∃ y : Int32, y = (v4 + (1 : Int32)) := ⟨_, rfl⟩
  refine lv_iinc (v := v4_60) (lv' := [(4, .int v4_60), (0, .ref (ad 0)), (1, .int v1), (2, .long v2)]) hx hb dX5_thickestPlace_60 hl (k := 3) rfl (by rw [e_60]; rfl) (by decide) rfl (fun ls hl => ?_)
  replace h := gx_let_e e_60 h
  clear e_60
  refine lv_goto (tgt := 7) hx hb dX5_thickestPlace_63 (by decide) ?_
  exact kK7 _ _ _ _ h _ _ _ hV (lv_sub hl [1, 2, 3, 0] rfl)
set_option maxHeartbeats 4000000 in
set_option maxRecDepth 20000 in
theorem tX5_thickestPlace_7L {p : Program} {l : Launch} {e : Env} {s : State} {m : MethodId} {args : Array Value} {below : List Frame} {meth : Method} {c : Code} {G : gG} {ad : Nat → Nat} {A : Nat → Prop} {z : Int32 × gS} {K7 : gS → Int32 → Int64 → Int32 → Option (Int32 × gS)} (X : gCx p s m args meth c G cX5_thickestPlace RX5 (some .int) 6) (hA : ∀ q, s.heap.size ≤ q → A q) (kK7 : ∀ (S : gS) (v1 : Int32) (v2 : Int64) (v4 : Int32), K7 S v1 v2 v4 = some z → ∀ (H : Heap) (locs : List Loc) (ls : Array Slot), gV wdX G ad A s.heap S H locs → lv_has ls 6 [(0, .ref (ad 0)), (1, .int v1), (2, .long v2), (4, .int v4)] → W p l e rmX5_thickestPlace s m args below meth c H locs 0 0 (MQ below (gQi wdX G ad A z) args s 0 0 A) (F0 m 7 ls [])) (S : gS) (v1 : Int32) (v2 : Int64) (v4 : Int32) (h : fX5_thickestPlace_7L K7 S v1 v2 v4 = some z) {H : Heap} {locs : List Loc} {ls : Array Slot} (hV : gV wdX G ad A s.heap S H locs) (hl : lv_has ls 6 [(0, .ref (ad 0)), (1, .int v1), (2, .long v2), (4, .int v4)]) : W p l e rmX5_thickestPlace s m args below meth c H locs 0 0 (MQ below (gQi wdX G ad A z) args s 0 0 A) (F0 m 7 ls []) := by
  obtain ⟨hx, hb, hr, hml, hown, hts, hlk, hK⟩ := id X
  unfold fX5_thickestPlace_7L at h
  refine lv_iload hx hb dX5_thickestPlace_7 (lv_at hl 3 rfl) ?_
  refine lv_aload_n hx hb dX5_thickestPlace_9 rfl (lv_at hl 0 rfl) ?_
  refine ggX5_25 X hV (o := 0) rfl dX5_thickestPlace_10 ?_
  refine ggX5_273 X hV (o := 5) rfl dX5_thickestPlace_13 ?_
  refine lv_icmp_ge (tgt := 66) hx hb dX5_thickestPlace_16 (by decide) (fun c_16 => ?_) (fun c_16 => ?_)
  · rw [if_pos c_16] at h
    refine lv_iload_n hx hb dX5_thickestPlace_66 rfl (lv_at hl 1 rfl) ?_
    exact gw_ireti X hV h dX5_thickestPlace_67
  · rw [if_neg c_16] at h
    refine lv_aload_n hx hb dX5_thickestPlace_19 rfl (lv_at hl 0 rfl) ?_
    refine ggX5_25 X hV (o := 0) rfl dX5_thickestPlace_20 ?_
    refine ggX5_276 X hV (o := 5) rfl dX5_thickestPlace_23 ?_
    refine lv_iload hx hb dX5_thickestPlace_26 (lv_at hl 3 rfl) ?_
    obtain ⟨c_28, h⟩ := gx_chk_e h
    refine gw_iald X hV (iXA_5 (o := 9) rfl) c_28 dX5_thickestPlace_28 ?_
    refine lv_topi (fun v5_29 e_29 => ?_)
    replace h := gx_let_e e_29 h
    clear e_29
    refine lv_istore (lv' := [(5, .int v5_29), (0, .ref (ad 0)), (1, .int v1), (2, .long v2), (4, .int v4)]) hx hb dX5_thickestPlace_29 hl (by decide) rfl (fun ls hl => ?_)
    refine lv_aload_n hx hb dX5_thickestPlace_31 rfl (lv_at hl 1 rfl) ?_
    refine ggX5_32 X hV (o := 0) rfl dX5_thickestPlace_32 ?_
    refine ggX5_168 X hV (o := 10) rfl dX5_thickestPlace_35 ?_
    refine lv_iload hx hb dX5_thickestPlace_38 (lv_at hl 0 rfl) ?_
    obtain ⟨c_40, h⟩ := gx_chk_e h
    refine gw_lald X hV (iXJ_8 (o := 12) rfl) c_40 dX5_thickestPlace_40 ?_
    refine lv_lload_n hx hb dX5_thickestPlace_41 rfl (lv_at hl 3 rfl) ?_
    refine gw_cmp_le (tgt := 60) X dX5_thickestPlace_42 dX5_thickestPlace_43 (by decide) (fun c_42 => ?_) (fun c_42 => ?_)
    · rw [if_pos c_42] at h
      exact tX5_thickestPlace_60 X hA kK7 _ _ _ _ h hV (lv_sub hl [1, 2, 3, 4] rfl)
    · rw [if_neg c_42] at h
      refine lv_aload_n hx hb dX5_thickestPlace_46 rfl (lv_at hl 1 rfl) ?_
      refine ggX5_32 X hV (o := 0) rfl dX5_thickestPlace_47 ?_
      refine ggX5_168 X hV (o := 10) rfl dX5_thickestPlace_50 ?_
      refine lv_iload hx hb dX5_thickestPlace_53 (lv_at hl 0 rfl) ?_
      obtain ⟨c_55, h⟩ := gx_chk_e h
      refine gw_lald X hV (iXJ_8 (o := 12) rfl) c_55 dX5_thickestPlace_55 ?_
      refine lv_topl (fun v2_56 e_56 => ?_)
      replace h := gx_let_e e_56 h
      clear e_56
      refine lv_lstore_n (lv' := [(2, .long v2_56), (5, .int v5_29), (0, .ref (ad 0)), (1, .int v1), (4, .int v4)]) hx hb dX5_thickestPlace_56 rfl hl (by decide) rfl (fun ls hl => ?_)
      refine lv_iload hx hb dX5_thickestPlace_57 (lv_at hl 1 rfl) ?_
      refine lv_istore_n (lv' := [(1, .int v5_29), (2, .long v2_56), (5, .int v5_29), (0, .ref (ad 0)), (4, .int v4)]) hx hb dX5_thickestPlace_59 rfl hl (by decide) rfl (fun ls hl => ?_)
      exact tX5_thickestPlace_60 X hA kK7 _ _ _ _ h hV (lv_sub hl [3, 0, 1, 4] rfl)
set_option maxHeartbeats 4000000 in
set_option maxRecDepth 20000 in
theorem tX5_thickestPlace_7 {p : Program} {l : Launch} {e : Env} {s : State} {m : MethodId} {args : Array Value} {below : List Frame} {meth : Method} {c : Code} {G : gG} {ad : Nat → Nat} {A : Nat → Prop} {z : Int32 × gS} (X : gCx p s m args meth c G cX5_thickestPlace RX5 (some .int) 6) (hA : ∀ q, s.heap.size ≤ q → A q) : ∀ (f : Nat) (S : gS) (v1 : Int32) (v2 : Int64) (v4 : Int32) (h : fX5_thickestPlace_7 f S v1 v2 v4 = some z) (H : Heap) (locs : List Loc) (ls : Array Slot) (hV : gV wdX G ad A s.heap S H locs) (hl : lv_has ls 6 [(0, .ref (ad 0)), (1, .int v1), (2, .long v2), (4, .int v4)]), W p l e rmX5_thickestPlace s m args below meth c H locs 0 0 (MQ below (gQi wdX G ad A z) args s 0 0 A) (F0 m 7 ls []) := by
  intro f
  induction f with
  | zero => intro S v1 v2 v4 h; exact absurd h (by simp [fX5_thickestPlace_7])
  | succ f ih => intro S v1 v2 v4 h H locs ls hV hl; exact tX5_thickestPlace_7L X hA ih S v1 v2 v4 h hV hl
set_option maxHeartbeats 4000000 in
set_option maxRecDepth 20000 in
theorem mX5_thickestPlace (l : Launch) (G : gG) (ad : Nat → Nat) (sz : Nat) (S : gS) {r : Int32} {S' : gS} (h : fX5_thickestPlace S = some (r, S')) : gMetI l yX5_thickestPlace cX5_thickestPlace 6 (some .int) rmX5_thickestPlace wdX G ad S sz [.ref (ad 0)] r S' := by
  refine gMet_of (by decide) ?_
  intro p e s m below meth c A hA X hnm hV
  have hl := lv_entry ([.ref (ad 0)]) (n := 6) (Nat.le_of_ble_eq_true rfl)
  rw [lg_entry_eq]
  generalize (lg_sl ([.ref (ad 0)]) ++ List.replicate (6 - (lg_sl ([.ref (ad 0)])).length) Slot.unset).toArray = ls at hl ⊢
  have hl : lv_has ls 6 [(0, .ref (ad 0))] := hl
  obtain ⟨hx, hb, hr, hml, hown, hts, hlk, hK⟩ := id X
  unfold fX5_thickestPlace at h
  generalize ([.ref (ad 0)].toArray : Array Value) = args at X ⊢
  have Y : ∀ (H : Heap) (locs : List Loc), gV wdX G ad A s.heap S H locs → W p l e rmX5_thickestPlace s m args below meth c H locs 0 0 (MQ below (gQi wdX G ad A (r, S')) args s 0 0 A) (F0 m 0 ls []) := by
    intro H locs hV
    refine lv_iconst (v := -1) hx hb dX5_thickestPlace_0 (by decide) ?_
    refine lv_istore_n (lv' := [(1, .int (-1 : Int32)), (0, .ref (ad 0))]) hx hb dX5_thickestPlace_1 rfl hl (by decide) rfl (fun ls hl => ?_)
    refine lv_lconst (v := 0) hx hb dX5_thickestPlace_2 (by decide) ?_
    refine lv_lstore_n (lv' := [(2, .long (0 : Int64)), (1, .int (-1 : Int32)), (0, .ref (ad 0))]) hx hb dX5_thickestPlace_3 rfl hl (by decide) rfl (fun ls hl => ?_)
    refine lv_iconst (v := 0) hx hb dX5_thickestPlace_4 (by decide) ?_
    refine lv_istore (lv' := [(4, .int (0 : Int32)), (2, .long (0 : Int64)), (1, .int (-1 : Int32)), (0, .ref (ad 0))]) hx hb dX5_thickestPlace_5 hl (by decide) rfl (fun ls hl => ?_)
    exact tX5_thickestPlace_7 X hA gx_fuel _ _ _ _ h _ _ _ hV (lv_sub hl [3, 2, 1, 0] rfl)
  exact Y _ _ hV
def fX5_icyCells_40 (K4 : gS → Int32 → Int32 → Option (Int32 × gS)) (S : gS) (v1 : Int32) (v2 : Int32) : Option (Int32 × gS) :=
gx_let (v2 + (1 : Int32)) fun v2_40 =>
K4 S v1 v2_40
def fX5_icyCells_4L (K4 : gS → Int32 → Int32 → Option (Int32 × gS)) (S : gS) (v1 : Int32) (v2 : Int32) : Option (Int32 × gS) :=
if (gI S 5 4) ≤ v2 then (some (v1, S)) else
gx_chk v2 64 <|
gx_chk (gA S 9 (Int32.toNatClampNeg v2)) 64 <|
if (gJ S 12 (Int32.toNatClampNeg (gA S 9 (Int32.toNatClampNeg v2)))) ≤ (0 : Int64) then (fX5_icyCells_40 K4 S v1 v2) else
gx_let (v1 + (1 : Int32)) fun v1_37 =>
fX5_icyCells_40 K4 S v1_37 v2
def fX5_icyCells_4 : Nat → gS → Int32 → Int32 → Option (Int32 × gS)
  | 0, _, _, _ => none
  | f + 1, S, v1, v2 => fX5_icyCells_4L (fX5_icyCells_4 f) S v1 v2
def fX5_icyCells (S : gS) : Option (Int32 × gS) :=
fX5_icyCells_4 gx_fuel S (0 : Int32) (0 : Int32)
def rmX5_icyCells : Room := { frames := 0, cells := 0, slots := 0, locals := 0 }
set_option maxHeartbeats 4000000 in
set_option maxRecDepth 20000 in
theorem tX5_icyCells_40 {p : Program} {l : Launch} {e : Env} {s : State} {m : MethodId} {args : Array Value} {below : List Frame} {meth : Method} {c : Code} {G : gG} {ad : Nat → Nat} {A : Nat → Prop} {z : Int32 × gS} {K4 : gS → Int32 → Int32 → Option (Int32 × gS)} (X : gCx p s m args meth c G cX5_icyCells RX5 (some .int) 3) (hA : ∀ q, s.heap.size ≤ q → A q) (kK4 : ∀ (S : gS) (v1 : Int32) (v2 : Int32), K4 S v1 v2 = some z → ∀ (H : Heap) (locs : List Loc) (ls : Array Slot), gV wdX G ad A s.heap S H locs → lv_has ls 3 [(0, .ref (ad 0)), (1, .int v1), (2, .int v2)] → W p l e rmX5_icyCells s m args below meth c H locs 0 0 (MQ below (gQi wdX G ad A z) args s 0 0 A) (F0 m 4 ls [])) (S : gS) (v1 : Int32) (v2 : Int32) (h : fX5_icyCells_40 K4 S v1 v2 = some z) {H : Heap} {locs : List Loc} {ls : Array Slot} (hV : gV wdX G ad A s.heap S H locs) (hl : lv_has ls 3 [(0, .ref (ad 0)), (1, .int v1), (2, .int v2)]) : W p l e rmX5_icyCells s m args below meth c H locs 0 0 (MQ below (gQi wdX G ad A z) args s 0 0 A) (F0 m 40 ls []) := by
  obtain ⟨hx, hb, hr, hml, hown, hts, hlk, hK⟩ := id X
  unfold fX5_icyCells_40 at h
  obtain ⟨v2_40, e_40⟩ : ∃ y : Int32, y = (v2 + (1 : Int32)) := ⟨_, rfl⟩
  refine lv_iinc (v := v2_40) (lv' := [(2, .int v2_40), (0, .ref (ad 0)), (1, .int v1)]) hx hb dX5_icyCells_40 hl (k := 2) rfl (by rw [e_40]; rfl) (by decide) rfl (fun ls hl => ?_)
  replace h := gx_let_e e_40 h
  clear e_40
  refine lv_goto (tgt := 4) hx hb dX5_icyCells_43 (by decide) ?_
  exact kK4 _ _ _ h _ _ _ hV (lv_sub hl [1, 2, 0] rfl)
set_option maxHeartbeats 4000000 in
set_option maxRecDepth 20000 in
theorem tX5_icyCells_4L {p : Program} {l : Launch} {e : Env} {s : State} {m : MethodId} {args : Array Value} {below : List Frame} {meth : Method} {c : Code} {G : gG} {ad : Nat → Nat} {A : Nat → Prop} {z : Int32 × gS} {K4 : gS → Int32 → Int32 → Option (Int32 × gS)} (X : gCx p s m args meth c G cX5_icyCells RX5 (some .int) 3) (hA : ∀ q, s.heap.size ≤ q → A q) (kK4 : ∀ (S : gS) (v1 : Int32) (v2 : Int32), K4 S v1 v2 = some z → ∀ (H : Heap) (locs : List Loc) (ls : Array Slot), gV wdX G ad A s.heap S H locs → lv_has ls 3 [(0, .ref (ad 0)), (1, .int v1), (2, .int v2)] → W p l e rmX5_icyCells s m args below meth c H locs 0 0 (MQ below (gQi wdX G ad A z) args s 0 0 A) (F0 m 4 ls [])) (S : gS) (v1 : Int32) (v2 : Int32) (h : fX5_icyCells_4L K4 S v1 v2 = some z) {H : Heap} {locs : List Loc} {ls : Array Slot} (hV : gV wdX G ad A s.heap S H locs) (hl : lv_has ls 3 [(0, .ref (ad 0)), (1, .int v1), (2, .int v2)]) : W p l e rmX5_icyCells s m args below meth c H locs 0 0 (MQ below (gQi wdX G ad A z) args s 0 0 A) (F0 m 4 ls []) := by
  obtain ⟨hx, hb, hr, hml, hown, hts, hlk, hK⟩ := id X
  unfold fX5_icyCells_4L at h
  refine lv_iload_n hx hb dX5_icyCells_4 rfl (lv_at hl 2 rfl) ?_
  refine lv_aload_n hx hb dX5_icyCells_5 rfl (lv_at hl 0 rfl) ?_
  refine ggX5_25 X hV (o := 0) rfl dX5_icyCells_6 ?_
  refine ggX5_273 X hV (o := 5) rfl dX5_icyCells_9 ?_
  refine lv_icmp_ge (tgt := 46) hx hb dX5_icyCells_12 (by decide) (fun c_12 => ?_) (fun c_12 => ?_)
  · rw [if_pos c_12] at h
    refine lv_iload_n hx hb dX5_icyCells_46 rfl (lv_at hl 1 rfl) ?_
    exact gw_ireti X hV h dX5_icyCells_47
  · rw [if_neg c_12] at h
    refine lv_aload_n hx hb dX5_icyCells_15 rfl (lv_at hl 0 rfl) ?_
    refine ggX5_32 X hV (o := 0) rfl dX5_icyCells_16 ?_
    refine ggX5_168 X hV (o := 10) rfl dX5_icyCells_19 ?_
    refine lv_aload_n hx hb dX5_icyCells_22 rfl (lv_at hl 0 rfl) ?_
    refine ggX5_25 X hV (o := 0) rfl dX5_icyCells_23 ?_
    refine ggX5_276 X hV (o := 5) rfl dX5_icyCells_26 ?_
    refine lv_iload_n hx hb dX5_icyCells_29 rfl (lv_at hl 2 rfl) ?_
    obtain ⟨c_30, h⟩ := gx_chk_e h
    refine gw_iald X hV (iXA_5 (o := 9) rfl) c_30 dX5_icyCells_30 ?_
    obtain ⟨c_31, h⟩ := gx_chk_e h
    refine gw_lald X hV (iXJ_8 (o := 12) rfl) c_31 dX5_icyCells_31 ?_
    refine lv_lconst (v := 0) hx hb dX5_icyCells_32 (by decide) ?_
    refine gw_cmp_le (tgt := 40) X dX5_icyCells_33 dX5_icyCells_34 (by decide) (fun c_33 => ?_) (fun c_33 => ?_)
    · rw [if_pos c_33] at h
      exact tX5_icyCells_40 X hA kK4 _ _ _ h hV (lv_sub hl [0, 1, 2] rfl)
    · rw [if_neg c_33] at h
      obtain ⟨v1_37, e_37⟩ : ∃ y : Int32, y = (v1 + (1 : Int32)) := ⟨_, rfl⟩
      refine lv_iinc (v := v1_37) (lv' := [(1, .int v1_37), (0, .ref (ad 0)), (2, .int v2)]) hx hb dX5_icyCells_37 hl (k := 1) rfl (by rw [e_37]; rfl) (by decide) rfl (fun ls hl => ?_)
      replace h := gx_let_e e_37 h
      clear e_37
      exact tX5_icyCells_40 X hA kK4 _ _ _ h hV (lv_sub hl [1, 0, 2] rfl)
set_option maxHeartbeats 4000000 in
set_option maxRecDepth 20000 in
theorem tX5_icyCells_4 {p : Program} {l : Launch} {e : Env} {s : State} {m : MethodId} {args : Array Value} {below : List Frame} {meth : Method} {c : Code} {G : gG} {ad : Nat → Nat} {A : Nat → Prop} {z : Int32 × gS} (X : gCx p s m args meth c G cX5_icyCells RX5 (some .int) 3) (hA : ∀ q, s.heap.size ≤ q → A q) : ∀ (f : Nat) (S : gS) (v1 : Int32) (v2 : Int32) (h : fX5_icyCells_4 f S v1 v2 = some z) (H : Heap) (locs : List Loc) (ls : Array Slot) (hV : gV wdX G ad A s.heap S H locs) (hl : lv_has ls 3 [(0, .ref (ad 0)), (1, .int v1), (2, .int v2)]), W p l e rmX5_icyCells s m args below meth c H locs 0 0 (MQ below (gQi wdX G ad A z) args s 0 0 A) (F0 m 4 ls []) := by
  intro f
  induction f with
  | zero => intro S v1 v2 h; exact absurd h (by simp [fX5_icyCells_4])
  | succ f ih => intro S v1 v2 h H locs ls hV hl; exact tX5_icyCells_4L X hA ih S v1 v2 h hV hl
set_option maxHeartbeats 4000000 in
set_option maxRecDepth 20000 in
theorem mX5_icyCells (l : Launch) (G : gG) (ad : Nat → Nat) (sz : Nat) (S : gS) {r : Int32} {S' : gS} (h : fX5_icyCells S = some (r, S')) : gMetI l yX5_icyCells cX5_icyCells 3 (some .int) rmX5_icyCells wdX G ad S sz [.ref (ad 0)] r S' := by
  refine gMet_of (by decide) ?_
  intro p e s m below meth c A hA X hnm hV
  have hl := lv_entry ([.ref (ad 0)]) (n := 3) (Nat.le_of_ble_eq_true rfl)
  rw [lg_entry_eq]
  generalize (lg_sl ([.ref (ad 0)]) ++ List.replicate (3 - (lg_sl ([.ref (ad 0)])).length) Slot.unset).toArray = ls at hl ⊢
  have hl : lv_has ls 3 [(0, .ref (ad 0))] := hl
  obtain ⟨hx, hb, hr, hml, hown, hts, hlk, hK⟩ := id X
  unfold fX5_icyCells at h
  generalize ([.ref (ad 0)].toArray : Array Value) = args at X ⊢
  have Y : ∀ (H : Heap) (locs : List Loc), gV wdX G ad A s.heap S H locs → W p l e rmX5_icyCells s m args below meth c H locs 0 0 (MQ below (gQi wdX G ad A (r, S')) args s 0 0 A) (F0 m 0 ls []) := by
    intro H locs hV
    refine lv_iconst (v := 0) hx hb dX5_icyCells_0 (by decide) ?_
    refine lv_istore_n (lv' := [(1, .int (0 : Int32)), (0, .ref (ad 0))]) hx hb dX5_icyCells_1 rfl hl (by decide) rfl (fun ls hl => ?_)
    refine lv_iconst (v := 0) hx hb dX5_icyCells_2 (by decide) ?_
    refine lv_istore_n (lv' := [(2, .int (0 : Int32)), (1, .int (0 : Int32)), (0, .ref (ad 0))]) hx hb dX5_icyCells_3 rfl hl (by decide) rfl (fun ls hl => ?_)
    exact tX5_icyCells_4 X hA gx_fuel _ _ _ h _ _ _ hV (lv_sub hl [2, 1, 0] rfl)
  exact Y _ _ hV
def fX5_lowestIceSurface_69 (K6 : gS → Int64 → Int32 → Option (Int64 × gS)) (S : gS) (v1 : Int64) (v3 : Int32) : Option (Int64 × gS) :=
gx_let (v3 + (1 : Int32)) fun v3_69 =>
K6 S v1 v3_69
def fX5_lowestIceSurface_62 (K6 : gS → Int64 → Int32 → Option (Int64 × gS)) (S : gS) (v3 : Int32) (v4 : Int32) : Option (Int64 × gS) :=
gx_bind (fX5_surface S v4) fun r65 S65 =>
fX5_lowestIceSurface_69 K6 S65 r65 v3
def fX5_lowestIceSurface_6L (K6 : gS → Int64 → Int32 → Option (Int64 × gS)) (S : gS) (v1 : Int64) (v3 : Int32) : Option (Int64 × gS) :=
if (gI S 5 4) ≤ v3 then (some (v1, S)) else
gx_chk v3 64 <|
gx_let (gA S 9 (Int32.toNatClampNeg v3)) fun v4_26 =>
gx_chk v4_26 64 <|
if (gJ S 12 (Int32.toNatClampNeg v4_26)) ≤ (0 : Int64) then (fX5_lowestIceSurface_69 K6 S v1 v3) else
if v1 = (-9 : Int64) then (fX5_lowestIceSurface_62 K6 S v3 v4_26) else
gx_bind (fX5_surface S v4_26) fun r54 S54 =>
if v1 ≤ r54 then (fX5_lowestIceSurface_69 K6 S54 v1 v3) else
fX5_lowestIceSurface_62 K6 S54 v3 v4_26
def fX5_lowestIceSurface_6 : Nat → gS → Int64 → Int32 → Option (Int64 × gS)
  | 0, _, _, _ => none
  | f + 1, S, v1, v3 => fX5_lowestIceSurface_6L (fX5_lowestIceSurface_6 f) S v1 v3
def fX5_lowestIceSurface (S : gS) : Option (Int64 × gS) :=
fX5_lowestIceSurface_6 gx_fuel S (-9 : Int64) (0 : Int32)
def rmX5_lowestIceSurface : Room := { frames := 1, cells := 0, slots := 0, locals := 21 }
set_option maxHeartbeats 4000000 in
set_option maxRecDepth 20000 in
theorem tX5_lowestIceSurface_69 {p : Program} {l : Launch} {e : Env} {s : State} {m : MethodId} {args : Array Value} {below : List Frame} {meth : Method} {c : Code} {G : gG} {ad : Nat → Nat} {A : Nat → Prop} {z : Int64 × gS} {K6 : gS → Int64 → Int32 → Option (Int64 × gS)} (X : gCx p s m args meth c G cX5_lowestIceSurface RX5 (some .long) 5) (hA : ∀ q, s.heap.size ≤ q → A q) (kK6 : ∀ (S : gS) (v1 : Int64) (v3 : Int32), K6 S v1 v3 = some z → ∀ (H : Heap) (locs : List Loc) (ls : Array Slot), gV wdX G ad A s.heap S H locs → lv_has ls 5 [(0, .ref (ad 0)), (1, .long v1), (3, .int v3)] → W p l e rmX5_lowestIceSurface s m args below meth c H locs 0 0 (MQ below (gQl wdX G ad A z) args s 0 0 A) (F0 m 6 ls [])) (S : gS) (v1 : Int64) (v3 : Int32) (h : fX5_lowestIceSurface_69 K6 S v1 v3 = some z) {H : Heap} {locs : List Loc} {ls : Array Slot} (hV : gV wdX G ad A s.heap S H locs) (hl : lv_has ls 5 [(0, .ref (ad 0)), (1, .long v1), (3, .int v3)]) : W p l e rmX5_lowestIceSurface s m args below meth c H locs 0 0 (MQ below (gQl wdX G ad A z) args s 0 0 A) (F0 m 69 ls []) := by
  obtain ⟨hx, hb, hr, hml, hown, hts, hlk, hK⟩ := id X
  unfold fX5_lowestIceSurface_69 at h
  obtain ⟨v3_69, e_69⟩ : ∃ y : Int32, y = (v3 + (1 : Int32)) := ⟨_, rfl⟩
  refine lv_iinc (v := v3_69) (lv' := [(3, .int v3_69), (0, .ref (ad 0)), (1, .long v1)]) hx hb dX5_lowestIceSurface_69 hl (k := 2) rfl (by rw [e_69]; rfl) (by decide) rfl (fun ls hl => ?_)
  replace h := gx_let_e e_69 h
  clear e_69
  refine lv_goto (tgt := 6) hx hb dX5_lowestIceSurface_72 (by decide) ?_
  exact kK6 _ _ _ h _ _ _ hV (lv_sub hl [1, 2, 0] rfl)
set_option maxHeartbeats 4000000 in
set_option maxRecDepth 20000 in
theorem tX5_lowestIceSurface_62 {p : Program} {l : Launch} {e : Env} {s : State} {m : MethodId} {args : Array Value} {below : List Frame} {meth : Method} {c : Code} {G : gG} {ad : Nat → Nat} {A : Nat → Prop} {z : Int64 × gS} {K6 : gS → Int64 → Int32 → Option (Int64 × gS)} (X : gCx p s m args meth c G cX5_lowestIceSurface RX5 (some .long) 5) (hA : ∀ q, s.heap.size ≤ q → A q) (kK6 : ∀ (S : gS) (v1 : Int64) (v3 : Int32), K6 S v1 v3 = some z → ∀ (H : Heap) (locs : List Loc) (ls : Array Slot), gV wdX G ad A s.heap S H locs → lv_has ls 5 [(0, .ref (ad 0)), (1, .long v1), (3, .int v3)] → W p l e rmX5_lowestIceSurface s m args below meth c H locs 0 0 (MQ below (gQl wdX G ad A z) args s 0 0 A) (F0 m 6 ls [])) (S : gS) (v3 : Int32) (v4 : Int32) (h : fX5_lowestIceSurface_62 K6 S v3 v4 = some z) {H : Heap} {locs : List Loc} {ls : Array Slot} (hV : gV wdX G ad A s.heap S H locs) (hl : lv_has ls 5 [(0, .ref (ad 0)), (3, .int v3), (4, .int v4)]) : W p l e rmX5_lowestIceSurface s m args below meth c H locs 0 0 (MQ below (gQl wdX G ad A z) args s 0 0 A) (F0 m 62 ls []) := by
  obtain ⟨hx, hb, hr, hml, hown, hts, hlk, hK⟩ := id X
  unfold fX5_lowestIceSurface_62 at h
  refine lv_aload_n hx hb dX5_lowestIceSurface_62 rfl (lv_at hl 0 rfl) ?_
  refine lv_iload hx hb dX5_lowestIceSurface_63 (lv_at hl 2 rfl) ?_
  obtain ⟨r65, S65, k_65, h⟩ := gx_bind_e h
  refine gw_callL X hA hV (gw_runV X hV (o := 0) (As := [.int v4]) (rest := []) (mX5_surface l G ad _ S k_65) kc_RX5_194 (iXO_0 rfl) rfl rfl rfl hl.1 rfl (Nat.le_of_ble_eq_true rfl) ⟨rfl, rfl⟩ ⟨Nat.le_of_ble_eq_true rfl, Nat.le_of_ble_eq_true rfl⟩ ⟨Nat.le_refl _, Nat.le_refl _⟩ dX5_lowestIceSurface_65) (fun H locs hV => ?_)
  refine lv_lstore_n (lv' := [(1, .long r65), (0, .ref (ad 0)), (3, .int v3), (4, .int v4)]) hx hb dX5_lowestIceSurface_68 rfl hl (by decide) rfl (fun ls hl => ?_)
  exact tX5_lowestIceSurface_69 X hA kK6 _ _ _ h hV (lv_sub hl [1, 0, 2] rfl)
set_option maxHeartbeats 4000000 in
set_option maxRecDepth 20000 in
theorem tX5_lowestIceSurface_6L {p : Program} {l : Launch} {e : Env} {s : State} {m : MethodId} {args : Array Value} {below : List Frame} {meth : Method} {c : Code} {G : gG} {ad : Nat → Nat} {A : Nat → Prop} {z : Int64 × gS} {K6 : gS → Int64 → Int32 → Option (Int64 × gS)} (X : gCx p s m args meth c G cX5_lowestIceSurface RX5 (some .long) 5) (hA : ∀ q, s.heap.size ≤ q → A q) (kK6 : ∀ (S : gS) (v1 : Int64) (v3 : Int32), K6 S v1 v3 = some z → ∀ (H : Heap) (locs : List Loc) (ls : Array Slot), gV wdX G ad A s.heap S H locs → lv_has ls 5 [(0, .ref (ad 0)), (1, .long v1), (3, .int v3)] → W p l e rmX5_lowestIceSurface s m args below meth c H locs 0 0 (MQ below (gQl wdX G ad A z) args s 0 0 A) (F0 m 6 ls [])) (S : gS) (v1 : Int64) (v3 : Int32) (h : fX5_lowestIceSurface_6L K6 S v1 v3 = some z) {H : Heap} {locs : List Loc} {ls : Array Slot} (hV : gV wdX G ad A s.heap S H locs) (hl : lv_has ls 5 [(0, .ref (ad 0)), (1, .long v1), (3, .int v3)]) : W p l e rmX5_lowestIceSurface s m args below meth c H locs 0 0 (MQ below (gQl wdX G ad A z) args s 0 0 A) (F0 m 6 ls []) := by
  obtain ⟨hx, hb, hr, hml, hown, hts, hlk, hK⟩ := id X
  unfold fX5_lowestIceSurface_6L at h
  refine lv_iload_n hx hb dX5_lowestIceSurface_6 rfl (lv_at hl 2 rfl) ?_
  refine lv_aload_n hx hb dX5_lowestIceSurface_7 rfl (lv_at hl 0 rfl) ?_
  refine ggX5_25 X hV (o := 0) rfl dX5_lowestIceSurface_8 ?_
  refine ggX5_273 X hV (o := 5) rfl dX5_lowestIceSurface_11 ?_
  refine lv_icmp_ge (tgt := 75) hx hb dX5_lowestIceSurface_14 (by decide) (fun c_14 => ?_) (fun c_14 => ?_)
  · rw [if_pos c_14] at h
    refine lv_lload_n hx hb dX5_lowestIceSurface_75 rfl (lv_at hl 1 rfl) ?_
    exact gw_lret X hV h dX5_lowestIceSurface_76
  · rw [if_neg c_14] at h
    refine lv_aload_n hx hb dX5_lowestIceSurface_17 rfl (lv_at hl 0 rfl) ?_
    refine ggX5_25 X hV (o := 0) rfl dX5_lowestIceSurface_18 ?_
    refine ggX5_276 X hV (o := 5) rfl dX5_lowestIceSurface_21 ?_
    refine lv_iload_n hx hb dX5_lowestIceSurface_24 rfl (lv_at hl 2 rfl) ?_
    obtain ⟨c_25, h⟩ := gx_chk_e h
    refine gw_iald X hV (iXA_5 (o := 9) rfl) c_25 dX5_lowestIceSurface_25 ?_
    refine lv_topi (fun v4_26 e_26 => ?_)
    replace h := gx_let_e e_26 h
    clear e_26
    refine lv_istore (lv' := [(4, .int v4_26), (0, .ref (ad 0)), (1, .long v1), (3, .int v3)]) hx hb dX5_lowestIceSurface_26 hl (by decide) rfl (fun ls hl => ?_)
    refine lv_aload_n hx hb dX5_lowestIceSurface_28 rfl (lv_at hl 1 rfl) ?_
    refine ggX5_32 X hV (o := 0) rfl dX5_lowestIceSurface_29 ?_
    refine ggX5_168 X hV (o := 10) rfl dX5_lowestIceSurface_32 ?_
    refine lv_iload hx hb dX5_lowestIceSurface_35 (lv_at hl 0 rfl) ?_
    obtain ⟨c_37, h⟩ := gx_chk_e h
    refine gw_lald X hV (iXJ_8 (o := 12) rfl) c_37 dX5_lowestIceSurface_37 ?_
    refine lv_lconst (v := 0) hx hb dX5_lowestIceSurface_38 (by decide) ?_
    refine gw_cmp_le (tgt := 69) X dX5_lowestIceSurface_39 dX5_lowestIceSurface_40 (by decide) (fun c_39 => ?_) (fun c_39 => ?_)
    · rw [if_pos c_39] at h
      exact tX5_lowestIceSurface_69 X hA kK6 _ _ _ h hV (lv_sub hl [1, 2, 3] rfl)
    · rw [if_neg c_39] at h
      refine lv_lload_n hx hb dX5_lowestIceSurface_43 rfl (lv_at hl 2 rfl) ?_
      refine lv_ldc2 (v := -9) hx hb hown (hts _ q_490) dX5_lowestIceSurface_44 ?_
      refine gw_cmp_eq (tgt := 62) X dX5_lowestIceSurface_47 dX5_lowestIceSurface_48 (by decide) (fun c_47 => ?_) (fun c_47 => ?_)
      · rw [if_pos c_47] at h
        exact tX5_lowestIceSurface_62 X hA kK6 _ _ _ h hV (lv_sub hl [1, 3, 0] rfl)
      · rw [if_neg c_47] at h
        refine lv_aload_n hx hb dX5_lowestIceSurface_51 rfl (lv_at hl 1 rfl) ?_
        refine lv_iload hx hb dX5_lowestIceSurface_52 (lv_at hl 0 rfl) ?_
        obtain ⟨r54, S54, k_54, h⟩ := gx_bind_e h
        refine gw_callL X hA hV (gw_runV X hV (o := 0) (As := [.int v4_26]) (rest := []) (mX5_surface l G ad _ S k_54) kc_RX5_194 (iXO_0 rfl) rfl rfl rfl hl.1 rfl (Nat.le_of_ble_eq_true rfl) ⟨rfl, rfl⟩ ⟨Nat.le_of_ble_eq_true rfl, Nat.le_of_ble_eq_true rfl⟩ ⟨Nat.le_refl _, Nat.le_refl _⟩ dX5_lowestIceSurface_54) (fun H locs hV => ?_)
        refine lv_lload_n hx hb dX5_lowestIceSurface_57 rfl (lv_at hl 2 rfl) ?_
        refine gw_cmp_ge (tgt := 69) X dX5_lowestIceSurface_58 dX5_lowestIceSurface_59 (by decide) (fun c_58 => ?_) (fun c_58 => ?_)
        · rw [if_pos c_58] at h
          exact tX5_lowestIceSurface_69 X hA kK6 _ _ _ h hV (lv_sub hl [1, 2, 3] rfl)
        · rw [if_neg c_58] at h
          exact tX5_lowestIceSurface_62 X hA kK6 _ _ _ h hV (lv_sub hl [1, 3, 0] rfl)
set_option maxHeartbeats 4000000 in
set_option maxRecDepth 20000 in
theorem tX5_lowestIceSurface_6 {p : Program} {l : Launch} {e : Env} {s : State} {m : MethodId} {args : Array Value} {below : List Frame} {meth : Method} {c : Code} {G : gG} {ad : Nat → Nat} {A : Nat → Prop} {z : Int64 × gS} (X : gCx p s m args meth c G cX5_lowestIceSurface RX5 (some .long) 5) (hA : ∀ q, s.heap.size ≤ q → A q) : ∀ (f : Nat) (S : gS) (v1 : Int64) (v3 : Int32) (h : fX5_lowestIceSurface_6 f S v1 v3 = some z) (H : Heap) (locs : List Loc) (ls : Array Slot) (hV : gV wdX G ad A s.heap S H locs) (hl : lv_has ls 5 [(0, .ref (ad 0)), (1, .long v1), (3, .int v3)]), W p l e rmX5_lowestIceSurface s m args below meth c H locs 0 0 (MQ below (gQl wdX G ad A z) args s 0 0 A) (F0 m 6 ls []) := by
  intro f
  induction f with
  | zero => intro S v1 v3 h; exact absurd h (by simp [fX5_lowestIceSurface_6])
  | succ f ih => intro S v1 v3 h H locs ls hV hl; exact tX5_lowestIceSurface_6L X hA ih S v1 v3 h hV hl
set_option maxHeartbeats 4000000 in
set_option maxRecDepth 20000 in
theorem mX5_lowestIceSurface (l : Launch) (G : gG) (ad : Nat → Nat) (sz : Nat) (S : gS) {r : Int64} {S' : gS} (h : fX5_lowestIceSurface S = some (r, S')) : gMetL l yX5_lowestIceSurface cX5_lowestIceSurface 5 (some .long) rmX5_lowestIceSurface wdX G ad S sz [.ref (ad 0)] r S' := by
  refine gMet_of (by decide) ?_
  intro p e s m below meth c A hA X hnm hV
  have hl := lv_entry ([.ref (ad 0)]) (n := 5) (Nat.le_of_ble_eq_true rfl)
  rw [lg_entry_eq]
  generalize (lg_sl ([.ref (ad 0)]) ++ List.replicate (5 - (lg_sl ([.ref (ad 0)])).length) Slot.unset).toArray = ls at hl ⊢
  have hl : lv_has ls 5 [(0, .ref (ad 0))] := hl
  obtain ⟨hx, hb, hr, hml, hown, hts, hlk, hK⟩ := id X
  unfold fX5_lowestIceSurface at h
  generalize ([.ref (ad 0)].toArray : Array Value) = args at X ⊢
  have Y : ∀ (H : Heap) (locs : List Loc), gV wdX G ad A s.heap S H locs → W p l e rmX5_lowestIceSurface s m args below meth c H locs 0 0 (MQ below (gQl wdX G ad A (r, S')) args s 0 0 A) (F0 m 0 ls []) := by
    intro H locs hV
    refine lv_ldc2 (v := -9) hx hb hown (hts _ q_490) dX5_lowestIceSurface_0 ?_
    refine lv_lstore_n (lv' := [(1, .long (-9 : Int64)), (0, .ref (ad 0))]) hx hb dX5_lowestIceSurface_3 rfl hl (by decide) rfl (fun ls hl => ?_)
    refine lv_iconst (v := 0) hx hb dX5_lowestIceSurface_4 (by decide) ?_
    refine lv_istore_n (lv' := [(3, .int (0 : Int32)), (1, .long (-9 : Int64)), (0, .ref (ad 0))]) hx hb dX5_lowestIceSurface_5 rfl hl (by decide) rfl (fun ls hl => ?_)
    exact tX5_lowestIceSurface_6 X hA gx_fuel _ _ _ h _ _ _ hV (lv_sub hl [2, 1, 0] rfl)
  exact Y _ _ hV
theorem kc_RX5_220 : gKV RX5 220 yX5_thickestPlace cX5_thickestPlace 6 (some .int) 0 := ⟨q_478, q_480, q_14, q_481, q_36, by decide +kernel⟩
theorem kc_RX5_223 : gKV RX5 223 yX5_icyCells cX5_icyCells 3 (some .int) 0 := ⟨q_482, q_484, q_15, q_485, q_36, by decide +kernel⟩
theorem kc_RX5_226 : gKV RX5 226 yX5_lowestIceSurface cX5_lowestIceSurface 5 (some .long) 0 := ⟨q_486, q_488, q_16, q_489, q_36, by decide +kernel⟩
theorem kc_RX5_230 : gKV RX5 230 yX0_oldestYear cX0_oldestYear 2 (some .int) 0 := ⟨q_491, q_492, q_493, q_494, q_39, by decide +kernel⟩
def fX5_about (S : gS) (v1 : Int32) : Option (Int64 × gS) :=
if v1 < 0 then (some ((-2 : Int64), S)) else
if v1 ≤ (4 : Int32) then (gx_bind (fX1_lies 5 S) fun r17 S17 =>
if r17 = 0 then (some ((-3 : Int64), S17)) else
gx_bind (fX5_thickestPlace S17) fun r28 S28 =>
if v1 = 0 then (gx_bind (fX5_icyCells S28) fun r65 S65 =>
some ((Int32.toInt64 r65), S65)) else
if v1 = 1 then (if r28 = (-1 : Int32) then (some ((0 : Int64), S28)) else
gx_chk r28 64 <|
some ((gJ S28 12 (Int32.toNatClampNeg r28)), S28)) else
if v1 = 2 then (gx_bind (fX5_lowestIceSurface S28) fun r90 S90 =>
some (r90, S90)) else
if v1 = 3 then (gx_bind (fX0_oldestYear 10 S28) fun r98 S98 =>
some ((Int32.toInt64 r98), S98)) else
if r28 = (-1 : Int32) then (some ((-9 : Int64), S28)) else
some ((Int32.toInt64 r28), S28)) else
some ((-2 : Int64), S)
def rmX5_about : Room := { frames := 2, cells := 0, slots := 0, locals := 45 }
set_option maxHeartbeats 4000000 in
set_option maxRecDepth 20000 in
theorem mX5_about (l : Launch) (G : gG) (ad : Nat → Nat) (sz : Nat) (S : gS) {v1 : Int32} {r : Int64} {S' : gS} (h : fX5_about S v1 = some (r, S')) : gMetL l yX5_about cX5_about 3 (some .long) rmX5_about wdX G ad S sz [.ref (ad 0), .int v1] r S' := by
  refine gMet_of (by decide) ?_
  intro p e s m below meth c A hA X hnm hV
  have hl := lv_entry ([.ref (ad 0), .int v1]) (n := 3) (Nat.le_of_ble_eq_true rfl)
  rw [lg_entry_eq]
  generalize (lg_sl ([.ref (ad 0), .int v1]) ++ List.replicate (3 - (lg_sl ([.ref (ad 0), .int v1])).length) Slot.unset).toArray = ls at hl ⊢
  have hl : lv_has ls 3 [(0, .ref (ad 0)), (1, .int v1)] := hl
  obtain ⟨hx, hb, hr, hml, hown, hts, hlk, hK⟩ := id X
  unfold fX5_about at h
  generalize ([.ref (ad 0), .int v1].toArray : Array Value) = args at X ⊢
  have Y : ∀ (H : Heap) (locs : List Loc), gV wdX G ad A s.heap S H locs → W p l e rmX5_about s m args below meth c H locs 0 0 (MQ below (gQl wdX G ad A (r, S')) args s 0 0 A) (F0 m 0 ls []) := by
    intro H locs hV
    refine lv_iload_n hx hb dX5_about_0 rfl (lv_at hl 1 rfl) ?_
    refine lv_if_lt (tgt := 9) hx hb dX5_about_1 (by decide) (fun c_1 => ?_) (fun c_1 => ?_)
    · rw [if_pos c_1] at h
      refine lv_ldc2 (v := -2) hx hb hown (hts _ q_256) dX5_about_9 ?_
      exact gw_lret X hV h dX5_about_12
    · rw [if_neg c_1] at h
      refine lv_iload_n hx hb dX5_about_4 rfl (lv_at hl 1 rfl) ?_
      refine lv_iconst (v := 4) hx hb dX5_about_5 (by decide) ?_
      refine lv_icmp_le (tgt := 13) hx hb dX5_about_6 (by decide) (fun c_6 => ?_) (fun c_6 => ?_)
      · rw [if_pos c_6] at h
        refine lv_aload_n hx hb dX5_about_13 rfl (lv_at hl 0 rfl) ?_
        refine ggX5_25 X hV (o := 0) rfl dX5_about_14 ?_
        obtain ⟨r17, S17, k_17, h⟩ := gx_bind_e h
        refine gw_callI X hA hV (gw_runV X hV (o := 5) (As := []) (rest := []) (mX1_lies l G ad _ S rfl k_17) kc_RX5_210 (iXO_4 rfl) rfl rfl rfl hl.1 rfl (Nat.le_of_ble_eq_true rfl) ⟨rfl, rfl⟩ ⟨Nat.le_of_ble_eq_true rfl, Nat.le_of_ble_eq_true rfl⟩ ⟨Nat.le_refl _, Nat.le_refl _⟩ dX5_about_17) (fun H locs hV => ?_)
        refine lv_if_ne (tgt := 27) hx hb dX5_about_20 (by decide) (fun c_20 => ?_) (fun c_20 => ?_)
        · rw [if_neg c_20] at h
          refine lv_aload_n hx hb dX5_about_27 rfl (lv_at hl 0 rfl) ?_
          obtain ⟨r28, S28, k_28, h⟩ := gx_bind_e h
          refine gw_callI X hA hV (gw_runV X hV (o := 0) (As := []) (rest := []) (mX5_thickestPlace l G ad _ S17 k_28) kc_RX5_220 (iXO_0 rfl) rfl rfl rfl hl.1 rfl (Nat.le_of_ble_eq_true rfl) ⟨rfl, rfl⟩ ⟨Nat.le_of_ble_eq_true rfl, Nat.le_of_ble_eq_true rfl⟩ ⟨Nat.le_refl _, Nat.le_refl _⟩ dX5_about_28) (fun H locs hV => ?_)
          refine lv_istore_n (lv' := [(2, .int r28), (0, .ref (ad 0)), (1, .int v1)]) hx hb dX5_about_31 rfl hl (by decide) rfl (fun ls hl => ?_)
          refine lv_iload_n hx hb dX5_about_32 rfl (lv_at hl 2 rfl) ?_
          by_cases c_33_0 : v1 = 0
          · rw [if_pos c_33_0] at h
            refine lv_tableIn (off := 31) (tgt := 64) hx hb dX5_about_33 (by rw [c_33_0]; decide) (by rw [c_33_0]; decide) (by rw [c_33_0]; rfl) (by decide) ?_
            refine lv_aload_n hx hb dX5_about_64 rfl (lv_at hl 1 rfl) ?_
            obtain ⟨r65, S65, k_65, h⟩ := gx_bind_e h
            refine gw_callI X hA hV (gw_runV X hV (o := 0) (As := []) (rest := []) (mX5_icyCells l G ad _ S28 k_65) kc_RX5_223 (iXO_0 rfl) rfl rfl rfl hl.1 rfl (Nat.le_of_ble_eq_true rfl) ⟨rfl, rfl⟩ ⟨Nat.le_of_ble_eq_true rfl, Nat.le_of_ble_eq_true rfl⟩ ⟨Nat.le_refl _, Nat.le_refl _⟩ dX5_about_65) (fun H locs hV => ?_)
            refine lv_i2l hx hb dX5_about_68 rfl ?_
            exact gw_lret X hV h dX5_about_69
          · rw [if_neg c_33_0] at h
            by_cases c_33_1 : v1 = 1
            · rw [if_pos c_33_1] at h
              refine lv_tableIn (off := 37) (tgt := 70) hx hb dX5_about_33 (by rw [c_33_1]; decide) (by rw [c_33_1]; decide) (by rw [c_33_1]; rfl) (by decide) ?_
              refine lv_iload_n hx hb dX5_about_70 rfl (lv_at hl 0 rfl) ?_
              refine lv_iconst (v := -1) hx hb dX5_about_71 (by decide) ?_
              refine lv_icmp_ne (tgt := 79) hx hb dX5_about_72 (by decide) (fun c_72 => ?_) (fun c_72 => ?_)
              · rw [if_neg c_72] at h
                refine lv_aload_n hx hb dX5_about_79 rfl (lv_at hl 1 rfl) ?_
                refine ggX5_32 X hV (o := 0) rfl dX5_about_80 ?_
                refine ggX5_168 X hV (o := 10) rfl dX5_about_83 ?_
                refine lv_iload_n hx hb dX5_about_86 rfl (lv_at hl 0 rfl) ?_
                obtain ⟨c_87, h⟩ := gx_chk_e h
                refine gw_lald X hV (iXJ_8 (o := 12) rfl) c_87 dX5_about_87 ?_
                exact gw_lret X hV h dX5_about_88
              · rw [if_pos c_72] at h
                refine lv_lconst (v := 0) hx hb dX5_about_75 (by decide) ?_
                refine lv_goto (tgt := 88) hx hb dX5_about_76 (by decide) ?_
                exact gw_lret X hV h dX5_about_88
            · rw [if_neg c_33_1] at h
              by_cases c_33_2 : v1 = 2
              · rw [if_pos c_33_2] at h
                refine lv_tableIn (off := 56) (tgt := 89) hx hb dX5_about_33 (by rw [c_33_2]; decide) (by rw [c_33_2]; decide) (by rw [c_33_2]; rfl) (by decide) ?_
                refine lv_aload_n hx hb dX5_about_89 rfl (lv_at hl 1 rfl) ?_
                obtain ⟨r90, S90, k_90, h⟩ := gx_bind_e h
                refine gw_callL X hA hV (gw_runV X hV (o := 0) (As := []) (rest := []) (mX5_lowestIceSurface l G ad _ S28 k_90) kc_RX5_226 (iXO_0 rfl) rfl rfl rfl hl.1 rfl (Nat.le_of_ble_eq_true rfl) ⟨rfl, rfl⟩ ⟨Nat.le_of_ble_eq_true rfl, Nat.le_of_ble_eq_true rfl⟩ ⟨Nat.le_refl _, Nat.le_refl _⟩ dX5_about_90) (fun H locs hV => ?_)
                exact gw_lret X hV h dX5_about_93
              · rw [if_neg c_33_2] at h
                by_cases c_33_3 : v1 = 3
                · rw [if_pos c_33_3] at h
                  refine lv_tableIn (off := 61) (tgt := 94) hx hb dX5_about_33 (by rw [c_33_3]; decide) (by rw [c_33_3]; decide) (by rw [c_33_3]; rfl) (by decide) ?_
                  refine lv_aload_n hx hb dX5_about_94 rfl (lv_at hl 1 rfl) ?_
                  refine ggX5_32 X hV (o := 0) rfl dX5_about_95 ?_
                  obtain ⟨r98, S98, k_98, h⟩ := gx_bind_e h
                  refine gw_callI X hA hV (gw_runV X hV (o := 10) (As := []) (rest := []) (mX0_oldestYear l G ad _ S28 rfl k_98) kc_RX5_230 (iXO_6 rfl) rfl rfl rfl hl.1 rfl (Nat.le_of_ble_eq_true rfl) ⟨rfl, rfl⟩ ⟨Nat.le_of_ble_eq_true rfl, Nat.le_of_ble_eq_true rfl⟩ ⟨Nat.le_refl _, Nat.le_refl _⟩ dX5_about_98) (fun H locs hV => ?_)
                  refine lv_i2l hx hb dX5_about_101 rfl ?_
                  exact gw_lret X hV h dX5_about_102
                · rw [if_neg c_33_3] at h
                  refine lv_tableOut (tgt := 103) hx hb dX5_about_33 (g_tabOut 4 (fun j hj => by
                    match j, hj with
                    | 0, _ => exact c_33_0
                    | 1, _ => exact c_33_1
                    | 2, _ => exact c_33_2
                    | 3, _ => exact c_33_3
                    | j + 4, hj => omega)) (by decide) ?_
                  refine lv_iload_n hx hb dX5_about_103 rfl (lv_at hl 0 rfl) ?_
                  refine lv_iconst (v := -1) hx hb dX5_about_104 (by decide) ?_
                  refine lv_icmp_ne (tgt := 114) hx hb dX5_about_105 (by decide) (fun c_105 => ?_) (fun c_105 => ?_)
                  · rw [if_neg c_105] at h
                    refine lv_iload_n hx hb dX5_about_114 rfl (lv_at hl 0 rfl) ?_
                    refine lv_i2l hx hb dX5_about_115 rfl ?_
                    exact gw_lret X hV h dX5_about_116
                  · rw [if_pos c_105] at h
                    refine lv_ldc2 (v := -9) hx hb hown (hts _ q_490) dX5_about_108 ?_
                    refine lv_goto (tgt := 116) hx hb dX5_about_111 (by decide) ?_
                    exact gw_lret X hV h dX5_about_116
        · rw [if_pos c_20] at h
          refine lv_ldc2 (v := -3) hx hb hown (hts _ q_338) dX5_about_23 ?_
          exact gw_lret X hV h dX5_about_26
      · rw [if_neg c_6] at h
        refine lv_ldc2 (v := -2) hx hb hown (hts _ q_256) dX5_about_9 ?_
        exact gw_lret X hV h dX5_about_12
  exact Y _ _ hV
def fX5_gives (S : gS) (v1 : Int32) (v2 : Int32) (v3 : Int32) : Option (Int64 × gS) :=
gx_bind (fX1_placeAt 5 S v1 v2) fun r6 S6 =>
if r6 = (-1 : Int32) then (some ((-1 : Int64), S6)) else
if v3 < 0 then (some ((-2 : Int64), S6)) else
if v3 < (4 : Int32) then (gx_chk r6 64 <|
if (gA S6 7 (Int32.toNatClampNeg r6)) = (4 : Int32) then (some ((-3 : Int64), S6)) else
gx_bind (fX5_gift S6 r6 v3) fun r56 S56 =>
some (r56, S56)) else
some ((-2 : Int64), S6)
def rmX5_gives : Room := { frames := 3, cells := 0, slots := 0, locals := 78 }
set_option maxHeartbeats 4000000 in
set_option maxRecDepth 20000 in
theorem mX5_gives (l : Launch) (G : gG) (ad : Nat → Nat) (sz : Nat) (S : gS) {v1 : Int32} {v2 : Int32} {v3 : Int32} {r : Int64} {S' : gS} (h : fX5_gives S v1 v2 v3 = some (r, S')) : gMetL l yX5_gives cX5_gives 5 (some .long) rmX5_gives wdX G ad S sz [.ref (ad 0), .int v1, .int v2, .int v3] r S' := by
  refine gMet_of (by decide) ?_
  intro p e s m below meth c A hA X hnm hV
  have hl := lv_entry ([.ref (ad 0), .int v1, .int v2, .int v3]) (n := 5) (Nat.le_of_ble_eq_true rfl)
  rw [lg_entry_eq]
  generalize (lg_sl ([.ref (ad 0), .int v1, .int v2, .int v3]) ++ List.replicate (5 - (lg_sl ([.ref (ad 0), .int v1, .int v2, .int v3])).length) Slot.unset).toArray = ls at hl ⊢
  have hl : lv_has ls 5 [(0, .ref (ad 0)), (1, .int v1), (2, .int v2), (3, .int v3)] := hl
  obtain ⟨hx, hb, hr, hml, hown, hts, hlk, hK⟩ := id X
  unfold fX5_gives at h
  generalize ([.ref (ad 0), .int v1, .int v2, .int v3].toArray : Array Value) = args at X ⊢
  have Y : ∀ (H : Heap) (locs : List Loc), gV wdX G ad A s.heap S H locs → W p l e rmX5_gives s m args below meth c H locs 0 0 (MQ below (gQl wdX G ad A (r, S')) args s 0 0 A) (F0 m 0 ls []) := by
    intro H locs hV
    refine lv_aload_n hx hb dX5_gives_0 rfl (lv_at hl 0 rfl) ?_
    refine ggX5_25 X hV (o := 0) rfl dX5_gives_1 ?_
    refine lv_iload_n hx hb dX5_gives_4 rfl (lv_at hl 1 rfl) ?_
    refine lv_iload_n hx hb dX5_gives_5 rfl (lv_at hl 2 rfl) ?_
    obtain ⟨r6, S6, k_6, h⟩ := gx_bind_e h
    refine gw_callI X hA hV (gw_runV X hV (o := 5) (As := [.int v1, .int v2]) (rest := []) (mX1_placeAt l G ad _ S rfl k_6) kc_RX5_129 (iXO_4 rfl) rfl rfl rfl hl.1 rfl (Nat.le_of_ble_eq_true rfl) ⟨rfl, rfl⟩ ⟨Nat.le_of_ble_eq_true rfl, Nat.le_of_ble_eq_true rfl⟩ ⟨Nat.le_refl _, Nat.le_refl _⟩ dX5_gives_6) (fun H locs hV => ?_)
    refine lv_istore (lv' := [(4, .int r6), (0, .ref (ad 0)), (1, .int v1), (2, .int v2), (3, .int v3)]) hx hb dX5_gives_9 hl (by decide) rfl (fun ls hl => ?_)
    refine lv_iload hx hb dX5_gives_11 (lv_at hl 0 rfl) ?_
    refine lv_iconst (v := -1) hx hb dX5_gives_13 (by decide) ?_
    refine lv_icmp_ne (tgt := 21) hx hb dX5_gives_14 (by decide) (fun c_14 => ?_) (fun c_14 => ?_)
    · rw [if_neg c_14] at h
      refine lv_iload_n hx hb dX5_gives_21 rfl (lv_at hl 4 rfl) ?_
      refine lv_if_lt (tgt := 30) hx hb dX5_gives_22 (by decide) (fun c_22 => ?_) (fun c_22 => ?_)
      · rw [if_pos c_22] at h
        refine lv_ldc2 (v := -2) hx hb hown (hts _ q_256) dX5_gives_30 ?_
        exact gw_lret X hV h dX5_gives_33
      · rw [if_neg c_22] at h
        refine lv_iload_n hx hb dX5_gives_25 rfl (lv_at hl 4 rfl) ?_
        refine lv_iconst (v := 4) hx hb dX5_gives_26 (by decide) ?_
        refine lv_icmp_lt (tgt := 34) hx hb dX5_gives_27 (by decide) (fun c_27 => ?_) (fun c_27 => ?_)
        · rw [if_pos c_27] at h
          refine lv_aload_n hx hb dX5_gives_34 rfl (lv_at hl 1 rfl) ?_
          refine ggX5_25 X hV (o := 0) rfl dX5_gives_35 ?_
          refine ggX5_136 X hV (o := 5) rfl dX5_gives_38 ?_
          refine lv_iload hx hb dX5_gives_41 (lv_at hl 0 rfl) ?_
          obtain ⟨c_43, h⟩ := gx_chk_e h
          refine gw_iald X hV (iXA_5 (o := 7) rfl) c_43 dX5_gives_43 ?_
          refine lv_iconst (v := 4) hx hb dX5_gives_44 (by decide) ?_
          refine lv_icmp_ne (tgt := 52) hx hb dX5_gives_45 (by decide) (fun c_45 => ?_) (fun c_45 => ?_)
          · rw [if_neg c_45] at h
            refine lv_aload_n hx hb dX5_gives_52 rfl (lv_at hl 1 rfl) ?_
            refine lv_iload hx hb dX5_gives_53 (lv_at hl 0 rfl) ?_
            refine lv_iload_n hx hb dX5_gives_55 rfl (lv_at hl 4 rfl) ?_
            obtain ⟨r56, S56, k_56, h⟩ := gx_bind_e h
            refine gw_callL X hA hV (gw_runV X hV (o := 0) (As := [.int r6, .int v3]) (rest := []) (mX5_gift l G ad _ S6 k_56) kc_RX5_235 (iXO_0 rfl) rfl rfl rfl hl.1 rfl (Nat.le_of_ble_eq_true rfl) ⟨rfl, rfl⟩ ⟨Nat.le_of_ble_eq_true rfl, Nat.le_of_ble_eq_true rfl⟩ ⟨Nat.le_refl _, Nat.le_refl _⟩ dX5_gives_56) (fun H locs hV => ?_)
            exact gw_lret X hV h dX5_gives_59
          · rw [if_pos c_45] at h
            refine lv_ldc2 (v := -3) hx hb hown (hts _ q_338) dX5_gives_48 ?_
            exact gw_lret X hV h dX5_gives_51
        · rw [if_neg c_27] at h
          refine lv_ldc2 (v := -2) hx hb hown (hts _ q_256) dX5_gives_30 ?_
          exact gw_lret X hV h dX5_gives_33
    · rw [if_pos c_14] at h
      refine lv_ldc2 (v := -1) hx hb hown (hts _ q_255) dX5_gives_17 ?_
      exact gw_lret X hV h dX5_gives_20
  exact Y _ _ hV
theorem kc_RX5_316 : gKV RX5 316 yX1_settleAs cX1_settleAs 4 none 3 := ⟨q_516, q_517, q_518, q_519, q_38, by decide +kernel⟩
theorem kc_RX5_320 : gKV RX5 320 yX0_settleAs cX0_settleAs 4 none 3 := ⟨q_520, q_521, q_522, q_523, q_39, by decide +kernel⟩
def fX5_fetchCell (S : gS) (v1 : Int32) (v2 : Int32) (v3 : Int32) : Option (Unit × gS) :=
gx_bind (fX1_placeAt 5 S v1 v2) fun r6 S6 =>
if r6 = (-1 : Int32) then (some ((), S6)) else
if v3 = (-1 : Int32) then (some ((), S6)) else
gx_bind (fX1_settleAs 5 36 S6 r6 v3) fun r34 S34 =>
gx_bind (fX0_settleAs 10 41 S34 r6 v3) fun r48 S48 =>
some ((), S48)
def rmX5_fetchCell : Room := { frames := 2, cells := 0, slots := 0, locals := 49 }
set_option maxHeartbeats 4000000 in
set_option maxRecDepth 20000 in
theorem mX5_fetchCell (l : Launch) (G : gG) (ad : Nat → Nat) (sz : Nat) (S : gS) {v1 : Int32} {v2 : Int32} {v3 : Int32} {r : Unit} {S' : gS} (h : fX5_fetchCell S v1 v2 v3 = some (r, S')) : gMetV l yX5_fetchCell cX5_fetchCell 5 none rmX5_fetchCell wdX G ad S sz [.ref (ad 0), .int v1, .int v2, .int v3] r S' := by
  refine gMet_of (by decide) ?_
  intro p e s m below meth c A hA X hnm hV
  have hl := lv_entry ([.ref (ad 0), .int v1, .int v2, .int v3]) (n := 5) (Nat.le_of_ble_eq_true rfl)
  rw [lg_entry_eq]
  generalize (lg_sl ([.ref (ad 0), .int v1, .int v2, .int v3]) ++ List.replicate (5 - (lg_sl ([.ref (ad 0), .int v1, .int v2, .int v3])).length) Slot.unset).toArray = ls at hl ⊢
  have hl : lv_has ls 5 [(0, .ref (ad 0)), (1, .int v1), (2, .int v2), (3, .int v3)] := hl
  obtain ⟨hx, hb, hr, hml, hown, hts, hlk, hK⟩ := id X
  unfold fX5_fetchCell at h
  generalize ([.ref (ad 0), .int v1, .int v2, .int v3].toArray : Array Value) = args at X ⊢
  have Y : ∀ (H : Heap) (locs : List Loc), gV wdX G ad A s.heap S H locs → W p l e rmX5_fetchCell s m args below meth c H locs 0 0 (MQ below (gQv wdX G ad A (r, S')) args s 0 0 A) (F0 m 0 ls []) := by
    intro H locs hV
    refine lv_aload_n hx hb dX5_fetchCell_0 rfl (lv_at hl 0 rfl) ?_
    refine ggX5_25 X hV (o := 0) rfl dX5_fetchCell_1 ?_
    refine lv_iload_n hx hb dX5_fetchCell_4 rfl (lv_at hl 1 rfl) ?_
    refine lv_iload_n hx hb dX5_fetchCell_5 rfl (lv_at hl 2 rfl) ?_
    obtain ⟨r6, S6, k_6, h⟩ := gx_bind_e h
    refine gw_callI X hA hV (gw_runV X hV (o := 5) (As := [.int v1, .int v2]) (rest := []) (mX1_placeAt l G ad _ S rfl k_6) kc_RX5_129 (iXO_4 rfl) rfl rfl rfl hl.1 rfl (Nat.le_of_ble_eq_true rfl) ⟨rfl, rfl⟩ ⟨Nat.le_of_ble_eq_true rfl, Nat.le_of_ble_eq_true rfl⟩ ⟨Nat.le_refl _, Nat.le_refl _⟩ dX5_fetchCell_6) (fun H locs hV => ?_)
    refine lv_istore (lv' := [(4, .int r6), (0, .ref (ad 0)), (1, .int v1), (2, .int v2), (3, .int v3)]) hx hb dX5_fetchCell_9 hl (by decide) rfl (fun ls hl => ?_)
    refine lv_iload hx hb dX5_fetchCell_11 (lv_at hl 0 rfl) ?_
    refine lv_iconst (v := -1) hx hb dX5_fetchCell_13 (by decide) ?_
    refine lv_icmp_eq (tgt := 22) hx hb dX5_fetchCell_14 (by decide) (fun c_14 => ?_) (fun c_14 => ?_)
    · rw [if_pos c_14] at h
      exact gw_vret X hV h dX5_fetchCell_22
    · rw [if_neg c_14] at h
      refine lv_iload_n hx hb dX5_fetchCell_17 rfl (lv_at hl 4 rfl) ?_
      refine lv_iconst (v := -1) hx hb dX5_fetchCell_18 (by decide) ?_
      refine lv_icmp_ne (tgt := 23) hx hb dX5_fetchCell_19 (by decide) (fun c_19 => ?_) (fun c_19 => ?_)
      · rw [if_neg c_19] at h
        refine lv_aload_n hx hb dX5_fetchCell_23 rfl (lv_at hl 1 rfl) ?_
        refine ggX5_25 X hV (o := 0) rfl dX5_fetchCell_24 ?_
        refine lv_iload hx hb dX5_fetchCell_27 (lv_at hl 0 rfl) ?_
        refine lv_aload_n hx hb dX5_fetchCell_29 rfl (lv_at hl 1 rfl) ?_
        refine ggX5_43 X hV (o := 0) rfl dX5_fetchCell_30 ?_
        refine lv_iload_n hx hb dX5_fetchCell_33 rfl (lv_at hl 4 rfl) ?_
        obtain ⟨r34, S34, k_34, h⟩ := gx_bind_e h
        refine gw_callv X hA hV (gw_runV X hV (o := 5) (As := [.int r6, .ref (ad 36), .int v3]) (rest := []) (mX1_settleAs l G ad _ S6 rfl rfl k_34) kc_RX5_316 (iXO_4 rfl) rfl rfl rfl hl.1 rfl (Nat.le_of_ble_eq_true rfl) ⟨rfl, rfl⟩ ⟨Nat.le_of_ble_eq_true rfl, Nat.le_of_ble_eq_true rfl⟩ ⟨Nat.le_refl _, Nat.le_refl _⟩ dX5_fetchCell_34) (fun H locs hV => ?_)
        refine lv_aload_n hx hb dX5_fetchCell_37 rfl (lv_at hl 1 rfl) ?_
        refine ggX5_32 X hV (o := 0) rfl dX5_fetchCell_38 ?_
        refine lv_iload hx hb dX5_fetchCell_41 (lv_at hl 0 rfl) ?_
        refine lv_aload_n hx hb dX5_fetchCell_43 rfl (lv_at hl 1 rfl) ?_
        refine ggX5_46 X hV (o := 0) rfl dX5_fetchCell_44 ?_
        refine lv_iload_n hx hb dX5_fetchCell_47 rfl (lv_at hl 4 rfl) ?_
        obtain ⟨r48, S48, k_48, h⟩ := gx_bind_e h
        refine gw_callv X hA hV (gw_runV X hV (o := 10) (As := [.int r6, .ref (ad 41), .int v3]) (rest := []) (mX0_settleAs l G ad _ S34 rfl rfl k_48) kc_RX5_320 (iXO_6 rfl) rfl rfl rfl hl.1 rfl (Nat.le_of_ble_eq_true rfl) ⟨rfl, rfl⟩ ⟨Nat.le_of_ble_eq_true rfl, Nat.le_of_ble_eq_true rfl⟩ ⟨Nat.le_refl _, Nat.le_refl _⟩ dX5_fetchCell_48) (fun H locs hV => ?_)
        exact gw_vret X hV h dX5_fetchCell_51
      · rw [if_pos c_19] at h
        exact gw_vret X hV h dX5_fetchCell_22
  exact Y _ _ hV
theorem kc_RX5_312 : gKV RX5 312 yX5_fetchCell cX5_fetchCell 5 none 3 := ⟨q_512, q_514, q_18, q_515, q_36, by decide +kernel⟩
def fX5_turnCells_118 (K51 : gS → Int32 → Int32 → Option (Unit × gS)) (K64 : gS → Int32 → Int32 → Int32 → Option (Unit × gS)) (S : gS) (v1 : Int32) (v2 : Int32) (v3 : Int32) (t1 : Int32) (t2 : Int32) (t3 : Int32) : Option (Unit × gS) :=
gx_bind (fX5_fetchCell S t1 t2 t3) fun r118 S118 =>
gx_let (v3 + (1 : Int32)) fun v3_121 =>
K64 S118 v1 v2 v3_121
def fX5_turnCells_64L (K51 : gS → Int32 → Int32 → Option (Unit × gS)) (K64 : gS → Int32 → Int32 → Int32 → Option (Unit × gS)) (S : gS) (v1 : Int32) (v2 : Int32) (v3 : Int32) : Option (Unit × gS) :=
if (gI S 5 5) ≤ v3 then (gx_let (v2 + (1 : Int32)) fun v2_127 =>
K51 S v1 v2_127) else
gx_let (((gI S 5 5) - (1 : Int32)) - v3) fun v4_86 =>
if v1 = 0 then (gx_bind (fX1_placeAt 36 S v4_86 v2) fun r115 S115 =>
fX5_turnCells_118 K51 K64 S115 v1 v2 v3 v3 v2 r115) else
gx_bind (fX1_placeAt 36 S v2 v4_86) fun r102 S102 =>
fX5_turnCells_118 K51 K64 S102 v1 v2 v3 v3 v2 r102
def fX5_turnCells_64 (K51 : gS → Int32 → Int32 → Option (Unit × gS)) : Nat → gS → Int32 → Int32 → Int32 → Option (Unit × gS)
  | 0, _, _, _, _ => none
  | f + 1, S, v1, v2, v3 => fX5_turnCells_64L K51 (fX5_turnCells_64 K51 f) S v1 v2 v3
def fX5_turnCells_51L (K51 : gS → Int32 → Int32 → Option (Unit × gS)) (S : gS) (v1 : Int32) (v2 : Int32) : Option (Unit × gS) :=
if (gI S 5 6) ≤ v2 then (some ((), S)) else
fX5_turnCells_64 K51 gx_fuel S v1 v2 (0 : Int32)
def fX5_turnCells_51 : Nat → gS → Int32 → Int32 → Option (Unit × gS)
  | 0, _, _, _ => none
  | f + 1, S, v1, v2 => fX5_turnCells_51L (fX5_turnCells_51 f) S v1 v2
def fX5_turnCells_46 (S : gS) (v1 : Int32) (t1 : Int32) (t2 : Int32) : Option (Unit × gS) :=
gx_bind (fX1_begin 5 S t1 t2) fun r46 S46 =>
fX5_turnCells_51 gx_fuel S46 v1 (0 : Int32)
def fX5_turnCells_25 (S : gS) (v1 : Int32) (t1 : Int32) : Option (Unit × gS) :=
if v1 = 0 then (fX5_turnCells_46 S v1 t1 (gI S 36 6)) else
fX5_turnCells_46 S v1 t1 (gI S 36 5)
def fX5_turnCells (S : gS) (v1 : Int32) : Option (Unit × gS) :=
if v1 = 0 then (fX5_turnCells_25 S v1 (gI S 36 5)) else
fX5_turnCells_25 S v1 (gI S 36 6)
def rmX5_turnCells : Room := { frames := 3, cells := 0, slots := 0, locals := 73 }
set_option maxHeartbeats 4000000 in
set_option maxRecDepth 20000 in
theorem tX5_turnCells_118 {p : Program} {l : Launch} {e : Env} {s : State} {m : MethodId} {args : Array Value} {below : List Frame} {meth : Method} {c : Code} {G : gG} {ad : Nat → Nat} {A : Nat → Prop} {z : Unit × gS} {K51 : gS → Int32 → Int32 → Option (Unit × gS)} {K64 : gS → Int32 → Int32 → Int32 → Option (Unit × gS)} (X : gCx p s m args meth c G cX5_turnCells RX5 none 5) (hA : ∀ q, s.heap.size ≤ q → A q) (kK51 : ∀ (S : gS) (v1 : Int32) (v2 : Int32), K51 S v1 v2 = some z → ∀ (H : Heap) (locs : List Loc) (ls : Array Slot), gV wdX G ad A s.heap S H locs → lv_has ls 5 [(0, .ref (ad 0)), (1, .int v1), (2, .int v2)] → W p l e rmX5_turnCells s m args below meth c H locs 0 0 (MQ below (gQv wdX G ad A z) args s 0 0 A) (F0 m 51 ls [])) (kK64 : ∀ (S : gS) (v1 : Int32) (v2 : Int32) (v3 : Int32), K64 S v1 v2 v3 = some z → ∀ (H : Heap) (locs : List Loc) (ls : Array Slot), gV wdX G ad A s.heap S H locs → lv_has ls 5 [(0, .ref (ad 0)), (1, .int v1), (2, .int v2), (3, .int v3)] → W p l e rmX5_turnCells s m args below meth c H locs 0 0 (MQ below (gQv wdX G ad A z) args s 0 0 A) (F0 m 64 ls [])) (S : gS) (v1 : Int32) (v2 : Int32) (v3 : Int32) (t1 : Int32) (t2 : Int32) (t3 : Int32) (h : fX5_turnCells_118 K51 K64 S v1 v2 v3 t1 t2 t3 = some z) {H : Heap} {locs : List Loc} {ls : Array Slot} (hV : gV wdX G ad A s.heap S H locs) (hl : lv_has ls 5 [(0, .ref (ad 0)), (1, .int v1), (2, .int v2), (3, .int v3)]) : W p l e rmX5_turnCells s m args below meth c H locs 0 0 (MQ below (gQv wdX G ad A z) args s 0 0 A) (F0 m 118 ls [.int t3, .int t2, .int t1, .ref (ad 0)]) := by
  obtain ⟨hx, hb, hr, hml, hown, hts, hlk, hK⟩ := id X
  unfold fX5_turnCells_118 at h
  obtain ⟨r118, S118, k_118, h⟩ := gx_bind_e h
  refine gw_callv X hA hV (gw_runV X hV (o := 0) (As := [.int t1, .int t2, .int t3]) (rest := []) (mX5_fetchCell l G ad _ S k_118) kc_RX5_312 (iXO_0 rfl) rfl rfl rfl hl.1 rfl (Nat.le_of_ble_eq_true rfl) ⟨rfl, rfl⟩ ⟨Nat.le_of_ble_eq_true rfl, Nat.le_of_ble_eq_true rfl⟩ ⟨Nat.le_refl _, Nat.le_refl _⟩ dX5_turnCells_118) (fun H locs hV => ?_)
  obtain ⟨v3_121, e_121⟩ : ∃ y : Int32, y = (v3 + (1 : Int32)) := ⟨_, rfl⟩
  refine lv_iinc (v := v3_121) (lv' := [(3, .int v3_121), (0, .ref (ad 0)), (1, .int v1), (2, .int v2)]) hx hb dX5_turnCells_121 hl (k := 3) rfl (by rw [e_121]; rfl) (by decide) rfl (fun ls hl => ?_)
  replace h := gx_let_e e_121 h
  clear e_121
  refine lv_goto (tgt := 64) hx hb dX5_turnCells_124 (by decide) ?_
  exact kK64 _ _ _ _ h _ _ _ hV (lv_sub hl [1, 2, 3, 0] rfl)
set_option maxHeartbeats 4000000 in
set_option maxRecDepth 20000 in
theorem tX5_turnCells_64L {p : Program} {l : Launch} {e : Env} {s : State} {m : MethodId} {args : Array Value} {below : List Frame} {meth : Method} {c : Code} {G : gG} {ad : Nat → Nat} {A : Nat → Prop} {z : Unit × gS} {K51 : gS → Int32 → Int32 → Option (Unit × gS)} {K64 : gS → Int32 → Int32 → Int32 → Option (Unit × gS)} (X : gCx p s m args meth c G cX5_turnCells RX5 none 5) (hA : ∀ q, s.heap.size ≤ q → A q) (kK51 : ∀ (S : gS) (v1 : Int32) (v2 : Int32), K51 S v1 v2 = some z → ∀ (H : Heap) (locs : List Loc) (ls : Array Slot), gV wdX G ad A s.heap S H locs → lv_has ls 5 [(0, .ref (ad 0)), (1, .int v1), (2, .int v2)] → W p l e rmX5_turnCells s m args below meth c H locs 0 0 (MQ below (gQv wdX G ad A z) args s 0 0 A) (F0 m 51 ls [])) (kK64 : ∀ (S : gS) (v1 : Int32) (v2 : Int32) (v3 : Int32), K64 S v1 v2 v3 = some z → ∀ (H : Heap) (locs : List Loc) (ls : Array Slot), gV wdX G ad A s.heap S H locs → lv_has ls 5 [(0, .ref (ad 0)), (1, .int v1), (2, .int v2), (3, .int v3)] → W p l e rmX5_turnCells s m args below meth c H locs 0 0 (MQ below (gQv wdX G ad A z) args s 0 0 A) (F0 m 64 ls [])) (S : gS) (v1 : Int32) (v2 : Int32) (v3 : Int32) (h : fX5_turnCells_64L K51 K64 S v1 v2 v3 = some z) {H : Heap} {locs : List Loc} {ls : Array Slot} (hV : gV wdX G ad A s.heap S H locs) (hl : lv_has ls 5 [(0, .ref (ad 0)), (1, .int v1), (2, .int v2), (3, .int v3)]) : W p l e rmX5_turnCells s m args below meth c H locs 0 0 (MQ below (gQv wdX G ad A z) args s 0 0 A) (F0 m 64 ls []) := by
  obtain ⟨hx, hb, hr, hml, hown, hts, hlk, hK⟩ := id X
  unfold fX5_turnCells_64L at h
  refine lv_iload_n hx hb dX5_turnCells_64 rfl (lv_at hl 3 rfl) ?_
  refine lv_aload_n hx hb dX5_turnCells_65 rfl (lv_at hl 0 rfl) ?_
  refine ggX5_25 X hV (o := 0) rfl dX5_turnCells_66 ?_
  refine ggX5_249 X hV (o := 5) rfl dX5_turnCells_69 ?_
  refine lv_icmp_ge (tgt := 127) hx hb dX5_turnCells_72 (by decide) (fun c_72 => ?_) (fun c_72 => ?_)
  · rw [if_pos c_72] at h
    obtain ⟨v2_127, e_127⟩ : ∃ y : Int32, y = (v2 + (1 : Int32)) := ⟨_, rfl⟩
    refine lv_iinc (v := v2_127) (lv' := [(2, .int v2_127), (0, .ref (ad 0)), (1, .int v1), (3, .int v3)]) hx hb dX5_turnCells_127 hl (k := 2) rfl (by rw [e_127]; rfl) (by decide) rfl (fun ls hl => ?_)
    replace h := gx_let_e e_127 h
    clear e_127
    refine lv_goto (tgt := 51) hx hb dX5_turnCells_130 (by decide) ?_
    exact kK51 _ _ _ h _ _ _ hV (lv_sub hl [1, 2, 0] rfl)
  · rw [if_neg c_72] at h
    refine lv_aload_n hx hb dX5_turnCells_75 rfl (lv_at hl 0 rfl) ?_
    refine ggX5_25 X hV (o := 0) rfl dX5_turnCells_76 ?_
    refine ggX5_249 X hV (o := 5) rfl dX5_turnCells_79 ?_
    refine lv_iconst (v := 1) hx hb dX5_turnCells_82 (by decide) ?_
    refine lv_isub hx hb dX5_turnCells_83 ?_
    refine lv_iload_n hx hb dX5_turnCells_84 rfl (lv_at hl 3 rfl) ?_
    refine lv_isub hx hb dX5_turnCells_85 ?_
    refine lv_topi (fun v4_86 e_86 => ?_)
    replace h := gx_let_e e_86 h
    clear e_86
    refine lv_istore (lv' := [(4, .int v4_86), (0, .ref (ad 0)), (1, .int v1), (2, .int v2), (3, .int v3)]) hx hb dX5_turnCells_86 hl (by decide) rfl (fun ls hl => ?_)
    refine lv_aload_n hx hb dX5_turnCells_88 rfl (lv_at hl 1 rfl) ?_
    refine lv_iload_n hx hb dX5_turnCells_89 rfl (lv_at hl 4 rfl) ?_
    refine lv_iload_n hx hb dX5_turnCells_90 rfl (lv_at hl 3 rfl) ?_
    refine lv_iload_n hx hb dX5_turnCells_91 rfl (lv_at hl 2 rfl) ?_
    refine lv_if_eq (tgt := 108) hx hb dX5_turnCells_92 (by decide) (fun c_92 => ?_) (fun c_92 => ?_)
    · rw [if_pos c_92] at h
      refine lv_aload_n hx hb dX5_turnCells_108 rfl (lv_at hl 1 rfl) ?_
      refine ggX5_43 X hV (o := 0) rfl dX5_turnCells_109 ?_
      refine lv_iload hx hb dX5_turnCells_112 (lv_at hl 0 rfl) ?_
      refine lv_iload_n hx hb dX5_turnCells_114 rfl (lv_at hl 3 rfl) ?_
      obtain ⟨r115, S115, k_115, h⟩ := gx_bind_e h
      refine gw_callI X hA hV (gw_runV X hV (o := 36) (As := [.int v4_86, .int v2]) (rest := [.int v2, .int v3, .ref (ad 0)]) (mX1_placeAt l G ad _ S rfl k_115) kc_RX5_129 (iXO_4 rfl) rfl rfl rfl hl.1 rfl (Nat.le_of_ble_eq_true rfl) ⟨rfl, rfl⟩ ⟨Nat.le_of_ble_eq_true rfl, Nat.le_of_ble_eq_true rfl⟩ ⟨Nat.le_refl _, Nat.le_refl _⟩ dX5_turnCells_115) (fun H locs hV => ?_)
      exact tX5_turnCells_118 X hA kK51 kK64 _ _ _ _ _ _ _ h hV (lv_sub hl [1, 2, 3, 4] rfl)
    · rw [if_neg c_92] at h
      refine lv_aload_n hx hb dX5_turnCells_95 rfl (lv_at hl 1 rfl) ?_
      refine ggX5_43 X hV (o := 0) rfl dX5_turnCells_96 ?_
      refine lv_iload_n hx hb dX5_turnCells_99 rfl (lv_at hl 3 rfl) ?_
      refine lv_iload hx hb dX5_turnCells_100 (lv_at hl 0 rfl) ?_
      obtain ⟨r102, S102, k_102, h⟩ := gx_bind_e h
      refine gw_callI X hA hV (gw_runV X hV (o := 36) (As := [.int v2, .int v4_86]) (rest := [.int v2, .int v3, .ref (ad 0)]) (mX1_placeAt l G ad _ S rfl k_102) kc_RX5_129 (iXO_4 rfl) rfl rfl rfl hl.1 rfl (Nat.le_of_ble_eq_true rfl) ⟨rfl, rfl⟩ ⟨Nat.le_of_ble_eq_true rfl, Nat.le_of_ble_eq_true rfl⟩ ⟨Nat.le_refl _, Nat.le_refl _⟩ dX5_turnCells_102) (fun H locs hV => ?_)
      refine lv_goto (tgt := 118) hx hb dX5_turnCells_105 (by decide) ?_
      exact tX5_turnCells_118 X hA kK51 kK64 _ _ _ _ _ _ _ h hV (lv_sub hl [1, 2, 3, 4] rfl)
set_option maxHeartbeats 4000000 in
set_option maxRecDepth 20000 in
theorem tX5_turnCells_64 {p : Program} {l : Launch} {e : Env} {s : State} {m : MethodId} {args : Array Value} {below : List Frame} {meth : Method} {c : Code} {G : gG} {ad : Nat → Nat} {A : Nat → Prop} {z : Unit × gS} {K51 : gS → Int32 → Int32 → Option (Unit × gS)} (X : gCx p s m args meth c G cX5_turnCells RX5 none 5) (hA : ∀ q, s.heap.size ≤ q → A q) (kK51 : ∀ (S : gS) (v1 : Int32) (v2 : Int32), K51 S v1 v2 = some z → ∀ (H : Heap) (locs : List Loc) (ls : Array Slot), gV wdX G ad A s.heap S H locs → lv_has ls 5 [(0, .ref (ad 0)), (1, .int v1), (2, .int v2)] → W p l e rmX5_turnCells s m args below meth c H locs 0 0 (MQ below (gQv wdX G ad A z) args s 0 0 A) (F0 m 51 ls [])) : ∀ (f : Nat) (S : gS) (v1 : Int32) (v2 : Int32) (v3 : Int32) (h : fX5_turnCells_64 K51 f S v1 v2 v3 = some z) (H : Heap) (locs : List Loc) (ls : Array Slot) (hV : gV wdX G ad A s.heap S H locs) (hl : lv_has ls 5 [(0, .ref (ad 0)), (1, .int v1), (2, .int v2), (3, .int v3)]), W p l e rmX5_turnCells s m args below meth c H locs 0 0 (MQ below (gQv wdX G ad A z) args s 0 0 A) (F0 m 64 ls []) := by
  intro f
  induction f with
  | zero => intro S v1 v2 v3 h; exact absurd h (by simp [fX5_turnCells_64])
  | succ f ih => intro S v1 v2 v3 h H locs ls hV hl; exact tX5_turnCells_64L X hA kK51 ih S v1 v2 v3 h hV hl
set_option maxHeartbeats 4000000 in
set_option maxRecDepth 20000 in
theorem tX5_turnCells_51L {p : Program} {l : Launch} {e : Env} {s : State} {m : MethodId} {args : Array Value} {below : List Frame} {meth : Method} {c : Code} {G : gG} {ad : Nat → Nat} {A : Nat → Prop} {z : Unit × gS} {K51 : gS → Int32 → Int32 → Option (Unit × gS)} (X : gCx p s m args meth c G cX5_turnCells RX5 none 5) (hA : ∀ q, s.heap.size ≤ q → A q) (kK51 : ∀ (S : gS) (v1 : Int32) (v2 : Int32), K51 S v1 v2 = some z → ∀ (H : Heap) (locs : List Loc) (ls : Array Slot), gV wdX G ad A s.heap S H locs → lv_has ls 5 [(0, .ref (ad 0)), (1, .int v1), (2, .int v2)] → W p l e rmX5_turnCells s m args below meth c H locs 0 0 (MQ below (gQv wdX G ad A z) args s 0 0 A) (F0 m 51 ls [])) (S : gS) (v1 : Int32) (v2 : Int32) (h : fX5_turnCells_51L K51 S v1 v2 = some z) {H : Heap} {locs : List Loc} {ls : Array Slot} (hV : gV wdX G ad A s.heap S H locs) (hl : lv_has ls 5 [(0, .ref (ad 0)), (1, .int v1), (2, .int v2)]) : W p l e rmX5_turnCells s m args below meth c H locs 0 0 (MQ below (gQv wdX G ad A z) args s 0 0 A) (F0 m 51 ls []) := by
  obtain ⟨hx, hb, hr, hml, hown, hts, hlk, hK⟩ := id X
  unfold fX5_turnCells_51L at h
  refine lv_iload_n hx hb dX5_turnCells_51 rfl (lv_at hl 2 rfl) ?_
  refine lv_aload_n hx hb dX5_turnCells_52 rfl (lv_at hl 0 rfl) ?_
  refine ggX5_25 X hV (o := 0) rfl dX5_turnCells_53 ?_
  refine ggX5_252 X hV (o := 5) rfl dX5_turnCells_56 ?_
  refine lv_icmp_ge (tgt := 133) hx hb dX5_turnCells_59 (by decide) (fun c_59 => ?_) (fun c_59 => ?_)
  · rw [if_pos c_59] at h
    exact gw_vret X hV h dX5_turnCells_133
  · rw [if_neg c_59] at h
    refine lv_iconst (v := 0) hx hb dX5_turnCells_62 (by decide) ?_
    refine lv_istore_n (lv' := [(3, .int (0 : Int32)), (0, .ref (ad 0)), (1, .int v1), (2, .int v2)]) hx hb dX5_turnCells_63 rfl hl (by decide) rfl (fun ls hl => ?_)
    exact tX5_turnCells_64 X hA kK51 gx_fuel _ _ _ _ h _ _ _ hV (lv_sub hl [1, 2, 3, 0] rfl)
set_option maxHeartbeats 4000000 in
set_option maxRecDepth 20000 in
theorem tX5_turnCells_51 {p : Program} {l : Launch} {e : Env} {s : State} {m : MethodId} {args : Array Value} {below : List Frame} {meth : Method} {c : Code} {G : gG} {ad : Nat → Nat} {A : Nat → Prop} {z : Unit × gS} (X : gCx p s m args meth c G cX5_turnCells RX5 none 5) (hA : ∀ q, s.heap.size ≤ q → A q) : ∀ (f : Nat) (S : gS) (v1 : Int32) (v2 : Int32) (h : fX5_turnCells_51 f S v1 v2 = some z) (H : Heap) (locs : List Loc) (ls : Array Slot) (hV : gV wdX G ad A s.heap S H locs) (hl : lv_has ls 5 [(0, .ref (ad 0)), (1, .int v1), (2, .int v2)]), W p l e rmX5_turnCells s m args below meth c H locs 0 0 (MQ below (gQv wdX G ad A z) args s 0 0 A) (F0 m 51 ls []) := by
  intro f
  induction f with
  | zero => intro S v1 v2 h; exact absurd h (by simp [fX5_turnCells_51])
  | succ f ih => intro S v1 v2 h H locs ls hV hl; exact tX5_turnCells_51L X hA ih S v1 v2 h hV hl
set_option maxHeartbeats 4000000 in
set_option maxRecDepth 20000 in
theorem tX5_turnCells_46 {p : Program} {l : Launch} {e : Env} {s : State} {m : MethodId} {args : Array Value} {below : List Frame} {meth : Method} {c : Code} {G : gG} {ad : Nat → Nat} {A : Nat → Prop} {z : Unit × gS} (X : gCx p s m args meth c G cX5_turnCells RX5 none 5) (hA : ∀ q, s.heap.size ≤ q → A q) (S : gS) (v1 : Int32) (t1 : Int32) (t2 : Int32) (h : fX5_turnCells_46 S v1 t1 t2 = some z) {H : Heap} {locs : List Loc} {ls : Array Slot} (hV : gV wdX G ad A s.heap S H locs) (hl : lv_has ls 5 [(0, .ref (ad 0)), (1, .int v1)]) : W p l e rmX5_turnCells s m args below meth c H locs 0 0 (MQ below (gQv wdX G ad A z) args s 0 0 A) (F0 m 46 ls [.int t2, .int t1, .ref (ad 5)]) := by
  obtain ⟨hx, hb, hr, hml, hown, hts, hlk, hK⟩ := id X
  unfold fX5_turnCells_46 at h
  obtain ⟨r46, S46, k_46, h⟩ := gx_bind_e h
  refine gw_callv X hA hV (gw_runV X hV (o := 5) (As := [.int t1, .int t2]) (rest := []) (mX1_begin l G ad _ S rfl k_46) kc_RX5_110 (iXO_4 rfl) rfl rfl rfl hl.1 rfl (Nat.le_of_ble_eq_true rfl) ⟨rfl, rfl⟩ ⟨Nat.le_of_ble_eq_true rfl, Nat.le_of_ble_eq_true rfl⟩ ⟨Nat.le_refl _, Nat.le_refl _⟩ dX5_turnCells_46) (fun H locs hV => ?_)
  refine lv_iconst (v := 0) hx hb dX5_turnCells_49 (by decide) ?_
  refine lv_istore_n (lv' := [(2, .int (0 : Int32)), (0, .ref (ad 0)), (1, .int v1)]) hx hb dX5_turnCells_50 rfl hl (by decide) rfl (fun ls hl => ?_)
  exact tX5_turnCells_51 X hA gx_fuel _ _ _ h _ _ _ hV (lv_sub hl [1, 2, 0] rfl)
set_option maxHeartbeats 4000000 in
set_option maxRecDepth 20000 in
theorem tX5_turnCells_25 {p : Program} {l : Launch} {e : Env} {s : State} {m : MethodId} {args : Array Value} {below : List Frame} {meth : Method} {c : Code} {G : gG} {ad : Nat → Nat} {A : Nat → Prop} {z : Unit × gS} (X : gCx p s m args meth c G cX5_turnCells RX5 none 5) (hA : ∀ q, s.heap.size ≤ q → A q) (S : gS) (v1 : Int32) (t1 : Int32) (h : fX5_turnCells_25 S v1 t1 = some z) {H : Heap} {locs : List Loc} {ls : Array Slot} (hV : gV wdX G ad A s.heap S H locs) (hl : lv_has ls 5 [(0, .ref (ad 0)), (1, .int v1)]) : W p l e rmX5_turnCells s m args below meth c H locs 0 0 (MQ below (gQv wdX G ad A z) args s 0 0 A) (F0 m 25 ls [.int t1, .ref (ad 5)]) := by
  obtain ⟨hx, hb, hr, hml, hown, hts, hlk, hK⟩ := id X
  unfold fX5_turnCells_25 at h
  refine lv_iload_n hx hb dX5_turnCells_25 rfl (lv_at hl 1 rfl) ?_
  refine lv_if_eq (tgt := 39) hx hb dX5_turnCells_26 (by decide) (fun c_26 => ?_) (fun c_26 => ?_)
  · rw [if_pos c_26] at h
    refine lv_aload_n hx hb dX5_turnCells_39 rfl (lv_at hl 0 rfl) ?_
    refine ggX5_43 X hV (o := 0) rfl dX5_turnCells_40 ?_
    refine ggX5_252 X hV (o := 36) rfl dX5_turnCells_43 ?_
    exact tX5_turnCells_46 X hA _ _ _ _ h hV (lv_sub hl [0, 1] rfl)
  · rw [if_neg c_26] at h
    refine lv_aload_n hx hb dX5_turnCells_29 rfl (lv_at hl 0 rfl) ?_
    refine ggX5_43 X hV (o := 0) rfl dX5_turnCells_30 ?_
    refine ggX5_249 X hV (o := 36) rfl dX5_turnCells_33 ?_
    refine lv_goto (tgt := 46) hx hb dX5_turnCells_36 (by decide) ?_
    exact tX5_turnCells_46 X hA _ _ _ _ h hV (lv_sub hl [0, 1] rfl)
set_option maxHeartbeats 4000000 in
set_option maxRecDepth 20000 in
theorem mX5_turnCells (l : Launch) (G : gG) (ad : Nat → Nat) (sz : Nat) (S : gS) {v1 : Int32} {r : Unit} {S' : gS} (h : fX5_turnCells S v1 = some (r, S')) : gMetV l yX5_turnCells cX5_turnCells 5 none rmX5_turnCells wdX G ad S sz [.ref (ad 0), .int v1] r S' := by
  refine gMet_of (by decide) ?_
  intro p e s m below meth c A hA X hnm hV
  have hl := lv_entry ([.ref (ad 0), .int v1]) (n := 5) (Nat.le_of_ble_eq_true rfl)
  rw [lg_entry_eq]
  generalize (lg_sl ([.ref (ad 0), .int v1]) ++ List.replicate (5 - (lg_sl ([.ref (ad 0), .int v1])).length) Slot.unset).toArray = ls at hl ⊢
  have hl : lv_has ls 5 [(0, .ref (ad 0)), (1, .int v1)] := hl
  obtain ⟨hx, hb, hr, hml, hown, hts, hlk, hK⟩ := id X
  unfold fX5_turnCells at h
  generalize ([.ref (ad 0), .int v1].toArray : Array Value) = args at X ⊢
  have Y : ∀ (H : Heap) (locs : List Loc), gV wdX G ad A s.heap S H locs → W p l e rmX5_turnCells s m args below meth c H locs 0 0 (MQ below (gQv wdX G ad A (r, S')) args s 0 0 A) (F0 m 0 ls []) := by
    intro H locs hV
    refine lv_aload_n hx hb dX5_turnCells_0 rfl (lv_at hl 0 rfl) ?_
    refine ggX5_25 X hV (o := 0) rfl dX5_turnCells_1 ?_
    refine lv_iload_n hx hb dX5_turnCells_4 rfl (lv_at hl 1 rfl) ?_
    refine lv_if_eq (tgt := 18) hx hb dX5_turnCells_5 (by decide) (fun c_5 => ?_) (fun c_5 => ?_)
    · rw [if_pos c_5] at h
      refine lv_aload_n hx hb dX5_turnCells_18 rfl (lv_at hl 0 rfl) ?_
      refine ggX5_43 X hV (o := 0) rfl dX5_turnCells_19 ?_
      refine ggX5_249 X hV (o := 36) rfl dX5_turnCells_22 ?_
      exact tX5_turnCells_25 X hA _ _ _ h hV (lv_sub hl [0, 1] rfl)
    · rw [if_neg c_5] at h
      refine lv_aload_n hx hb dX5_turnCells_8 rfl (lv_at hl 0 rfl) ?_
      refine ggX5_43 X hV (o := 0) rfl dX5_turnCells_9 ?_
      refine ggX5_252 X hV (o := 36) rfl dX5_turnCells_12 ?_
      refine lv_goto (tgt := 25) hx hb dX5_turnCells_15 (by decide) ?_
      exact tX5_turnCells_25 X hA _ _ _ h hV (lv_sub hl [0, 1] rfl)
  exact Y _ _ hV
theorem kc_RX5_238 : gKV RX5 238 yX1_becomeCellsOf cX1_becomeCellsOf 2 none 1 := ⟨q_503, q_504, q_505, q_506, q_38, by decide +kernel⟩
theorem kc_RX5_245 : gKV RX5 245 yX5_turnCells cX5_turnCells 5 none 1 := ⟨q_508, q_510, q_17, q_511, q_36, by decide +kernel⟩
def fX5_turn_58 (S : gS) (t1 : Int32) : Option (Int32 × gS) :=
gx_bind (fX5_turnCells S t1) fun r58 S58 =>
gx_bind (fX2_forget S58) fun r65 S65 =>
some ((gI S65 5 5), S65)
def fX5_turn (S : gS) (v1 : Int32) : Option (Int32 × gS) :=
if v1 < 0 then (some ((-2 : Int32), S)) else
if v1 ≤ (1 : Int32) then (gx_bind (fX1_lies 5 S) fun r16 S16 =>
if r16 = 0 then (some ((-3 : Int32), S16)) else
gx_bind (fX1_becomeCellsOf 36 5 S16) fun r33 S33 =>
gx_bind (fX0_become 41 10 S33) fun r44 S44 =>
if v1 = (1 : Int32) then (fX5_turn_58 S44 (1 : Int32)) else
fX5_turn_58 S44 (0 : Int32)) else
some ((-2 : Int32), S)
def rmX5_turn : Room := { frames := 4, cells := 0, slots := 0, locals := 97 }
set_option maxHeartbeats 4000000 in
set_option maxRecDepth 20000 in
theorem tX5_turn_58 {p : Program} {l : Launch} {e : Env} {s : State} {m : MethodId} {args : Array Value} {below : List Frame} {meth : Method} {c : Code} {G : gG} {ad : Nat → Nat} {A : Nat → Prop} {z : Int32 × gS} (X : gCx p s m args meth c G cX5_turn RX5 (some .int) 2) (hA : ∀ q, s.heap.size ≤ q → A q) (S : gS) (t1 : Int32) (h : fX5_turn_58 S t1 = some z) {H : Heap} {locs : List Loc} {ls : Array Slot} (hV : gV wdX G ad A s.heap S H locs) (hl : lv_has ls 2 [(0, .ref (ad 0))]) : W p l e rmX5_turn s m args below meth c H locs 0 0 (MQ below (gQi wdX G ad A z) args s 0 0 A) (F0 m 58 ls [.int t1, .ref (ad 0)]) := by
  obtain ⟨hx, hb, hr, hml, hown, hts, hlk, hK⟩ := id X
  unfold fX5_turn_58 at h
  obtain ⟨r58, S58, k_58, h⟩ := gx_bind_e h
  refine gw_callv X hA hV (gw_runV X hV (o := 0) (As := [.int t1]) (rest := []) (mX5_turnCells l G ad _ S k_58) kc_RX5_245 (iXO_0 rfl) rfl rfl rfl hl.1 rfl (Nat.le_of_ble_eq_true rfl) ⟨rfl, rfl⟩ ⟨Nat.le_of_ble_eq_true rfl, Nat.le_of_ble_eq_true rfl⟩ ⟨Nat.le_refl _, Nat.le_refl _⟩ dX5_turn_58) (fun H locs hV => ?_)
  refine lv_aload_n hx hb dX5_turn_61 rfl (lv_at hl 0 rfl) ?_
  refine ggX5_39 X hV (o := 0) rfl dX5_turn_62 ?_
  obtain ⟨r65, S65, k_65, h⟩ := gx_bind_e h
  refine gw_callv X hA hV (gw_runV X hV (o := 14) (As := []) (rest := []) (mX2_forget l G ad _ S58 k_65) kc_RX5_122 (iXO_10 rfl) rfl rfl rfl hl.1 rfl (Nat.le_of_ble_eq_true rfl) ⟨rfl, rfl⟩ ⟨Nat.le_of_ble_eq_true rfl, Nat.le_of_ble_eq_true rfl⟩ ⟨Nat.le_refl _, Nat.le_refl _⟩ dX5_turn_65) (fun H locs hV => ?_)
  refine lv_aload_n hx hb dX5_turn_68 rfl (lv_at hl 0 rfl) ?_
  refine ggX5_25 X hV (o := 0) rfl dX5_turn_69 ?_
  refine ggX5_249 X hV (o := 5) rfl dX5_turn_72 ?_
  exact gw_ireti X hV h dX5_turn_75
set_option maxHeartbeats 4000000 in
set_option maxRecDepth 20000 in
theorem mX5_turn (l : Launch) (G : gG) (ad : Nat → Nat) (sz : Nat) (S : gS) {v1 : Int32} {r : Int32} {S' : gS} (h : fX5_turn S v1 = some (r, S')) : gMetI l yX5_turn cX5_turn 2 (some .int) rmX5_turn wdX G ad S sz [.ref (ad 0), .int v1] r S' := by
  refine gMet_of (by decide) ?_
  intro p e s m below meth c A hA X hnm hV
  have hl := lv_entry ([.ref (ad 0), .int v1]) (n := 2) (Nat.le_of_ble_eq_true rfl)
  rw [lg_entry_eq]
  generalize (lg_sl ([.ref (ad 0), .int v1]) ++ List.replicate (2 - (lg_sl ([.ref (ad 0), .int v1])).length) Slot.unset).toArray = ls at hl ⊢
  have hl : lv_has ls 2 [(0, .ref (ad 0)), (1, .int v1)] := hl
  obtain ⟨hx, hb, hr, hml, hown, hts, hlk, hK⟩ := id X
  unfold fX5_turn at h
  generalize ([.ref (ad 0), .int v1].toArray : Array Value) = args at X ⊢
  have Y : ∀ (H : Heap) (locs : List Loc), gV wdX G ad A s.heap S H locs → W p l e rmX5_turn s m args below meth c H locs 0 0 (MQ below (gQi wdX G ad A (r, S')) args s 0 0 A) (F0 m 0 ls []) := by
    intro H locs hV
    refine lv_iload_n hx hb dX5_turn_0 rfl (lv_at hl 1 rfl) ?_
    refine lv_if_lt (tgt := 9) hx hb dX5_turn_1 (by decide) (fun c_1 => ?_) (fun c_1 => ?_)
    · rw [if_pos c_1] at h
      refine lv_bipush (v := -2) hx hb dX5_turn_9 (by decide) ?_
      exact gw_ireti X hV h dX5_turn_11
    · rw [if_neg c_1] at h
      refine lv_iload_n hx hb dX5_turn_4 rfl (lv_at hl 1 rfl) ?_
      refine lv_iconst (v := 1) hx hb dX5_turn_5 (by decide) ?_
      refine lv_icmp_le (tgt := 12) hx hb dX5_turn_6 (by decide) (fun c_6 => ?_) (fun c_6 => ?_)
      · rw [if_pos c_6] at h
        refine lv_aload_n hx hb dX5_turn_12 rfl (lv_at hl 0 rfl) ?_
        refine ggX5_25 X hV (o := 0) rfl dX5_turn_13 ?_
        obtain ⟨r16, S16, k_16, h⟩ := gx_bind_e h
        refine gw_callI X hA hV (gw_runV X hV (o := 5) (As := []) (rest := []) (mX1_lies l G ad _ S rfl k_16) kc_RX5_210 (iXO_4 rfl) rfl rfl rfl hl.1 rfl (Nat.le_of_ble_eq_true rfl) ⟨rfl, rfl⟩ ⟨Nat.le_of_ble_eq_true rfl, Nat.le_of_ble_eq_true rfl⟩ ⟨Nat.le_refl _, Nat.le_refl _⟩ dX5_turn_16) (fun H locs hV => ?_)
        refine lv_if_ne (tgt := 25) hx hb dX5_turn_19 (by decide) (fun c_19 => ?_) (fun c_19 => ?_)
        · rw [if_neg c_19] at h
          refine lv_aload_n hx hb dX5_turn_25 rfl (lv_at hl 0 rfl) ?_
          refine ggX5_43 X hV (o := 0) rfl dX5_turn_26 ?_
          refine lv_aload_n hx hb dX5_turn_29 rfl (lv_at hl 0 rfl) ?_
          refine ggX5_25 X hV (o := 0) rfl dX5_turn_30 ?_
          obtain ⟨r33, S33, k_33, h⟩ := gx_bind_e h
          refine gw_callv X hA hV (gw_runV X hV (o := 36) (As := [.ref (ad 5)]) (rest := []) (mX1_becomeCellsOf l G ad _ S16 rfl rfl k_33) kc_RX5_238 (iXO_4 rfl) rfl rfl rfl hl.1 rfl (Nat.le_of_ble_eq_true rfl) ⟨rfl, rfl⟩ ⟨Nat.le_of_ble_eq_true rfl, Nat.le_of_ble_eq_true rfl⟩ ⟨Nat.le_refl _, Nat.le_refl _⟩ dX5_turn_33) (fun H locs hV => ?_)
          refine lv_aload_n hx hb dX5_turn_36 rfl (lv_at hl 0 rfl) ?_
          refine ggX5_46 X hV (o := 0) rfl dX5_turn_37 ?_
          refine lv_aload_n hx hb dX5_turn_40 rfl (lv_at hl 0 rfl) ?_
          refine ggX5_32 X hV (o := 0) rfl dX5_turn_41 ?_
          obtain ⟨r44, S44, k_44, h⟩ := gx_bind_e h
          refine gw_callv X hA hV (gw_runV X hV (o := 41) (As := [.ref (ad 10)]) (rest := []) (mX0_become l G ad _ S33 rfl rfl k_44) kc_RX5_242 (iXO_6 rfl) rfl rfl rfl hl.1 rfl (Nat.le_of_ble_eq_true rfl) ⟨rfl, rfl⟩ ⟨Nat.le_of_ble_eq_true rfl, Nat.le_of_ble_eq_true rfl⟩ ⟨Nat.le_refl _, Nat.le_refl _⟩ dX5_turn_44) (fun H locs hV => ?_)
          refine lv_aload_n hx hb dX5_turn_47 rfl (lv_at hl 0 rfl) ?_
          refine lv_iload_n hx hb dX5_turn_48 rfl (lv_at hl 1 rfl) ?_
          refine lv_iconst (v := 1) hx hb dX5_turn_49 (by decide) ?_
          refine lv_icmp_ne (tgt := 57) hx hb dX5_turn_50 (by decide) (fun c_50 => ?_) (fun c_50 => ?_)
          · rw [if_neg c_50] at h
            refine lv_iconst (v := 0) hx hb dX5_turn_57 (by decide) ?_
            exact tX5_turn_58 X hA _ _ h hV (lv_sub hl [0] rfl)
          · rw [if_pos c_50] at h
            refine lv_iconst (v := 1) hx hb dX5_turn_53 (by decide) ?_
            refine lv_goto (tgt := 58) hx hb dX5_turn_54 (by decide) ?_
            exact tX5_turn_58 X hA _ _ h hV (lv_sub hl [0] rfl)
        · rw [if_pos c_19] at h
          refine lv_bipush (v := -3) hx hb dX5_turn_22 (by decide) ?_
          exact gw_ireti X hV h dX5_turn_24
      · rw [if_neg c_6] at h
        refine lv_bipush (v := -2) hx hb dX5_turn_9 (by decide) ?_
        exact gw_ireti X hV h dX5_turn_11
  exact Y _ _ hV
def fX5_stripsThere_25 (K4 : gS → Int32 → Int32 → Option (Int32 × gS)) (S : gS) (v1 : Int32) (v2 : Int32) : Option (Int32 × gS) :=
gx_let (v2 + (1 : Int32)) fun v2_25 =>
K4 S v1 v2_25
def fX5_stripsThere_4L (K4 : gS → Int32 → Int32 → Option (Int32 × gS)) (S : gS) (v1 : Int32) (v2 : Int32) : Option (Int32 × gS) :=
if (8 : Int32) ≤ v2 then (some (v1, S)) else
gx_chk v2 8 <|
gx_let (47 + 2 * Int32.toNatClampNeg v2) fun w15 =>
if (gI S w15 1) = 0 then (gx_let (v1 + (1 : Int32)) fun v1_22 =>
fX5_stripsThere_25 K4 S v1_22 v2) else
fX5_stripsThere_25 K4 S v1 v2
def fX5_stripsThere_4 : Nat → gS → Int32 → Int32 → Option (Int32 × gS)
  | 0, _, _, _ => none
  | f + 1, S, v1, v2 => fX5_stripsThere_4L (fX5_stripsThere_4 f) S v1 v2
def fX5_stripsThere (S : gS) : Option (Int32 × gS) :=
fX5_stripsThere_4 gx_fuel S (0 : Int32) (0 : Int32)
def rmX5_stripsThere : Room := { frames := 0, cells := 0, slots := 0, locals := 0 }
set_option maxHeartbeats 4000000 in
set_option maxRecDepth 20000 in
theorem tX5_stripsThere_25 {p : Program} {l : Launch} {e : Env} {s : State} {m : MethodId} {args : Array Value} {below : List Frame} {meth : Method} {c : Code} {G : gG} {ad : Nat → Nat} {A : Nat → Prop} {z : Int32 × gS} {K4 : gS → Int32 → Int32 → Option (Int32 × gS)} (X : gCx p s m args meth c G cX5_stripsThere RX5 (some .int) 3) (hA : ∀ q, s.heap.size ≤ q → A q) (kK4 : ∀ (S : gS) (v1 : Int32) (v2 : Int32), K4 S v1 v2 = some z → ∀ (H : Heap) (locs : List Loc) (ls : Array Slot), gV wdX G ad A s.heap S H locs → lv_has ls 3 [(0, .ref (ad 0)), (1, .int v1), (2, .int v2)] → W p l e rmX5_stripsThere s m args below meth c H locs 0 0 (MQ below (gQi wdX G ad A z) args s 0 0 A) (F0 m 4 ls [])) (S : gS) (v1 : Int32) (v2 : Int32) (h : fX5_stripsThere_25 K4 S v1 v2 = some z) {H : Heap} {locs : List Loc} {ls : Array Slot} (hV : gV wdX G ad A s.heap S H locs) (hl : lv_has ls 3 [(0, .ref (ad 0)), (1, .int v1), (2, .int v2)]) : W p l e rmX5_stripsThere s m args below meth c H locs 0 0 (MQ below (gQi wdX G ad A z) args s 0 0 A) (F0 m 25 ls []) := by
  obtain ⟨hx, hb, hr, hml, hown, hts, hlk, hK⟩ := id X
  unfold fX5_stripsThere_25 at h
  obtain ⟨v2_25, e_25⟩ : ∃ y : Int32, y = (v2 + (1 : Int32)) := ⟨_, rfl⟩
  refine lv_iinc (v := v2_25) (lv' := [(2, .int v2_25), (0, .ref (ad 0)), (1, .int v1)]) hx hb dX5_stripsThere_25 hl (k := 2) rfl (by rw [e_25]; rfl) (by decide) rfl (fun ls hl => ?_)
  replace h := gx_let_e e_25 h
  clear e_25
  refine lv_goto (tgt := 4) hx hb dX5_stripsThere_28 (by decide) ?_
  exact kK4 _ _ _ h _ _ _ hV (lv_sub hl [1, 2, 0] rfl)
set_option maxHeartbeats 4000000 in
set_option maxRecDepth 20000 in
theorem tX5_stripsThere_4L {p : Program} {l : Launch} {e : Env} {s : State} {m : MethodId} {args : Array Value} {below : List Frame} {meth : Method} {c : Code} {G : gG} {ad : Nat → Nat} {A : Nat → Prop} {z : Int32 × gS} {K4 : gS → Int32 → Int32 → Option (Int32 × gS)} (X : gCx p s m args meth c G cX5_stripsThere RX5 (some .int) 3) (hA : ∀ q, s.heap.size ≤ q → A q) (kK4 : ∀ (S : gS) (v1 : Int32) (v2 : Int32), K4 S v1 v2 = some z → ∀ (H : Heap) (locs : List Loc) (ls : Array Slot), gV wdX G ad A s.heap S H locs → lv_has ls 3 [(0, .ref (ad 0)), (1, .int v1), (2, .int v2)] → W p l e rmX5_stripsThere s m args below meth c H locs 0 0 (MQ below (gQi wdX G ad A z) args s 0 0 A) (F0 m 4 ls [])) (S : gS) (v1 : Int32) (v2 : Int32) (h : fX5_stripsThere_4L K4 S v1 v2 = some z) {H : Heap} {locs : List Loc} {ls : Array Slot} (hV : gV wdX G ad A s.heap S H locs) (hl : lv_has ls 3 [(0, .ref (ad 0)), (1, .int v1), (2, .int v2)]) : W p l e rmX5_stripsThere s m args below meth c H locs 0 0 (MQ below (gQi wdX G ad A z) args s 0 0 A) (F0 m 4 ls []) := by
  obtain ⟨hx, hb, hr, hml, hown, hts, hlk, hK⟩ := id X
  unfold fX5_stripsThere_4L at h
  refine lv_iload_n hx hb dX5_stripsThere_4 rfl (lv_at hl 2 rfl) ?_
  refine lv_bipush (v := 8) hx hb dX5_stripsThere_5 (by decide) ?_
  refine lv_icmp_ge (tgt := 31) hx hb dX5_stripsThere_7 (by decide) (fun c_7 => ?_) (fun c_7 => ?_)
  · rw [if_pos c_7] at h
    refine lv_iload_n hx hb dX5_stripsThere_31 rfl (lv_at hl 1 rfl) ?_
    exact gw_ireti X hV h dX5_stripsThere_32
  · rw [if_neg c_7] at h
    refine lv_aload_n hx hb dX5_stripsThere_10 rfl (lv_at hl 0 rfl) ?_
    refine ggX5_11 X hV (o := 0) rfl dX5_stripsThere_11 ?_
    refine lv_iload_n hx hb dX5_stripsThere_14 rfl (lv_at hl 2 rfl) ?_
    obtain ⟨c_15, h⟩ := gx_chk_e h
    refine gw_aald X hV (iXQ_1 (o := 1) rfl) rfl c_15 dX5_stripsThere_15 (fun w15 e_15 => ?_)
    have f_w15 := kXq_1 e_15 c_15
    replace h := gx_let_e e_15 h
    clear e_15
    refine ggX5_72 X hV (o := w15) f_w15 dX5_stripsThere_16 ?_
    refine lv_if_ne (tgt := 25) hx hb dX5_stripsThere_19 (by decide) (fun c_19 => ?_) (fun c_19 => ?_)
    · rw [if_neg c_19] at h
      exact tX5_stripsThere_25 X hA kK4 _ _ _ h hV (lv_sub hl [0, 1, 2] rfl)
    · rw [if_pos c_19] at h
      obtain ⟨v1_22, e_22⟩ : ∃ y : Int32, y = (v1 + (1 : Int32)) := ⟨_, rfl⟩
      refine lv_iinc (v := v1_22) (lv' := [(1, .int v1_22), (0, .ref (ad 0)), (2, .int v2)]) hx hb dX5_stripsThere_22 hl (k := 1) rfl (by rw [e_22]; rfl) (by decide) rfl (fun ls hl => ?_)
      replace h := gx_let_e e_22 h
      clear e_22
      exact tX5_stripsThere_25 X hA kK4 _ _ _ h hV (lv_sub hl [1, 0, 2] rfl)
set_option maxHeartbeats 4000000 in
set_option maxRecDepth 20000 in
theorem tX5_stripsThere_4 {p : Program} {l : Launch} {e : Env} {s : State} {m : MethodId} {args : Array Value} {below : List Frame} {meth : Method} {c : Code} {G : gG} {ad : Nat → Nat} {A : Nat → Prop} {z : Int32 × gS} (X : gCx p s m args meth c G cX5_stripsThere RX5 (some .int) 3) (hA : ∀ q, s.heap.size ≤ q → A q) : ∀ (f : Nat) (S : gS) (v1 : Int32) (v2 : Int32) (h : fX5_stripsThere_4 f S v1 v2 = some z) (H : Heap) (locs : List Loc) (ls : Array Slot) (hV : gV wdX G ad A s.heap S H locs) (hl : lv_has ls 3 [(0, .ref (ad 0)), (1, .int v1), (2, .int v2)]), W p l e rmX5_stripsThere s m args below meth c H locs 0 0 (MQ below (gQi wdX G ad A z) args s 0 0 A) (F0 m 4 ls []) := by
  intro f
  induction f with
  | zero => intro S v1 v2 h; exact absurd h (by simp [fX5_stripsThere_4])
  | succ f ih => intro S v1 v2 h H locs ls hV hl; exact tX5_stripsThere_4L X hA ih S v1 v2 h hV hl
set_option maxHeartbeats 4000000 in
set_option maxRecDepth 20000 in
theorem mX5_stripsThere (l : Launch) (G : gG) (ad : Nat → Nat) (sz : Nat) (S : gS) {r : Int32} {S' : gS} (h : fX5_stripsThere S = some (r, S')) : gMetI l yX5_stripsThere cX5_stripsThere 3 (some .int) rmX5_stripsThere wdX G ad S sz [.ref (ad 0)] r S' := by
  refine gMet_of (by decide) ?_
  intro p e s m below meth c A hA X hnm hV
  have hl := lv_entry ([.ref (ad 0)]) (n := 3) (Nat.le_of_ble_eq_true rfl)
  rw [lg_entry_eq]
  generalize (lg_sl ([.ref (ad 0)]) ++ List.replicate (3 - (lg_sl ([.ref (ad 0)])).length) Slot.unset).toArray = ls at hl ⊢
  have hl : lv_has ls 3 [(0, .ref (ad 0))] := hl
  obtain ⟨hx, hb, hr, hml, hown, hts, hlk, hK⟩ := id X
  unfold fX5_stripsThere at h
  generalize ([.ref (ad 0)].toArray : Array Value) = args at X ⊢
  have Y : ∀ (H : Heap) (locs : List Loc), gV wdX G ad A s.heap S H locs → W p l e rmX5_stripsThere s m args below meth c H locs 0 0 (MQ below (gQi wdX G ad A (r, S')) args s 0 0 A) (F0 m 0 ls []) := by
    intro H locs hV
    refine lv_iconst (v := 0) hx hb dX5_stripsThere_0 (by decide) ?_
    refine lv_istore_n (lv' := [(1, .int (0 : Int32)), (0, .ref (ad 0))]) hx hb dX5_stripsThere_1 rfl hl (by decide) rfl (fun ls hl => ?_)
    refine lv_iconst (v := 0) hx hb dX5_stripsThere_2 (by decide) ?_
    refine lv_istore_n (lv' := [(2, .int (0 : Int32)), (1, .int (0 : Int32)), (0, .ref (ad 0))]) hx hb dX5_stripsThere_3 rfl hl (by decide) rfl (fun ls hl => ?_)
    exact tX5_stripsThere_4 X hA gx_fuel _ _ _ h _ _ _ hV (lv_sub hl [2, 1, 0] rfl)
  exact Y _ _ hV
theorem kc_RX5_258 : gKV RX5 258 yX5_stripsThere cX5_stripsThere 3 (some .int) 0 := ⟨q_528, q_530, q_19, q_531, q_36, by decide +kernel⟩
def fX5_count (S : gS) (v1 : Int32) : Option (Int32 × gS) :=
if v1 = 0 then (some ((gI S 5 5), S)) else
if v1 = 1 then (some ((gI S 5 6), S)) else
if v1 = 2 then (some ((gI S 10 3), S)) else
if v1 = 3 then (some ((gI S 14 2), S)) else
if v1 = 4 then (some ((gI S 0 9), S)) else
if v1 = 5 then (gx_bind (fX1_cliffs 5 S) fun r85 S85 =>
some (r85, S85)) else
if v1 = 6 then (gx_bind (fX5_stripsThere S) fun r90 S90 =>
some (r90, S90)) else
some ((-2 : Int32), S)
def rmX5_count : Room := { frames := 1, cells := 0, slots := 0, locals := 22 }
set_option maxHeartbeats 4000000 in
set_option maxRecDepth 20000 in
theorem mX5_count (l : Launch) (G : gG) (ad : Nat → Nat) (sz : Nat) (S : gS) {v1 : Int32} {r : Int32} {S' : gS} (h : fX5_count S v1 = some (r, S')) : gMetI l yX5_count cX5_count 2 (some .int) rmX5_count wdX G ad S sz [.ref (ad 0), .int v1] r S' := by
  refine gMet_of (by decide) ?_
  intro p e s m below meth c A hA X hnm hV
  have hl := lv_entry ([.ref (ad 0), .int v1]) (n := 2) (Nat.le_of_ble_eq_true rfl)
  rw [lg_entry_eq]
  generalize (lg_sl ([.ref (ad 0), .int v1]) ++ List.replicate (2 - (lg_sl ([.ref (ad 0), .int v1])).length) Slot.unset).toArray = ls at hl ⊢
  have hl : lv_has ls 2 [(0, .ref (ad 0)), (1, .int v1)] := hl
  obtain ⟨hx, hb, hr, hml, hown, hts, hlk, hK⟩ := id X
  unfold fX5_count at h
  generalize ([.ref (ad 0), .int v1].toArray : Array Value) = args at X ⊢
  have Y : ∀ (H : Heap) (locs : List Loc), gV wdX G ad A s.heap S H locs → W p l e rmX5_count s m args below meth c H locs 0 0 (MQ below (gQi wdX G ad A (r, S')) args s 0 0 A) (F0 m 0 ls []) := by
    intro H locs hV
    refine lv_iload_n hx hb dX5_count_0 rfl (lv_at hl 1 rfl) ?_
    by_cases c_1_0 : v1 = 0
    · rw [if_pos c_1_0] at h
      refine lv_tableIn (off := 43) (tgt := 44) hx hb dX5_count_1 (by rw [c_1_0]; decide) (by rw [c_1_0]; decide) (by rw [c_1_0]; rfl) (by decide) ?_
      refine lv_aload_n hx hb dX5_count_44 rfl (lv_at hl 0 rfl) ?_
      refine ggX5_25 X hV (o := 0) rfl dX5_count_45 ?_
      refine ggX5_249 X hV (o := 5) rfl dX5_count_48 ?_
      exact gw_ireti X hV h dX5_count_51
    · rw [if_neg c_1_0] at h
      by_cases c_1_1 : v1 = 1
      · rw [if_pos c_1_1] at h
        refine lv_tableIn (off := 51) (tgt := 52) hx hb dX5_count_1 (by rw [c_1_1]; decide) (by rw [c_1_1]; decide) (by rw [c_1_1]; rfl) (by decide) ?_
        refine lv_aload_n hx hb dX5_count_52 rfl (lv_at hl 0 rfl) ?_
        refine ggX5_25 X hV (o := 0) rfl dX5_count_53 ?_
        refine ggX5_252 X hV (o := 5) rfl dX5_count_56 ?_
        exact gw_ireti X hV h dX5_count_59
      · rw [if_neg c_1_1] at h
        by_cases c_1_2 : v1 = 2
        · rw [if_pos c_1_2] at h
          refine lv_tableIn (off := 59) (tgt := 60) hx hb dX5_count_1 (by rw [c_1_2]; decide) (by rw [c_1_2]; decide) (by rw [c_1_2]; rfl) (by decide) ?_
          refine lv_aload_n hx hb dX5_count_60 rfl (lv_at hl 0 rfl) ?_
          refine ggX5_32 X hV (o := 0) rfl dX5_count_61 ?_
          refine ggX5_160 X hV (o := 10) rfl dX5_count_64 ?_
          exact gw_ireti X hV h dX5_count_67
        · rw [if_neg c_1_2] at h
          by_cases c_1_3 : v1 = 3
          · rw [if_pos c_1_3] at h
            refine lv_tableIn (off := 67) (tgt := 68) hx hb dX5_count_1 (by rw [c_1_3]; decide) (by rw [c_1_3]; decide) (by rw [c_1_3]; rfl) (by decide) ?_
            refine lv_aload_n hx hb dX5_count_68 rfl (lv_at hl 0 rfl) ?_
            refine ggX5_39 X hV (o := 0) rfl dX5_count_69 ?_
            refine ggX5_177 X hV (o := 14) rfl dX5_count_72 ?_
            exact gw_ireti X hV h dX5_count_75
          · rw [if_neg c_1_3] at h
            by_cases c_1_4 : v1 = 4
            · rw [if_pos c_1_4] at h
              refine lv_tableIn (off := 75) (tgt := 76) hx hb dX5_count_1 (by rw [c_1_4]; decide) (by rw [c_1_4]; decide) (by rw [c_1_4]; rfl) (by decide) ?_
              refine lv_aload_n hx hb dX5_count_76 rfl (lv_at hl 0 rfl) ?_
              refine ggX5_255 X hV (o := 0) rfl dX5_count_77 ?_
              exact gw_ireti X hV h dX5_count_80
            · rw [if_neg c_1_4] at h
              by_cases c_1_5 : v1 = 5
              · rw [if_pos c_1_5] at h
                refine lv_tableIn (off := 80) (tgt := 81) hx hb dX5_count_1 (by rw [c_1_5]; decide) (by rw [c_1_5]; decide) (by rw [c_1_5]; rfl) (by decide) ?_
                refine lv_aload_n hx hb dX5_count_81 rfl (lv_at hl 0 rfl) ?_
                refine ggX5_25 X hV (o := 0) rfl dX5_count_82 ?_
                obtain ⟨r85, S85, k_85, h⟩ := gx_bind_e h
                refine gw_callI X hA hV (gw_runV X hV (o := 5) (As := []) (rest := []) (mX1_cliffs l G ad _ S rfl k_85) kc_RX5_125 (iXO_4 rfl) rfl rfl rfl hl.1 rfl (Nat.le_of_ble_eq_true rfl) ⟨rfl, rfl⟩ ⟨Nat.le_of_ble_eq_true rfl, Nat.le_of_ble_eq_true rfl⟩ ⟨Nat.le_refl _, Nat.le_refl _⟩ dX5_count_85) (fun H locs hV => ?_)
                exact gw_ireti X hV h dX5_count_88
              · rw [if_neg c_1_5] at h
                by_cases c_1_6 : v1 = 6
                · rw [if_pos c_1_6] at h
                  refine lv_tableIn (off := 88) (tgt := 89) hx hb dX5_count_1 (by rw [c_1_6]; decide) (by rw [c_1_6]; decide) (by rw [c_1_6]; rfl) (by decide) ?_
                  refine lv_aload_n hx hb dX5_count_89 rfl (lv_at hl 0 rfl) ?_
                  obtain ⟨r90, S90, k_90, h⟩ := gx_bind_e h
                  refine gw_callI X hA hV (gw_runV X hV (o := 0) (As := []) (rest := []) (mX5_stripsThere l G ad _ S k_90) kc_RX5_258 (iXO_0 rfl) rfl rfl rfl hl.1 rfl (Nat.le_of_ble_eq_true rfl) ⟨rfl, rfl⟩ ⟨Nat.le_of_ble_eq_true rfl, Nat.le_of_ble_eq_true rfl⟩ ⟨Nat.le_refl _, Nat.le_refl _⟩ dX5_count_90) (fun H locs hV => ?_)
                  exact gw_ireti X hV h dX5_count_93
                · rw [if_neg c_1_6] at h
                  refine lv_tableOut (tgt := 94) hx hb dX5_count_1 (g_tabOut 7 (fun j hj => by
                    match j, hj with
                    | 0, _ => exact c_1_0
                    | 1, _ => exact c_1_1
                    | 2, _ => exact c_1_2
                    | 3, _ => exact c_1_3
                    | 4, _ => exact c_1_4
                    | 5, _ => exact c_1_5
                    | 6, _ => exact c_1_6
                    | j + 7, hj => omega)) (by decide) ?_
                  refine lv_bipush (v := -2) hx hb dX5_count_94 (by decide) ?_
                  exact gw_ireti X hV h dX5_count_96
  exact Y _ _ hV

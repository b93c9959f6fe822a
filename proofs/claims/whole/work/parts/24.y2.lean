def fX6_beside_47 (S : gS) (v3 : Int32) (t0 : Int32) (t1 : Int32) : Option (Int32 × gS) :=
gx_let (t0 + t1) fun v4_48 =>
gx_bind (fX6_isPlace S v3 v4_48) fun r54 S54 =>
if r54 = 0 then (some ((-9 : Int32), S54)) else
some ((((8 : Int32) * v4_48) + v3), S54)
def fX6_beside_23 (S : gS) (v1 : Int32) (v2 : Int32) (t0 : Int32) (t1 : Int32) : Option (Int32 × gS) :=
gx_let (t0 + t1) fun v3_24 =>
if v2 = (2 : Int32) then (fX6_beside_47 S v3_24 (v1 / (8 : Int32)) (1 : Int32)) else
if v2 = 0 then (fX6_beside_47 S v3_24 (v1 / (8 : Int32)) (-1 : Int32)) else
fX6_beside_47 S v3_24 (v1 / (8 : Int32)) (0 : Int32)
def fX6_beside (S : gS) (v1 : Int32) (v2 : Int32) : Option (Int32 × gS) :=
if v2 = (1 : Int32) then (fX6_beside_23 S v1 v2 (v1 - v1 / (8 : Int32) * (8 : Int32)) (1 : Int32)) else
if v2 = (3 : Int32) then (fX6_beside_23 S v1 v2 (v1 - v1 / (8 : Int32) * (8 : Int32)) (-1 : Int32)) else
fX6_beside_23 S v1 v2 (v1 - v1 / (8 : Int32) * (8 : Int32)) (0 : Int32)
def rmX6_beside : Room := { frames := 2, cells := 0, slots := 0, locals := 47 }
set_option maxHeartbeats 4000000 in
set_option maxRecDepth 20000 in
theorem tX6_beside_47 {p : Program} {l : Launch} {e : Env} {s : State} {m : MethodId} {args : Array Value} {below : List Frame} {meth : Method} {c : Code} {G : gG} {ad : Nat → Nat} {A : Nat → Prop} {z : Int32 × gS} (X : gCx p s m args meth c G cX6_beside RX6 (some .int) 5) (hA : ∀ q, s.heap.size ≤ q → A q) (S : gS) (v3 : Int32) (t0 : Int32) (t1 : Int32) (h : fX6_beside_47 S v3 t0 t1 = some z) {H : Heap} {locs : List Loc} {ls : Array Slot} (hV : gV wdY G ad A s.heap S H locs) (hl : lv_has ls 5 [(0, .ref (ad 0)), (3, .int v3)]) : W p l e rmX6_beside s m args below meth c H locs 0 0 (MQ below (gQi wdY G ad A z) args s 0 0 A) (F0 m 47 ls [.int t1, .int t0]) := by
  obtain ⟨hx, hb, hr, hml, hown, hts, hlk, hK⟩ := id X
  unfold fX6_beside_47 at h
  refine lv_iadd hx hb dX6_beside_47 ?_
  refine lv_topi (fun v4_48 e_48 => ?_)
  replace h := gx_let_e e_48 h
  clear e_48
  refine lv_istore (lv' := [(4, .int v4_48), (0, .ref (ad 0)), (3, .int v3)]) hx hb dX6_beside_48 hl (by decide) rfl (fun ls hl => ?_)
  refine lv_aload_n hx hb dX6_beside_50 rfl (lv_at hl 1 rfl) ?_
  refine lv_iload_n hx hb dX6_beside_51 rfl (lv_at hl 2 rfl) ?_
  refine lv_iload hx hb dX6_beside_52 (lv_at hl 0 rfl) ?_
  obtain ⟨r54, S54, k_54, h⟩ := gx_bind_e h
  refine gw_callI X hA hV (gw_runV X hV (o := 0) (As := [.int v3, .int v4_48]) (rest := []) (mX6_isPlace l G ad _ S k_54) kc_RX6_115 (iYO_0 rfl) rfl rfl rfl hl.1 rfl (Nat.le_of_ble_eq_true rfl) ⟨rfl, rfl⟩ ⟨Nat.le_of_ble_eq_true rfl, Nat.le_of_ble_eq_true rfl⟩ ⟨Nat.le_refl _, Nat.le_refl _⟩ dX6_beside_54) (fun H locs hV => ?_)
  refine lv_if_eq (tgt := 70) hx hb dX6_beside_57 (by decide) (fun c_57 => ?_) (fun c_57 => ?_)
  · rw [if_pos c_57] at h
    refine lv_bipush (v := -9) hx hb dX6_beside_70 (by decide) ?_
    exact gw_ireti X hV h dX6_beside_72
  · rw [if_neg c_57] at h
    refine lv_bipush (v := 8) hx hb dX6_beside_60 (by decide) ?_
    refine lv_iload hx hb dX6_beside_62 (lv_at hl 0 rfl) ?_
    refine lv_imul hx hb dX6_beside_64 ?_
    refine lv_iload_n hx hb dX6_beside_65 rfl (lv_at hl 2 rfl) ?_
    refine lv_iadd hx hb dX6_beside_66 ?_
    refine lv_goto (tgt := 72) hx hb dX6_beside_67 (by decide) ?_
    exact gw_ireti X hV h dX6_beside_72
set_option maxHeartbeats 4000000 in
set_option maxRecDepth 20000 in
theorem tX6_beside_23 {p : Program} {l : Launch} {e : Env} {s : State} {m : MethodId} {args : Array Value} {below : List Frame} {meth : Method} {c : Code} {G : gG} {ad : Nat → Nat} {A : Nat → Prop} {z : Int32 × gS} (X : gCx p s m args meth c G cX6_beside RX6 (some .int) 5) (hA : ∀ q, s.heap.size ≤ q → A q) (S : gS) (v1 : Int32) (v2 : Int32) (t0 : Int32) (t1 : Int32) (h : fX6_beside_23 S v1 v2 t0 t1 = some z) {H : Heap} {locs : List Loc} {ls : Array Slot} (hV : gV wdY G ad A s.heap S H locs) (hl : lv_has ls 5 [(0, .ref (ad 0)), (1, .int v1), (2, .int v2)]) : W p l e rmX6_beside s m args below meth c H locs 0 0 (MQ below (gQi wdY G ad A z) args s 0 0 A) (F0 m 23 ls [.int t1, .int t0]) := by
  obtain ⟨hx, hb, hr, hml, hown, hts, hlk, hK⟩ := id X
  unfold fX6_beside_23 at h
  refine lv_iadd hx hb dX6_beside_23 ?_
  refine lv_topi (fun v3_24 e_24 => ?_)
  replace h := gx_let_e e_24 h
  clear e_24
  refine lv_istore_n (lv' := [(3, .int v3_24), (0, .ref (ad 0)), (1, .int v1), (2, .int v2)]) hx hb dX6_beside_24 rfl hl (by decide) rfl (fun ls hl => ?_)
  refine lv_iload_n hx hb dX6_beside_25 rfl (lv_at hl 2 rfl) ?_
  refine lv_bipush (v := 8) hx hb dX6_beside_26 (by decide) ?_
  refine lv_idiv hx hb dX6_beside_28 (by decide) ?_
  refine lv_iload_n hx hb dX6_beside_29 rfl (lv_at hl 3 rfl) ?_
  refine lv_iconst (v := 2) hx hb dX6_beside_30 (by decide) ?_
  refine lv_icmp_ne (tgt := 38) hx hb dX6_beside_31 (by decide) (fun c_31 => ?_) (fun c_31 => ?_)
  · rw [if_neg c_31] at h
    refine lv_iload_n hx hb dX6_beside_38 rfl (lv_at hl 3 rfl) ?_
    refine lv_if_ne (tgt := 46) hx hb dX6_beside_39 (by decide) (fun c_39 => ?_) (fun c_39 => ?_)
    · rw [if_neg c_39] at h
      refine lv_iconst (v := 0) hx hb dX6_beside_46 (by decide) ?_
      exact tX6_beside_47 X hA _ _ _ _ h hV (lv_sub hl [1, 0] rfl)
    · rw [if_pos c_39] at h
      refine lv_iconst (v := -1) hx hb dX6_beside_42 (by decide) ?_
      refine lv_goto (tgt := 47) hx hb dX6_beside_43 (by decide) ?_
      exact tX6_beside_47 X hA _ _ _ _ h hV (lv_sub hl [1, 0] rfl)
  · rw [if_pos c_31] at h
    refine lv_iconst (v := 1) hx hb dX6_beside_34 (by decide) ?_
    refine lv_goto (tgt := 47) hx hb dX6_beside_35 (by decide) ?_
    exact tX6_beside_47 X hA _ _ _ _ h hV (lv_sub hl [1, 0] rfl)
set_option maxHeartbeats 4000000 in
set_option maxRecDepth 20000 in
theorem mX6_beside (l : Launch) (G : gG) (ad : Nat → Nat) (sz : Nat) (S : gS) {v1 : Int32} {v2 : Int32} {r : Int32} {S' : gS} (h : fX6_beside S v1 v2 = some (r, S')) : gMetI l yX6_beside cX6_beside 5 (some .int) rmX6_beside wdY G ad S sz [.ref (ad 0), .int v1, .int v2] r S' := by
  refine gMet_of (by decide) ?_
  intro p e s m below meth c A hA X hnm hV
  have hl := lv_entry ([.ref (ad 0), .int v1, .int v2]) (n := 5) (Nat.le_of_ble_eq_true rfl)
  rw [lg_entry_eq]
  generalize (lg_sl ([.ref (ad 0), .int v1, .int v2]) ++ List.replicate (5 - (lg_sl ([.ref (ad 0), .int v1, .int v2])).length) Slot.unset).toArray = ls at hl ⊢
  have hl : lv_has ls 5 [(0, .ref (ad 0)), (1, .int v1), (2, .int v2)] := hl
  obtain ⟨hx, hb, hr, hml, hown, hts, hlk, hK⟩ := id X
  unfold fX6_beside at h
  generalize ([.ref (ad 0), .int v1, .int v2].toArray : Array Value) = args at X ⊢
  have Y : ∀ (H : Heap) (locs : List Loc), gV wdY G ad A s.heap S H locs → W p l e rmX6_beside s m args below meth c H locs 0 0 (MQ below (gQi wdY G ad A (r, S')) args s 0 0 A) (F0 m 0 ls []) := by
    intro H locs hV
    refine lv_iload_n hx hb dX6_beside_0 rfl (lv_at hl 1 rfl) ?_
    refine lv_bipush (v := 8) hx hb dX6_beside_1 (by decide) ?_
    refine lv_irem hx hb dX6_beside_3 (by decide) ?_
    refine lv_iload_n hx hb dX6_beside_4 rfl (lv_at hl 2 rfl) ?_
    refine lv_iconst (v := 1) hx hb dX6_beside_5 (by decide) ?_
    refine lv_icmp_ne (tgt := 13) hx hb dX6_beside_6 (by decide) (fun c_6 => ?_) (fun c_6 => ?_)
    · rw [if_neg c_6] at h
      refine lv_iload_n hx hb dX6_beside_13 rfl (lv_at hl 2 rfl) ?_
      refine lv_iconst (v := 3) hx hb dX6_beside_14 (by decide) ?_
      refine lv_icmp_ne (tgt := 22) hx hb dX6_beside_15 (by decide) (fun c_15 => ?_) (fun c_15 => ?_)
      · rw [if_neg c_15] at h
        refine lv_iconst (v := 0) hx hb dX6_beside_22 (by decide) ?_
        exact tX6_beside_23 X hA _ _ _ _ _ h hV (lv_sub hl [0, 1, 2] rfl)
      · rw [if_pos c_15] at h
        refine lv_iconst (v := -1) hx hb dX6_beside_18 (by decide) ?_
        refine lv_goto (tgt := 23) hx hb dX6_beside_19 (by decide) ?_
        exact tX6_beside_23 X hA _ _ _ _ _ h hV (lv_sub hl [0, 1, 2] rfl)
    · rw [if_pos c_6] at h
      refine lv_iconst (v := 1) hx hb dX6_beside_9 (by decide) ?_
      refine lv_goto (tgt := 23) hx hb dX6_beside_10 (by decide) ?_
      exact tX6_beside_23 X hA _ _ _ _ _ h hV (lv_sub hl [0, 1, 2] rfl)
  exact Y _ _ hV
def fX6_lesser (S : gS) (v0 : Int64) (v2 : Int64) : Option (Int64 × gS) :=
if v2 ≤ v0 then (some (v2, S)) else
some (v0, S)
def rmX6_lesser : Room := { frames := 0, cells := 0, slots := 0, locals := 0 }
set_option maxHeartbeats 4000000 in
set_option maxRecDepth 20000 in
theorem mX6_lesser (l : Launch) (G : gG) (ad : Nat → Nat) (sz : Nat) (S : gS) {v0 : Int64} {v2 : Int64} {r : Int64} {S' : gS} (h : fX6_lesser S v0 v2 = some (r, S')) : gMetL l yX6_lesser cX6_lesser 4 (some .long) rmX6_lesser wdY G ad S sz [.long v0, .long v2] r S' := by
  refine gMet_of (by decide) ?_
  intro p e s m below meth c A hA X hnm hV
  have hl := lv_entry ([.long v0, .long v2]) (n := 4) (Nat.le_of_ble_eq_true rfl)
  rw [lg_entry_eq]
  generalize (lg_sl ([.long v0, .long v2]) ++ List.replicate (4 - (lg_sl ([.long v0, .long v2])).length) Slot.unset).toArray = ls at hl ⊢
  have hl : lv_has ls 4 [(0, .long v0), (2, .long v2)] := hl
  obtain ⟨hx, hb, hr, hml, hown, hts, hlk, hK⟩ := id X
  unfold fX6_lesser at h
  generalize ([.long v0, .long v2].toArray : Array Value) = args at X ⊢
  have Y : ∀ (H : Heap) (locs : List Loc), gV wdY G ad A s.heap S H locs → W p l e rmX6_lesser s m args below meth c H locs 0 0 (MQ below (gQl wdY G ad A (r, S')) args s 0 0 A) (F0 m 0 ls []) := by
    intro H locs hV
    refine lv_lload_n hx hb dX6_lesser_0 rfl (lv_at hl 0 rfl) ?_
    refine lv_lload_n hx hb dX6_lesser_1 rfl (lv_at hl 1 rfl) ?_
    refine gw_cmp_ge (tgt := 10) X dX6_lesser_2 dX6_lesser_3 (by decide) (fun c_2 => ?_) (fun c_2 => ?_)
    · rw [if_pos c_2] at h
      refine lv_lload_n hx hb dX6_lesser_10 rfl (lv_at hl 1 rfl) ?_
      exact gw_lret X hV h dX6_lesser_11
    · rw [if_neg c_2] at h
      refine lv_lload_n hx hb dX6_lesser_6 rfl (lv_at hl 0 rfl) ?_
      refine lv_goto (tgt := 11) hx hb dX6_lesser_7 (by decide) ?_
      exact gw_lret X hV h dX6_lesser_11
  exact Y _ _ hV
theorem kc_RX6_143 : gKV RX6 143 yX6_beside cX6_beside 5 (some .int) 2 := ⟨q_734, q_736, q_29, q_737, q_42, by decide +kernel⟩
theorem kc_RX6_147 : gKS RX6 147 yX6_lesser cX6_lesser 4 (some .long) 2 := ⟨q_723, q_724, q_725, q_42, by decide +kernel⟩
def fX6_given_104 (S : gS) (v4 : Int64) (v6 : Int64) (t0 : Int64) : Option (Int64 × gS) :=
gx_bind (fX6_lesser S (Int32.toInt64 (gI S 0 16)) v4) fun r118 S118 =>
gx_let (((t0 * v6) * r118) / (100 : Int64)) fun v10_126 =>
gx_bind (fX6_lesser S118 (v6 / (8 : Int64)) (v4 / (8 : Int64))) fun r142 S142 =>
gx_bind (fX6_lesser S142 v10_126 r142) fun r145 S145 =>
some (r145, S145)
def fX6_given_68 (S : gS) (v1 : Int32) (v4 : Int64) (t0 : Int64) : Option (Int64 × gS) :=
if (0 : Int64) < t0 then (gx_chk v1 64 <|
if (gA S 5 (Int32.toNatClampNeg v1)) = (1 : Int32) then (gx_chk v1 64 <|
fX6_given_104 S v4 t0 (Int32.toInt64 (gA S 6 (Int32.toNatClampNeg v1)))) else
fX6_given_104 S v4 t0 (Int32.toInt64 (gI S 0 15))) else
some ((0 : Int64), S)
def fX6_given (S : gS) (v1 : Int32) (v2 : Int32) : Option (Int64 × gS) :=
gx_bind (fX6_beside S v1 v2) fun r3 S3 =>
gx_bind (fX6_thick S3 v1) fun r9 S9 =>
if r3 = (-9 : Int32) then (some ((0 : Int64), S9)) else
if r9 = (0 : Int64) then (some ((0 : Int64), S9)) else
gx_chk r3 64 <|
if (gA S9 5 (Int32.toNatClampNeg r3)) = (4 : Int32) then (fX6_given_68 S9 v1 r9 r9) else
gx_chk v1 64 <|
gx_chk r3 64 <|
gx_bind (fX6_thick S9 r3) fun r64 S64 =>
fX6_given_68 S64 v1 r9 ((((Int32.toInt64 (gA S9 7 (Int32.toNatClampNeg v1))) + r9) - (Int32.toInt64 (gA S9 7 (Int32.toNatClampNeg r3)))) - r64)
def rmX6_given : Room := { frames := 3, cells := 0, slots := 0, locals := 71 }
set_option maxHeartbeats 4000000 in
set_option maxRecDepth 20000 in
theorem tX6_given_104 {p : Program} {l : Launch} {e : Env} {s : State} {m : MethodId} {args : Array Value} {below : List Frame} {meth : Method} {c : Code} {G : gG} {ad : Nat → Nat} {A : Nat → Prop} {z : Int64 × gS} (X : gCx p s m args meth c G cX6_given RX6 (some .long) 12) (hA : ∀ q, s.heap.size ≤ q → A q) (S : gS) (v4 : Int64) (v6 : Int64) (t0 : Int64) (h : fX6_given_104 S v4 v6 t0 = some z) {H : Heap} {locs : List Loc} {ls : Array Slot} (hV : gV wdY G ad A s.heap S H locs) (hl : lv_has ls 12 [(0, .ref (ad 0)), (4, .long v4), (6, .long v6)]) : W p l e rmX6_given s m args below meth c H locs 0 0 (MQ below (gQl wdY G ad A z) args s 0 0 A) (F0 m 104 ls [.long t0]) := by
  obtain ⟨hx, hb, hr, hml, hown, hts, hlk, hK⟩ := id X
  unfold fX6_given_104 at h
  refine lv_lstore (lv' := [(8, .long t0), (0, .ref (ad 0)), (4, .long v4), (6, .long v6)]) hx hb dX6_given_104 hl (by decide) rfl (fun ls hl => ?_)
  refine lv_lload hx hb dX6_given_106 (lv_at hl 0 rfl) ?_
  refine lv_lload hx hb dX6_given_108 (lv_at hl 3 rfl) ?_
  refine lv_lmul hx hb dX6_given_110 ?_
  refine lv_aload_n hx hb dX6_given_111 rfl (lv_at hl 1 rfl) ?_
  refine ggX6_44 X hV (o := 0) rfl dX6_given_112 ?_
  refine lv_i2l hx hb dX6_given_115 rfl ?_
  refine lv_lload hx hb dX6_given_116 (lv_at hl 2 rfl) ?_
  obtain ⟨r118, S118, k_118, h⟩ := gx_bind_e h
  refine gw_callL X hA hV (gw_runS X hV (As := [.long (Int32.toInt64 (gI S 0 16)), .long v4]) (rest := [.long (t0 * v6)]) (mX6_lesser l G ad _ S k_118) kc_RX6_147 rfl hl.1 rfl (Nat.le_of_ble_eq_true rfl) ⟨rfl, rfl⟩ ⟨Nat.le_of_ble_eq_true rfl, Nat.le_of_ble_eq_true rfl⟩ ⟨Nat.le_refl _, Nat.le_refl _⟩ dX6_given_118) (fun H locs hV => ?_)
  refine lv_lmul hx hb dX6_given_121 ?_
  refine lv_ldc2 (v := 100) hx hb hown (hts _ q_672) dX6_given_122 ?_
  refine lv_ldiv hx hb dX6_given_125 (by decide) ?_
  refine lv_topl (fun v10_126 e_126 => ?_)
  replace h := gx_let_e e_126 h
  clear e_126
  refine lv_lstore (lv' := [(10, .long v10_126), (8, .long t0), (0, .ref (ad 0)), (4, .long v4), (6, .long v6)]) hx hb dX6_given_126 hl (by decide) rfl (fun ls hl => ?_)
  refine lv_lload hx hb dX6_given_128 (lv_at hl 0 rfl) ?_
  refine lv_lload hx hb dX6_given_130 (lv_at hl 4 rfl) ?_
  refine lv_ldc2 (v := 8) hx hb hown (hts _ q_661) dX6_given_132 ?_
  refine lv_ldiv hx hb dX6_given_135 (by decide) ?_
  refine lv_lload hx hb dX6_given_136 (lv_at hl 3 rfl) ?_
  refine lv_ldc2 (v := 8) hx hb hown (hts _ q_661) dX6_given_138 ?_
  refine lv_ldiv hx hb dX6_given_141 (by decide) ?_
  obtain ⟨r142, S142, k_142, h⟩ := gx_bind_e h
  refine gw_callL X hA hV (gw_runS X hV (As := [.long (v6 / (8 : Int64)), .long (v4 / (8 : Int64))]) (rest := [.long v10_126]) (mX6_lesser l G ad _ S118 k_142) kc_RX6_147 rfl hl.1 rfl (Nat.le_of_ble_eq_true rfl) ⟨rfl, rfl⟩ ⟨Nat.le_of_ble_eq_true rfl, Nat.le_of_ble_eq_true rfl⟩ ⟨Nat.le_refl _, Nat.le_refl _⟩ dX6_given_142) (fun H locs hV => ?_)
  obtain ⟨r145, S145, k_145, h⟩ := gx_bind_e h
  refine gw_callL X hA hV (gw_runS X hV (As := [.long v10_126, .long r142]) (rest := []) (mX6_lesser l G ad _ S142 k_145) kc_RX6_147 rfl hl.1 rfl (Nat.le_of_ble_eq_true rfl) ⟨rfl, rfl⟩ ⟨Nat.le_of_ble_eq_true rfl, Nat.le_of_ble_eq_true rfl⟩ ⟨Nat.le_refl _, Nat.le_refl _⟩ dX6_given_145) (fun H locs hV => ?_)
  exact gw_lret X hV h dX6_given_148
set_option maxHeartbeats 4000000 in
set_option maxRecDepth 20000 in
theorem tX6_given_68 {p : Program} {l : Launch} {e : Env} {s : State} {m : MethodId} {args : Array Value} {below : List Frame} {meth : Method} {c : Code} {G : gG} {ad : Nat → Nat} {A : Nat → Prop} {z : Int64 × gS} (X : gCx p s m args meth c G cX6_given RX6 (some .long) 12) (hA : ∀ q, s.heap.size ≤ q → A q) (S : gS) (v1 : Int32) (v4 : Int64) (t0 : Int64) (h : fX6_given_68 S v1 v4 t0 = some z) {H : Heap} {locs : List Loc} {ls : Array Slot} (hV : gV wdY G ad A s.heap S H locs) (hl : lv_has ls 12 [(0, .ref (ad 0)), (1, .int v1), (4, .long v4)]) : W p l e rmX6_given s m args below meth c H locs 0 0 (MQ below (gQl wdY G ad A z) args s 0 0 A) (F0 m 68 ls [.long t0]) := by
  obtain ⟨hx, hb, hr, hml, hown, hts, hlk, hK⟩ := id X
  unfold fX6_given_68 at h
  refine lv_lstore (lv' := [(6, .long t0), (0, .ref (ad 0)), (1, .int v1), (4, .long v4)]) hx hb dX6_given_68 hl (by decide) rfl (fun ls hl => ?_)
  refine lv_lload hx hb dX6_given_70 (lv_at hl 0 rfl) ?_
  refine lv_lconst (v := 0) hx hb dX6_given_72 (by decide) ?_
  refine gw_cmp_gt (tgt := 79) X dX6_given_73 dX6_given_74 (by decide) (fun c_73 => ?_) (fun c_73 => ?_)
  · rw [if_pos c_73] at h
    refine lv_aload_n hx hb dX6_given_79 rfl (lv_at hl 1 rfl) ?_
    refine ggX6_23 X hV (o := 0) rfl dX6_given_80 ?_
    refine lv_iload_n hx hb dX6_given_83 rfl (lv_at hl 2 rfl) ?_
    obtain ⟨c_84, h⟩ := gx_chk_e h
    refine gw_iald X hV (iYA_4 (o := 5) rfl) c_84 dX6_given_84 ?_
    refine lv_iconst (v := 1) hx hb dX6_given_85 (by decide) ?_
    refine lv_icmp_ne (tgt := 99) hx hb dX6_given_86 (by decide) (fun c_86 => ?_) (fun c_86 => ?_)
    · rw [if_neg c_86] at h
      refine lv_aload_n hx hb dX6_given_99 rfl (lv_at hl 1 rfl) ?_
      refine ggX6_131 X hV (o := 0) rfl dX6_given_100 ?_
      refine lv_i2l hx hb dX6_given_103 rfl ?_
      exact tX6_given_104 X hA _ _ _ _ h hV (lv_sub hl [1, 3, 0] rfl)
    · rw [if_pos c_86] at h
      refine lv_aload_n hx hb dX6_given_89 rfl (lv_at hl 1 rfl) ?_
      refine ggX6_26 X hV (o := 0) rfl dX6_given_90 ?_
      refine lv_iload_n hx hb dX6_given_93 rfl (lv_at hl 2 rfl) ?_
      obtain ⟨c_94, h⟩ := gx_chk_e h
      refine gw_iald X hV (iYA_4 (o := 6) rfl) c_94 dX6_given_94 ?_
      refine lv_i2l hx hb dX6_given_95 rfl ?_
      refine lv_goto (tgt := 104) hx hb dX6_given_96 (by decide) ?_
      exact tX6_given_104 X hA _ _ _ _ h hV (lv_sub hl [1, 3, 0] rfl)
  · rw [if_neg c_73] at h
    refine lv_lconst (v := 0) hx hb dX6_given_77 (by decide) ?_
    exact gw_lret X hV h dX6_given_78
set_option maxHeartbeats 4000000 in
set_option maxRecDepth 20000 in
theorem mX6_given (l : Launch) (G : gG) (ad : Nat → Nat) (sz : Nat) (S : gS) {v1 : Int32} {v2 : Int32} {r : Int64} {S' : gS} (h : fX6_given S v1 v2 = some (r, S')) : gMetL l yX6_given cX6_given 12 (some .long) rmX6_given wdY G ad S sz [.ref (ad 0), .int v1, .int v2] r S' := by
  refine gMet_of (by decide) ?_
  intro p e s m below meth c A hA X hnm hV
  have hl := lv_entry ([.ref (ad 0), .int v1, .int v2]) (n := 12) (Nat.le_of_ble_eq_true rfl)
  rw [lg_entry_eq]
  generalize (lg_sl ([.ref (ad 0), .int v1, .int v2]) ++ List.replicate (12 - (lg_sl ([.ref (ad 0), .int v1, .int v2])).length) Slot.unset).toArray = ls at hl ⊢
  have hl : lv_has ls 12 [(0, .ref (ad 0)), (1, .int v1), (2, .int v2)] := hl
  obtain ⟨hx, hb, hr, hml, hown, hts, hlk, hK⟩ := id X
  unfold fX6_given at h
  generalize ([.ref (ad 0), .int v1, .int v2].toArray : Array Value) = args at X ⊢
  have Y : ∀ (H : Heap) (locs : List Loc), gV wdY G ad A s.heap S H locs → W p l e rmX6_given s m args below meth c H locs 0 0 (MQ below (gQl wdY G ad A (r, S')) args s 0 0 A) (F0 m 0 ls []) := by
    intro H locs hV
    refine lv_aload_n hx hb dX6_given_0 rfl (lv_at hl 0 rfl) ?_
    refine lv_iload_n hx hb dX6_given_1 rfl (lv_at hl 1 rfl) ?_
    refine lv_iload_n hx hb dX6_given_2 rfl (lv_at hl 2 rfl) ?_
    obtain ⟨r3, S3, k_3, h⟩ := gx_bind_e h
    refine gw_callI X hA hV (gw_runV X hV (o := 0) (As := [.int v1, .int v2]) (rest := []) (mX6_beside l G ad _ S k_3) kc_RX6_143 (iYO_0 rfl) rfl rfl rfl hl.1 rfl (Nat.le_of_ble_eq_true rfl) ⟨rfl, rfl⟩ ⟨Nat.le_of_ble_eq_true rfl, Nat.le_of_ble_eq_true rfl⟩ ⟨Nat.le_refl _, Nat.le_refl _⟩ dX6_given_3) (fun H locs hV => ?_)
    refine lv_istore_n (lv' := [(3, .int r3), (0, .ref (ad 0)), (1, .int v1), (2, .int v2)]) hx hb dX6_given_6 rfl hl (by decide) rfl (fun ls hl => ?_)
    refine lv_aload_n hx hb dX6_given_7 rfl (lv_at hl 1 rfl) ?_
    refine lv_iload_n hx hb dX6_given_8 rfl (lv_at hl 2 rfl) ?_
    obtain ⟨r9, S9, k_9, h⟩ := gx_bind_e h
    refine gw_callL X hA hV (gw_runV X hV (o := 0) (As := [.int v1]) (rest := []) (mX6_thick l G ad _ S3 k_9) kc_RX6_136 (iYO_0 rfl) rfl rfl rfl hl.1 rfl (Nat.le_of_ble_eq_true rfl) ⟨rfl, rfl⟩ ⟨Nat.le_of_ble_eq_true rfl, Nat.le_of_ble_eq_true rfl⟩ ⟨Nat.le_refl _, Nat.le_refl _⟩ dX6_given_9) (fun H locs hV => ?_)
    refine lv_lstore (lv' := [(4, .long r9), (3, .int r3), (0, .ref (ad 0)), (1, .int v1), (2, .int v2)]) hx hb dX6_given_12 hl (by decide) rfl (fun ls hl => ?_)
    refine lv_iload_n hx hb dX6_given_14 rfl (lv_at hl 1 rfl) ?_
    refine lv_bipush (v := -9) hx hb dX6_given_15 (by decide) ?_
    refine lv_icmp_eq (tgt := 27) hx hb dX6_given_17 (by decide) (fun c_17 => ?_) (fun c_17 => ?_)
    · rw [if_pos c_17] at h
      refine lv_lconst (v := 0) hx hb dX6_given_27 (by decide) ?_
      exact gw_lret X hV h dX6_given_28
    · rw [if_neg c_17] at h
      refine lv_lload hx hb dX6_given_20 (lv_at hl 0 rfl) ?_
      refine lv_lconst (v := 0) hx hb dX6_given_22 (by decide) ?_
      refine gw_cmp_ne (tgt := 29) X dX6_given_23 dX6_given_24 (by decide) (fun c_23 => ?_) (fun c_23 => ?_)
      · rw [if_neg c_23] at h
        refine lv_aload_n hx hb dX6_given_29 rfl (lv_at hl 2 rfl) ?_
        refine ggX6_23 X hV (o := 0) rfl dX6_given_30 ?_
        refine lv_iload_n hx hb dX6_given_33 rfl (lv_at hl 1 rfl) ?_
        obtain ⟨c_34, h⟩ := gx_chk_e h
        refine gw_iald X hV (iYA_4 (o := 5) rfl) c_34 dX6_given_34 ?_
        refine lv_iconst (v := 4) hx hb dX6_given_35 (by decide) ?_
        refine lv_icmp_ne (tgt := 44) hx hb dX6_given_36 (by decide) (fun c_36 => ?_) (fun c_36 => ?_)
        · rw [if_neg c_36] at h
          refine lv_aload_n hx hb dX6_given_44 rfl (lv_at hl 2 rfl) ?_
          refine ggX6_29 X hV (o := 0) rfl dX6_given_45 ?_
          refine lv_iload_n hx hb dX6_given_48 rfl (lv_at hl 3 rfl) ?_
          obtain ⟨c_49, h⟩ := gx_chk_e h
          refine gw_iald X hV (iYA_4 (o := 7) rfl) c_49 dX6_given_49 ?_
          refine lv_i2l hx hb dX6_given_50 rfl ?_
          refine lv_lload hx hb dX6_given_51 (lv_at hl 0 rfl) ?_
          refine lv_ladd hx hb dX6_given_53 ?_
          refine lv_aload_n hx hb dX6_given_54 rfl (lv_at hl 2 rfl) ?_
          refine ggX6_29 X hV (o := 0) rfl dX6_given_55 ?_
          refine lv_iload_n hx hb dX6_given_58 rfl (lv_at hl 1 rfl) ?_
          obtain ⟨c_59, h⟩ := gx_chk_e h
          refine gw_iald X hV (iYA_4 (o := 7) rfl) c_59 dX6_given_59 ?_
          refine lv_i2l hx hb dX6_given_60 rfl ?_
          refine lv_lsub hx hb dX6_given_61 ?_
          refine lv_aload_n hx hb dX6_given_62 rfl (lv_at hl 2 rfl) ?_
          refine lv_iload_n hx hb dX6_given_63 rfl (lv_at hl 1 rfl) ?_
          obtain ⟨r64, S64, k_64, h⟩ := gx_bind_e h
          refine gw_callL X hA hV (gw_runV X hV (o := 0) (As := [.int r3]) (rest := [.long (((Int32.toInt64 (gA S9 7 (Int32.toNatClampNeg v1))) + r9) - (Int32.toInt64 (gA S9 7 (Int32.toNatClampNeg r3))))]) (mX6_thick l G ad _ S9 k_64) kc_RX6_136 (iYO_0 rfl) rfl rfl rfl hl.1 rfl (Nat.le_of_ble_eq_true rfl) ⟨rfl, rfl⟩ ⟨Nat.le_of_ble_eq_true rfl, Nat.le_of_ble_eq_true rfl⟩ ⟨Nat.le_refl _, Nat.le_refl _⟩ dX6_given_64) (fun H locs hV => ?_)
          refine lv_lsub hx hb dX6_given_67 ?_
          exact tX6_given_68 X hA _ _ _ _ h hV (lv_sub hl [2, 3, 0] rfl)
        · rw [if_pos c_36] at h
          refine lv_lload hx hb dX6_given_39 (lv_at hl 0 rfl) ?_
          refine lv_goto (tgt := 68) hx hb dX6_given_41 (by decide) ?_
          exact tX6_given_68 X hA _ _ _ _ h hV (lv_sub hl [2, 3, 0] rfl)
      · rw [if_pos c_23] at h
        refine lv_lconst (v := 0) hx hb dX6_given_27 (by decide) ?_
        exact gw_lret X hV h dX6_given_28
  exact Y _ _ hV
def fX6_isIce_29 (S : gS) : Option (Int32 × gS) :=
some ((0 : Int32), S)
def fX6_isIce (S : gS) (v1 : Int32) : Option (Int32 × gS) :=
gx_bind (fX6_isPlace S (v1 - v1 / (8 : Int32) * (8 : Int32)) (v1 / (8 : Int32))) fun r9 S9 =>
if r9 = 0 then (fX6_isIce_29 S9) else
gx_chk v1 64 <|
if (gA S9 5 (Int32.toNatClampNeg v1)) = (4 : Int32) then (fX6_isIce_29 S9) else
some ((1 : Int32), S9)
def rmX6_isIce : Room := { frames := 2, cells := 0, slots := 0, locals := 47 }
set_option maxHeartbeats 4000000 in
set_option maxRecDepth 20000 in
theorem tX6_isIce_29 {p : Program} {l : Launch} {e : Env} {s : State} {m : MethodId} {args : Array Value} {below : List Frame} {meth : Method} {c : Code} {G : gG} {ad : Nat → Nat} {A : Nat → Prop} {z : Int32 × gS} (X : gCx p s m args meth c G cX6_isIce RX6 (some .boolean) 2) (hA : ∀ q, s.heap.size ≤ q → A q) (S : gS) (h : fX6_isIce_29 S = some z) {H : Heap} {locs : List Loc} {ls : Array Slot} (hV : gV wdY G ad A s.heap S H locs) (hl : lv_has ls 2 []) : W p l e rmX6_isIce s m args below meth c H locs 0 0 (MQ below (gQi wdY G ad A z) args s 0 0 A) (F0 m 29 ls []) := by
  obtain ⟨hx, hb, hr, hml, hown, hts, hlk, hK⟩ := id X
  unfold fX6_isIce_29 at h
  refine lv_iconst (v := 0) hx hb dX6_isIce_29 (by decide) ?_
  exact gw_iretz X hV h g_bool0 dX6_isIce_30
set_option maxHeartbeats 4000000 in
set_option maxRecDepth 20000 in
theorem mX6_isIce (l : Launch) (G : gG) (ad : Nat → Nat) (sz : Nat) (S : gS) {v1 : Int32} {r : Int32} {S' : gS} (h : fX6_isIce S v1 = some (r, S')) : gMetI l yX6_isIce cX6_isIce 2 (some .boolean) rmX6_isIce wdY G ad S sz [.ref (ad 0), .int v1] r S' := by
  refine gMet_of (by decide) ?_
  intro p e s m below meth c A hA X hnm hV
  have hl := lv_entry ([.ref (ad 0), .int v1]) (n := 2) (Nat.le_of_ble_eq_true rfl)
  rw [lg_entry_eq]
  generalize (lg_sl ([.ref (ad 0), .int v1]) ++ List.replicate (2 - (lg_sl ([.ref (ad 0), .int v1])).length) Slot.unset).toArray = ls at hl ⊢
  have hl : lv_has ls 2 [(0, .ref (ad 0)), (1, .int v1)] := hl
  obtain ⟨hx, hb, hr, hml, hown, hts, hlk, hK⟩ := id X
  unfold fX6_isIce at h
  generalize ([.ref (ad 0), .int v1].toArray : Array Value) = args at X ⊢
  have Y : ∀ (H : Heap) (locs : List Loc), gV wdY G ad A s.heap S H locs → W p l e rmX6_isIce s m args below meth c H locs 0 0 (MQ below (gQi wdY G ad A (r, S')) args s 0 0 A) (F0 m 0 ls []) := by
    intro H locs hV
    refine lv_aload_n hx hb dX6_isIce_0 rfl (lv_at hl 0 rfl) ?_
    refine lv_iload_n hx hb dX6_isIce_1 rfl (lv_at hl 1 rfl) ?_
    refine lv_bipush (v := 8) hx hb dX6_isIce_2 (by decide) ?_
    refine lv_irem hx hb dX6_isIce_4 (by decide) ?_
    refine lv_iload_n hx hb dX6_isIce_5 rfl (lv_at hl 1 rfl) ?_
    refine lv_bipush (v := 8) hx hb dX6_isIce_6 (by decide) ?_
    refine lv_idiv hx hb dX6_isIce_8 (by decide) ?_
    obtain ⟨r9, S9, k_9, h⟩ := gx_bind_e h
    refine gw_callI X hA hV (gw_runV X hV (o := 0) (As := [.int (v1 - v1 / (8 : Int32) * (8 : Int32)), .int (v1 / (8 : Int32))]) (rest := []) (mX6_isPlace l G ad _ S k_9) kc_RX6_115 (iYO_0 rfl) rfl rfl rfl hl.1 rfl (Nat.le_of_ble_eq_true rfl) ⟨rfl, rfl⟩ ⟨Nat.le_of_ble_eq_true rfl, Nat.le_of_ble_eq_true rfl⟩ ⟨Nat.le_refl _, Nat.le_refl _⟩ dX6_isIce_9) (fun H locs hV => ?_)
    refine lv_if_eq (tgt := 29) hx hb dX6_isIce_12 (by decide) (fun c_12 => ?_) (fun c_12 => ?_)
    · rw [if_pos c_12] at h
      exact tX6_isIce_29 X hA _ h hV (lv_sub hl [] rfl)
    · rw [if_neg c_12] at h
      refine lv_aload_n hx hb dX6_isIce_15 rfl (lv_at hl 0 rfl) ?_
      refine ggX6_23 X hV (o := 0) rfl dX6_isIce_16 ?_
      refine lv_iload_n hx hb dX6_isIce_19 rfl (lv_at hl 1 rfl) ?_
      obtain ⟨c_20, h⟩ := gx_chk_e h
      refine gw_iald X hV (iYA_4 (o := 5) rfl) c_20 dX6_isIce_20 ?_
      refine lv_iconst (v := 4) hx hb dX6_isIce_21 (by decide) ?_
      refine lv_icmp_eq (tgt := 29) hx hb dX6_isIce_22 (by decide) (fun c_22 => ?_) (fun c_22 => ?_)
      · rw [if_pos c_22] at h
        exact tX6_isIce_29 X hA _ h hV (lv_sub hl [] rfl)
      · rw [if_neg c_22] at h
        refine lv_iconst (v := 1) hx hb dX6_isIce_25 (by decide) ?_
        refine lv_goto (tgt := 30) hx hb dX6_isIce_26 (by decide) ?_
        exact gw_iretz X hV h g_bool1 dX6_isIce_30
  exact Y _ _ hV
theorem kc_RX6_151 : gKV RX6 151 yX6_isIce cX6_isIce 2 (some .boolean) 1 := ⟨q_719, q_721, q_26, q_722, q_42, by decide +kernel⟩
def fX6_fall_192 (K2 : gS → Int32 → Option (Unit × gS)) (S : gS) (v1 : Int32) : Option (Unit × gS) :=
gx_let (v1 + (1 : Int32)) fun v1_192 =>
K2 S v1_192
def fX6_fall_126L (K2 : gS → Int32 → Option (Unit × gS)) (K126 : gS → Int32 → Int64 → Int32 → Option (Unit × gS)) (S : gS) (v1 : Int32) (v3 : Int64) (v5 : Int32) : Option (Unit × gS) :=
if v5 < 0 then (fX6_fall_192 K2 S v1) else
gx_chk (((61 : Int32) * v1) + v5) 3904 <|
gx_bind (fX6_lesser S v3 (gJ S 8 (Int32.toNatClampNeg (((61 : Int32) * v1) + v5)))) fun r144 S144 =>
gx_chk (((61 : Int32) * v1) + v5) 3904 <|
gx_chk (((61 : Int32) * v1) + v5) 3904 <|
gx_let (gJ_up S144 8 (Int32.toNatClampNeg (((61 : Int32) * v1) + v5)) ((gJ S144 8 (Int32.toNatClampNeg (((61 : Int32) * v1) + v5))) - r144)) fun S165 =>
gx_chk ((61 : Int32) + v5) 305 <|
gx_chk ((61 : Int32) + v5) 305 <|
gx_let (gJ_up S165 9 (Int32.toNatClampNeg ((61 : Int32) + v5)) ((gJ S165 9 (Int32.toNatClampNeg ((61 : Int32) + v5))) + r144)) fun S180 =>
gx_let (v3 - r144) fun v3_185 =>
gx_let (v5 + (-1 : Int32)) fun v5_186 =>
K126 S180 v1 v3_185 v5_186
def fX6_fall_126 (K2 : gS → Int32 → Option (Unit × gS)) : Nat → gS → Int32 → Int64 → Int32 → Option (Unit × gS)
  | 0, _, _, _, _ => none
  | f + 1, S, v1, v3, v5 => fX6_fall_126L K2 (fX6_fall_126 K2 f) S v1 v3 v5
def fX6_fall_122 (K2 : gS → Int32 → Option (Unit × gS)) (S : gS) (v1 : Int32) (v3 : Int64) : Option (Unit × gS) :=
fX6_fall_126 K2 gx_fuel S v1 v3 (60 : Int32)
def fX6_fall_106 (K2 : gS → Int32 → Option (Unit × gS)) (S : gS) (v1 : Int32) (v3 : Int64) : Option (Unit × gS) :=
gx_chk v1 64 <|
gx_let (v3 - ((v3 * (Int32.toInt64 (gA S 6 (Int32.toNatClampNeg v1)))) / (100 : Int64))) fun v3_121 =>
fX6_fall_122 K2 S v1 v3_121
def fX6_fall_2L (K2 : gS → Int32 → Option (Unit × gS)) (S : gS) (v1 : Int32) : Option (Unit × gS) :=
if (64 : Int32) ≤ v1 then (some ((), S)) else
gx_bind (fX6_isIce S v1) fun r10 S10 =>
if r10 = 0 then (fX6_fall_192 K2 S10 v1) else
gx_chk v1 64 <|
gx_chk ((gA S10 7 (Int32.toNatClampNeg v1)) / (1000 : Int32)) 10 <|
gx_let (gA S10 10 (Int32.toNatClampNeg ((gA S10 7 (Int32.toNatClampNeg v1)) / (1000 : Int32)))) fun v2_31 =>
gx_chk (((61 : Int32) * v1) + (gI S10 0 7)) 3904 <|
gx_chk (((61 : Int32) * v1) + (gI S10 0 7)) 3904 <|
gx_let (gJ_up S10 8 (Int32.toNatClampNeg (((61 : Int32) * v1) + (gI S10 0 7))) ((gJ S10 8 (Int32.toNatClampNeg (((61 : Int32) * v1) + (gI S10 0 7)))) + (Int32.toInt64 v2_31))) fun S50 =>
gx_chk ((244 : Int32) + (gI S50 0 7)) 305 <|
gx_chk ((244 : Int32) + (gI S50 0 7)) 305 <|
gx_let (gJ_up S50 9 (Int32.toNatClampNeg ((244 : Int32) + (gI S50 0 7))) ((gJ S50 9 (Int32.toNatClampNeg ((244 : Int32) + (gI S50 0 7)))) + (Int32.toInt64 v2_31))) fun S68 =>
gx_chk v1 64 <|
gx_chk ((gA S68 7 (Int32.toNatClampNeg v1)) / (1000 : Int32)) 10 <|
gx_let (Int32.toInt64 (gA S68 11 (Int32.toNatClampNeg ((gA S68 7 (Int32.toNatClampNeg v1)) / (1000 : Int32))))) fun v3_85 =>
gx_chk v1 64 <|
if (gA S68 5 (Int32.toNatClampNeg v1)) = (2 : Int32) then (fX6_fall_106 K2 S68 v1 v3_85) else
gx_chk v1 64 <|
if (gA S68 5 (Int32.toNatClampNeg v1)) = (3 : Int32) then (fX6_fall_106 K2 S68 v1 v3_85) else
fX6_fall_122 K2 S68 v1 v3_85
def fX6_fall_2 : Nat → gS → Int32 → Option (Unit × gS)
  | 0, _, _ => none
  | f + 1, S, v1 => fX6_fall_2L (fX6_fall_2 f) S v1
def fX6_fall (S : gS) : Option (Unit × gS) :=
fX6_fall_2 gx_fuel S (0 : Int32)
def rmX6_fall : Room := { frames := 3, cells := 0, slots := 0, locals := 68 }
set_option maxHeartbeats 4000000 in
set_option maxRecDepth 20000 in
theorem tX6_fall_192 {p : Program} {l : Launch} {e : Env} {s : State} {m : MethodId} {args : Array Value} {below : List Frame} {meth : Method} {c : Code} {G : gG} {ad : Nat → Nat} {A : Nat → Prop} {z : Unit × gS} {K2 : gS → Int32 → Option (Unit × gS)} (X : gCx p s m args meth c G cX6_fall RX6 none 8) (hA : ∀ q, s.heap.size ≤ q → A q) (kK2 : ∀ (S : gS) (v1 : Int32), K2 S v1 = some z → ∀ (H : Heap) (locs : List Loc) (ls : Array Slot), gV wdY G ad A s.heap S H locs → lv_has ls 8 [(0, .ref (ad 0)), (1, .int v1)] → W p l e rmX6_fall s m args below meth c H locs 0 0 (MQ below (gQv wdY G ad A z) args s 0 0 A) (F0 m 2 ls [])) (S : gS) (v1 : Int32) (h : fX6_fall_192 K2 S v1 = some z) {H : Heap} {locs : List Loc} {ls : Array Slot} (hV : gV wdY G ad A s.heap S H locs) (hl : lv_has ls 8 [(0, .ref (ad 0)), (1, .int v1)]) : W p l e rmX6_fall s m args below meth c H locs 0 0 (MQ below (gQv wdY G ad A z) args s 0 0 A) (F0 m 192 ls []) := by
  obtain ⟨hx, hb, hr, hml, hown, hts, hlk, hK⟩ := id X
  unfold fX6_fall_192 at h
  obtain ⟨v1_192, e_192⟩ : ∃ y : Int32, y = (v1 + (1 : Int32)) := ⟨_, rfl⟩
  refine lv_iinc (v := v1_192) (lv' := [(1, .int v1_192), (0, .ref (ad 0))]) hx hb dX6_fall_192 hl (k := 1) rfl (by rw [e_192]; rfl) (by decide) rfl (fun ls hl => ?_)
  replace h := gx_let_e e_192 h
  clear e_192
  refine lv_goto (tgt := 2) hx hb dX6_fall_195 (by decide) ?_
  exact kK2 _ _ h _ _ _ hV (lv_sub hl [1, 0] rfl)
set_option maxHeartbeats 4000000 in
set_option maxRecDepth 20000 in
theorem tX6_fall_126L {p : Program} {l : Launch} {e : Env} {s : State} {m : MethodId} {args : Array Value} {below : List Frame} {meth : Method} {c : Code} {G : gG} {ad : Nat → Nat} {A : Nat → Prop} {z : Unit × gS} {K2 : gS → Int32 → Option (Unit × gS)} {K126 : gS → Int32 → Int64 → Int32 → Option (Unit × gS)} (X : gCx p s m args meth c G cX6_fall RX6 none 8) (hA : ∀ q, s.heap.size ≤ q → A q) (kK2 : ∀ (S : gS) (v1 : Int32), K2 S v1 = some z → ∀ (H : Heap) (locs : List Loc) (ls : Array Slot), gV wdY G ad A s.heap S H locs → lv_has ls 8 [(0, .ref (ad 0)), (1, .int v1)] → W p l e rmX6_fall s m args below meth c H locs 0 0 (MQ below (gQv wdY G ad A z) args s 0 0 A) (F0 m 2 ls [])) (kK126 : ∀ (S : gS) (v1 : Int32) (v3 : Int64) (v5 : Int32), K126 S v1 v3 v5 = some z → ∀ (H : Heap) (locs : List Loc) (ls : Array Slot), gV wdY G ad A s.heap S H locs → lv_has ls 8 [(0, .ref (ad 0)), (1, .int v1), (3, .long v3), (5, .int v5)] → W p l e rmX6_fall s m args below meth c H locs 0 0 (MQ below (gQv wdY G ad A z) args s 0 0 A) (F0 m 126 ls [])) (S : gS) (v1 : Int32) (v3 : Int64) (v5 : Int32) (h : fX6_fall_126L K2 K126 S v1 v3 v5 = some z) {H : Heap} {locs : List Loc} {ls : Array Slot} (hV : gV wdY G ad A s.heap S H locs) (hl : lv_has ls 8 [(0, .ref (ad 0)), (1, .int v1), (3, .long v3), (5, .int v5)]) : W p l e rmX6_fall s m args below meth c H locs 0 0 (MQ below (gQv wdY G ad A z) args s 0 0 A) (F0 m 126 ls []) := by
  obtain ⟨hx, hb, hr, hml, hown, hts, hlk, hK⟩ := id X
  unfold fX6_fall_126L at h
  refine lv_iload hx hb dX6_fall_126 (lv_at hl 3 rfl) ?_
  refine lv_if_lt (tgt := 192) hx hb dX6_fall_128 (by decide) (fun c_128 => ?_) (fun c_128 => ?_)
  · rw [if_pos c_128] at h
    exact tX6_fall_192 X hA kK2 _ _ h hV (lv_sub hl [0, 1] rfl)
  · rw [if_neg c_128] at h
    refine lv_lload_n hx hb dX6_fall_131 rfl (lv_at hl 2 rfl) ?_
    refine lv_aload_n hx hb dX6_fall_132 rfl (lv_at hl 0 rfl) ?_
    refine ggX6_32 X hV (o := 0) rfl dX6_fall_133 ?_
    refine lv_bipush (v := 61) hx hb dX6_fall_136 (by decide) ?_
    refine lv_iload_n hx hb dX6_fall_138 rfl (lv_at hl 1 rfl) ?_
    refine lv_imul hx hb dX6_fall_139 ?_
    refine lv_iload hx hb dX6_fall_140 (lv_at hl 3 rfl) ?_
    refine lv_iadd hx hb dX6_fall_142 ?_
    obtain ⟨c_143, h⟩ := gx_chk_e h
    refine gw_lald X hV (iYJ_5 (o := 8) rfl) c_143 dX6_fall_143 ?_
    obtain ⟨r144, S144, k_144, h⟩ := gx_bind_e h
    refine gw_callL X hA hV (gw_runS X hV (As := [.long v3, .long (gJ S 8 (Int32.toNatClampNeg (((61 : Int32) * v1) + v5)))]) (rest := []) (mX6_lesser l G ad _ S k_144) kc_RX6_147 rfl hl.1 rfl (Nat.le_of_ble_eq_true rfl) ⟨rfl, rfl⟩ ⟨Nat.le_of_ble_eq_true rfl, Nat.le_of_ble_eq_true rfl⟩ ⟨Nat.le_refl _, Nat.le_refl _⟩ dX6_fall_144) (fun H locs hV => ?_)
    refine lv_lstore (lv' := [(6, .long r144), (0, .ref (ad 0)), (1, .int v1), (3, .long v3), (5, .int v5)]) hx hb dX6_fall_147 hl (by decide) rfl (fun ls hl => ?_)
    refine lv_aload_n hx hb dX6_fall_149 rfl (lv_at hl 1 rfl) ?_
    refine ggX6_32 X hV (o := 0) rfl dX6_fall_150 ?_
    refine lv_bipush (v := 61) hx hb dX6_fall_153 (by decide) ?_
    refine lv_iload_n hx hb dX6_fall_155 rfl (lv_at hl 2 rfl) ?_
    refine lv_imul hx hb dX6_fall_156 ?_
    refine lv_iload hx hb dX6_fall_157 (lv_at hl 4 rfl) ?_
    refine lv_iadd hx hb dX6_fall_159 ?_
    refine lv_dup2_11 hx hb dX6_fall_160 rfl rfl ?_
    obtain ⟨c_161, h⟩ := gx_chk_e h
    refine gw_lald X hV (iYJ_5 (o := 8) rfl) c_161 dX6_fall_161 ?_
    refine lv_lload hx hb dX6_fall_162 (lv_at hl 0 rfl) ?_
    refine lv_lsub hx hb dX6_fall_164 ?_
    obtain ⟨c_165, h⟩ := gx_chk_e h
    refine gw_last X hV (iYJ_5 (o := 8) rfl) c_165 dX6_fall_165 (fun S165 e_165 H locs hV => ?_)
    replace h := gx_let_e e_165 h
    clear e_165
    refine lv_aload_n hx hb dX6_fall_166 rfl (lv_at hl 1 rfl) ?_
    refine ggX6_35 X hV (o := 0) rfl dX6_fall_167 ?_
    refine lv_bipush (v := 61) hx hb dX6_fall_170 (by decide) ?_
    refine lv_iload hx hb dX6_fall_172 (lv_at hl 4 rfl) ?_
    refine lv_iadd hx hb dX6_fall_174 ?_
    refine lv_dup2_11 hx hb dX6_fall_175 rfl rfl ?_
    obtain ⟨c_176, h⟩ := gx_chk_e h
    refine gw_lald X hV (iYJ_6 (o := 9) rfl) c_176 dX6_fall_176 ?_
    refine lv_lload hx hb dX6_fall_177 (lv_at hl 0 rfl) ?_
    refine lv_ladd hx hb dX6_fall_179 ?_
    obtain ⟨c_180, h⟩ := gx_chk_e h
    refine gw_last X hV (iYJ_6 (o := 9) rfl) c_180 dX6_fall_180 (fun S180 e_180 H locs hV => ?_)
    replace h := gx_let_e e_180 h
    clear e_180
    refine lv_lload_n hx hb dX6_fall_181 rfl (lv_at hl 3 rfl) ?_
    refine lv_lload hx hb dX6_fall_182 (lv_at hl 0 rfl) ?_
    refine lv_lsub hx hb dX6_fall_184 ?_
    refine lv_topl (fun v3_185 e_185 => ?_)
    replace h := gx_let_e e_185 h
    clear e_185
    refine lv_lstore_n (lv' := [(3, .long v3_185), (6, .long r144), (0, .ref (ad 0)), (1, .int v1), (5, .int v5)]) hx hb dX6_fall_185 rfl hl (by decide) rfl (fun ls hl => ?_)
    obtain ⟨v5_186, e_186⟩ : ∃ y : Int32, y = (v5 + (-1 : Int32)) := ⟨_, rfl⟩
    refine lv_iinc (v := v5_186) (lv' := [(5, .int v5_186), (3, .long v3_185), (6, .long r144), (0, .ref (ad 0)), (1, .int v1)]) hx hb dX6_fall_186 hl (k := 4) rfl (by rw [e_186]; rfl) (by decide) rfl (fun ls hl => ?_)
    replace h := gx_let_e e_186 h
    clear e_186
    refine lv_goto (tgt := 126) hx hb dX6_fall_189 (by decide) ?_
    exact kK126 _ _ _ _ h _ _ _ hV (lv_sub hl [3, 4, 1, 0] rfl)
set_option maxHeartbeats 4000000 in
set_option maxRecDepth 20000 in
theorem tX6_fall_126 {p : Program} {l : Launch} {e : Env} {s : State} {m : MethodId} {args : Array Value} {below : List Frame} {meth : Method} {c : Code} {G : gG} {ad : Nat → Nat} {A : Nat → Prop} {z : Unit × gS} {K2 : gS → Int32 → Option (Unit × gS)} (X : gCx p s m args meth c G cX6_fall RX6 none 8) (hA : ∀ q, s.heap.size ≤ q → A q) (kK2 : ∀ (S : gS) (v1 : Int32), K2 S v1 = some z → ∀ (H : Heap) (locs : List Loc) (ls : Array Slot), gV wdY G ad A s.heap S H locs → lv_has ls 8 [(0, .ref (ad 0)), (1, .int v1)] → W p l e rmX6_fall s m args below meth c H locs 0 0 (MQ below (gQv wdY G ad A z) args s 0 0 A) (F0 m 2 ls [])) : ∀ (f : Nat) (S : gS) (v1 : Int32) (v3 : Int64) (v5 : Int32) (h : fX6_fall_126 K2 f S v1 v3 v5 = some z) (H : Heap) (locs : List Loc) (ls : Array Slot) (hV : gV wdY G ad A s.heap S H locs) (hl : lv_has ls 8 [(0, .ref (ad 0)), (1, .int v1), (3, .long v3), (5, .int v5)]), W p l e rmX6_fall s m args below meth c H locs 0 0 (MQ below (gQv wdY G ad A z) args s 0 0 A) (F0 m 126 ls []) := by
  intro f
  induction f with
  | zero => intro S v1 v3 v5 h; exact absurd h (by simp [fX6_fall_126])
  | succ f ih => intro S v1 v3 v5 h H locs ls hV hl; exact tX6_fall_126L X hA kK2 ih S v1 v3 v5 h hV hl
set_option maxHeartbeats 4000000 in
set_option maxRecDepth 20000 in
theorem tX6_fall_122 {p : Program} {l : Launch} {e : Env} {s : State} {m : MethodId} {args : Array Value} {below : List Frame} {meth : Method} {c : Code} {G : gG} {ad : Nat → Nat} {A : Nat → Prop} {z : Unit × gS} {K2 : gS → Int32 → Option (Unit × gS)} (X : gCx p s m args meth c G cX6_fall RX6 none 8) (hA : ∀ q, s.heap.size ≤ q → A q) (kK2 : ∀ (S : gS) (v1 : Int32), K2 S v1 = some z → ∀ (H : Heap) (locs : List Loc) (ls : Array Slot), gV wdY G ad A s.heap S H locs → lv_has ls 8 [(0, .ref (ad 0)), (1, .int v1)] → W p l e rmX6_fall s m args below meth c H locs 0 0 (MQ below (gQv wdY G ad A z) args s 0 0 A) (F0 m 2 ls [])) (S : gS) (v1 : Int32) (v3 : Int64) (h : fX6_fall_122 K2 S v1 v3 = some z) {H : Heap} {locs : List Loc} {ls : Array Slot} (hV : gV wdY G ad A s.heap S H locs) (hl : lv_has ls 8 [(0, .ref (ad 0)), (1, .int v1), (3, .long v3)]) : W p l e rmX6_fall s m args below meth c H locs 0 0 (MQ below (gQv wdY G ad A z) args s 0 0 A) (F0 m 122 ls []) := by
  obtain ⟨hx, hb, hr, hml, hown, hts, hlk, hK⟩ := id X
  unfold fX6_fall_122 at h
  refine lv_bipush (v := 60) hx hb dX6_fall_122 (by decide) ?_
  refine lv_istore (lv' := [(5, .int (60 : Int32)), (0, .ref (ad 0)), (1, .int v1), (3, .long v3)]) hx hb dX6_fall_124 hl (by decide) rfl (fun ls hl => ?_)
  exact tX6_fall_126 X hA kK2 gx_fuel _ _ _ _ h _ _ _ hV (lv_sub hl [1, 2, 3, 0] rfl)
set_option maxHeartbeats 4000000 in
set_option maxRecDepth 20000 in
theorem tX6_fall_106 {p : Program} {l : Launch} {e : Env} {s : State} {m : MethodId} {args : Array Value} {below : List Frame} {meth : Method} {c : Code} {G : gG} {ad : Nat → Nat} {A : Nat → Prop} {z : Unit × gS} {K2 : gS → Int32 → Option (Unit × gS)} (X : gCx p s m args meth c G cX6_fall RX6 none 8) (hA : ∀ q, s.heap.size ≤ q → A q) (kK2 : ∀ (S : gS) (v1 : Int32), K2 S v1 = some z → ∀ (H : Heap) (locs : List Loc) (ls : Array Slot), gV wdY G ad A s.heap S H locs → lv_has ls 8 [(0, .ref (ad 0)), (1, .int v1)] → W p l e rmX6_fall s m args below meth c H locs 0 0 (MQ below (gQv wdY G ad A z) args s 0 0 A) (F0 m 2 ls [])) (S : gS) (v1 : Int32) (v3 : Int64) (h : fX6_fall_106 K2 S v1 v3 = some z) {H : Heap} {locs : List Loc} {ls : Array Slot} (hV : gV wdY G ad A s.heap S H locs) (hl : lv_has ls 8 [(0, .ref (ad 0)), (1, .int v1), (3, .long v3)]) : W p l e rmX6_fall s m args below meth c H locs 0 0 (MQ below (gQv wdY G ad A z) args s 0 0 A) (F0 m 106 ls []) := by
  obtain ⟨hx, hb, hr, hml, hown, hts, hlk, hK⟩ := id X
  unfold fX6_fall_106 at h
  refine lv_lload_n hx hb dX6_fall_106 rfl (lv_at hl 2 rfl) ?_
  refine lv_lload_n hx hb dX6_fall_107 rfl (lv_at hl 2 rfl) ?_
  refine lv_aload_n hx hb dX6_fall_108 rfl (lv_at hl 0 rfl) ?_
  refine ggX6_26 X hV (o := 0) rfl dX6_fall_109 ?_
  refine lv_iload_n hx hb dX6_fall_112 rfl (lv_at hl 1 rfl) ?_
  obtain ⟨c_113, h⟩ := gx_chk_e h
  refine gw_iald X hV (iYA_4 (o := 6) rfl) c_113 dX6_fall_113 ?_
  refine lv_i2l hx hb dX6_fall_114 rfl ?_
  refine lv_lmul hx hb dX6_fall_115 ?_
  refine lv_ldc2 (v := 100) hx hb hown (hts _ q_672) dX6_fall_116 ?_
  refine lv_ldiv hx hb dX6_fall_119 (by decide) ?_
  refine lv_lsub hx hb dX6_fall_120 ?_
  refine lv_topl (fun v3_121 e_121 => ?_)
  replace h := gx_let_e e_121 h
  clear e_121
  refine lv_lstore_n (lv' := [(3, .long v3_121), (0, .ref (ad 0)), (1, .int v1)]) hx hb dX6_fall_121 rfl hl (by decide) rfl (fun ls hl => ?_)
  exact tX6_fall_122 X hA kK2 _ _ _ h hV (lv_sub hl [1, 2, 0] rfl)
set_option maxHeartbeats 4000000 in
set_option maxRecDepth 20000 in
theorem tX6_fall_2L {p : Program} {l : Launch} {e : Env} {s : State} {m : MethodId} {args : Array Value} {below : List Frame} {meth : Method} {c : Code} {G : gG} {ad : Nat → Nat} {A : Nat → Prop} {z : Unit × gS} {K2 : gS → Int32 → Option (Unit × gS)} (X : gCx p s m args meth c G cX6_fall RX6 none 8) (hA : ∀ q, s.heap.size ≤ q → A q) (kK2 : ∀ (S : gS) (v1 : Int32), K2 S v1 = some z → ∀ (H : Heap) (locs : List Loc) (ls : Array Slot), gV wdY G ad A s.heap S H locs → lv_has ls 8 [(0, .ref (ad 0)), (1, .int v1)] → W p l e rmX6_fall s m args below meth c H locs 0 0 (MQ below (gQv wdY G ad A z) args s 0 0 A) (F0 m 2 ls [])) (S : gS) (v1 : Int32) (h : fX6_fall_2L K2 S v1 = some z) {H : Heap} {locs : List Loc} {ls : Array Slot} (hV : gV wdY G ad A s.heap S H locs) (hl : lv_has ls 8 [(0, .ref (ad 0)), (1, .int v1)]) : W p l e rmX6_fall s m args below meth c H locs 0 0 (MQ below (gQv wdY G ad A z) args s 0 0 A) (F0 m 2 ls []) := by
  obtain ⟨hx, hb, hr, hml, hown, hts, hlk, hK⟩ := id X
  unfold fX6_fall_2L at h
  refine lv_iload_n hx hb dX6_fall_2 rfl (lv_at hl 1 rfl) ?_
  refine lv_bipush (v := 64) hx hb dX6_fall_3 (by decide) ?_
  refine lv_icmp_ge (tgt := 198) hx hb dX6_fall_5 (by decide) (fun c_5 => ?_) (fun c_5 => ?_)
  · rw [if_pos c_5] at h
    exact gw_vret X hV h dX6_fall_198
  · rw [if_neg c_5] at h
    refine lv_aload_n hx hb dX6_fall_8 rfl (lv_at hl 0 rfl) ?_
    refine lv_iload_n hx hb dX6_fall_9 rfl (lv_at hl 1 rfl) ?_
    obtain ⟨r10, S10, k_10, h⟩ := gx_bind_e h
    refine gw_callI X hA hV (gw_runV X hV (o := 0) (As := [.int v1]) (rest := []) (mX6_isIce l G ad _ S k_10) kc_RX6_151 (iYO_0 rfl) rfl rfl rfl hl.1 rfl (Nat.le_of_ble_eq_true rfl) ⟨rfl, rfl⟩ ⟨Nat.le_of_ble_eq_true rfl, Nat.le_of_ble_eq_true rfl⟩ ⟨Nat.le_refl _, Nat.le_refl _⟩ dX6_fall_10) (fun H locs hV => ?_)
    refine lv_if_eq (tgt := 192) hx hb dX6_fall_13 (by decide) (fun c_13 => ?_) (fun c_13 => ?_)
    · rw [if_pos c_13] at h
      exact tX6_fall_192 X hA kK2 _ _ h hV (lv_sub hl [0, 1] rfl)
    · rw [if_neg c_13] at h
      refine lv_aload_n hx hb dX6_fall_16 rfl (lv_at hl 0 rfl) ?_
      refine ggX6_38 X hV (o := 0) rfl dX6_fall_17 ?_
      refine lv_aload_n hx hb dX6_fall_20 rfl (lv_at hl 0 rfl) ?_
      refine ggX6_29 X hV (o := 0) rfl dX6_fall_21 ?_
      refine lv_iload_n hx hb dX6_fall_24 rfl (lv_at hl 1 rfl) ?_
      obtain ⟨c_25, h⟩ := gx_chk_e h
      refine gw_iald X hV (iYA_4 (o := 7) rfl) c_25 dX6_fall_25 ?_
      refine lv_sipush (v := 1000) hx hb dX6_fall_26 (by decide) ?_
      refine lv_idiv hx hb dX6_fall_29 (by decide) ?_
      obtain ⟨c_30, h⟩ := gx_chk_e h
      refine gw_iald X hV (iYA_7 (o := 10) rfl) c_30 dX6_fall_30 ?_
      refine lv_topi (fun v2_31 e_31 => ?_)
      replace h := gx_let_e e_31 h
      clear e_31
      refine lv_istore_n (lv' := [(2, .int v2_31), (0, .ref (ad 0)), (1, .int v1)]) hx hb dX6_fall_31 rfl hl (by decide) rfl (fun ls hl => ?_)
      refine lv_aload_n hx hb dX6_fall_32 rfl (lv_at hl 1 rfl) ?_
      refine ggX6_32 X hV (o := 0) rfl dX6_fall_33 ?_
      refine lv_bipush (v := 61) hx hb dX6_fall_36 (by decide) ?_
      refine lv_iload_n hx hb dX6_fall_38 rfl (lv_at hl 2 rfl) ?_
      refine lv_imul hx hb dX6_fall_39 ?_
      refine lv_aload_n hx hb dX6_fall_40 rfl (lv_at hl 1 rfl) ?_
      refine ggX6_107 X hV (o := 0) rfl dX6_fall_41 ?_
      refine lv_iadd hx hb dX6_fall_44 ?_
      refine lv_dup2_11 hx hb dX6_fall_45 rfl rfl ?_
      obtain ⟨c_46, h⟩ := gx_chk_e h
      refine gw_lald X hV (iYJ_5 (o := 8) rfl) c_46 dX6_fall_46 ?_
      refine lv_iload_n hx hb dX6_fall_47 rfl (lv_at hl 0 rfl) ?_
      refine lv_i2l hx hb dX6_fall_48 rfl ?_
      refine lv_ladd hx hb dX6_fall_49 ?_
      obtain ⟨c_50, h⟩ := gx_chk_e h
      refine gw_last X hV (iYJ_5 (o := 8) rfl) c_50 dX6_fall_50 (fun S50 e_50 H locs hV => ?_)
      replace h := gx_let_e e_50 h
      clear e_50
      refine lv_aload_n hx hb dX6_fall_51 rfl (lv_at hl 1 rfl) ?_
      refine ggX6_35 X hV (o := 0) rfl dX6_fall_52 ?_
      refine lv_sipush (v := 244) hx hb dX6_fall_55 (by decide) ?_
      refine lv_aload_n hx hb dX6_fall_58 rfl (lv_at hl 1 rfl) ?_
      refine ggX6_107 X hV (o := 0) rfl dX6_fall_59 ?_
      refine lv_iadd hx hb dX6_fall_62 ?_
      refine lv_dup2_11 hx hb dX6_fall_63 rfl rfl ?_
      obtain ⟨c_64, h⟩ := gx_chk_e h
      refine gw_lald X hV (iYJ_6 (o := 9) rfl) c_64 dX6_fall_64 ?_
      refine lv_iload_n hx hb dX6_fall_65 rfl (lv_at hl 0 rfl) ?_
      refine lv_i2l hx hb dX6_fall_66 rfl ?_
      refine lv_ladd hx hb dX6_fall_67 ?_
      obtain ⟨c_68, h⟩ := gx_chk_e h
      refine gw_last X hV (iYJ_6 (o := 9) rfl) c_68 dX6_fall_68 (fun S68 e_68 H locs hV => ?_)
      replace h := gx_let_e e_68 h
      clear e_68
      refine lv_aload_n hx hb dX6_fall_69 rfl (lv_at hl 1 rfl) ?_
      refine ggX6_41 X hV (o := 0) rfl dX6_fall_70 ?_
      refine lv_aload_n hx hb dX6_fall_73 rfl (lv_at hl 1 rfl) ?_
      refine ggX6_29 X hV (o := 0) rfl dX6_fall_74 ?_
      refine lv_iload_n hx hb dX6_fall_77 rfl (lv_at hl 2 rfl) ?_
      obtain ⟨c_78, h⟩ := gx_chk_e h
      refine gw_iald X hV (iYA_4 (o := 7) rfl) c_78 dX6_fall_78 ?_
      refine lv_sipush (v := 1000) hx hb dX6_fall_79 (by decide) ?_
      refine lv_idiv hx hb dX6_fall_82 (by decide) ?_
      obtain ⟨c_83, h⟩ := gx_chk_e h
      refine gw_iald X hV (iYA_7 (o := 11) rfl) c_83 dX6_fall_83 ?_
      refine lv_i2l hx hb dX6_fall_84 rfl ?_
      refine lv_topl (fun v3_85 e_85 => ?_)
      replace h := gx_let_e e_85 h
      clear e_85
      refine lv_lstore_n (lv' := [(3, .long v3_85), (2, .int v2_31), (0, .ref (ad 0)), (1, .int v1)]) hx hb dX6_fall_85 rfl hl (by decide) rfl (fun ls hl => ?_)
      refine lv_aload_n hx hb dX6_fall_86 rfl (lv_at hl 2 rfl) ?_
      refine ggX6_23 X hV (o := 0) rfl dX6_fall_87 ?_
      refine lv_iload_n hx hb dX6_fall_90 rfl (lv_at hl 3 rfl) ?_
      obtain ⟨c_91, h⟩ := gx_chk_e h
      refine gw_iald X hV (iYA_4 (o := 5) rfl) c_91 dX6_fall_91 ?_
      refine lv_iconst (v := 2) hx hb dX6_fall_92 (by decide) ?_
      refine lv_icmp_eq (tgt := 106) hx hb dX6_fall_93 (by decide) (fun c_93 => ?_) (fun c_93 => ?_)
      · rw [if_pos c_93] at h
        exact tX6_fall_106 X hA kK2 _ _ _ h hV (lv_sub hl [2, 3, 0] rfl)
      · rw [if_neg c_93] at h
        refine lv_aload_n hx hb dX6_fall_96 rfl (lv_at hl 2 rfl) ?_
        refine ggX6_23 X hV (o := 0) rfl dX6_fall_97 ?_
        refine lv_iload_n hx hb dX6_fall_100 rfl (lv_at hl 3 rfl) ?_
        obtain ⟨c_101, h⟩ := gx_chk_e h
        refine gw_iald X hV (iYA_4 (o := 5) rfl) c_101 dX6_fall_101 ?_
        refine lv_iconst (v := 3) hx hb dX6_fall_102 (by decide) ?_
        refine lv_icmp_ne (tgt := 122) hx hb dX6_fall_103 (by decide) (fun c_103 => ?_) (fun c_103 => ?_)
        · rw [if_neg c_103] at h
          exact tX6_fall_122 X hA kK2 _ _ _ h hV (lv_sub hl [2, 3, 0] rfl)
        · rw [if_pos c_103] at h
          exact tX6_fall_106 X hA kK2 _ _ _ h hV (lv_sub hl [2, 3, 0] rfl)
set_option maxHeartbeats 4000000 in
set_option maxRecDepth 20000 in
theorem tX6_fall_2 {p : Program} {l : Launch} {e : Env} {s : State} {m : MethodId} {args : Array Value} {below : List Frame} {meth : Method} {c : Code} {G : gG} {ad : Nat → Nat} {A : Nat → Prop} {z : Unit × gS} (X : gCx p s m args meth c G cX6_fall RX6 none 8) (hA : ∀ q, s.heap.size ≤ q → A q) : ∀ (f : Nat) (S : gS) (v1 : Int32) (h : fX6_fall_2 f S v1 = some z) (H : Heap) (locs : List Loc) (ls : Array Slot) (hV : gV wdY G ad A s.heap S H locs) (hl : lv_has ls 8 [(0, .ref (ad 0)), (1, .int v1)]), W p l e rmX6_fall s m args below meth c H locs 0 0 (MQ below (gQv wdY G ad A z) args s 0 0 A) (F0 m 2 ls []) := by
  intro f
  induction f with
  | zero => intro S v1 h; exact absurd h (by simp [fX6_fall_2])
  | succ f ih => intro S v1 h H locs ls hV hl; exact tX6_fall_2L X hA ih S v1 h hV hl
set_option maxHeartbeats 4000000 in
set_option maxRecDepth 20000 in
theorem mX6_fall (l : Launch) (G : gG) (ad : Nat → Nat) (sz : Nat) (S : gS) {r : Unit} {S' : gS} (h : fX6_fall S = some (r, S')) : gMetV l yX6_fall cX6_fall 8 none rmX6_fall wdY G ad S sz [.ref (ad 0)] r S' := by
  refine gMet_of (by decide) ?_
  intro p e s m below meth c A hA X hnm hV
  have hl := lv_entry ([.ref (ad 0)]) (n := 8) (Nat.le_of_ble_eq_true rfl)
  rw [lg_entry_eq]
  generalize (lg_sl ([.ref (ad 0)]) ++ List.replicate (8 - (lg_sl ([.ref (ad 0)])).length) Slot.unset).toArray = ls at hl ⊢
  have hl : lv_has ls 8 [(0, .ref (ad 0))] := hl
  obtain ⟨hx, hb, hr, hml, hown, hts, hlk, hK⟩ := id X
  unfold fX6_fall at h
  generalize ([.ref (ad 0)].toArray : Array Value) = args at X ⊢
  have Y : ∀ (H : Heap) (locs : List Loc), gV wdY G ad A s.heap S H locs → W p l e rmX6_fall s m args below meth c H locs 0 0 (MQ below (gQv wdY G ad A (r, S')) args s 0 0 A) (F0 m 0 ls []) := by
    intro H locs hV
    refine lv_iconst (v := 0) hx hb dX6_fall_0 (by decide) ?_
    refine lv_istore_n (lv' := [(1, .int (0 : Int32)), (0, .ref (ad 0))]) hx hb dX6_fall_1 rfl hl (by decide) rfl (fun ls hl => ?_)
    exact tX6_fall_2 X hA gx_fuel _ _ h _ _ _ hV (lv_sub hl [1, 0] rfl)
  exact Y _ _ hV
theorem kc_RX6_154 : gKV RX6 154 yX6_given cX6_given 12 (some .long) 2 := ⟨q_730, q_732, q_28, q_733, q_42, by decide +kernel⟩
def fX6_move_238 (K74 : gS → Int32 → Option (Unit × gS)) (S : gS) (v1 : Int32) : Option (Unit × gS) :=
gx_let (v1 + (1 : Int32)) fun v1_238 =>
K74 S v1_238
def fX6_move_232 (K74 : gS → Int32 → Option (Unit × gS)) (K117 : gS → Int32 → Int32 → Int64 → Int32 → Int32 → Option (Unit × gS)) (S : gS) (v1 : Int32) (v2 : Int32) (v3 : Int64) (v5 : Int32) (v6 : Int32) : Option (Unit × gS) :=
gx_let (v6 + (-1 : Int32)) fun v6_232 =>
K117 S v1 v2 v3 v5 v6_232
def fX6_move_117L (K74 : gS → Int32 → Option (Unit × gS)) (K117 : gS → Int32 → Int32 → Int64 → Int32 → Int32 → Option (Unit × gS)) (S : gS) (v1 : Int32) (v2 : Int32) (v3 : Int64) (v5 : Int32) (v6 : Int32) : Option (Unit × gS) :=
if v6 < 0 then (fX6_move_238 K74 S v1) else
if v3 ≤ (0 : Int64) then (fX6_move_238 K74 S v1) else
gx_chk (((61 : Int32) * v2) + v6) 3904 <|
gx_bind (fX6_lesser S v3 (gJ S 15 (Int32.toNatClampNeg (((61 : Int32) * v2) + v6)))) fun r141 S141 =>
gx_chk (((61 : Int32) * v2) + v6) 3904 <|
gx_chk (((61 : Int32) * v2) + v6) 3904 <|
gx_let (gJ_up S141 15 (Int32.toNatClampNeg (((61 : Int32) * v2) + v6)) ((gJ S141 15 (Int32.toNatClampNeg (((61 : Int32) * v2) + v6))) - r141)) fun S162 =>
gx_chk (((61 : Int32) * v2) + v6) 3904 <|
gx_chk (((61 : Int32) * v2) + v6) 3904 <|
gx_let (gJ_up S162 8 (Int32.toNatClampNeg (((61 : Int32) * v2) + v6)) ((gJ S162 8 (Int32.toNatClampNeg (((61 : Int32) * v2) + v6))) - r141)) fun S179 =>
gx_let (v3 - r141) fun v3_184 =>
gx_chk v5 64 <|
if (gA S179 5 (Int32.toNatClampNeg v5)) = (4 : Int32) then (gx_chk ((122 : Int32) + v6) 305 <|
gx_chk ((122 : Int32) + v6) 305 <|
gx_let (gJ_up S179 9 (Int32.toNatClampNeg ((122 : Int32) + v6)) ((gJ S179 9 (Int32.toNatClampNeg ((122 : Int32) + v6))) + r141)) fun S210 =>
fX6_move_232 K74 K117 S210 v1 v2 v3_184 v5 v6) else
gx_chk (((61 : Int32) * v5) + v6) 3904 <|
gx_chk (((61 : Int32) * v5) + v6) 3904 <|
gx_let (gJ_up S179 8 (Int32.toNatClampNeg (((61 : Int32) * v5) + v6)) ((gJ S179 8 (Int32.toNatClampNeg (((61 : Int32) * v5) + v6))) + r141)) fun S231 =>
fX6_move_232 K74 K117 S231 v1 v2 v3_184 v5 v6
def fX6_move_117 (K74 : gS → Int32 → Option (Unit × gS)) : Nat → gS → Int32 → Int32 → Int64 → Int32 → Int32 → Option (Unit × gS)
  | 0, _, _, _, _, _, _ => none
  | f + 1, S, v1, v2, v3, v5, v6 => fX6_move_117L K74 (fX6_move_117 K74 f) S v1 v2 v3 v5 v6
def fX6_move_111 (K74 : gS → Int32 → Option (Unit × gS)) (S : gS) (v1 : Int32) (v2 : Int32) (v3 : Int64) (t0 : Int32) : Option (Unit × gS) :=
fX6_move_117 K74 gx_fuel S v1 v2 v3 t0 (60 : Int32)
def fX6_move_74L (K74 : gS → Int32 → Option (Unit × gS)) (S : gS) (v1 : Int32) : Option (Unit × gS) :=
if (256 : Int32) ≤ v1 then (some ((), S)) else
gx_let (v1 / (4 : Int32)) fun v2_84 =>
gx_chk v1 256 <|
gx_let (gJ S 14 (Int32.toNatClampNeg v1)) fun v3_91 =>
if v3_91 ≤ (0 : Int64) then (fX6_move_111 K74 S v1 v2_84 v3_91 (-9 : Int32)) else
gx_bind (fX6_beside S v2_84 (v1 - v1 / (4 : Int32) * (4 : Int32))) fun r103 S103 =>
fX6_move_111 K74 S103 v1 v2_84 v3_91 r103
def fX6_move_74 : Nat → gS → Int32 → Option (Unit × gS)
  | 0, _, _ => none
  | f + 1, S, v1 => fX6_move_74L (fX6_move_74 f) S v1
def fX6_move_47L (K47 : gS → Int32 → Option (Unit × gS)) (S : gS) (v1 : Int32) : Option (Unit × gS) :=
if (3904 : Int32) ≤ v1 then (fX6_move_74 gx_fuel S (0 : Int32)) else
gx_chk v1 3904 <|
gx_chk v1 3904 <|
gx_let (gJ_up S 15 (Int32.toNatClampNeg v1) (gJ S 8 (Int32.toNatClampNeg v1))) fun S65 =>
gx_let (v1 + (1 : Int32)) fun v1_66 =>
K47 S65 v1_66
def fX6_move_47 : Nat → gS → Int32 → Option (Unit × gS)
  | 0, _, _ => none
  | f + 1, S, v1 => fX6_move_47L (fX6_move_47 f) S v1
def fX6_move_38 (K2 : gS → Int32 → Option (Unit × gS)) (S : gS) (v1 : Int32) (t1 : Int32) (t2 : Int64) : Option (Unit × gS) :=
gx_chk t1 256 <|
gx_let (gJ_up S 14 (Int32.toNatClampNeg t1) t2) fun S38 =>
gx_let (v1 + (1 : Int32)) fun v1_39 =>
K2 S38 v1_39
def fX6_move_2L (K2 : gS → Int32 → Option (Unit × gS)) (S : gS) (v1 : Int32) : Option (Unit × gS) :=
if (256 : Int32) ≤ v1 then (fX6_move_47 gx_fuel S (0 : Int32)) else
gx_bind (fX6_isIce S (v1 / (4 : Int32))) fun r18 S18 =>
if r18 = 0 then (fX6_move_38 K2 S18 v1 v1 (0 : Int64)) else
gx_bind (fX6_given S18 (v1 / (4 : Int32)) (v1 - v1 / (4 : Int32) * (4 : Int32))) fun r31 S31 =>
fX6_move_38 K2 S31 v1 v1 r31
def fX6_move_2 : Nat → gS → Int32 → Option (Unit × gS)
  | 0, _, _ => none
  | f + 1, S, v1 => fX6_move_2L (fX6_move_2 f) S v1
def fX6_move (S : gS) : Option (Unit × gS) :=
fX6_move_2 gx_fuel S (0 : Int32)
def rmX6_move : Room := { frames := 4, cells := 0, slots := 0, locals := 102 }
set_option maxHeartbeats 4000000 in
set_option maxRecDepth 20000 in
theorem tX6_move_238 {p : Program} {l : Launch} {e : Env} {s : State} {m : MethodId} {args : Array Value} {below : List Frame} {meth : Method} {c : Code} {G : gG} {ad : Nat → Nat} {A : Nat → Prop} {z : Unit × gS} {K74 : gS → Int32 → Option (Unit × gS)} (X : gCx p s m args meth c G cX6_move RX6 none 9) (hA : ∀ q, s.heap.size ≤ q → A q) (kK74 : ∀ (S : gS) (v1 : Int32), K74 S v1 = some z → ∀ (H : Heap) (locs : List Loc) (ls : Array Slot), gV wdY G ad A s.heap S H locs → lv_has ls 9 [(0, .ref (ad 0)), (1, .int v1)] → W p l e rmX6_move s m args below meth c H locs 0 0 (MQ below (gQv wdY G ad A z) args s 0 0 A) (F0 m 74 ls [])) (S : gS) (v1 : Int32) (h : fX6_move_238 K74 S v1 = some z) {H : Heap} {locs : List Loc} {ls : Array Slot} (hV : gV wdY G ad A s.heap S H locs) (hl : lv_has ls 9 [(0, .ref (ad 0)), (1, .int v1)]) : W p l e rmX6_move s m args below meth c H locs 0 0 (MQ below (gQv wdY G ad A z) args s 0 0 A) (F0 m 238 ls []) := by
  obtain ⟨hx, hb, hr, hml, hown, hts, hlk, hK⟩ := id X
  unfold fX6_move_238 at h
  obtain ⟨v1_238, e_238⟩ : ∃ y : Int32, y = (v1 + (1 : Int32)) := ⟨_, rfl⟩
  refine lv_iinc (v := v1_238) (lv' := [(1, .int v1_238), (0, .ref (ad 0))]) hx hb dX6_move_238 hl (k := 1) rfl (by rw [e_238]; rfl) (by decide) rfl (fun ls hl => ?_)
  replace h := gx_let_e e_238 h
  clear e_238
  refine lv_goto (tgt := 74) hx hb dX6_move_241 (by decide) ?_
  exact kK74 _ _ h _ _ _ hV (lv_sub hl [1, 0] rfl)
set_option maxHeartbeats 4000000 in
set_option maxRecDepth 20000 in
theorem tX6_move_232 {p : Program} {l : Launch} {e : Env} {s : State} {m : MethodId} {args : Array Value} {below : List Frame} {meth : Method} {c : Code} {G : gG} {ad : Nat → Nat} {A : Nat → Prop} {z : Unit × gS} {K74 : gS → Int32 → Option (Unit × gS)} {K117 : gS → Int32 → Int32 → Int64 → Int32 → Int32 → Option (Unit × gS)} (X : gCx p s m args meth c G cX6_move RX6 none 9) (hA : ∀ q, s.heap.size ≤ q → A q) (kK74 : ∀ (S : gS) (v1 : Int32), K74 S v1 = some z → ∀ (H : Heap) (locs : List Loc) (ls : Array Slot), gV wdY G ad A s.heap S H locs → lv_has ls 9 [(0, .ref (ad 0)), (1, .int v1)] → W p l e rmX6_move s m args below meth c H locs 0 0 (MQ below (gQv wdY G ad A z) args s 0 0 A) (F0 m 74 ls [])) (kK117 : ∀ (S : gS) (v1 : Int32) (v2 : Int32) (v3 : Int64) (v5 : Int32) (v6 : Int32), K117 S v1 v2 v3 v5 v6 = some z → ∀ (H : Heap) (locs : List Loc) (ls : Array Slot), gV wdY G ad A s.heap S H locs → lv_has ls 9 [(0, .ref (ad 0)), (1, .int v1), (2, .int v2), (3, .long v3), (5, .int v5), (6, .int v6)] → W p l e rmX6_move s m args below meth c H locs 0 0 (MQ below (gQv wdY G ad A z) args s 0 0 A) (F0 m 117 ls [])) (S : gS) (v1 : Int32) (v2 : Int32) (v3 : Int64) (v5 : Int32) (v6 : Int32) (h : fX6_move_232 K74 K117 S v1 v2 v3 v5 v6 = some z) {H : Heap} {locs : List Loc} {ls : Array Slot} (hV : gV wdY G ad A s.heap S H locs) (hl : lv_has ls 9 [(0, .ref (ad 0)), (1, .int v1), (2, .int v2), (3, .long v3), (5, .int v5), (6, .int v6)]) : W p l e rmX6_move s m args below meth c H locs 0 0 (MQ below (gQv wdY G ad A z) args s 0 0 A) (F0 m 232 ls []) := by
  obtain ⟨hx, hb, hr, hml, hown, hts, hlk, hK⟩ := id X
  unfold fX6_move_232 at h
  obtain ⟨v6_232, e_232⟩ : ∃ y : Int32, y = (v6 + (-1 : Int32)) := ⟨_, rfl⟩
  refine lv_iinc (v := v6_232) (lv' := [(6, .int v6_232), (0, .ref (ad 0)), (1, .int v1), (2, .int v2), (3, .long v3), (5, .int v5)]) hx hb dX6_move_232 hl (k := 5) rfl (by rw [e_232]; rfl) (by decide) rfl (fun ls hl => ?_)
  replace h := gx_let_e e_232 h
  clear e_232
  refine lv_goto (tgt := 117) hx hb dX6_move_235 (by decide) ?_
  exact kK117 _ _ _ _ _ _ h _ _ _ hV (lv_sub hl [1, 2, 3, 4, 5, 0] rfl)
set_option maxHeartbeats 4000000 in
set_option maxRecDepth 20000 in
theorem tX6_move_117L {p : Program} {l : Launch} {e : Env} {s : State} {m : MethodId} {args : Array Value} {below : List Frame} {meth : Method} {c : Code} {G : gG} {ad : Nat → Nat} {A : Nat → Prop} {z : Unit × gS} {K74 : gS → Int32 → Option (Unit × gS)} {K117 : gS → Int32 → Int32 → Int64 → Int32 → Int32 → Option (Unit × gS)} (X : gCx p s m args meth c G cX6_move RX6 none 9) (hA : ∀ q, s.heap.size ≤ q → A q) (kK74 : ∀ (S : gS) (v1 : Int32), K74 S v1 = some z → ∀ (H : Heap) (locs : List Loc) (ls : Array Slot), gV wdY G ad A s.heap S H locs → lv_has ls 9 [(0, .ref (ad 0)), (1, .int v1)] → W p l e rmX6_move s m args below meth c H locs 0 0 (MQ below (gQv wdY G ad A z) args s 0 0 A) (F0 m 74 ls [])) (kK117 : ∀ (S : gS) (v1 : Int32) (v2 : Int32) (v3 : Int64) (v5 : Int32) (v6 : Int32), K117 S v1 v2 v3 v5 v6 = some z → ∀ (H : Heap) (locs : List Loc) (ls : Array Slot), gV wdY G ad A s.heap S H locs → lv_has ls 9 [(0, .ref (ad 0)), (1, .int v1), (2, .int v2), (3, .long v3), (5, .int v5), (6, .int v6)] → W p l e rmX6_move s m args below meth c H locs 0 0 (MQ below (gQv wdY G ad A z) args s 0 0 A) (F0 m 117 ls [])) (S : gS) (v1 : Int32) (v2 : Int32) (v3 : Int64) (v5 : Int32) (v6 : Int32) (h : fX6_move_117L K74 K117 S v1 v2 v3 v5 v6 = some z) {H : Heap} {locs : List Loc} {ls : Array Slot} (hV : gV wdY G ad A s.heap S H locs) (hl : lv_has ls 9 [(0, .ref (ad 0)), (1, .int v1), (2, .int v2), (3, .long v3), (5, .int v5), (6, .int v6)]) : W p l e rmX6_move s m args below meth c H locs 0 0 (MQ below (gQv wdY G ad A z) args s 0 0 A) (F0 m 117 ls []) := by
  obtain ⟨hx, hb, hr, hml, hown, hts, hlk, hK⟩ := id X
  unfold fX6_move_117L at h
  refine lv_iload hx hb dX6_move_117 (lv_at hl 5 rfl) ?_
  refine lv_if_lt (tgt := 238) hx hb dX6_move_119 (by decide) (fun c_119 => ?_) (fun c_119 => ?_)
  · rw [if_pos c_119] at h
    exact tX6_move_238 X hA kK74 _ _ h hV (lv_sub hl [0, 1] rfl)
  · rw [if_neg c_119] at h
    refine lv_lload_n hx hb dX6_move_122 rfl (lv_at hl 3 rfl) ?_
    refine lv_lconst (v := 0) hx hb dX6_move_123 (by decide) ?_
    refine gw_cmp_le (tgt := 238) X dX6_move_124 dX6_move_125 (by decide) (fun c_124 => ?_) (fun c_124 => ?_)
    · rw [if_pos c_124] at h
      exact tX6_move_238 X hA kK74 _ _ h hV (lv_sub hl [0, 1] rfl)
    · rw [if_neg c_124] at h
      refine lv_lload_n hx hb dX6_move_128 rfl (lv_at hl 3 rfl) ?_
      refine lv_aload_n hx hb dX6_move_129 rfl (lv_at hl 0 rfl) ?_
      refine ggX6_57 X hV (o := 0) rfl dX6_move_130 ?_
      refine lv_bipush (v := 61) hx hb dX6_move_133 (by decide) ?_
      refine lv_iload_n hx hb dX6_move_135 rfl (lv_at hl 2 rfl) ?_
      refine lv_imul hx hb dX6_move_136 ?_
      refine lv_iload hx hb dX6_move_137 (lv_at hl 5 rfl) ?_
      refine lv_iadd hx hb dX6_move_139 ?_
      obtain ⟨c_140, h⟩ := gx_chk_e h
      refine gw_lald X hV (iYJ_5 (o := 15) rfl) c_140 dX6_move_140 ?_
      obtain ⟨r141, S141, k_141, h⟩ := gx_bind_e h
      refine gw_callL X hA hV (gw_runS X hV (As := [.long v3, .long (gJ S 15 (Int32.toNatClampNeg (((61 : Int32) * v2) + v6)))]) (rest := []) (mX6_lesser l G ad _ S k_141) kc_RX6_147 rfl hl.1 rfl (Nat.le_of_ble_eq_true rfl) ⟨rfl, rfl⟩ ⟨Nat.le_of_ble_eq_true rfl, Nat.le_of_ble_eq_true rfl⟩ ⟨Nat.le_refl _, Nat.le_refl _⟩ dX6_move_141) (fun H locs hV => ?_)
      refine lv_lstore (lv' := [(7, .long r141), (0, .ref (ad 0)), (1, .int v1), (2, .int v2), (3, .long v3), (5, .int v5), (6, .int v6)]) hx hb dX6_move_144 hl (by decide) rfl (fun ls hl => ?_)
      refine lv_aload_n hx hb dX6_move_146 rfl (lv_at hl 1 rfl) ?_
      refine ggX6_57 X hV (o := 0) rfl dX6_move_147 ?_
      refine lv_bipush (v := 61) hx hb dX6_move_150 (by decide) ?_
      refine lv_iload_n hx hb dX6_move_152 rfl (lv_at hl 3 rfl) ?_
      refine lv_imul hx hb dX6_move_153 ?_
      refine lv_iload hx hb dX6_move_154 (lv_at hl 6 rfl) ?_
      refine lv_iadd hx hb dX6_move_156 ?_
      refine lv_dup2_11 hx hb dX6_move_157 rfl rfl ?_
      obtain ⟨c_158, h⟩ := gx_chk_e h
      refine gw_lald X hV (iYJ_5 (o := 15) rfl) c_158 dX6_move_158 ?_
      refine lv_lload hx hb dX6_move_159 (lv_at hl 0 rfl) ?_
      refine lv_lsub hx hb dX6_move_161 ?_
      obtain ⟨c_162, h⟩ := gx_chk_e h
      refine gw_last X hV (iYJ_5 (o := 15) rfl) c_162 dX6_move_162 (fun S162 e_162 H locs hV => ?_)
      replace h := gx_let_e e_162 h
      clear e_162
      refine lv_aload_n hx hb dX6_move_163 rfl (lv_at hl 1 rfl) ?_
      refine ggX6_32 X hV (o := 0) rfl dX6_move_164 ?_
      refine lv_bipush (v := 61) hx hb dX6_move_167 (by decide) ?_
      refine lv_iload_n hx hb dX6_move_169 rfl (lv_at hl 3 rfl) ?_
      refine lv_imul hx hb dX6_move_170 ?_
      refine lv_iload hx hb dX6_move_171 (lv_at hl 6 rfl) ?_
      refine lv_iadd hx hb dX6_move_173 ?_
      refine lv_dup2_11 hx hb dX6_move_174 rfl rfl ?_
      obtain ⟨c_175, h⟩ := gx_chk_e h
      refine gw_lald X hV (iYJ_5 (o := 8) rfl) c_175 dX6_move_175 ?_
      refine lv_lload hx hb dX6_move_176 (lv_at hl 0 rfl) ?_
      refine lv_lsub hx hb dX6_move_178 ?_
      obtain ⟨c_179, h⟩ := gx_chk_e h
      refine gw_last X hV (iYJ_5 (o := 8) rfl) c_179 dX6_move_179 (fun S179 e_179 H locs hV => ?_)
      replace h := gx_let_e e_179 h
      clear e_179
      refine lv_lload_n hx hb dX6_move_180 rfl (lv_at hl 4 rfl) ?_
      refine lv_lload hx hb dX6_move_181 (lv_at hl 0 rfl) ?_
      refine lv_lsub hx hb dX6_move_183 ?_
      refine lv_topl (fun v3_184 e_184 => ?_)
      replace h := gx_let_e e_184 h
      clear e_184
      refine lv_lstore_n (lv' := [(3, .long v3_184), (7, .long r141), (0, .ref (ad 0)), (1, .int v1), (2, .int v2), (5, .int v5), (6, .int v6)]) hx hb dX6_move_184 rfl hl (by decide) rfl (fun ls hl => ?_)
      refine lv_aload_n hx hb dX6_move_185 rfl (lv_at hl 2 rfl) ?_
      refine ggX6_23 X hV (o := 0) rfl dX6_move_186 ?_
      refine lv_iload hx hb dX6_move_189 (lv_at hl 5 rfl) ?_
      obtain ⟨c_191, h⟩ := gx_chk_e h
      refine gw_iald X hV (iYA_4 (o := 5) rfl) c_191 dX6_move_191 ?_
      refine lv_iconst (v := 4) hx hb dX6_move_192 (by decide) ?_
      refine lv_icmp_ne (tgt := 214) hx hb dX6_move_193 (by decide) (fun c_193 => ?_) (fun c_193 => ?_)
      · rw [if_neg c_193] at h
        refine lv_aload_n hx hb dX6_move_214 rfl (lv_at hl 2 rfl) ?_
        refine ggX6_32 X hV (o := 0) rfl dX6_move_215 ?_
        refine lv_bipush (v := 61) hx hb dX6_move_218 (by decide) ?_
        refine lv_iload hx hb dX6_move_220 (lv_at hl 5 rfl) ?_
        refine lv_imul hx hb dX6_move_222 ?_
        refine lv_iload hx hb dX6_move_223 (lv_at hl 6 rfl) ?_
        refine lv_iadd hx hb dX6_move_225 ?_
        refine lv_dup2_11 hx hb dX6_move_226 rfl rfl ?_
        obtain ⟨c_227, h⟩ := gx_chk_e h
        refine gw_lald X hV (iYJ_5 (o := 8) rfl) c_227 dX6_move_227 ?_
        refine lv_lload hx hb dX6_move_228 (lv_at hl 1 rfl) ?_
        refine lv_ladd hx hb dX6_move_230 ?_
        obtain ⟨c_231, h⟩ := gx_chk_e h
        refine gw_last X hV (iYJ_5 (o := 8) rfl) c_231 dX6_move_231 (fun S231 e_231 H locs hV => ?_)
        replace h := gx_let_e e_231 h
        clear e_231
        exact tX6_move_232 X hA kK74 kK117 _ _ _ _ _ _ h hV (lv_sub hl [2, 3, 4, 0, 5, 6] rfl)
      · rw [if_pos c_193] at h
        refine lv_aload_n hx hb dX6_move_196 rfl (lv_at hl 2 rfl) ?_
        refine ggX6_35 X hV (o := 0) rfl dX6_move_197 ?_
        refine lv_bipush (v := 122) hx hb dX6_move_200 (by decide) ?_
        refine lv_iload hx hb dX6_move_202 (lv_at hl 6 rfl) ?_
        refine lv_iadd hx hb dX6_move_204 ?_
        refine lv_dup2_11 hx hb dX6_move_205 rfl rfl ?_
        obtain ⟨c_206, h⟩ := gx_chk_e h
        refine gw_lald X hV (iYJ_6 (o := 9) rfl) c_206 dX6_move_206 ?_
        refine lv_lload hx hb dX6_move_207 (lv_at hl 1 rfl) ?_
        refine lv_ladd hx hb dX6_move_209 ?_
        obtain ⟨c_210, h⟩ := gx_chk_e h
        refine gw_last X hV (iYJ_6 (o := 9) rfl) c_210 dX6_move_210 (fun S210 e_210 H locs hV => ?_)
        replace h := gx_let_e e_210 h
        clear e_210
        refine lv_goto (tgt := 232) hx hb dX6_move_211 (by decide) ?_
        exact tX6_move_232 X hA kK74 kK117 _ _ _ _ _ _ h hV (lv_sub hl [2, 3, 4, 0, 5, 6] rfl)
set_option maxHeartbeats 4000000 in
set_option maxRecDepth 20000 in
theorem tX6_move_117 {p : Program} {l : Launch} {e : Env} {s : State} {m : MethodId} {args : Array Value} {below : List Frame} {meth : Method} {c : Code} {G : gG} {ad : Nat → Nat} {A : Nat → Prop} {z : Unit × gS} {K74 : gS → Int32 → Option (Unit × gS)} (X : gCx p s m args meth c G cX6_move RX6 none 9) (hA : ∀ q, s.heap.size ≤ q → A q) (kK74 : ∀ (S : gS) (v1 : Int32), K74 S v1 = some z → ∀ (H : Heap) (locs : List Loc) (ls : Array Slot), gV wdY G ad A s.heap S H locs → lv_has ls 9 [(0, .ref (ad 0)), (1, .int v1)] → W p l e rmX6_move s m args below meth c H locs 0 0 (MQ below (gQv wdY G ad A z) args s 0 0 A) (F0 m 74 ls [])) : ∀ (f : Nat) (S : gS) (v1 : Int32) (v2 : Int32) (v3 : Int64) (v5 : Int32) (v6 : Int32) (h : fX6_move_117 K74 f S v1 v2 v3 v5 v6 = some z) (H : Heap) (locs : List Loc) (ls : Array Slot) (hV : gV wdY G ad A s.heap S H locs) (hl : lv_has ls 9 [(0, .ref (ad 0)), (1, .int v1), (2, .int v2), (3, .long v3), (5, .int v5), (6, .int v6)]), W p l e rmX6_move s m args below meth c H locs 0 0 (MQ below (gQv wdY G ad A z) args s 0 0 A) (F0 m 117 ls []) := by
  intro f
  induction f with
  | zero => intro S v1 v2 v3 v5 v6 h; exact absurd h (by simp [fX6_move_117])
  | succ f ih => intro S v1 v2 v3 v5 v6 h H locs ls hV hl; exact tX6_move_117L X hA kK74 ih S v1 v2 v3 v5 v6 h hV hl
set_option maxHeartbeats 4000000 in
set_option maxRecDepth 20000 in
theorem tX6_move_111 {p : Program} {l : Launch} {e : Env} {s : State} {m : MethodId} {args : Array Value} {below : List Frame} {meth : Method} {c : Code} {G : gG} {ad : Nat → Nat} {A : Nat → Prop} {z : Unit × gS} {K74 : gS → Int32 → Option (Unit × gS)} (X : gCx p s m args meth c G cX6_move RX6 none 9) (hA : ∀ q, s.heap.size ≤ q → A q) (kK74 : ∀ (S : gS) (v1 : Int32), K74 S v1 = some z → ∀ (H : Heap) (locs : List Loc) (ls : Array Slot), gV wdY G ad A s.heap S H locs → lv_has ls 9 [(0, .ref (ad 0)), (1, .int v1)] → W p l e rmX6_move s m args below meth c H locs 0 0 (MQ below (gQv wdY G ad A z) args s 0 0 A) (F0 m 74 ls [])) (S : gS) (v1 : Int32) (v2 : Int32) (v3 : Int64) (t0 : Int32) (h : fX6_move_111 K74 S v1 v2 v3 t0 = some z) {H : Heap} {locs : List Loc} {ls : Array Slot} (hV : gV wdY G ad A s.heap S H locs) (hl : lv_has ls 9 [(0, .ref (ad 0)), (1, .int v1), (2, .int v2), (3, .long v3)]) : W p l e rmX6_move s m args below meth c H locs 0 0 (MQ below (gQv wdY G ad A z) args s 0 0 A) (F0 m 111 ls [.int t0]) := by
  obtain ⟨hx, hb, hr, hml, hown, hts, hlk, hK⟩ := id X
  unfold fX6_move_111 at h
  refine lv_istore (lv' := [(5, .int t0), (0, .ref (ad 0)), (1, .int v1), (2, .int v2), (3, .long v3)]) hx hb dX6_move_111 hl (by decide) rfl (fun ls hl => ?_)
  refine lv_bipush (v := 60) hx hb dX6_move_113 (by decide) ?_
  refine lv_istore (lv' := [(6, .int (60 : Int32)), (5, .int t0), (0, .ref (ad 0)), (1, .int v1), (2, .int v2), (3, .long v3)]) hx hb dX6_move_115 hl (by decide) rfl (fun ls hl => ?_)
  exact tX6_move_117 X hA kK74 gx_fuel _ _ _ _ _ _ h _ _ _ hV (lv_sub hl [2, 3, 4, 5, 1, 0] rfl)
set_option maxHeartbeats 4000000 in
set_option maxRecDepth 20000 in
theorem tX6_move_74L {p : Program} {l : Launch} {e : Env} {s : State} {m : MethodId} {args : Array Value} {below : List Frame} {meth : Method} {c : Code} {G : gG} {ad : Nat → Nat} {A : Nat → Prop} {z : Unit × gS} {K74 : gS → Int32 → Option (Unit × gS)} (X : gCx p s m args meth c G cX6_move RX6 none 9) (hA : ∀ q, s.heap.size ≤ q → A q) (kK74 : ∀ (S : gS) (v1 : Int32), K74 S v1 = some z → ∀ (H : Heap) (locs : List Loc) (ls : Array Slot), gV wdY G ad A s.heap S H locs → lv_has ls 9 [(0, .ref (ad 0)), (1, .int v1)] → W p l e rmX6_move s m args below meth c H locs 0 0 (MQ below (gQv wdY G ad A z) args s 0 0 A) (F0 m 74 ls [])) (S : gS) (v1 : Int32) (h : fX6_move_74L K74 S v1 = some z) {H : Heap} {locs : List Loc} {ls : Array Slot} (hV : gV wdY G ad A s.heap S H locs) (hl : lv_has ls 9 [(0, .ref (ad 0)), (1, .int v1)]) : W p l e rmX6_move s m args below meth c H locs 0 0 (MQ below (gQv wdY G ad A z) args s 0 0 A) (F0 m 74 ls []) := by
  obtain ⟨hx, hb, hr, hml, hown, hts, hlk, hK⟩ := id X
  unfold fX6_move_74L at h
  refine lv_iload_n hx hb dX6_move_74 rfl (lv_at hl 1 rfl) ?_
  refine lv_sipush (v := 256) hx hb dX6_move_75 (by decide) ?_
  refine lv_icmp_ge (tgt := 244) hx hb dX6_move_78 (by decide) (fun c_78 => ?_) (fun c_78 => ?_)
  · rw [if_pos c_78] at h
    exact gw_vret X hV h dX6_move_244
  · rw [if_neg c_78] at h
    refine lv_iload_n hx hb dX6_move_81 rfl (lv_at hl 1 rfl) ?_
    refine lv_iconst (v := 4) hx hb dX6_move_82 (by decide) ?_
    refine lv_idiv hx hb dX6_move_83 (by decide) ?_
    refine lv_topi (fun v2_84 e_84 => ?_)
    replace h := gx_let_e e_84 h
    clear e_84
    refine lv_istore_n (lv' := [(2, .int v2_84), (0, .ref (ad 0)), (1, .int v1)]) hx hb dX6_move_84 rfl hl (by decide) rfl (fun ls hl => ?_)
    refine lv_aload_n hx hb dX6_move_85 rfl (lv_at hl 1 rfl) ?_
    refine ggX6_54 X hV (o := 0) rfl dX6_move_86 ?_
    refine lv_iload_n hx hb dX6_move_89 rfl (lv_at hl 2 rfl) ?_
    obtain ⟨c_90, h⟩ := gx_chk_e h
    refine gw_lald X hV (iYJ_10 (o := 14) rfl) c_90 dX6_move_90 ?_
    refine lv_topl (fun v3_91 e_91 => ?_)
    replace h := gx_let_e e_91 h
    clear e_91
    refine lv_lstore_n (lv' := [(3, .long v3_91), (2, .int v2_84), (0, .ref (ad 0)), (1, .int v1)]) hx hb dX6_move_91 rfl hl (by decide) rfl (fun ls hl => ?_)
    refine lv_lload_n hx hb dX6_move_92 rfl (lv_at hl 0 rfl) ?_
    refine lv_lconst (v := 0) hx hb dX6_move_93 (by decide) ?_
    refine gw_cmp_le (tgt := 109) X dX6_move_94 dX6_move_95 (by decide) (fun c_94 => ?_) (fun c_94 => ?_)
    · rw [if_pos c_94] at h
      refine lv_bipush (v := -9) hx hb dX6_move_109 (by decide) ?_
      exact tX6_move_111 X hA kK74 _ _ _ _ _ h hV (lv_sub hl [2, 3, 1, 0] rfl)
    · rw [if_neg c_94] at h
      refine lv_aload_n hx hb dX6_move_98 rfl (lv_at hl 2 rfl) ?_
      refine lv_iload_n hx hb dX6_move_99 rfl (lv_at hl 1 rfl) ?_
      refine lv_iload_n hx hb dX6_move_100 rfl (lv_at hl 3 rfl) ?_
      refine lv_iconst (v := 4) hx hb dX6_move_101 (by decide) ?_
      refine lv_irem hx hb dX6_move_102 (by decide) ?_
      obtain ⟨r103, S103, k_103, h⟩ := gx_bind_e h
      refine gw_callI X hA hV (gw_runV X hV (o := 0) (As := [.int v2_84, .int (v1 - v1 / (4 : Int32) * (4 : Int32))]) (rest := []) (mX6_beside l G ad _ S k_103) kc_RX6_143 (iYO_0 rfl) rfl rfl rfl hl.1 rfl (Nat.le_of_ble_eq_true rfl) ⟨rfl, rfl⟩ ⟨Nat.le_of_ble_eq_true rfl, Nat.le_of_ble_eq_true rfl⟩ ⟨Nat.le_refl _, Nat.le_refl _⟩ dX6_move_103) (fun H locs hV => ?_)
      refine lv_goto (tgt := 111) hx hb dX6_move_106 (by decide) ?_
      exact tX6_move_111 X hA kK74 _ _ _ _ _ h hV (lv_sub hl [2, 3, 1, 0] rfl)
set_option maxHeartbeats 4000000 in
set_option maxRecDepth 20000 in
theorem tX6_move_74 {p : Program} {l : Launch} {e : Env} {s : State} {m : MethodId} {args : Array Value} {below : List Frame} {meth : Method} {c : Code} {G : gG} {ad : Nat → Nat} {A : Nat → Prop} {z : Unit × gS} (X : gCx p s m args meth c G cX6_move RX6 none 9) (hA : ∀ q, s.heap.size ≤ q → A q) : ∀ (f : Nat) (S : gS) (v1 : Int32) (h : fX6_move_74 f S v1 = some z) (H : Heap) (locs : List Loc) (ls : Array Slot) (hV : gV wdY G ad A s.heap S H locs) (hl : lv_has ls 9 [(0, .ref (ad 0)), (1, .int v1)]), W p l e rmX6_move s m args below meth c H locs 0 0 (MQ below (gQv wdY G ad A z) args s 0 0 A) (F0 m 74 ls []) := by
  intro f
  induction f with
  | zero => intro S v1 h; exact absurd h (by simp [fX6_move_74])
  | succ f ih => intro S v1 h H locs ls hV hl; exact tX6_move_74L X hA ih S v1 h hV hl
set_option maxHeartbeats 4000000 in
set_option maxRecDepth 20000 in
theorem tX6_move_47L {p : Program} {l : Launch} {e : Env} {s : State} {m : MethodId} {args : Array Value} {below : List Frame} {meth : Method} {c : Code} {G : gG} {ad : Nat → Nat} {A : Nat → Prop} {z : Unit × gS} {K47 : gS → Int32 → Option (Unit × gS)} (X : gCx p s m args meth c G cX6_move RX6 none 9) (hA : ∀ q, s.heap.size ≤ q → A q) (kK47 : ∀ (S : gS) (v1 : Int32), K47 S v1 = some z → ∀ (H : Heap) (locs : List Loc) (ls : Array Slot), gV wdY G ad A s.heap S H locs → lv_has ls 9 [(0, .ref (ad 0)), (1, .int v1)] → W p l e rmX6_move s m args below meth c H locs 0 0 (MQ below (gQv wdY G ad A z) args s 0 0 A) (F0 m 47 ls [])) (S : gS) (v1 : Int32) (h : fX6_move_47L K47 S v1 = some z) {H : Heap} {locs : List Loc} {ls : Array Slot} (hV : gV wdY G ad A s.heap S H locs) (hl : lv_has ls 9 [(0, .ref (ad 0)), (1, .int v1)]) : W p l e rmX6_move s m args below meth c H locs 0 0 (MQ below (gQv wdY G ad A z) args s 0 0 A) (F0 m 47 ls []) := by
  obtain ⟨hx, hb, hr, hml, hown, hts, hlk, hK⟩ := id X
  unfold fX6_move_47L at h
  refine lv_iload_n hx hb dX6_move_47 rfl (lv_at hl 1 rfl) ?_
  refine lv_sipush (v := 3904) hx hb dX6_move_48 (by decide) ?_
  refine lv_icmp_ge (tgt := 72) hx hb dX6_move_51 (by decide) (fun c_51 => ?_) (fun c_51 => ?_)
  · rw [if_pos c_51] at h
    refine lv_iconst (v := 0) hx hb dX6_move_72 (by decide) ?_
    refine lv_istore_n (lv' := [(1, .int (0 : Int32)), (0, .ref (ad 0))]) hx hb dX6_move_73 rfl hl (by decide) rfl (fun ls hl => ?_)
    exact tX6_move_74 X hA gx_fuel _ _ h _ _ _ hV (lv_sub hl [1, 0] rfl)
  · rw [if_neg c_51] at h
    refine lv_aload_n hx hb dX6_move_54 rfl (lv_at hl 0 rfl) ?_
    refine ggX6_57 X hV (o := 0) rfl dX6_move_55 ?_
    refine lv_iload_n hx hb dX6_move_58 rfl (lv_at hl 1 rfl) ?_
    refine lv_aload_n hx hb dX6_move_59 rfl (lv_at hl 0 rfl) ?_
    refine ggX6_32 X hV (o := 0) rfl dX6_move_60 ?_
    refine lv_iload_n hx hb dX6_move_63 rfl (lv_at hl 1 rfl) ?_
    obtain ⟨c_64, h⟩ := gx_chk_e h
    refine gw_lald X hV (iYJ_5 (o := 8) rfl) c_64 dX6_move_64 ?_
    obtain ⟨c_65, h⟩ := gx_chk_e h
    refine gw_last X hV (iYJ_5 (o := 15) rfl) c_65 dX6_move_65 (fun S65 e_65 H locs hV => ?_)
    replace h := gx_let_e e_65 h
    clear e_65
    obtain ⟨v1_66, e_66⟩ : ∃ y : Int32, y = (v1 + (1 : Int32)) := ⟨_, rfl⟩
    refine lv_iinc (v := v1_66) (lv' := [(1, .int v1_66), (0, .ref (ad 0))]) hx hb dX6_move_66 hl (k := 1) rfl (by rw [e_66]; rfl) (by decide) rfl (fun ls hl => ?_)
    replace h := gx_let_e e_66 h
    clear e_66
    refine lv_goto (tgt := 47) hx hb dX6_move_69 (by decide) ?_
    exact kK47 _ _ h _ _ _ hV (lv_sub hl [1, 0] rfl)
set_option maxHeartbeats 4000000 in
set_option maxRecDepth 20000 in
theorem tX6_move_47 {p : Program} {l : Launch} {e : Env} {s : State} {m : MethodId} {args : Array Value} {below : List Frame} {meth : Method} {c : Code} {G : gG} {ad : Nat → Nat} {A : Nat → Prop} {z : Unit × gS} (X : gCx p s m args meth c G cX6_move RX6 none 9) (hA : ∀ q, s.heap.size ≤ q → A q) : ∀ (f : Nat) (S : gS) (v1 : Int32) (h : fX6_move_47 f S v1 = some z) (H : Heap) (locs : List Loc) (ls : Array Slot) (hV : gV wdY G ad A s.heap S H locs) (hl : lv_has ls 9 [(0, .ref (ad 0)), (1, .int v1)]), W p l e rmX6_move s m args below meth c H locs 0 0 (MQ below (gQv wdY G ad A z) args s 0 0 A) (F0 m 47 ls []) := by
  intro f
  induction f with
  | zero => intro S v1 h; exact absurd h (by simp [fX6_move_47])
  | succ f ih => intro S v1 h H locs ls hV hl; exact tX6_move_47L X hA ih S v1 h hV hl
set_option maxHeartbeats 4000000 in
set_option maxRecDepth 20000 in
theorem tX6_move_38 {p : Program} {l : Launch} {e : Env} {s : State} {m : MethodId} {args : Array Value} {below : List Frame} {meth : Method} {c : Code} {G : gG} {ad : Nat → Nat} {A : Nat → Prop} {z : Unit × gS} {K2 : gS → Int32 → Option (Unit × gS)} (X : gCx p s m args meth c G cX6_move RX6 none 9) (hA : ∀ q, s.heap.size ≤ q → A q) (kK2 : ∀ (S : gS) (v1 : Int32), K2 S v1 = some z → ∀ (H : Heap) (locs : List Loc) (ls : Array Slot), gV wdY G ad A s.heap S H locs → lv_has ls 9 [(0, .ref (ad 0)), (1, .int v1)] → W p l e rmX6_move s m args below meth c H locs 0 0 (MQ below (gQv wdY G ad A z) args s 0 0 A) (F0 m 2 ls [])) (S : gS) (v1 : Int32) (t1 : Int32) (t2 : Int64) (h : fX6_move_38 K2 S v1 t1 t2 = some z) {H : Heap} {locs : List Loc} {ls : Array Slot} (hV : gV wdY G ad A s.heap S H locs) (hl : lv_has ls 9 [(0, .ref (ad 0)), (1, .int v1)]) : W p l e rmX6_move s m args below meth c H locs 0 0 (MQ below (gQv wdY G ad A z) args s 0 0 A) (F0 m 38 ls [.long t2, .int t1, .ref (ad 14)]) := by
  obtain ⟨hx, hb, hr, hml, hown, hts, hlk, hK⟩ := id X
  unfold fX6_move_38 at h
  obtain ⟨c_38, h⟩ := gx_chk_e h
  refine gw_last X hV (iYJ_10 (o := 14) rfl) c_38 dX6_move_38 (fun S38 e_38 H locs hV => ?_)
  replace h := gx_let_e e_38 h
  clear e_38
  obtain ⟨v1_39, e_39⟩ : ∃ y : Int32, y = (v1 + (1 : Int32)) := ⟨_, rfl⟩
  refine lv_iinc (v := v1_39) (lv' := [(1, .int v1_39), (0, .ref (ad 0))]) hx hb dX6_move_39 hl (k := 1) rfl (by rw [e_39]; rfl) (by decide) rfl (fun ls hl => ?_)
  replace h := gx_let_e e_39 h
  clear e_39
  refine lv_goto (tgt := 2) hx hb dX6_move_42 (by decide) ?_
  exact kK2 _ _ h _ _ _ hV (lv_sub hl [1, 0] rfl)
set_option maxHeartbeats 4000000 in
set_option maxRecDepth 20000 in
theorem tX6_move_2L {p : Program} {l : Launch} {e : Env} {s : State} {m : MethodId} {args : Array Value} {below : List Frame} {meth : Method} {c : Code} {G : gG} {ad : Nat → Nat} {A : Nat → Prop} {z : Unit × gS} {K2 : gS → Int32 → Option (Unit × gS)} (X : gCx p s m args meth c G cX6_move RX6 none 9) (hA : ∀ q, s.heap.size ≤ q → A q) (kK2 : ∀ (S : gS) (v1 : Int32), K2 S v1 = some z → ∀ (H : Heap) (locs : List Loc) (ls : Array Slot), gV wdY G ad A s.heap S H locs → lv_has ls 9 [(0, .ref (ad 0)), (1, .int v1)] → W p l e rmX6_move s m args below meth c H locs 0 0 (MQ below (gQv wdY G ad A z) args s 0 0 A) (F0 m 2 ls [])) (S : gS) (v1 : Int32) (h : fX6_move_2L K2 S v1 = some z) {H : Heap} {locs : List Loc} {ls : Array Slot} (hV : gV wdY G ad A s.heap S H locs) (hl : lv_has ls 9 [(0, .ref (ad 0)), (1, .int v1)]) : W p l e rmX6_move s m args below meth c H locs 0 0 (MQ below (gQv wdY G ad A z) args s 0 0 A) (F0 m 2 ls []) := by
  obtain ⟨hx, hb, hr, hml, hown, hts, hlk, hK⟩ := id X
  unfold fX6_move_2L at h
  refine lv_iload_n hx hb dX6_move_2 rfl (lv_at hl 1 rfl) ?_
  refine lv_sipush (v := 256) hx hb dX6_move_3 (by decide) ?_
  refine lv_icmp_ge (tgt := 45) hx hb dX6_move_6 (by decide) (fun c_6 => ?_) (fun c_6 => ?_)
  · rw [if_pos c_6] at h
    refine lv_iconst (v := 0) hx hb dX6_move_45 (by decide) ?_
    refine lv_istore_n (lv' := [(1, .int (0 : Int32)), (0, .ref (ad 0))]) hx hb dX6_move_46 rfl hl (by decide) rfl (fun ls hl => ?_)
    exact tX6_move_47 X hA gx_fuel _ _ h _ _ _ hV (lv_sub hl [1, 0] rfl)
  · rw [if_neg c_6] at h
    refine lv_aload_n hx hb dX6_move_9 rfl (lv_at hl 0 rfl) ?_
    refine ggX6_54 X hV (o := 0) rfl dX6_move_10 ?_
    refine lv_iload_n hx hb dX6_move_13 rfl (lv_at hl 1 rfl) ?_
    refine lv_aload_n hx hb dX6_move_14 rfl (lv_at hl 0 rfl) ?_
    refine lv_iload_n hx hb dX6_move_15 rfl (lv_at hl 1 rfl) ?_
    refine lv_iconst (v := 4) hx hb dX6_move_16 (by decide) ?_
    refine lv_idiv hx hb dX6_move_17 (by decide) ?_
    obtain ⟨r18, S18, k_18, h⟩ := gx_bind_e h
    refine gw_callI X hA hV (gw_runV X hV (o := 0) (As := [.int (v1 / (4 : Int32))]) (rest := [.int v1, .ref (ad 14)]) (mX6_isIce l G ad _ S k_18) kc_RX6_151 (iYO_0 rfl) rfl rfl rfl hl.1 rfl (Nat.le_of_ble_eq_true rfl) ⟨rfl, rfl⟩ ⟨Nat.le_of_ble_eq_true rfl, Nat.le_of_ble_eq_true rfl⟩ ⟨Nat.le_refl _, Nat.le_refl _⟩ dX6_move_18) (fun H locs hV => ?_)
    refine lv_if_eq (tgt := 37) hx hb dX6_move_21 (by decide) (fun c_21 => ?_) (fun c_21 => ?_)
    · rw [if_pos c_21] at h
      refine lv_lconst (v := 0) hx hb dX6_move_37 (by decide) ?_
      exact tX6_move_38 X hA kK2 _ _ _ _ h hV (lv_sub hl [0, 1] rfl)
    · rw [if_neg c_21] at h
      refine lv_aload_n hx hb dX6_move_24 rfl (lv_at hl 0 rfl) ?_
      refine lv_iload_n hx hb dX6_move_25 rfl (lv_at hl 1 rfl) ?_
      refine lv_iconst (v := 4) hx hb dX6_move_26 (by decide) ?_
      refine lv_idiv hx hb dX6_move_27 (by decide) ?_
      refine lv_iload_n hx hb dX6_move_28 rfl (lv_at hl 1 rfl) ?_
      refine lv_iconst (v := 4) hx hb dX6_move_29 (by decide) ?_
      refine lv_irem hx hb dX6_move_30 (by decide) ?_
      obtain ⟨r31, S31, k_31, h⟩ := gx_bind_e h
      refine gw_callL X hA hV (gw_runV X hV (o := 0) (As := [.int (v1 / (4 : Int32)), .int (v1 - v1 / (4 : Int32) * (4 : Int32))]) (rest := [.int v1, .ref (ad 14)]) (mX6_given l G ad _ S18 k_31) kc_RX6_154 (iYO_0 rfl) rfl rfl rfl hl.1 rfl (Nat.le_of_ble_eq_true rfl) ⟨rfl, rfl⟩ ⟨Nat.le_of_ble_eq_true rfl, Nat.le_of_ble_eq_true rfl⟩ ⟨Nat.le_refl _, Nat.le_refl _⟩ dX6_move_31) (fun H locs hV => ?_)
      refine lv_goto (tgt := 38) hx hb dX6_move_34 (by decide) ?_
      exact tX6_move_38 X hA kK2 _ _ _ _ h hV (lv_sub hl [0, 1] rfl)
set_option maxHeartbeats 4000000 in
set_option maxRecDepth 20000 in
theorem tX6_move_2 {p : Program} {l : Launch} {e : Env} {s : State} {m : MethodId} {args : Array Value} {below : List Frame} {meth : Method} {c : Code} {G : gG} {ad : Nat → Nat} {A : Nat → Prop} {z : Unit × gS} (X : gCx p s m args meth c G cX6_move RX6 none 9) (hA : ∀ q, s.heap.size ≤ q → A q) : ∀ (f : Nat) (S : gS) (v1 : Int32) (h : fX6_move_2 f S v1 = some z) (H : Heap) (locs : List Loc) (ls : Array Slot) (hV : gV wdY G ad A s.heap S H locs) (hl : lv_has ls 9 [(0, .ref (ad 0)), (1, .int v1)]), W p l e rmX6_move s m args below meth c H locs 0 0 (MQ below (gQv wdY G ad A z) args s 0 0 A) (F0 m 2 ls []) := by
  intro f
  induction f with
  | zero => intro S v1 h; exact absurd h (by simp [fX6_move_2])
  | succ f ih => intro S v1 h H locs ls hV hl; exact tX6_move_2L X hA ih S v1 h hV hl
set_option maxHeartbeats 4000000 in
set_option maxRecDepth 20000 in
theorem mX6_move (l : Launch) (G : gG) (ad : Nat → Nat) (sz : Nat) (S : gS) {r : Unit} {S' : gS} (h : fX6_move S = some (r, S')) : gMetV l yX6_move cX6_move 9 none rmX6_move wdY G ad S sz [.ref (ad 0)] r S' := by
  refine gMet_of (by decide) ?_
  intro p e s m below meth c A hA X hnm hV
  have hl := lv_entry ([.ref (ad 0)]) (n := 9) (Nat.le_of_ble_eq_true rfl)
  rw [lg_entry_eq]
  generalize (lg_sl ([.ref (ad 0)]) ++ List.replicate (9 - (lg_sl ([.ref (ad 0)])).length) Slot.unset).toArray = ls at hl ⊢
  have hl : lv_has ls 9 [(0, .ref (ad 0))] := hl
  obtain ⟨hx, hb, hr, hml, hown, hts, hlk, hK⟩ := id X
  unfold fX6_move at h
  generalize ([.ref (ad 0)].toArray : Array Value) = args at X ⊢
  have Y : ∀ (H : Heap) (locs : List Loc), gV wdY G ad A s.heap S H locs → W p l e rmX6_move s m args below meth c H locs 0 0 (MQ below (gQv wdY G ad A (r, S')) args s 0 0 A) (F0 m 0 ls []) := by
    intro H locs hV
    refine lv_iconst (v := 0) hx hb dX6_move_0 (by decide) ?_
    refine lv_istore_n (lv' := [(1, .int (0 : Int32)), (0, .ref (ad 0))]) hx hb dX6_move_1 rfl hl (by decide) rfl (fun ls hl => ?_)
    exact tX6_move_2 X hA gx_fuel _ _ h _ _ _ hV (lv_sub hl [1, 0] rfl)
  exact Y _ _ hV
def fX6_swim_76 (K2 : gS → Int32 → Option (Unit × gS)) (S : gS) (v1 : Int32) : Option (Unit × gS) :=
gx_let (v1 + (1 : Int32)) fun v1_76 =>
K2 S v1_76
def fX6_swim_10L (K2 : gS → Int32 → Option (Unit × gS)) (K10 : gS → Int32 → Int32 → Option (Unit × gS)) (S : gS) (v1 : Int32) (v2 : Int32) : Option (Unit × gS) :=
if (61 : Int32) ≤ v2 then (fX6_swim_76 K2 S v1) else
gx_bind (fX6_isIce S v1) fun r18 S18 =>
if r18 = 0 then (fX6_swim_76 K2 S18 v1) else
gx_chk v1 64 <|
if (gA S18 5 (Int32.toNatClampNeg v1)) = (3 : Int32) then (gx_chk ((183 : Int32) + v2) 305 <|
gx_chk (((61 : Int32) * v1) + v2) 3904 <|
gx_chk ((183 : Int32) + v2) 305 <|
gx_let (gJ_up S18 9 (Int32.toNatClampNeg ((183 : Int32) + v2)) ((gJ S18 9 (Int32.toNatClampNeg ((183 : Int32) + v2))) + (gJ S18 8 (Int32.toNatClampNeg (((61 : Int32) * v1) + v2))))) fun S57 =>
gx_chk (((61 : Int32) * v1) + v2) 3904 <|
gx_let (gJ_up S57 8 (Int32.toNatClampNeg (((61 : Int32) * v1) + v2)) (0 : Int64)) fun S69 =>
gx_let (v2 + (1 : Int32)) fun v2_70 =>
K10 S69 v1 v2_70) else
fX6_swim_76 K2 S18 v1
def fX6_swim_10 (K2 : gS → Int32 → Option (Unit × gS)) : Nat → gS → Int32 → Int32 → Option (Unit × gS)
  | 0, _, _, _ => none
  | f + 1, S, v1, v2 => fX6_swim_10L K2 (fX6_swim_10 K2 f) S v1 v2
def fX6_swim_2L (K2 : gS → Int32 → Option (Unit × gS)) (S : gS) (v1 : Int32) : Option (Unit × gS) :=
if (64 : Int32) ≤ v1 then (some ((), S)) else
fX6_swim_10 K2 gx_fuel S v1 (0 : Int32)
def fX6_swim_2 : Nat → gS → Int32 → Option (Unit × gS)
  | 0, _, _ => none
  | f + 1, S, v1 => fX6_swim_2L (fX6_swim_2 f) S v1
def fX6_swim (S : gS) : Option (Unit × gS) :=
fX6_swim_2 gx_fuel S (0 : Int32)
def rmX6_swim : Room := { frames := 3, cells := 0, slots := 0, locals := 68 }
set_option maxHeartbeats 4000000 in
set_option maxRecDepth 20000 in
theorem tX6_swim_76 {p : Program} {l : Launch} {e : Env} {s : State} {m : MethodId} {args : Array Value} {below : List Frame} {meth : Method} {c : Code} {G : gG} {ad : Nat → Nat} {A : Nat → Prop} {z : Unit × gS} {K2 : gS → Int32 → Option (Unit × gS)} (X : gCx p s m args meth c G cX6_swim RX6 none 3) (hA : ∀ q, s.heap.size ≤ q → A q) (kK2 : ∀ (S : gS) (v1 : Int32), K2 S v1 = some z → ∀ (H : Heap) (locs : List Loc) (ls : Array Slot), gV wdY G ad A s.heap S H locs → lv_has ls 3 [(0, .ref (ad 0)), (1, .int v1)] → W p l e rmX6_swim s m args below meth c H locs 0 0 (MQ below (gQv wdY G ad A z) args s 0 0 A) (F0 m 2 ls [])) (S : gS) (v1 : Int32) (h : fX6_swim_76 K2 S v1 = some z) {H : Heap} {locs : List Loc} {ls : Array Slot} (hV : gV wdY G ad A s.heap S H locs) (hl : lv_has ls 3 [(0, .ref (ad 0)), (1, .int v1)]) : W p l e rmX6_swim s m args below meth c H locs 0 0 (MQ below (gQv wdY G ad A z) args s 0 0 A) (F0 m 76 ls []) := by
  obtain ⟨hx, hb, hr, hml, hown, hts, hlk, hK⟩ := id X
  unfold fX6_swim_76 at h
  obtain ⟨v1_76, e_76⟩ : ∃ y : Int32, y = (v1 + (1 : Int32)) := ⟨_, rfl⟩
  refine lv_iinc (v := v1_76) (lv' := [(1, .int v1_76), (0, .ref (ad 0))]) hx hb dX6_swim_76 hl (k := 1) rfl (by rw [e_76]; rfl) (by decide) rfl (fun ls hl => ?_)
  replace h := gx_let_e e_76 h
  clear e_76
  refine lv_goto (tgt := 2) hx hb dX6_swim_79 (by decide) ?_
  exact kK2 _ _ h _ _ _ hV (lv_sub hl [1, 0] rfl)
set_option maxHeartbeats 4000000 in
set_option maxRecDepth 20000 in
theorem tX6_swim_10L {p : Program} {l : Launch} {e : Env} {s : State} {m : MethodId} {args : Array Value} {below : List Frame} {meth : Method} {c : Code} {G : gG} {ad : Nat → Nat} {A : Nat → Prop} {z : Unit × gS} {K2 : gS → Int32 → Option (Unit × gS)} {K10 : gS → Int32 → Int32 → Option (Unit × gS)} (X : gCx p s m args meth c G cX6_swim RX6 none 3) (hA : ∀ q, s.heap.size ≤ q → A q) (kK2 : ∀ (S : gS) (v1 : Int32), K2 S v1 = some z → ∀ (H : Heap) (locs : List Loc) (ls : Array Slot), gV wdY G ad A s.heap S H locs → lv_has ls 3 [(0, .ref (ad 0)), (1, .int v1)] → W p l e rmX6_swim s m args below meth c H locs 0 0 (MQ below (gQv wdY G ad A z) args s 0 0 A) (F0 m 2 ls [])) (kK10 : ∀ (S : gS) (v1 : Int32) (v2 : Int32), K10 S v1 v2 = some z → ∀ (H : Heap) (locs : List Loc) (ls : Array Slot), gV wdY G ad A s.heap S H locs → lv_has ls 3 [(0, .ref (ad 0)), (1, .int v1), (2, .int v2)] → W p l e rmX6_swim s m args below meth c H locs 0 0 (MQ below (gQv wdY G ad A z) args s 0 0 A) (F0 m 10 ls [])) (S : gS) (v1 : Int32) (v2 : Int32) (h : fX6_swim_10L K2 K10 S v1 v2 = some z) {H : Heap} {locs : List Loc} {ls : Array Slot} (hV : gV wdY G ad A s.heap S H locs) (hl : lv_has ls 3 [(0, .ref (ad 0)), (1, .int v1), (2, .int v2)]) : W p l e rmX6_swim s m args below meth c H locs 0 0 (MQ below (gQv wdY G ad A z) args s 0 0 A) (F0 m 10 ls []) := by
  obtain ⟨hx, hb, hr, hml, hown, hts, hlk, hK⟩ := id X
  unfold fX6_swim_10L at h
  refine lv_iload_n hx hb dX6_swim_10 rfl (lv_at hl 2 rfl) ?_
  refine lv_bipush (v := 61) hx hb dX6_swim_11 (by decide) ?_
  refine lv_icmp_ge (tgt := 76) hx hb dX6_swim_13 (by decide) (fun c_13 => ?_) (fun c_13 => ?_)
  · rw [if_pos c_13] at h
    exact tX6_swim_76 X hA kK2 _ _ h hV (lv_sub hl [0, 1] rfl)
  · rw [if_neg c_13] at h
    refine lv_aload_n hx hb dX6_swim_16 rfl (lv_at hl 0 rfl) ?_
    refine lv_iload_n hx hb dX6_swim_17 rfl (lv_at hl 1 rfl) ?_
    obtain ⟨r18, S18, k_18, h⟩ := gx_bind_e h
    refine gw_callI X hA hV (gw_runV X hV (o := 0) (As := [.int v1]) (rest := []) (mX6_isIce l G ad _ S k_18) kc_RX6_151 (iYO_0 rfl) rfl rfl rfl hl.1 rfl (Nat.le_of_ble_eq_true rfl) ⟨rfl, rfl⟩ ⟨Nat.le_of_ble_eq_true rfl, Nat.le_of_ble_eq_true rfl⟩ ⟨Nat.le_refl _, Nat.le_refl _⟩ dX6_swim_18) (fun H locs hV => ?_)
    refine lv_if_eq (tgt := 76) hx hb dX6_swim_21 (by decide) (fun c_21 => ?_) (fun c_21 => ?_)
    · rw [if_pos c_21] at h
      exact tX6_swim_76 X hA kK2 _ _ h hV (lv_sub hl [0, 1] rfl)
    · rw [if_neg c_21] at h
      refine lv_aload_n hx hb dX6_swim_24 rfl (lv_at hl 0 rfl) ?_
      refine ggX6_23 X hV (o := 0) rfl dX6_swim_25 ?_
      refine lv_iload_n hx hb dX6_swim_28 rfl (lv_at hl 1 rfl) ?_
      obtain ⟨c_29, h⟩ := gx_chk_e h
      refine gw_iald X hV (iYA_4 (o := 5) rfl) c_29 dX6_swim_29 ?_
      refine lv_iconst (v := 3) hx hb dX6_swim_30 (by decide) ?_
      refine lv_icmp_ne (tgt := 76) hx hb dX6_swim_31 (by decide) (fun c_31 => ?_) (fun c_31 => ?_)
      · rw [if_neg c_31] at h
        exact tX6_swim_76 X hA kK2 _ _ h hV (lv_sub hl [0, 1] rfl)
      · rw [if_pos c_31] at h
        refine lv_aload_n hx hb dX6_swim_34 rfl (lv_at hl 0 rfl) ?_
        refine ggX6_35 X hV (o := 0) rfl dX6_swim_35 ?_
        refine lv_sipush (v := 183) hx hb dX6_swim_38 (by decide) ?_
        refine lv_iload_n hx hb dX6_swim_41 rfl (lv_at hl 2 rfl) ?_
        refine lv_iadd hx hb dX6_swim_42 ?_
        refine lv_dup2_11 hx hb dX6_swim_43 rfl rfl ?_
        obtain ⟨c_44, h⟩ := gx_chk_e h
        refine gw_lald X hV (iYJ_6 (o := 9) rfl) c_44 dX6_swim_44 ?_
        refine lv_aload_n hx hb dX6_swim_45 rfl (lv_at hl 0 rfl) ?_
        refine ggX6_32 X hV (o := 0) rfl dX6_swim_46 ?_
        refine lv_bipush (v := 61) hx hb dX6_swim_49 (by decide) ?_
        refine lv_iload_n hx hb dX6_swim_51 rfl (lv_at hl 1 rfl) ?_
        refine lv_imul hx hb dX6_swim_52 ?_
        refine lv_iload_n hx hb dX6_swim_53 rfl (lv_at hl 2 rfl) ?_
        refine lv_iadd hx hb dX6_swim_54 ?_
        obtain ⟨c_55, h⟩ := gx_chk_e h
        refine gw_lald X hV (iYJ_5 (o := 8) rfl) c_55 dX6_swim_55 ?_
        refine lv_ladd hx hb dX6_swim_56 ?_
        obtain ⟨c_57, h⟩ := gx_chk_e h
        refine gw_last X hV (iYJ_6 (o := 9) rfl) c_57 dX6_swim_57 (fun S57 e_57 H locs hV => ?_)
        replace h := gx_let_e e_57 h
        clear e_57
        refine lv_aload_n hx hb dX6_swim_58 rfl (lv_at hl 0 rfl) ?_
        refine ggX6_32 X hV (o := 0) rfl dX6_swim_59 ?_
        refine lv_bipush (v := 61) hx hb dX6_swim_62 (by decide) ?_
        refine lv_iload_n hx hb dX6_swim_64 rfl (lv_at hl 1 rfl) ?_
        refine lv_imul hx hb dX6_swim_65 ?_
        refine lv_iload_n hx hb dX6_swim_66 rfl (lv_at hl 2 rfl) ?_
        refine lv_iadd hx hb dX6_swim_67 ?_
        refine lv_lconst (v := 0) hx hb dX6_swim_68 (by decide) ?_
        obtain ⟨c_69, h⟩ := gx_chk_e h
        refine gw_last X hV (iYJ_5 (o := 8) rfl) c_69 dX6_swim_69 (fun S69 e_69 H locs hV => ?_)
        replace h := gx_let_e e_69 h
        clear e_69
        obtain ⟨v2_70, e_70⟩ : ∃ y : Int32, y = (v2 + (1 : Int32)) := ⟨_, rfl⟩
        refine lv_iinc (v := v2_70) (lv' := [(2, .int v2_70), (0, .ref (ad 0)), (1, .int v1)]) hx hb dX6_swim_70 hl (k := 2) rfl (by rw [e_70]; rfl) (by decide) rfl (fun ls hl => ?_)
        replace h := gx_let_e e_70 h
        clear e_70
        refine lv_goto (tgt := 10) hx hb dX6_swim_73 (by decide) ?_
        exact kK10 _ _ _ h _ _ _ hV (lv_sub hl [1, 2, 0] rfl)
set_option maxHeartbeats 4000000 in
set_option maxRecDepth 20000 in
theorem tX6_swim_10 {p : Program} {l : Launch} {e : Env} {s : State} {m : MethodId} {args : Array Value} {below : List Frame} {meth : Method} {c : Code} {G : gG} {ad : Nat → Nat} {A : Nat → Prop} {z : Unit × gS} {K2 : gS → Int32 → Option (Unit × gS)} (X : gCx p s m args meth c G cX6_swim RX6 none 3) (hA : ∀ q, s.heap.size ≤ q → A q) (kK2 : ∀ (S : gS) (v1 : Int32), K2 S v1 = some z → ∀ (H : Heap) (locs : List Loc) (ls : Array Slot), gV wdY G ad A s.heap S H locs → lv_has ls 3 [(0, .ref (ad 0)), (1, .int v1)] → W p l e rmX6_swim s m args below meth c H locs 0 0 (MQ below (gQv wdY G ad A z) args s 0 0 A) (F0 m 2 ls [])) : ∀ (f : Nat) (S : gS) (v1 : Int32) (v2 : Int32) (h : fX6_swim_10 K2 f S v1 v2 = some z) (H : Heap) (locs : List Loc) (ls : Array Slot) (hV : gV wdY G ad A s.heap S H locs) (hl : lv_has ls 3 [(0, .ref (ad 0)), (1, .int v1), (2, .int v2)]), W p l e rmX6_swim s m args below meth c H locs 0 0 (MQ below (gQv wdY G ad A z) args s 0 0 A) (F0 m 10 ls []) := by
  intro f
  induction f with
  | zero => intro S v1 v2 h; exact absurd h (by simp [fX6_swim_10])
  | succ f ih => intro S v1 v2 h H locs ls hV hl; exact tX6_swim_10L X hA kK2 ih S v1 v2 h hV hl
set_option maxHeartbeats 4000000 in
set_option maxRecDepth 20000 in
theorem tX6_swim_2L {p : Program} {l : Launch} {e : Env} {s : State} {m : MethodId} {args : Array Value} {below : List Frame} {meth : Method} {c : Code} {G : gG} {ad : Nat → Nat} {A : Nat → Prop} {z : Unit × gS} {K2 : gS → Int32 → Option (Unit × gS)} (X : gCx p s m args meth c G cX6_swim RX6 none 3) (hA : ∀ q, s.heap.size ≤ q → A q) (kK2 : ∀ (S : gS) (v1 : Int32), K2 S v1 = some z → ∀ (H : Heap) (locs : List Loc) (ls : Array Slot), gV wdY G ad A s.heap S H locs → lv_has ls 3 [(0, .ref (ad 0)), (1, .int v1)] → W p l e rmX6_swim s m args below meth c H locs 0 0 (MQ below (gQv wdY G ad A z) args s 0 0 A) (F0 m 2 ls [])) (S : gS) (v1 : Int32) (h : fX6_swim_2L K2 S v1 = some z) {H : Heap} {locs : List Loc} {ls : Array Slot} (hV : gV wdY G ad A s.heap S H locs) (hl : lv_has ls 3 [(0, .ref (ad 0)), (1, .int v1)]) : W p l e rmX6_swim s m args below meth c H locs 0 0 (MQ below (gQv wdY G ad A z) args s 0 0 A) (F0 m 2 ls []) := by
  obtain ⟨hx, hb, hr, hml, hown, hts, hlk, hK⟩ := id X
  unfold fX6_swim_2L at h
  refine lv_iload_n hx hb dX6_swim_2 rfl (lv_at hl 1 rfl) ?_
  refine lv_bipush (v := 64) hx hb dX6_swim_3 (by decide) ?_
  refine lv_icmp_ge (tgt := 82) hx hb dX6_swim_5 (by decide) (fun c_5 => ?_) (fun c_5 => ?_)
  · rw [if_pos c_5] at h
    exact gw_vret X hV h dX6_swim_82
  · rw [if_neg c_5] at h
    refine lv_iconst (v := 0) hx hb dX6_swim_8 (by decide) ?_
    refine lv_istore_n (lv' := [(2, .int (0 : Int32)), (0, .ref (ad 0)), (1, .int v1)]) hx hb dX6_swim_9 rfl hl (by decide) rfl (fun ls hl => ?_)
    exact tX6_swim_10 X hA kK2 gx_fuel _ _ _ h _ _ _ hV (lv_sub hl [1, 2, 0] rfl)
set_option maxHeartbeats 4000000 in
set_option maxRecDepth 20000 in
theorem tX6_swim_2 {p : Program} {l : Launch} {e : Env} {s : State} {m : MethodId} {args : Array Value} {below : List Frame} {meth : Method} {c : Code} {G : gG} {ad : Nat → Nat} {A : Nat → Prop} {z : Unit × gS} (X : gCx p s m args meth c G cX6_swim RX6 none 3) (hA : ∀ q, s.heap.size ≤ q → A q) : ∀ (f : Nat) (S : gS) (v1 : Int32) (h : fX6_swim_2 f S v1 = some z) (H : Heap) (locs : List Loc) (ls : Array Slot) (hV : gV wdY G ad A s.heap S H locs) (hl : lv_has ls 3 [(0, .ref (ad 0)), (1, .int v1)]), W p l e rmX6_swim s m args below meth c H locs 0 0 (MQ below (gQv wdY G ad A z) args s 0 0 A) (F0 m 2 ls []) := by
  intro f
  induction f with
  | zero => intro S v1 h; exact absurd h (by simp [fX6_swim_2])
  | succ f ih => intro S v1 h H locs ls hV hl; exact tX6_swim_2L X hA ih S v1 h hV hl
set_option maxHeartbeats 4000000 in
set_option maxRecDepth 20000 in
theorem mX6_swim (l : Launch) (G : gG) (ad : Nat → Nat) (sz : Nat) (S : gS) {r : Unit} {S' : gS} (h : fX6_swim S = some (r, S')) : gMetV l yX6_swim cX6_swim 3 none rmX6_swim wdY G ad S sz [.ref (ad 0)] r S' := by
  refine gMet_of (by decide) ?_
  intro p e s m below meth c A hA X hnm hV
  have hl := lv_entry ([.ref (ad 0)]) (n := 3) (Nat.le_of_ble_eq_true rfl)
  rw [lg_entry_eq]
  generalize (lg_sl ([.ref (ad 0)]) ++ List.replicate (3 - (lg_sl ([.ref (ad 0)])).length) Slot.unset).toArray = ls at hl ⊢
  have hl : lv_has ls 3 [(0, .ref (ad 0))] := hl
  obtain ⟨hx, hb, hr, hml, hown, hts, hlk, hK⟩ := id X
  unfold fX6_swim at h
  generalize ([.ref (ad 0)].toArray : Array Value) = args at X ⊢
  have Y : ∀ (H : Heap) (locs : List Loc), gV wdY G ad A s.heap S H locs → W p l e rmX6_swim s m args below meth c H locs 0 0 (MQ below (gQv wdY G ad A (r, S')) args s 0 0 A) (F0 m 0 ls []) := by
    intro H locs hV
    refine lv_iconst (v := 0) hx hb dX6_swim_0 (by decide) ?_
    refine lv_istore_n (lv' := [(1, .int (0 : Int32)), (0, .ref (ad 0))]) hx hb dX6_swim_1 rfl hl (by decide) rfl (fun ls hl => ?_)
    exact tX6_swim_2 X hA gx_fuel _ _ h _ _ _ hV (lv_sub hl [1, 0] rfl)
  exact Y _ _ hV
theorem kc_RX6_158 : gKV RX6 158 yX6_keep cX6_keep 2 none 0 := ⟨q_711, q_713, q_24, q_714, q_42, by decide +kernel⟩
theorem kc_RX6_161 : gKV RX6 161 yX6_fall cX6_fall 8 none 0 := ⟨q_715, q_717, q_25, q_718, q_42, by decide +kernel⟩
theorem kc_RX6_164 : gKV RX6 164 yX6_move cX6_move 9 none 0 := ⟨q_726, q_728, q_27, q_729, q_42, by decide +kernel⟩
theorem kc_RX6_167 : gKV RX6 167 yX6_swim cX6_swim 3 none 0 := ⟨q_738, q_740, q_30, q_741, q_42, by decide +kernel⟩
def fX6_oneYear (S : gS) : Option (Unit × gS) :=
gx_bind (fX6_keep S) fun r1 S1 =>
gx_let (gI_up S1 0 7 ((gI S1 0 7) + (1 : Int32))) fun S11 =>
gx_bind (fX6_fall S11) fun r15 S15 =>
gx_bind (fX6_move S15) fun r19 S19 =>
gx_bind (fX6_swim S19) fun r23 S23 =>
some ((), S23)
def rmX6_oneYear : Room := { frames := 5, cells := 0, slots := 0, locals := 130 }
set_option maxHeartbeats 4000000 in
set_option maxRecDepth 20000 in
theorem mX6_oneYear (l : Launch) (G : gG) (ad : Nat → Nat) (sz : Nat) (S : gS) {r : Unit} {S' : gS} (h : fX6_oneYear S = some (r, S')) : gMetV l yX6_oneYear cX6_oneYear 1 none rmX6_oneYear wdY G ad S sz [.ref (ad 0)] r S' := by
  refine gMet_of (by decide) ?_
  intro p e s m below meth c A hA X hnm hV
  have hl := lv_entry ([.ref (ad 0)]) (n := 1) (Nat.le_of_ble_eq_true rfl)
  rw [lg_entry_eq]
  generalize (lg_sl ([.ref (ad 0)]) ++ List.replicate (1 - (lg_sl ([.ref (ad 0)])).length) Slot.unset).toArray = ls at hl ⊢
  have hl : lv_has ls 1 [(0, .ref (ad 0))] := hl
  obtain ⟨hx, hb, hr, hml, hown, hts, hlk, hK⟩ := id X
  unfold fX6_oneYear at h
  generalize ([.ref (ad 0)].toArray : Array Value) = args at X ⊢
  have Y : ∀ (H : Heap) (locs : List Loc), gV wdY G ad A s.heap S H locs → W p l e rmX6_oneYear s m args below meth c H locs 0 0 (MQ below (gQv wdY G ad A (r, S')) args s 0 0 A) (F0 m 0 ls []) := by
    intro H locs hV
    refine lv_aload_n hx hb dX6_oneYear_0 rfl (lv_at hl 0 rfl) ?_
    obtain ⟨r1, S1, k_1, h⟩ := gx_bind_e h
    refine gw_callv X hA hV (gw_runV X hV (o := 0) (As := []) (rest := []) (mX6_keep l G ad _ S k_1) kc_RX6_158 (iYO_0 rfl) rfl rfl rfl hl.1 rfl (Nat.le_of_ble_eq_true rfl) ⟨rfl, rfl⟩ ⟨Nat.le_of_ble_eq_true rfl, Nat.le_of_ble_eq_true rfl⟩ ⟨Nat.le_refl _, Nat.le_refl _⟩ dX6_oneYear_1) (fun H locs hV => ?_)
    refine lv_aload_n hx hb dX6_oneYear_4 rfl (lv_at hl 0 rfl) ?_
    refine lv_dup hx hb dX6_oneYear_5 rfl ?_
    refine ggX6_107 X hV (o := 0) rfl dX6_oneYear_6 ?_
    refine lv_iconst (v := 1) hx hb dX6_oneYear_9 (by decide) ?_
    refine lv_iadd hx hb dX6_oneYear_10 ?_
    refine gpX6_107 X hV (o := 0) rfl dX6_oneYear_11 (fun S11 e_11 H locs hV => ?_)
    replace h := gx_let_e e_11 h
    clear e_11
    refine lv_aload_n hx hb dX6_oneYear_14 rfl (lv_at hl 0 rfl) ?_
    obtain ⟨r15, S15, k_15, h⟩ := gx_bind_e h
    refine gw_callv X hA hV (gw_runV X hV (o := 0) (As := []) (rest := []) (mX6_fall l G ad _ S11 k_15) kc_RX6_161 (iYO_0 rfl) rfl rfl rfl hl.1 rfl (Nat.le_of_ble_eq_true rfl) ⟨rfl, rfl⟩ ⟨Nat.le_of_ble_eq_true rfl, Nat.le_of_ble_eq_true rfl⟩ ⟨Nat.le_refl _, Nat.le_refl _⟩ dX6_oneYear_15) (fun H locs hV => ?_)
    refine lv_aload_n hx hb dX6_oneYear_18 rfl (lv_at hl 0 rfl) ?_
    obtain ⟨r19, S19, k_19, h⟩ := gx_bind_e h
    refine gw_callv X hA hV (gw_runV X hV (o := 0) (As := []) (rest := []) (mX6_move l G ad _ S15 k_19) kc_RX6_164 (iYO_0 rfl) rfl rfl rfl hl.1 rfl (Nat.le_of_ble_eq_true rfl) ⟨rfl, rfl⟩ ⟨Nat.le_of_ble_eq_true rfl, Nat.le_of_ble_eq_true rfl⟩ ⟨Nat.le_refl _, Nat.le_refl _⟩ dX6_oneYear_19) (fun H locs hV => ?_)
    refine lv_aload_n hx hb dX6_oneYear_22 rfl (lv_at hl 0 rfl) ?_
    obtain ⟨r23, S23, k_23, h⟩ := gx_bind_e h
    refine gw_callv X hA hV (gw_runV X hV (o := 0) (As := []) (rest := []) (mX6_swim l G ad _ S19 k_23) kc_RX6_167 (iYO_0 rfl) rfl rfl rfl hl.1 rfl (Nat.le_of_ble_eq_true rfl) ⟨rfl, rfl⟩ ⟨Nat.le_of_ble_eq_true rfl, Nat.le_of_ble_eq_true rfl⟩ ⟨Nat.le_refl _, Nat.le_refl _⟩ dX6_oneYear_23) (fun H locs hV => ?_)
    exact gw_vret X hV h dX6_oneYear_26
  exact Y _ _ hV
theorem kc_RX6_172 : gKV RX6 172 yX6_oneYear cX6_oneYear 1 none 0 := ⟨q_707, q_709, q_23, q_710, q_42, by decide +kernel⟩
def fX6_years_41L (K41 : gS → Int32 → Int32 → Option (Int32 × gS)) (S : gS) (v1 : Int32) (v2 : Int32) : Option (Int32 × gS) :=
if v1 ≤ v2 then (some ((gI S 0 7), S)) else
gx_bind (fX6_oneYear S) fun r47 S47 =>
gx_let (v2 + (1 : Int32)) fun v2_50 =>
K41 S47 v1 v2_50
def fX6_years_41 : Nat → gS → Int32 → Int32 → Option (Int32 × gS)
  | 0, _, _, _ => none
  | f + 1, S, v1, v2 => fX6_years_41L (fX6_years_41 f) S v1 v2
def fX6_years (S : gS) (v1 : Int32) : Option (Int32 × gS) :=
gx_bind (fX6_in S (Int32.toInt64 v1) (1 : Int64) (60 : Int64)) fun r6 S6 =>
if r6 = 0 then (some ((-2 : Int32), S6)) else
if (gI S6 0 5) = 0 then (some ((-3 : Int32), S6)) else
if ((gI S6 0 7) + v1) ≤ (60 : Int32) then (fX6_years_41 gx_fuel S6 v1 (0 : Int32)) else
some ((-4 : Int32), S6)
def rmX6_years : Room := { frames := 6, cells := 0, slots := 0, locals := 150 }
set_option maxHeartbeats 4000000 in
set_option maxRecDepth 20000 in
theorem tX6_years_41L {p : Program} {l : Launch} {e : Env} {s : State} {m : MethodId} {args : Array Value} {below : List Frame} {meth : Method} {c : Code} {G : gG} {ad : Nat → Nat} {A : Nat → Prop} {z : Int32 × gS} {K41 : gS → Int32 → Int32 → Option (Int32 × gS)} (X : gCx p s m args meth c G cX6_years RX6 (some .int) 3) (hA : ∀ q, s.heap.size ≤ q → A q) (kK41 : ∀ (S : gS) (v1 : Int32) (v2 : Int32), K41 S v1 v2 = some z → ∀ (H : Heap) (locs : List Loc) (ls : Array Slot), gV wdY G ad A s.heap S H locs → lv_has ls 3 [(0, .ref (ad 0)), (1, .int v1), (2, .int v2)] → W p l e rmX6_years s m args below meth c H locs 0 0 (MQ below (gQi wdY G ad A z) args s 0 0 A) (F0 m 41 ls [])) (S : gS) (v1 : Int32) (v2 : Int32) (h : fX6_years_41L K41 S v1 v2 = some z) {H : Heap} {locs : List Loc} {ls : Array Slot} (hV : gV wdY G ad A s.heap S H locs) (hl : lv_has ls 3 [(0, .ref (ad 0)), (1, .int v1), (2, .int v2)]) : W p l e rmX6_years s m args below meth c H locs 0 0 (MQ below (gQi wdY G ad A z) args s 0 0 A) (F0 m 41 ls []) := by
  obtain ⟨hx, hb, hr, hml, hown, hts, hlk, hK⟩ := id X
  unfold fX6_years_41L at h
  refine lv_iload_n hx hb dX6_years_41 rfl (lv_at hl 2 rfl) ?_
  refine lv_iload_n hx hb dX6_years_42 rfl (lv_at hl 1 rfl) ?_
  refine lv_icmp_ge (tgt := 56) hx hb dX6_years_43 (by decide) (fun c_43 => ?_) (fun c_43 => ?_)
  · rw [if_pos c_43] at h
    refine lv_aload_n hx hb dX6_years_56 rfl (lv_at hl 0 rfl) ?_
    refine ggX6_107 X hV (o := 0) rfl dX6_years_57 ?_
    exact gw_ireti X hV h dX6_years_60
  · rw [if_neg c_43] at h
    refine lv_aload_n hx hb dX6_years_46 rfl (lv_at hl 0 rfl) ?_
    obtain ⟨r47, S47, k_47, h⟩ := gx_bind_e h
    refine gw_callv X hA hV (gw_runV X hV (o := 0) (As := []) (rest := []) (mX6_oneYear l G ad _ S k_47) kc_RX6_172 (iYO_0 rfl) rfl rfl rfl hl.1 rfl (Nat.le_of_ble_eq_true rfl) ⟨rfl, rfl⟩ ⟨Nat.le_of_ble_eq_true rfl, Nat.le_of_ble_eq_true rfl⟩ ⟨Nat.le_refl _, Nat.le_refl _⟩ dX6_years_47) (fun H locs hV => ?_)
    obtain ⟨v2_50, e_50⟩ : ∃ y : Int32, y = (v2 + (1 : Int32)) := ⟨_, rfl⟩
    refine lv_iinc (v := v2_50) (lv' := [(2, .int v2_50), (0, .ref (ad 0)), (1, .int v1)]) hx hb dX6_years_50 hl (k := 2) rfl (by rw [e_50]; rfl) (by decide) rfl (fun ls hl => ?_)
    replace h := gx_let_e e_50 h
    clear e_50
    refine lv_goto (tgt := 41) hx hb dX6_years_53 (by decide) ?_
    exact kK41 _ _ _ h _ _ _ hV (lv_sub hl [1, 2, 0] rfl)
set_option maxHeartbeats 4000000 in
set_option maxRecDepth 20000 in
theorem tX6_years_41 {p : Program} {l : Launch} {e : Env} {s : State} {m : MethodId} {args : Array Value} {below : List Frame} {meth : Method} {c : Code} {G : gG} {ad : Nat → Nat} {A : Nat → Prop} {z : Int32 × gS} (X : gCx p s m args meth c G cX6_years RX6 (some .int) 3) (hA : ∀ q, s.heap.size ≤ q → A q) : ∀ (f : Nat) (S : gS) (v1 : Int32) (v2 : Int32) (h : fX6_years_41 f S v1 v2 = some z) (H : Heap) (locs : List Loc) (ls : Array Slot) (hV : gV wdY G ad A s.heap S H locs) (hl : lv_has ls 3 [(0, .ref (ad 0)), (1, .int v1), (2, .int v2)]), W p l e rmX6_years s m args below meth c H locs 0 0 (MQ below (gQi wdY G ad A z) args s 0 0 A) (F0 m 41 ls []) := by
  intro f
  induction f with
  | zero => intro S v1 v2 h; exact absurd h (by simp [fX6_years_41])
  | succ f ih => intro S v1 v2 h H locs ls hV hl; exact tX6_years_41L X hA ih S v1 v2 h hV hl
set_option maxHeartbeats 4000000 in
set_option maxRecDepth 20000 in
theorem mX6_years (l : Launch) (G : gG) (ad : Nat → Nat) (sz : Nat) (S : gS) {v1 : Int32} {r : Int32} {S' : gS} (h : fX6_years S v1 = some (r, S')) : gMetI l yX6_years cX6_years 3 (some .int) rmX6_years wdY G ad S sz [.ref (ad 0), .int v1] r S' := by
  refine gMet_of (by decide) ?_
  intro p e s m below meth c A hA X hnm hV
  have hl := lv_entry ([.ref (ad 0), .int v1]) (n := 3) (Nat.le_of_ble_eq_true rfl)
  rw [lg_entry_eq]
  generalize (lg_sl ([.ref (ad 0), .int v1]) ++ List.replicate (3 - (lg_sl ([.ref (ad 0), .int v1])).length) Slot.unset).toArray = ls at hl ⊢
  have hl : lv_has ls 3 [(0, .ref (ad 0)), (1, .int v1)] := hl
  obtain ⟨hx, hb, hr, hml, hown, hts, hlk, hK⟩ := id X
  unfold fX6_years at h
  generalize ([.ref (ad 0), .int v1].toArray : Array Value) = args at X ⊢
  have Y : ∀ (H : Heap) (locs : List Loc), gV wdY G ad A s.heap S H locs → W p l e rmX6_years s m args below meth c H locs 0 0 (MQ below (gQi wdY G ad A (r, S')) args s 0 0 A) (F0 m 0 ls []) := by
    intro H locs hV
    refine lv_iload_n hx hb dX6_years_0 rfl (lv_at hl 1 rfl) ?_
    refine lv_i2l hx hb dX6_years_1 rfl ?_
    refine lv_lconst (v := 1) hx hb dX6_years_2 (by decide) ?_
    refine lv_ldc2 (v := 60) hx hb hown (hts _ q_706) dX6_years_3 ?_
    obtain ⟨r6, S6, k_6, h⟩ := gx_bind_e h
    refine gw_callI X hA hV (gw_runS X hV (As := [.long (Int32.toInt64 v1), .long (1 : Int64), .long (60 : Int64)]) (rest := []) (mX6_in l G ad _ S k_6) kc_RX6_77 rfl hl.1 rfl (Nat.le_of_ble_eq_true rfl) ⟨rfl, rfl⟩ ⟨Nat.le_of_ble_eq_true rfl, Nat.le_of_ble_eq_true rfl⟩ ⟨Nat.le_refl _, Nat.le_refl _⟩ dX6_years_6) (fun H locs hV => ?_)
    refine lv_if_ne (tgt := 15) hx hb dX6_years_9 (by decide) (fun c_9 => ?_) (fun c_9 => ?_)
    · rw [if_neg c_9] at h
      refine lv_aload_n hx hb dX6_years_15 rfl (lv_at hl 0 rfl) ?_
      refine ggX6_99 X hV (o := 0) rfl dX6_years_16 ?_
      refine lv_if_ne (tgt := 25) hx hb dX6_years_19 (by decide) (fun c_19 => ?_) (fun c_19 => ?_)
      · rw [if_neg c_19] at h
        refine lv_aload_n hx hb dX6_years_25 rfl (lv_at hl 0 rfl) ?_
        refine ggX6_107 X hV (o := 0) rfl dX6_years_26 ?_
        refine lv_iload_n hx hb dX6_years_29 rfl (lv_at hl 1 rfl) ?_
        refine lv_iadd hx hb dX6_years_30 ?_
        refine lv_bipush (v := 60) hx hb dX6_years_31 (by decide) ?_
        refine lv_icmp_le (tgt := 39) hx hb dX6_years_33 (by decide) (fun c_33 => ?_) (fun c_33 => ?_)
        · rw [if_pos c_33] at h
          refine lv_iconst (v := 0) hx hb dX6_years_39 (by decide) ?_
          refine lv_istore_n (lv' := [(2, .int (0 : Int32)), (0, .ref (ad 0)), (1, .int v1)]) hx hb dX6_years_40 rfl hl (by decide) rfl (fun ls hl => ?_)
          exact tX6_years_41 X hA gx_fuel _ _ _ h _ _ _ hV (lv_sub hl [1, 2, 0] rfl)
        · rw [if_neg c_33] at h
          refine lv_bipush (v := -4) hx hb dX6_years_36 (by decide) ?_
          exact gw_ireti X hV h dX6_years_38
      · rw [if_pos c_19] at h
        refine lv_bipush (v := -3) hx hb dX6_years_22 (by decide) ?_
        exact gw_ireti X hV h dX6_years_24
    · rw [if_pos c_9] at h
      refine lv_bipush (v := -2) hx hb dX6_years_12 (by decide) ?_
      exact gw_ireti X hV h dX6_years_14
  exact Y _ _ hV
def fX6_note_2L (K2 : gS → Int32 → Int32 → Option (Unit × gS)) (S : gS) (v1 : Int32) (v2 : Int32) : Option (Unit × gS) :=
if (64 : Int32) ≤ v2 then (some ((), S)) else
gx_bind (fX6_thick S v2) fun r20 S20 =>
gx_chk (((64 : Int32) * v1) + v2) 3904 <|
gx_let (gJ_up S20 16 (Int32.toNatClampNeg (((64 : Int32) * v1) + v2)) r20) fun S23 =>
gx_let (v2 + (1 : Int32)) fun v2_24 =>
K2 S23 v1 v2_24
def fX6_note_2 : Nat → gS → Int32 → Int32 → Option (Unit × gS)
  | 0, _, _, _ => none
  | f + 1, S, v1, v2 => fX6_note_2L (fX6_note_2 f) S v1 v2
def fX6_note (S : gS) (v1 : Int32) : Option (Unit × gS) :=
fX6_note_2 gx_fuel S v1 (0 : Int32)
def rmX6_note : Room := { frames := 1, cells := 0, slots := 0, locals := 24 }
set_option maxHeartbeats 4000000 in
set_option maxRecDepth 20000 in
theorem tX6_note_2L {p : Program} {l : Launch} {e : Env} {s : State} {m : MethodId} {args : Array Value} {below : List Frame} {meth : Method} {c : Code} {G : gG} {ad : Nat → Nat} {A : Nat → Prop} {z : Unit × gS} {K2 : gS → Int32 → Int32 → Option (Unit × gS)} (X : gCx p s m args meth c G cX6_note RX6 none 3) (hA : ∀ q, s.heap.size ≤ q → A q) (kK2 : ∀ (S : gS) (v1 : Int32) (v2 : Int32), K2 S v1 v2 = some z → ∀ (H : Heap) (locs : List Loc) (ls : Array Slot), gV wdY G ad A s.heap S H locs → lv_has ls 3 [(0, .ref (ad 0)), (1, .int v1), (2, .int v2)] → W p l e rmX6_note s m args below meth c H locs 0 0 (MQ below (gQv wdY G ad A z) args s 0 0 A) (F0 m 2 ls [])) (S : gS) (v1 : Int32) (v2 : Int32) (h : fX6_note_2L K2 S v1 v2 = some z) {H : Heap} {locs : List Loc} {ls : Array Slot} (hV : gV wdY G ad A s.heap S H locs) (hl : lv_has ls 3 [(0, .ref (ad 0)), (1, .int v1), (2, .int v2)]) : W p l e rmX6_note s m args below meth c H locs 0 0 (MQ below (gQv wdY G ad A z) args s 0 0 A) (F0 m 2 ls []) := by
  obtain ⟨hx, hb, hr, hml, hown, hts, hlk, hK⟩ := id X
  unfold fX6_note_2L at h
  refine lv_iload_n hx hb dX6_note_2 rfl (lv_at hl 2 rfl) ?_
  refine lv_bipush (v := 64) hx hb dX6_note_3 (by decide) ?_
  refine lv_icmp_ge (tgt := 30) hx hb dX6_note_5 (by decide) (fun c_5 => ?_) (fun c_5 => ?_)
  · rw [if_pos c_5] at h
    exact gw_vret X hV h dX6_note_30
  · rw [if_neg c_5] at h
    refine lv_aload_n hx hb dX6_note_8 rfl (lv_at hl 0 rfl) ?_
    refine ggX6_60 X hV (o := 0) rfl dX6_note_9 ?_
    refine lv_bipush (v := 64) hx hb dX6_note_12 (by decide) ?_
    refine lv_iload_n hx hb dX6_note_14 rfl (lv_at hl 1 rfl) ?_
    refine lv_imul hx hb dX6_note_15 ?_
    refine lv_iload_n hx hb dX6_note_16 rfl (lv_at hl 2 rfl) ?_
    refine lv_iadd hx hb dX6_note_17 ?_
    refine lv_aload_n hx hb dX6_note_18 rfl (lv_at hl 0 rfl) ?_
    refine lv_iload_n hx hb dX6_note_19 rfl (lv_at hl 2 rfl) ?_
    obtain ⟨r20, S20, k_20, h⟩ := gx_bind_e h
    refine gw_callL X hA hV (gw_runV X hV (o := 0) (As := [.int v2]) (rest := [.int (((64 : Int32) * v1) + v2), .ref (ad 16)]) (mX6_thick l G ad _ S k_20) kc_RX6_136 (iYO_0 rfl) rfl rfl rfl hl.1 rfl (Nat.le_of_ble_eq_true rfl) ⟨rfl, rfl⟩ ⟨Nat.le_of_ble_eq_true rfl, Nat.le_of_ble_eq_true rfl⟩ ⟨Nat.le_refl _, Nat.le_refl _⟩ dX6_note_20) (fun H locs hV => ?_)
    obtain ⟨c_23, h⟩ := gx_chk_e h
    refine gw_last X hV (iYJ_5 (o := 16) rfl) c_23 dX6_note_23 (fun S23 e_23 H locs hV => ?_)
    replace h := gx_let_e e_23 h
    clear e_23
    obtain ⟨v2_24, e_24⟩ : ∃ y : Int32, y = (v2 + (1 : Int32)) := ⟨_, rfl⟩
    refine lv_iinc (v := v2_24) (lv' := [(2, .int v2_24), (0, .ref (ad 0)), (1, .int v1)]) hx hb dX6_note_24 hl (k := 2) rfl (by rw [e_24]; rfl) (by decide) rfl (fun ls hl => ?_)
    replace h := gx_let_e e_24 h
    clear e_24
    refine lv_goto (tgt := 2) hx hb dX6_note_27 (by decide) ?_
    exact kK2 _ _ _ h _ _ _ hV (lv_sub hl [1, 2, 0] rfl)
set_option maxHeartbeats 4000000 in
set_option maxRecDepth 20000 in
theorem tX6_note_2 {p : Program} {l : Launch} {e : Env} {s : State} {m : MethodId} {args : Array Value} {below : List Frame} {meth : Method} {c : Code} {G : gG} {ad : Nat → Nat} {A : Nat → Prop} {z : Unit × gS} (X : gCx p s m args meth c G cX6_note RX6 none 3) (hA : ∀ q, s.heap.size ≤ q → A q) : ∀ (f : Nat) (S : gS) (v1 : Int32) (v2 : Int32) (h : fX6_note_2 f S v1 v2 = some z) (H : Heap) (locs : List Loc) (ls : Array Slot) (hV : gV wdY G ad A s.heap S H locs) (hl : lv_has ls 3 [(0, .ref (ad 0)), (1, .int v1), (2, .int v2)]), W p l e rmX6_note s m args below meth c H locs 0 0 (MQ below (gQv wdY G ad A z) args s 0 0 A) (F0 m 2 ls []) := by
  intro f
  induction f with
  | zero => intro S v1 v2 h; exact absurd h (by simp [fX6_note_2])
  | succ f ih => intro S v1 v2 h H locs ls hV hl; exact tX6_note_2L X hA ih S v1 v2 h hV hl
set_option maxHeartbeats 4000000 in
set_option maxRecDepth 20000 in
theorem mX6_note (l : Launch) (G : gG) (ad : Nat → Nat) (sz : Nat) (S : gS) {v1 : Int32} {r : Unit} {S' : gS} (h : fX6_note S v1 = some (r, S')) : gMetV l yX6_note cX6_note 3 none rmX6_note wdY G ad S sz [.ref (ad 0), .int v1] r S' := by
  refine gMet_of (by decide) ?_
  intro p e s m below meth c A hA X hnm hV
  have hl := lv_entry ([.ref (ad 0), .int v1]) (n := 3) (Nat.le_of_ble_eq_true rfl)
  rw [lg_entry_eq]
  generalize (lg_sl ([.ref (ad 0), .int v1]) ++ List.replicate (3 - (lg_sl ([.ref (ad 0), .int v1])).length) Slot.unset).toArray = ls at hl ⊢
  have hl : lv_has ls 3 [(0, .ref (ad 0)), (1, .int v1)] := hl
  obtain ⟨hx, hb, hr, hml, hown, hts, hlk, hK⟩ := id X
  unfold fX6_note at h
  generalize ([.ref (ad 0), .int v1].toArray : Array Value) = args at X ⊢
  have Y : ∀ (H : Heap) (locs : List Loc), gV wdY G ad A s.heap S H locs → W p l e rmX6_note s m args below meth c H locs 0 0 (MQ below (gQv wdY G ad A (r, S')) args s 0 0 A) (F0 m 0 ls []) := by
    intro H locs hV
    refine lv_iconst (v := 0) hx hb dX6_note_0 (by decide) ?_
    refine lv_istore_n (lv' := [(2, .int (0 : Int32)), (0, .ref (ad 0)), (1, .int v1)]) hx hb dX6_note_1 rfl hl (by decide) rfl (fun ls hl => ?_)
    exact tX6_note_2 X hA gx_fuel _ _ _ h _ _ _ hV (lv_sub hl [1, 2, 0] rfl)
  exact Y _ _ hV
def fX6_isLike_66 (K5 : gS → Int32 → Int32 → Int32 → Int32 → Option (Int32 × gS)) (S : gS) (v1 : Int32) (v2 : Int32) (v4 : Int32) (t0 : Int32) : Option (Int32 × gS) :=
gx_let (v4 + (1 : Int32)) fun v4_67 =>
K5 S v1 v2 t0 v4_67
def fX6_isLike_65 (K5 : gS → Int32 → Int32 → Int32 → Int32 → Option (Int32 × gS)) (S : gS) (v1 : Int32) (v2 : Int32) (v4 : Int32) : Option (Int32 × gS) :=
fX6_isLike_66 K5 S v1 v2 v4 (0 : Int32)
def fX6_isLike_61 (K5 : gS → Int32 → Int32 → Int32 → Int32 → Option (Int32 × gS)) (S : gS) (v1 : Int32) (v2 : Int32) (v4 : Int32) : Option (Int32 × gS) :=
fX6_isLike_66 K5 S v1 v2 v4 (1 : Int32)
def fX6_isLike_5L (K5 : gS → Int32 → Int32 → Int32 → Int32 → Option (Int32 × gS)) (S : gS) (v1 : Int32) (v2 : Int32) (v3 : Int32) (v4 : Int32) : Option (Int32 × gS) :=
if (64 : Int32) ≤ v4 then (gx_ok (decide (v3 = 0 ∨ v3 = 1)) <| some (v3, S)) else
if v3 = 0 then (fX6_isLike_65 K5 S v1 v2 v4) else
gx_bind (fX6_isPlace S (v4 - v4 / (8 : Int32) * (8 : Int32)) (v4 / (8 : Int32))) fun r27 S27 =>
if r27 = 0 then (fX6_isLike_61 K5 S27 v1 v2 v4) else
gx_chk (((64 : Int32) * v1) + v4) 3904 <|
gx_chk (((64 : Int32) * v2) + v4) 3904 <|
if (gJ S27 16 (Int32.toNatClampNeg (((64 : Int32) * v1) + v4))) = (gJ S27 16 (Int32.toNatClampNeg (((64 : Int32) * v2) + v4))) then (fX6_isLike_61 K5 S27 v1 v2 v4) else
fX6_isLike_65 K5 S27 v1 v2 v4
def fX6_isLike_5 : Nat → gS → Int32 → Int32 → Int32 → Int32 → Option (Int32 × gS)
  | 0, _, _, _, _, _ => none
  | f + 1, S, v1, v2, v3, v4 => fX6_isLike_5L (fX6_isLike_5 f) S v1 v2 v3 v4
def fX6_isLike (S : gS) (v1 : Int32) (v2 : Int32) : Option (Int32 × gS) :=
fX6_isLike_5 gx_fuel S v1 v2 (1 : Int32) (0 : Int32)
def rmX6_isLike : Room := { frames := 2, cells := 0, slots := 0, locals := 47 }
set_option maxHeartbeats 4000000 in
set_option maxRecDepth 20000 in
theorem tX6_isLike_66 {p : Program} {l : Launch} {e : Env} {s : State} {m : MethodId} {args : Array Value} {below : List Frame} {meth : Method} {c : Code} {G : gG} {ad : Nat → Nat} {A : Nat → Prop} {z : Int32 × gS} {K5 : gS → Int32 → Int32 → Int32 → Int32 → Option (Int32 × gS)} (X : gCx p s m args meth c G cX6_isLike RX6 (some .boolean) 5) (hA : ∀ q, s.heap.size ≤ q → A q) (kK5 : ∀ (S : gS) (v1 : Int32) (v2 : Int32) (v3 : Int32) (v4 : Int32), K5 S v1 v2 v3 v4 = some z → ∀ (H : Heap) (locs : List Loc) (ls : Array Slot), gV wdY G ad A s.heap S H locs → lv_has ls 5 [(0, .ref (ad 0)), (1, .int v1), (2, .int v2), (3, .int v3), (4, .int v4)] → W p l e rmX6_isLike s m args below meth c H locs 0 0 (MQ below (gQi wdY G ad A z) args s 0 0 A) (F0 m 5 ls [])) (S : gS) (v1 : Int32) (v2 : Int32) (v4 : Int32) (t0 : Int32) (h : fX6_isLike_66 K5 S v1 v2 v4 t0 = some z) {H : Heap} {locs : List Loc} {ls : Array Slot} (hV : gV wdY G ad A s.heap S H locs) (hl : lv_has ls 5 [(0, .ref (ad 0)), (1, .int v1), (2, .int v2), (4, .int v4)]) : W p l e rmX6_isLike s m args below meth c H locs 0 0 (MQ below (gQi wdY G ad A z) args s 0 0 A) (F0 m 66 ls [.int t0]) := by
  obtain ⟨hx, hb, hr, hml, hown, hts, hlk, hK⟩ := id X
  unfold fX6_isLike_66 at h
  refine lv_istore_n (lv' := [(3, .int t0), (0, .ref (ad 0)), (1, .int v1), (2, .int v2), (4, .int v4)]) hx hb dX6_isLike_66 rfl hl (by decide) rfl (fun ls hl => ?_)
  obtain ⟨v4_67, e_67⟩ : ∃ y : Int32, y = (v4 + (1 : Int32)) := ⟨_, rfl⟩
  refine lv_iinc (v := v4_67) (lv' := [(4, .int v4_67), (3, .int t0), (0, .ref (ad 0)), (1, .int v1), (2, .int v2)]) hx hb dX6_isLike_67 hl (k := 4) rfl (by rw [e_67]; rfl) (by decide) rfl (fun ls hl => ?_)
  replace h := gx_let_e e_67 h
  clear e_67
  refine lv_goto (tgt := 5) hx hb dX6_isLike_70 (by decide) ?_
  exact kK5 _ _ _ _ _ h _ _ _ hV (lv_sub hl [2, 3, 4, 1, 0] rfl)
set_option maxHeartbeats 4000000 in
set_option maxRecDepth 20000 in
theorem tX6_isLike_65 {p : Program} {l : Launch} {e : Env} {s : State} {m : MethodId} {args : Array Value} {below : List Frame} {meth : Method} {c : Code} {G : gG} {ad : Nat → Nat} {A : Nat → Prop} {z : Int32 × gS} {K5 : gS → Int32 → Int32 → Int32 → Int32 → Option (Int32 × gS)} (X : gCx p s m args meth c G cX6_isLike RX6 (some .boolean) 5) (hA : ∀ q, s.heap.size ≤ q → A q) (kK5 : ∀ (S : gS) (v1 : Int32) (v2 : Int32) (v3 : Int32) (v4 : Int32), K5 S v1 v2 v3 v4 = some z → ∀ (H : Heap) (locs : List Loc) (ls : Array Slot), gV wdY G ad A s.heap S H locs → lv_has ls 5 [(0, .ref (ad 0)), (1, .int v1), (2, .int v2), (3, .int v3), (4, .int v4)] → W p l e rmX6_isLike s m args below meth c H locs 0 0 (MQ below (gQi wdY G ad A z) args s 0 0 A) (F0 m 5 ls [])) (S : gS) (v1 : Int32) (v2 : Int32) (v4 : Int32) (h : fX6_isLike_65 K5 S v1 v2 v4 = some z) {H : Heap} {locs : List Loc} {ls : Array Slot} (hV : gV wdY G ad A s.heap S H locs) (hl : lv_has ls 5 [(0, .ref (ad 0)), (1, .int v1), (2, .int v2), (4, .int v4)]) : W p l e rmX6_isLike s m args below meth c H locs 0 0 (MQ below (gQi wdY G ad A z) args s 0 0 A) (F0 m 65 ls []) := by
  obtain ⟨hx, hb, hr, hml, hown, hts, hlk, hK⟩ := id X
  unfold fX6_isLike_65 at h
  refine lv_iconst (v := 0) hx hb dX6_isLike_65 (by decide) ?_
  exact tX6_isLike_66 X hA kK5 _ _ _ _ _ h hV (lv_sub hl [0, 1, 2, 3] rfl)
set_option maxHeartbeats 4000000 in
set_option maxRecDepth 20000 in
theorem tX6_isLike_61 {p : Program} {l : Launch} {e : Env} {s : State} {m : MethodId} {args : Array Value} {below : List Frame} {meth : Method} {c : Code} {G : gG} {ad : Nat → Nat} {A : Nat → Prop} {z : Int32 × gS} {K5 : gS → Int32 → Int32 → Int32 → Int32 → Option (Int32 × gS)} (X : gCx p s m args meth c G cX6_isLike RX6 (some .boolean) 5) (hA : ∀ q, s.heap.size ≤ q → A q) (kK5 : ∀ (S : gS) (v1 : Int32) (v2 : Int32) (v3 : Int32) (v4 : Int32), K5 S v1 v2 v3 v4 = some z → ∀ (H : Heap) (locs : List Loc) (ls : Array Slot), gV wdY G ad A s.heap S H locs → lv_has ls 5 [(0, .ref (ad 0)), (1, .int v1), (2, .int v2), (3, .int v3), (4, .int v4)] → W p l e rmX6_isLike s m args below meth c H locs 0 0 (MQ below (gQi wdY G ad A z) args s 0 0 A) (F0 m 5 ls [])) (S : gS) (v1 : Int32) (v2 : Int32) (v4 : Int32) (h : fX6_isLike_61 K5 S v1 v2 v4 = some z) {H : Heap} {locs : List Loc} {ls : Array Slot} (hV : gV wdY G ad A s.heap S H locs) (hl : lv_has ls 5 [(0, .ref (ad 0)), (1, .int v1), (2, .int v2), (4, .int v4)]) : W p l e rmX6_isLike s m args below meth c H locs 0 0 (MQ below (gQi wdY G ad A z) args s 0 0 A) (F0 m 61 ls []) := by
  obtain ⟨hx, hb, hr, hml, hown, hts, hlk, hK⟩ := id X
  unfold fX6_isLike_61 at h
  refine lv_iconst (v := 1) hx hb dX6_isLike_61 (by decide) ?_
  refine lv_goto (tgt := 66) hx hb dX6_isLike_62 (by decide) ?_
  exact tX6_isLike_66 X hA kK5 _ _ _ _ _ h hV (lv_sub hl [0, 1, 2, 3] rfl)
set_option maxHeartbeats 4000000 in
set_option maxRecDepth 20000 in
theorem tX6_isLike_5L {p : Program} {l : Launch} {e : Env} {s : State} {m : MethodId} {args : Array Value} {below : List Frame} {meth : Method} {c : Code} {G : gG} {ad : Nat → Nat} {A : Nat → Prop} {z : Int32 × gS} {K5 : gS → Int32 → Int32 → Int32 → Int32 → Option (Int32 × gS)} (X : gCx p s m args meth c G cX6_isLike RX6 (some .boolean) 5) (hA : ∀ q, s.heap.size ≤ q → A q) (kK5 : ∀ (S : gS) (v1 : Int32) (v2 : Int32) (v3 : Int32) (v4 : Int32), K5 S v1 v2 v3 v4 = some z → ∀ (H : Heap) (locs : List Loc) (ls : Array Slot), gV wdY G ad A s.heap S H locs → lv_has ls 5 [(0, .ref (ad 0)), (1, .int v1), (2, .int v2), (3, .int v3), (4, .int v4)] → W p l e rmX6_isLike s m args below meth c H locs 0 0 (MQ below (gQi wdY G ad A z) args s 0 0 A) (F0 m 5 ls [])) (S : gS) (v1 : Int32) (v2 : Int32) (v3 : Int32) (v4 : Int32) (h : fX6_isLike_5L K5 S v1 v2 v3 v4 = some z) {H : Heap} {locs : List Loc} {ls : Array Slot} (hV : gV wdY G ad A s.heap S H locs) (hl : lv_has ls 5 [(0, .ref (ad 0)), (1, .int v1), (2, .int v2), (3, .int v3), (4, .int v4)]) : W p l e rmX6_isLike s m args below meth c H locs 0 0 (MQ below (gQi wdY G ad A z) args s 0 0 A) (F0 m 5 ls []) := by
  obtain ⟨hx, hb, hr, hml, hown, hts, hlk, hK⟩ := id X
  unfold fX6_isLike_5L at h
  refine lv_iload hx hb dX6_isLike_5 (lv_at hl 4 rfl) ?_
  refine lv_bipush (v := 64) hx hb dX6_isLike_7 (by decide) ?_
  refine lv_icmp_ge (tgt := 73) hx hb dX6_isLike_9 (by decide) (fun c_9 => ?_) (fun c_9 => ?_)
  · rw [if_pos c_9] at h
    refine lv_iload_n hx hb dX6_isLike_73 rfl (lv_at hl 3 rfl) ?_
    obtain ⟨c_74, h⟩ := gx_ok_e h
    exact gw_iretz X hV h (g_boolv c_74) dX6_isLike_74
  · rw [if_neg c_9] at h
    refine lv_iload_n hx hb dX6_isLike_12 rfl (lv_at hl 3 rfl) ?_
    refine lv_if_eq (tgt := 65) hx hb dX6_isLike_13 (by decide) (fun c_13 => ?_) (fun c_13 => ?_)
    · rw [if_pos c_13] at h
      exact tX6_isLike_65 X hA kK5 _ _ _ _ h hV (lv_sub hl [0, 1, 2, 4] rfl)
    · rw [if_neg c_13] at h
      refine lv_aload_n hx hb dX6_isLike_16 rfl (lv_at hl 0 rfl) ?_
      refine lv_iload hx hb dX6_isLike_17 (lv_at hl 4 rfl) ?_
      refine lv_bipush (v := 8) hx hb dX6_isLike_19 (by decide) ?_
      refine lv_irem hx hb dX6_isLike_21 (by decide) ?_
      refine lv_iload hx hb dX6_isLike_22 (lv_at hl 4 rfl) ?_
      refine lv_bipush (v := 8) hx hb dX6_isLike_24 (by decide) ?_
      refine lv_idiv hx hb dX6_isLike_26 (by decide) ?_
      obtain ⟨r27, S27, k_27, h⟩ := gx_bind_e h
      refine gw_callI X hA hV (gw_runV X hV (o := 0) (As := [.int (v4 - v4 / (8 : Int32) * (8 : Int32)), .int (v4 / (8 : Int32))]) (rest := []) (mX6_isPlace l G ad _ S k_27) kc_RX6_115 (iYO_0 rfl) rfl rfl rfl hl.1 rfl (Nat.le_of_ble_eq_true rfl) ⟨rfl, rfl⟩ ⟨Nat.le_of_ble_eq_true rfl, Nat.le_of_ble_eq_true rfl⟩ ⟨Nat.le_refl _, Nat.le_refl _⟩ dX6_isLike_27) (fun H locs hV => ?_)
      refine lv_if_eq (tgt := 61) hx hb dX6_isLike_30 (by decide) (fun c_30 => ?_) (fun c_30 => ?_)
      · rw [if_pos c_30] at h
        exact tX6_isLike_61 X hA kK5 _ _ _ _ h hV (lv_sub hl [0, 1, 2, 4] rfl)
      · rw [if_neg c_30] at h
        refine lv_aload_n hx hb dX6_isLike_33 rfl (lv_at hl 0 rfl) ?_
        refine ggX6_60 X hV (o := 0) rfl dX6_isLike_34 ?_
        refine lv_bipush (v := 64) hx hb dX6_isLike_37 (by decide) ?_
        refine lv_iload_n hx hb dX6_isLike_39 rfl (lv_at hl 1 rfl) ?_
        refine lv_imul hx hb dX6_isLike_40 ?_
        refine lv_iload hx hb dX6_isLike_41 (lv_at hl 4 rfl) ?_
        refine lv_iadd hx hb dX6_isLike_43 ?_
        obtain ⟨c_44, h⟩ := gx_chk_e h
        refine gw_lald X hV (iYJ_5 (o := 16) rfl) c_44 dX6_isLike_44 ?_
        refine lv_aload_n hx hb dX6_isLike_45 rfl (lv_at hl 0 rfl) ?_
        refine ggX6_60 X hV (o := 0) rfl dX6_isLike_46 ?_
        refine lv_bipush (v := 64) hx hb dX6_isLike_49 (by decide) ?_
        refine lv_iload_n hx hb dX6_isLike_51 rfl (lv_at hl 2 rfl) ?_
        refine lv_imul hx hb dX6_isLike_52 ?_
        refine lv_iload hx hb dX6_isLike_53 (lv_at hl 4 rfl) ?_
        refine lv_iadd hx hb dX6_isLike_55 ?_
        obtain ⟨c_56, h⟩ := gx_chk_e h
        refine gw_lald X hV (iYJ_5 (o := 16) rfl) c_56 dX6_isLike_56 ?_
        refine gw_cmp_ne (tgt := 65) X dX6_isLike_57 dX6_isLike_58 (by decide) (fun c_57 => ?_) (fun c_57 => ?_)
        · rw [if_neg c_57] at h
          exact tX6_isLike_65 X hA kK5 _ _ _ _ h hV (lv_sub hl [0, 1, 2, 4] rfl)
        · rw [if_pos c_57] at h
          exact tX6_isLike_61 X hA kK5 _ _ _ _ h hV (lv_sub hl [0, 1, 2, 4] rfl)
set_option maxHeartbeats 4000000 in
set_option maxRecDepth 20000 in
theorem tX6_isLike_5 {p : Program} {l : Launch} {e : Env} {s : State} {m : MethodId} {args : Array Value} {below : List Frame} {meth : Method} {c : Code} {G : gG} {ad : Nat → Nat} {A : Nat → Prop} {z : Int32 × gS} (X : gCx p s m args meth c G cX6_isLike RX6 (some .boolean) 5) (hA : ∀ q, s.heap.size ≤ q → A q) : ∀ (f : Nat) (S : gS) (v1 : Int32) (v2 : Int32) (v3 : Int32) (v4 : Int32) (h : fX6_isLike_5 f S v1 v2 v3 v4 = some z) (H : Heap) (locs : List Loc) (ls : Array Slot) (hV : gV wdY G ad A s.heap S H locs) (hl : lv_has ls 5 [(0, .ref (ad 0)), (1, .int v1), (2, .int v2), (3, .int v3), (4, .int v4)]), W p l e rmX6_isLike s m args below meth c H locs 0 0 (MQ below (gQi wdY G ad A z) args s 0 0 A) (F0 m 5 ls []) := by
  intro f
  induction f with
  | zero => intro S v1 v2 v3 v4 h; exact absurd h (by simp [fX6_isLike_5])
  | succ f ih => intro S v1 v2 v3 v4 h H locs ls hV hl; exact tX6_isLike_5L X hA ih S v1 v2 v3 v4 h hV hl
set_option maxHeartbeats 4000000 in
set_option maxRecDepth 20000 in
theorem mX6_isLike (l : Launch) (G : gG) (ad : Nat → Nat) (sz : Nat) (S : gS) {v1 : Int32} {v2 : Int32} {r : Int32} {S' : gS} (h : fX6_isLike S v1 v2 = some (r, S')) : gMetI l yX6_isLike cX6_isLike 5 (some .boolean) rmX6_isLike wdY G ad S sz [.ref (ad 0), .int v1, .int v2] r S' := by
  refine gMet_of (by decide) ?_
  intro p e s m below meth c A hA X hnm hV
  have hl := lv_entry ([.ref (ad 0), .int v1, .int v2]) (n := 5) (Nat.le_of_ble_eq_true rfl)
  rw [lg_entry_eq]
  generalize (lg_sl ([.ref (ad 0), .int v1, .int v2]) ++ List.replicate (5 - (lg_sl ([.ref (ad 0), .int v1, .int v2])).length) Slot.unset).toArray = ls at hl ⊢
  have hl : lv_has ls 5 [(0, .ref (ad 0)), (1, .int v1), (2, .int v2)] := hl
  obtain ⟨hx, hb, hr, hml, hown, hts, hlk, hK⟩ := id X
  unfold fX6_isLike at h
  generalize ([.ref (ad 0), .int v1, .int v2].toArray : Array Value) = args at X ⊢
  have Y : ∀ (H : Heap) (locs : List Loc), gV wdY G ad A s.heap S H locs → W p l e rmX6_isLike s m args below meth c H locs 0 0 (MQ below (gQi wdY G ad A (r, S')) args s 0 0 A) (F0 m 0 ls []) := by
    intro H locs hV
    refine lv_iconst (v := 1) hx hb dX6_isLike_0 (by decide) ?_
    refine lv_istore_n (lv' := [(3, .int (1 : Int32)), (0, .ref (ad 0)), (1, .int v1), (2, .int v2)]) hx hb dX6_isLike_1 rfl hl (by decide) rfl (fun ls hl => ?_)
    refine lv_iconst (v := 0) hx hb dX6_isLike_2 (by decide) ?_
    refine lv_istore (lv' := [(4, .int (0 : Int32)), (3, .int (1 : Int32)), (0, .ref (ad 0)), (1, .int v1), (2, .int v2)]) hx hb dX6_isLike_3 hl (by decide) rfl (fun ls hl => ?_)
    exact tX6_isLike_5 X hA gx_fuel _ _ _ _ _ h _ _ _ hV (lv_sub hl [2, 3, 4, 1, 0] rfl)
  exact Y _ _ hV
theorem kc_RX6_175 : gKV RX6 175 yX6_note cX6_note 3 none 1 := ⟨q_746, q_748, q_31, q_749, q_42, by decide +kernel⟩
theorem kc_RX6_179 : gKV RX6 179 yX6_isLike cX6_isLike 5 (some .boolean) 2 := ⟨q_750, q_752, q_32, q_753, q_42, by decide +kernel⟩
def fX6_steady_64L (K46 : gS → Int32 → Int32 → Option (Int32 × gS)) (K64 : gS → Int32 → Int32 → Int32 → Option (Int32 × gS)) (S : gS) (v1 : Int32) (v2 : Int32) (v3 : Int32) : Option (Int32 × gS) :=
if v3 < 0 then (gx_let (v2 + (1 : Int32)) fun v2_87 =>
K46 S v1 v2_87) else
gx_bind (fX6_isLike S v2 v3) fun r71 S71 =>
if r71 = 0 then (gx_let (v3 + (-1 : Int32)) fun v3_81 =>
K64 S71 v1 v2 v3_81) else
some ((v2 - v3), S71)
def fX6_steady_64 (K46 : gS → Int32 → Int32 → Option (Int32 × gS)) : Nat → gS → Int32 → Int32 → Int32 → Option (Int32 × gS)
  | 0, _, _, _, _ => none
  | f + 1, S, v1, v2, v3 => fX6_steady_64L K46 (fX6_steady_64 K46 f) S v1 v2 v3
def fX6_steady_46L (K46 : gS → Int32 → Int32 → Option (Int32 × gS)) (S : gS) (v1 : Int32) (v2 : Int32) : Option (Int32 × gS) :=
if v1 < v2 then (some ((0 : Int32), S)) else
gx_bind (fX6_oneYear S) fun r52 S52 =>
gx_bind (fX6_note S52 v2) fun r57 S57 =>
gx_let (v2 - (1 : Int32)) fun v3_63 =>
fX6_steady_64 K46 gx_fuel S57 v1 v2 v3_63
def fX6_steady_46 : Nat → gS → Int32 → Int32 → Option (Int32 × gS)
  | 0, _, _, _ => none
  | f + 1, S, v1, v2 => fX6_steady_46L (fX6_steady_46 f) S v1 v2
def fX6_steady (S : gS) (v1 : Int32) : Option (Int32 × gS) :=
gx_bind (fX6_in S (Int32.toInt64 v1) (1 : Int64) (60 : Int64)) fun r6 S6 =>
if r6 = 0 then (some ((-2 : Int32), S6)) else
if (gI S6 0 5) = 0 then (some ((-3 : Int32), S6)) else
if ((gI S6 0 7) + v1) ≤ (60 : Int32) then (gx_bind (fX6_note S6 (0 : Int32)) fun r41 S41 =>
fX6_steady_46 gx_fuel S41 v1 (1 : Int32)) else
some ((-4 : Int32), S6)
def rmX6_steady : Room := { frames := 6, cells := 0, slots := 0, locals := 150 }
set_option maxHeartbeats 4000000 in
set_option maxRecDepth 20000 in
theorem tX6_steady_64L {p : Program} {l : Launch} {e : Env} {s : State} {m : MethodId} {args : Array Value} {below : List Frame} {meth : Method} {c : Code} {G : gG} {ad : Nat → Nat} {A : Nat → Prop} {z : Int32 × gS} {K46 : gS → Int32 → Int32 → Option (Int32 × gS)} {K64 : gS → Int32 → Int32 → Int32 → Option (Int32 × gS)} (X : gCx p s m args meth c G cX6_steady RX6 (some .int) 4) (hA : ∀ q, s.heap.size ≤ q → A q) (kK46 : ∀ (S : gS) (v1 : Int32) (v2 : Int32), K46 S v1 v2 = some z → ∀ (H : Heap) (locs : List Loc) (ls : Array Slot), gV wdY G ad A s.heap S H locs → lv_has ls 4 [(0, .ref (ad 0)), (1, .int v1), (2, .int v2)] → W p l e rmX6_steady s m args below meth c H locs 0 0 (MQ below (gQi wdY G ad A z) args s 0 0 A) (F0 m 46 ls [])) (kK64 : ∀ (S : gS) (v1 : Int32) (v2 : Int32) (v3 : Int32), K64 S v1 v2 v3 = some z → ∀ (H : Heap) (locs : List Loc) (ls : Array Slot), gV wdY G ad A s.heap S H locs → lv_has ls 4 [(0, .ref (ad 0)), (1, .int v1), (2, .int v2), (3, .int v3)] → W p l e rmX6_steady s m args below meth c H locs 0 0 (MQ below (gQi wdY G ad A z) args s 0 0 A) (F0 m 64 ls [])) (S : gS) (v1 : Int32) (v2 : Int32) (v3 : Int32) (h : fX6_steady_64L K46 K64 S v1 v2 v3 = some z) {H : Heap} {locs : List Loc} {ls : Array Slot} (hV : gV wdY G ad A s.heap S H locs) (hl : lv_has ls 4 [(0, .ref (ad 0)), (1, .int v1), (2, .int v2), (3, .int v3)]) : W p l e rmX6_steady s m args below meth c H locs 0 0 (MQ below (gQi wdY G ad A z) args s 0 0 A) (F0 m 64 ls []) := by
  obtain ⟨hx, hb, hr, hml, hown, hts, hlk, hK⟩ := id X
  unfold fX6_steady_64L at h
  refine lv_iload_n hx hb dX6_steady_64 rfl (lv_at hl 3 rfl) ?_
  refine lv_if_lt (tgt := 87) hx hb dX6_steady_65 (by decide) (fun c_65 => ?_) (fun c_65 => ?_)
  · rw [if_pos c_65] at h
    obtain ⟨v2_87, e_87⟩ : ∃ y : Int32, y = (v2 + (1 : Int32)) := ⟨_, rfl⟩
    refine lv_iinc (v := v2_87) (lv' := [(2, .int v2_87), (0, .ref (ad 0)), (1, .int v1), (3, .int v3)]) hx hb dX6_steady_87 hl (k := 2) rfl (by rw [e_87]; rfl) (by decide) rfl (fun ls hl => ?_)
    replace h := gx_let_e e_87 h
    clear e_87
    refine lv_goto (tgt := 46) hx hb dX6_steady_90 (by decide) ?_
    exact kK46 _ _ _ h _ _ _ hV (lv_sub hl [1, 2, 0] rfl)
  · rw [if_neg c_65] at h
    refine lv_aload_n hx hb dX6_steady_68 rfl (lv_at hl 0 rfl) ?_
    refine lv_iload_n hx hb dX6_steady_69 rfl (lv_at hl 2 rfl) ?_
    refine lv_iload_n hx hb dX6_steady_70 rfl (lv_at hl 3 rfl) ?_
    obtain ⟨r71, S71, k_71, h⟩ := gx_bind_e h
    refine gw_callI X hA hV (gw_runV X hV (o := 0) (As := [.int v2, .int v3]) (rest := []) (mX6_isLike l G ad _ S k_71) kc_RX6_179 (iYO_0 rfl) rfl rfl rfl hl.1 rfl (Nat.le_of_ble_eq_true rfl) ⟨rfl, rfl⟩ ⟨Nat.le_of_ble_eq_true rfl, Nat.le_of_ble_eq_true rfl⟩ ⟨Nat.le_refl _, Nat.le_refl _⟩ dX6_steady_71) (fun H locs hV => ?_)
    refine lv_if_eq (tgt := 81) hx hb dX6_steady_74 (by decide) (fun c_74 => ?_) (fun c_74 => ?_)
    · rw [if_pos c_74] at h
      obtain ⟨v3_81, e_81⟩ : ∃ y : Int32, y = (v3 + (-1 : Int32)) := ⟨_, rfl⟩
      refine lv_iinc (v := v3_81) (lv' := [(3, .int v3_81), (0, .ref (ad 0)), (1, .int v1), (2, .int v2)]) hx hb dX6_steady_81 hl (k := 3) rfl (by rw [e_81]; rfl) (by decide) rfl (fun ls hl => ?_)
      replace h := gx_let_e e_81 h
      clear e_81
      refine lv_goto (tgt := 64) hx hb dX6_steady_84 (by decide) ?_
      exact kK64 _ _ _ _ h _ _ _ hV (lv_sub hl [1, 2, 3, 0] rfl)
    · rw [if_neg c_74] at h
      refine lv_iload_n hx hb dX6_steady_77 rfl (lv_at hl 2 rfl) ?_
      refine lv_iload_n hx hb dX6_steady_78 rfl (lv_at hl 3 rfl) ?_
      refine lv_isub hx hb dX6_steady_79 ?_
      exact gw_ireti X hV h dX6_steady_80
set_option maxHeartbeats 4000000 in
set_option maxRecDepth 20000 in
theorem tX6_steady_64 {p : Program} {l : Launch} {e : Env} {s : State} {m : MethodId} {args : Array Value} {below : List Frame} {meth : Method} {c : Code} {G : gG} {ad : Nat → Nat} {A : Nat → Prop} {z : Int32 × gS} {K46 : gS → Int32 → Int32 → Option (Int32 × gS)} (X : gCx p s m args meth c G cX6_steady RX6 (some .int) 4) (hA : ∀ q, s.heap.size ≤ q → A q) (kK46 : ∀ (S : gS) (v1 : Int32) (v2 : Int32), K46 S v1 v2 = some z → ∀ (H : Heap) (locs : List Loc) (ls : Array Slot), gV wdY G ad A s.heap S H locs → lv_has ls 4 [(0, .ref (ad 0)), (1, .int v1), (2, .int v2)] → W p l e rmX6_steady s m args below meth c H locs 0 0 (MQ below (gQi wdY G ad A z) args s 0 0 A) (F0 m 46 ls [])) : ∀ (f : Nat) (S : gS) (v1 : Int32) (v2 : Int32) (v3 : Int32) (h : fX6_steady_64 K46 f S v1 v2 v3 = some z) (H : Heap) (locs : List Loc) (ls : Array Slot) (hV : gV wdY G ad A s.heap S H locs) (hl : lv_has ls 4 [(0, .ref (ad 0)), (1, .int v1), (2, .int v2), (3, .int v3)]), W p l e rmX6_steady s m args below meth c H locs 0 0 (MQ below (gQi wdY G ad A z) args s 0 0 A) (F0 m 64 ls []) := by
  intro f
  induction f with
  | zero => intro S v1 v2 v3 h; exact absurd h (by simp [fX6_steady_64])
  | succ f ih => intro S v1 v2 v3 h H locs ls hV hl; exact tX6_steady_64L X hA kK46 ih S v1 v2 v3 h hV hl
set_option maxHeartbeats 4000000 in
set_option maxRecDepth 20000 in
theorem tX6_steady_46L {p : Program} {l : Launch} {e : Env} {s : State} {m : MethodId} {args : Array Value} {below : List Frame} {meth : Method} {c : Code} {G : gG} {ad : Nat → Nat} {A : Nat → Prop} {z : Int32 × gS} {K46 : gS → Int32 → Int32 → Option (Int32 × gS)} (X : gCx p s m args meth c G cX6_steady RX6 (some .int) 4) (hA : ∀ q, s.heap.size ≤ q → A q) (kK46 : ∀ (S : gS) (v1 : Int32) (v2 : Int32), K46 S v1 v2 = some z → ∀ (H : Heap) (locs : List Loc) (ls : Array Slot), gV wdY G ad A s.heap S H locs → lv_has ls 4 [(0, .ref (ad 0)), (1, .int v1), (2, .int v2)] → W p l e rmX6_steady s m args below meth c H locs 0 0 (MQ below (gQi wdY G ad A z) args s 0 0 A) (F0 m 46 ls [])) (S : gS) (v1 : Int32) (v2 : Int32) (h : fX6_steady_46L K46 S v1 v2 = some z) {H : Heap} {locs : List Loc} {ls : Array Slot} (hV : gV wdY G ad A s.heap S H locs) (hl : lv_has ls 4 [(0, .ref (ad 0)), (1, .int v1), (2, .int v2)]) : W p l e rmX6_steady s m args below meth c H locs 0 0 (MQ below (gQi wdY G ad A z) args s 0 0 A) (F0 m 46 ls []) := by
  obtain ⟨hx, hb, hr, hml, hown, hts, hlk, hK⟩ := id X
  unfold fX6_steady_46L at h
  refine lv_iload_n hx hb dX6_steady_46 rfl (lv_at hl 2 rfl) ?_
  refine lv_iload_n hx hb dX6_steady_47 rfl (lv_at hl 1 rfl) ?_
  refine lv_icmp_gt (tgt := 93) hx hb dX6_steady_48 (by decide) (fun c_48 => ?_) (fun c_48 => ?_)
  · rw [if_pos c_48] at h
    refine lv_iconst (v := 0) hx hb dX6_steady_93 (by decide) ?_
    exact gw_ireti X hV h dX6_steady_94
  · rw [if_neg c_48] at h
    refine lv_aload_n hx hb dX6_steady_51 rfl (lv_at hl 0 rfl) ?_
    obtain ⟨r52, S52, k_52, h⟩ := gx_bind_e h
    refine gw_callv X hA hV (gw_runV X hV (o := 0) (As := []) (rest := []) (mX6_oneYear l G ad _ S k_52) kc_RX6_172 (iYO_0 rfl) rfl rfl rfl hl.1 rfl (Nat.le_of_ble_eq_true rfl) ⟨rfl, rfl⟩ ⟨Nat.le_of_ble_eq_true rfl, Nat.le_of_ble_eq_true rfl⟩ ⟨Nat.le_refl _, Nat.le_refl _⟩ dX6_steady_52) (fun H locs hV => ?_)
    refine lv_aload_n hx hb dX6_steady_55 rfl (lv_at hl 0 rfl) ?_
    refine lv_iload_n hx hb dX6_steady_56 rfl (lv_at hl 2 rfl) ?_
    obtain ⟨r57, S57, k_57, h⟩ := gx_bind_e h
    refine gw_callv X hA hV (gw_runV X hV (o := 0) (As := [.int v2]) (rest := []) (mX6_note l G ad _ S52 k_57) kc_RX6_175 (iYO_0 rfl) rfl rfl rfl hl.1 rfl (Nat.le_of_ble_eq_true rfl) ⟨rfl, rfl⟩ ⟨Nat.le_of_ble_eq_true rfl, Nat.le_of_ble_eq_true rfl⟩ ⟨Nat.le_refl _, Nat.le_refl _⟩ dX6_steady_57) (fun H locs hV => ?_)
    refine lv_iload_n hx hb dX6_steady_60 rfl (lv_at hl 2 rfl) ?_
    refine lv_iconst (v := 1) hx hb dX6_steady_61 (by decide) ?_
    refine lv_isub hx hb dX6_steady_62 ?_
    refine lv_topi (fun v3_63 e_63 => ?_)
    replace h := gx_let_e e_63 h
    clear e_63
    refine lv_istore_n (lv' := [(3, .int v3_63), (0, .ref (ad 0)), (1, .int v1), (2, .int v2)]) hx hb dX6_steady_63 rfl hl (by decide) rfl (fun ls hl => ?_)
    exact tX6_steady_64 X hA kK46 gx_fuel _ _ _ _ h _ _ _ hV (lv_sub hl [1, 2, 3, 0] rfl)
set_option maxHeartbeats 4000000 in
set_option maxRecDepth 20000 in
theorem tX6_steady_46 {p : Program} {l : Launch} {e : Env} {s : State} {m : MethodId} {args : Array Value} {below : List Frame} {meth : Method} {c : Code} {G : gG} {ad : Nat → Nat} {A : Nat → Prop} {z : Int32 × gS} (X : gCx p s m args meth c G cX6_steady RX6 (some .int) 4) (hA : ∀ q, s.heap.size ≤ q → A q) : ∀ (f : Nat) (S : gS) (v1 : Int32) (v2 : Int32) (h : fX6_steady_46 f S v1 v2 = some z) (H : Heap) (locs : List Loc) (ls : Array Slot) (hV : gV wdY G ad A s.heap S H locs) (hl : lv_has ls 4 [(0, .ref (ad 0)), (1, .int v1), (2, .int v2)]), W p l e rmX6_steady s m args below meth c H locs 0 0 (MQ below (gQi wdY G ad A z) args s 0 0 A) (F0 m 46 ls []) := by
  intro f
  induction f with
  | zero => intro S v1 v2 h; exact absurd h (by simp [fX6_steady_46])
  | succ f ih => intro S v1 v2 h H locs ls hV hl; exact tX6_steady_46L X hA ih S v1 v2 h hV hl
set_option maxHeartbeats 4000000 in
set_option maxRecDepth 20000 in
theorem mX6_steady (l : Launch) (G : gG) (ad : Nat → Nat) (sz : Nat) (S : gS) {v1 : Int32} {r : Int32} {S' : gS} (h : fX6_steady S v1 = some (r, S')) : gMetI l yX6_steady cX6_steady 4 (some .int) rmX6_steady wdY G ad S sz [.ref (ad 0), .int v1] r S' := by
  refine gMet_of (by decide) ?_
  intro p e s m below meth c A hA X hnm hV
  have hl := lv_entry ([.ref (ad 0), .int v1]) (n := 4) (Nat.le_of_ble_eq_true rfl)
  rw [lg_entry_eq]
  generalize (lg_sl ([.ref (ad 0), .int v1]) ++ List.replicate (4 - (lg_sl ([.ref (ad 0), .int v1])).length) Slot.unset).toArray = ls at hl ⊢
  have hl : lv_has ls 4 [(0, .ref (ad 0)), (1, .int v1)] := hl
  obtain ⟨hx, hb, hr, hml, hown, hts, hlk, hK⟩ := id X
  unfold fX6_steady at h
  generalize ([.ref (ad 0), .int v1].toArray : Array Value) = args at X ⊢
  have Y : ∀ (H : Heap) (locs : List Loc), gV wdY G ad A s.heap S H locs → W p l e rmX6_steady s m args below meth c H locs 0 0 (MQ below (gQi wdY G ad A (r, S')) args s 0 0 A) (F0 m 0 ls []) := by
    intro H locs hV
    refine lv_iload_n hx hb dX6_steady_0 rfl (lv_at hl 1 rfl) ?_
    refine lv_i2l hx hb dX6_steady_1 rfl ?_
    refine lv_lconst (v := 1) hx hb dX6_steady_2 (by decide) ?_
    refine lv_ldc2 (v := 60) hx hb hown (hts _ q_706) dX6_steady_3 ?_
    obtain ⟨r6, S6, k_6, h⟩ := gx_bind_e h
    refine gw_callI X hA hV (gw_runS X hV (As := [.long (Int32.toInt64 v1), .long (1 : Int64), .long (60 : Int64)]) (rest := []) (mX6_in l G ad _ S k_6) kc_RX6_77 rfl hl.1 rfl (Nat.le_of_ble_eq_true rfl) ⟨rfl, rfl⟩ ⟨Nat.le_of_ble_eq_true rfl, Nat.le_of_ble_eq_true rfl⟩ ⟨Nat.le_refl _, Nat.le_refl _⟩ dX6_steady_6) (fun H locs hV => ?_)
    refine lv_if_ne (tgt := 15) hx hb dX6_steady_9 (by decide) (fun c_9 => ?_) (fun c_9 => ?_)
    · rw [if_neg c_9] at h
      refine lv_aload_n hx hb dX6_steady_15 rfl (lv_at hl 0 rfl) ?_
      refine ggX6_99 X hV (o := 0) rfl dX6_steady_16 ?_
      refine lv_if_ne (tgt := 25) hx hb dX6_steady_19 (by decide) (fun c_19 => ?_) (fun c_19 => ?_)
      · rw [if_neg c_19] at h
        refine lv_aload_n hx hb dX6_steady_25 rfl (lv_at hl 0 rfl) ?_
        refine ggX6_107 X hV (o := 0) rfl dX6_steady_26 ?_
        refine lv_iload_n hx hb dX6_steady_29 rfl (lv_at hl 1 rfl) ?_
        refine lv_iadd hx hb dX6_steady_30 ?_
        refine lv_bipush (v := 60) hx hb dX6_steady_31 (by decide) ?_
        refine lv_icmp_le (tgt := 39) hx hb dX6_steady_33 (by decide) (fun c_33 => ?_) (fun c_33 => ?_)
        · rw [if_pos c_33] at h
          refine lv_aload_n hx hb dX6_steady_39 rfl (lv_at hl 0 rfl) ?_
          refine lv_iconst (v := 0) hx hb dX6_steady_40 (by decide) ?_
          obtain ⟨r41, S41, k_41, h⟩ := gx_bind_e h
          refine gw_callv X hA hV (gw_runV X hV (o := 0) (As := [.int (0 : Int32)]) (rest := []) (mX6_note l G ad _ S6 k_41) kc_RX6_175 (iYO_0 rfl) rfl rfl rfl hl.1 rfl (Nat.le_of_ble_eq_true rfl) ⟨rfl, rfl⟩ ⟨Nat.le_of_ble_eq_true rfl, Nat.le_of_ble_eq_true rfl⟩ ⟨Nat.le_refl _, Nat.le_refl _⟩ dX6_steady_41) (fun H locs hV => ?_)
          refine lv_iconst (v := 1) hx hb dX6_steady_44 (by decide) ?_
          refine lv_istore_n (lv' := [(2, .int (1 : Int32)), (0, .ref (ad 0)), (1, .int v1)]) hx hb dX6_steady_45 rfl hl (by decide) rfl (fun ls hl => ?_)
          exact tX6_steady_46 X hA gx_fuel _ _ _ h _ _ _ hV (lv_sub hl [1, 2, 0] rfl)
        · rw [if_neg c_33] at h
          refine lv_bipush (v := -4) hx hb dX6_steady_36 (by decide) ?_
          exact gw_ireti X hV h dX6_steady_38
      · rw [if_pos c_19] at h
        refine lv_bipush (v := -3) hx hb dX6_steady_22 (by decide) ?_
        exact gw_ireti X hV h dX6_steady_24
    · rw [if_pos c_9] at h
      refine lv_bipush (v := -2) hx hb dX6_steady_12 (by decide) ?_
      exact gw_ireti X hV h dX6_steady_14
  exact Y _ _ hV
def fX6_layerOf_42 (K6 : gS → Int32 → Int32 → Int32 → Int32 → Option (Int32 × gS)) (S : gS) (v1 : Int32) (v2 : Int32) (v3 : Int32) (v4 : Int32) : Option (Int32 × gS) :=
gx_let (v4 + (-1 : Int32)) fun v4_42 =>
K6 S v1 v2 v3 v4_42
def fX6_layerOf_6L (K6 : gS → Int32 → Int32 → Int32 → Int32 → Option (Int32 × gS)) (S : gS) (v1 : Int32) (v2 : Int32) (v3 : Int32) (v4 : Int32) : Option (Int32 × gS) :=
if v4 < 0 then (some ((-9 : Int32), S)) else
if v2 < 0 then (some ((-9 : Int32), S)) else
gx_chk (((61 : Int32) * v1) + v4) 3904 <|
if (gJ S 8 (Int32.toNatClampNeg (((61 : Int32) * v1) + v4))) ≤ (0 : Int64) then (fX6_layerOf_42 K6 S v1 v2 v3 v4) else
if v3 = 0 then (some (v4, S)) else
gx_let (v3 + (-1 : Int32)) fun v3_39 =>
fX6_layerOf_42 K6 S v1 v2 v3_39 v4
def fX6_layerOf_6 : Nat → gS → Int32 → Int32 → Int32 → Int32 → Option (Int32 × gS)
  | 0, _, _, _, _, _ => none
  | f + 1, S, v1, v2, v3, v4 => fX6_layerOf_6L (fX6_layerOf_6 f) S v1 v2 v3 v4
def fX6_layerOf (S : gS) (v1 : Int32) (v2 : Int32) : Option (Int32 × gS) :=
fX6_layerOf_6 gx_fuel S v1 v2 v2 (60 : Int32)
def rmX6_layerOf : Room := { frames := 0, cells := 0, slots := 0, locals := 0 }
set_option maxHeartbeats 4000000 in
set_option maxRecDepth 20000 in
theorem tX6_layerOf_42 {p : Program} {l : Launch} {e : Env} {s : State} {m : MethodId} {args : Array Value} {below : List Frame} {meth : Method} {c : Code} {G : gG} {ad : Nat → Nat} {A : Nat → Prop} {z : Int32 × gS} {K6 : gS → Int32 → Int32 → Int32 → Int32 → Option (Int32 × gS)} (X : gCx p s m args meth c G cX6_layerOf RX6 (some .int) 5) (hA : ∀ q, s.heap.size ≤ q → A q) (kK6 : ∀ (S : gS) (v1 : Int32) (v2 : Int32) (v3 : Int32) (v4 : Int32), K6 S v1 v2 v3 v4 = some z → ∀ (H : Heap) (locs : List Loc) (ls : Array Slot), gV wdY G ad A s.heap S H locs → lv_has ls 5 [(0, .ref (ad 0)), (1, .int v1), (2, .int v2), (3, .int v3), (4, .int v4)] → W p l e rmX6_layerOf s m args below meth c H locs 0 0 (MQ below (gQi wdY G ad A z) args s 0 0 A) (F0 m 6 ls [])) (S : gS) (v1 : Int32) (v2 : Int32) (v3 : Int32) (v4 : Int32) (h : fX6_layerOf_42 K6 S v1 v2 v3 v4 = some z) {H : Heap} {locs : List Loc} {ls : Array Slot} (hV : gV wdY G ad A s.heap S H locs) (hl : lv_has ls 5 [(0, .ref (ad 0)), (1, .int v1), (2, .int v2), (3, .int v3), (4, .int v4)]) : W p l e rmX6_layerOf s m args below meth c H locs 0 0 (MQ below (gQi wdY G ad A z) args s 0 0 A) (F0 m 42 ls []) := by
  obtain ⟨hx, hb, hr, hml, hown, hts, hlk, hK⟩ := id X
  unfold fX6_layerOf_42 at h
  obtain ⟨v4_42, e_42⟩ : ∃ y : Int32, y = (v4 + (-1 : Int32)) := ⟨_, rfl⟩
  refine lv_iinc (v := v4_42) (lv' := [(4, .int v4_42), (0, .ref (ad 0)), (1, .int v1), (2, .int v2), (3, .int v3)]) hx hb dX6_layerOf_42 hl (k := 4) rfl (by rw [e_42]; rfl) (by decide) rfl (fun ls hl => ?_)
  replace h := gx_let_e e_42 h
  clear e_42
  refine lv_goto (tgt := 6) hx hb dX6_layerOf_45 (by decide) ?_
  exact kK6 _ _ _ _ _ h _ _ _ hV (lv_sub hl [1, 2, 3, 4, 0] rfl)
set_option maxHeartbeats 4000000 in
set_option maxRecDepth 20000 in
theorem tX6_layerOf_6L {p : Program} {l : Launch} {e : Env} {s : State} {m : MethodId} {args : Array Value} {below : List Frame} {meth : Method} {c : Code} {G : gG} {ad : Nat → Nat} {A : Nat → Prop} {z : Int32 × gS} {K6 : gS → Int32 → Int32 → Int32 → Int32 → Option (Int32 × gS)} (X : gCx p s m args meth c G cX6_layerOf RX6 (some .int) 5) (hA : ∀ q, s.heap.size ≤ q → A q) (kK6 : ∀ (S : gS) (v1 : Int32) (v2 : Int32) (v3 : Int32) (v4 : Int32), K6 S v1 v2 v3 v4 = some z → ∀ (H : Heap) (locs : List Loc) (ls : Array Slot), gV wdY G ad A s.heap S H locs → lv_has ls 5 [(0, .ref (ad 0)), (1, .int v1), (2, .int v2), (3, .int v3), (4, .int v4)] → W p l e rmX6_layerOf s m args below meth c H locs 0 0 (MQ below (gQi wdY G ad A z) args s 0 0 A) (F0 m 6 ls [])) (S : gS) (v1 : Int32) (v2 : Int32) (v3 : Int32) (v4 : Int32) (h : fX6_layerOf_6L K6 S v1 v2 v3 v4 = some z) {H : Heap} {locs : List Loc} {ls : Array Slot} (hV : gV wdY G ad A s.heap S H locs) (hl : lv_has ls 5 [(0, .ref (ad 0)), (1, .int v1), (2, .int v2), (3, .int v3), (4, .int v4)]) : W p l e rmX6_layerOf s m args below meth c H locs 0 0 (MQ below (gQi wdY G ad A z) args s 0 0 A) (F0 m 6 ls []) := by
  obtain ⟨hx, hb, hr, hml, hown, hts, hlk, hK⟩ := id X
  unfold fX6_layerOf_6L at h
  refine lv_iload hx hb dX6_layerOf_6 (lv_at hl 4 rfl) ?_
  refine lv_if_lt (tgt := 48) hx hb dX6_layerOf_8 (by decide) (fun c_8 => ?_) (fun c_8 => ?_)
  · rw [if_pos c_8] at h
    refine lv_bipush (v := -9) hx hb dX6_layerOf_48 (by decide) ?_
    exact gw_ireti X hV h dX6_layerOf_50
  · rw [if_neg c_8] at h
    refine lv_iload_n hx hb dX6_layerOf_11 rfl (lv_at hl 2 rfl) ?_
    refine lv_if_lt (tgt := 48) hx hb dX6_layerOf_12 (by decide) (fun c_12 => ?_) (fun c_12 => ?_)
    · rw [if_pos c_12] at h
      refine lv_bipush (v := -9) hx hb dX6_layerOf_48 (by decide) ?_
      exact gw_ireti X hV h dX6_layerOf_50
    · rw [if_neg c_12] at h
      refine lv_aload_n hx hb dX6_layerOf_15 rfl (lv_at hl 0 rfl) ?_
      refine ggX6_32 X hV (o := 0) rfl dX6_layerOf_16 ?_
      refine lv_bipush (v := 61) hx hb dX6_layerOf_19 (by decide) ?_
      refine lv_iload_n hx hb dX6_layerOf_21 rfl (lv_at hl 1 rfl) ?_
      refine lv_imul hx hb dX6_layerOf_22 ?_
      refine lv_iload hx hb dX6_layerOf_23 (lv_at hl 4 rfl) ?_
      refine lv_iadd hx hb dX6_layerOf_25 ?_
      obtain ⟨c_26, h⟩ := gx_chk_e h
      refine gw_lald X hV (iYJ_5 (o := 8) rfl) c_26 dX6_layerOf_26 ?_
      refine lv_lconst (v := 0) hx hb dX6_layerOf_27 (by decide) ?_
      refine gw_cmp_le (tgt := 42) X dX6_layerOf_28 dX6_layerOf_29 (by decide) (fun c_28 => ?_) (fun c_28 => ?_)
      · rw [if_pos c_28] at h
        exact tX6_layerOf_42 X hA kK6 _ _ _ _ _ h hV (lv_sub hl [0, 1, 2, 3, 4] rfl)
      · rw [if_neg c_28] at h
        refine lv_iload_n hx hb dX6_layerOf_32 rfl (lv_at hl 3 rfl) ?_
        refine lv_if_ne (tgt := 39) hx hb dX6_layerOf_33 (by decide) (fun c_33 => ?_) (fun c_33 => ?_)
        · rw [if_neg c_33] at h
          obtain ⟨v3_39, e_39⟩ : ∃ y : Int32, y = (v3 + (-1 : Int32)) := ⟨_, rfl⟩
          refine lv_iinc (v := v3_39) (lv' := [(3, .int v3_39), (0, .ref (ad 0)), (1, .int v1), (2, .int v2), (4, .int v4)]) hx hb dX6_layerOf_39 hl (k := 3) rfl (by rw [e_39]; rfl) (by decide) rfl (fun ls hl => ?_)
          replace h := gx_let_e e_39 h
          clear e_39
          exact tX6_layerOf_42 X hA kK6 _ _ _ _ _ h hV (lv_sub hl [1, 2, 3, 0, 4] rfl)
        · rw [if_pos c_33] at h
          refine lv_iload hx hb dX6_layerOf_36 (lv_at hl 4 rfl) ?_
          exact gw_ireti X hV h dX6_layerOf_38
set_option maxHeartbeats 4000000 in
set_option maxRecDepth 20000 in
theorem tX6_layerOf_6 {p : Program} {l : Launch} {e : Env} {s : State} {m : MethodId} {args : Array Value} {below : List Frame} {meth : Method} {c : Code} {G : gG} {ad : Nat → Nat} {A : Nat → Prop} {z : Int32 × gS} (X : gCx p s m args meth c G cX6_layerOf RX6 (some .int) 5) (hA : ∀ q, s.heap.size ≤ q → A q) : ∀ (f : Nat) (S : gS) (v1 : Int32) (v2 : Int32) (v3 : Int32) (v4 : Int32) (h : fX6_layerOf_6 f S v1 v2 v3 v4 = some z) (H : Heap) (locs : List Loc) (ls : Array Slot) (hV : gV wdY G ad A s.heap S H locs) (hl : lv_has ls 5 [(0, .ref (ad 0)), (1, .int v1), (2, .int v2), (3, .int v3), (4, .int v4)]), W p l e rmX6_layerOf s m args below meth c H locs 0 0 (MQ below (gQi wdY G ad A z) args s 0 0 A) (F0 m 6 ls []) := by
  intro f
  induction f with
  | zero => intro S v1 v2 v3 v4 h; exact absurd h (by simp [fX6_layerOf_6])
  | succ f ih => intro S v1 v2 v3 v4 h H locs ls hV hl; exact tX6_layerOf_6L X hA ih S v1 v2 v3 v4 h hV hl
set_option maxHeartbeats 4000000 in
set_option maxRecDepth 20000 in
theorem mX6_layerOf (l : Launch) (G : gG) (ad : Nat → Nat) (sz : Nat) (S : gS) {v1 : Int32} {v2 : Int32} {r : Int32} {S' : gS} (h : fX6_layerOf S v1 v2 = some (r, S')) : gMetI l yX6_layerOf cX6_layerOf 5 (some .int) rmX6_layerOf wdY G ad S sz [.ref (ad 0), .int v1, .int v2] r S' := by
  refine gMet_of (by decide) ?_
  intro p e s m below meth c A hA X hnm hV
  have hl := lv_entry ([.ref (ad 0), .int v1, .int v2]) (n := 5) (Nat.le_of_ble_eq_true rfl)
  rw [lg_entry_eq]
  generalize (lg_sl ([.ref (ad 0), .int v1, .int v2]) ++ List.replicate (5 - (lg_sl ([.ref (ad 0), .int v1, .int v2])).length) Slot.unset).toArray = ls at hl ⊢
  have hl : lv_has ls 5 [(0, .ref (ad 0)), (1, .int v1), (2, .int v2)] := hl
  obtain ⟨hx, hb, hr, hml, hown, hts, hlk, hK⟩ := id X
  unfold fX6_layerOf at h
  generalize ([.ref (ad 0), .int v1, .int v2].toArray : Array Value) = args at X ⊢
  have Y : ∀ (H : Heap) (locs : List Loc), gV wdY G ad A s.heap S H locs → W p l e rmX6_layerOf s m args below meth c H locs 0 0 (MQ below (gQi wdY G ad A (r, S')) args s 0 0 A) (F0 m 0 ls []) := by
    intro H locs hV
    refine lv_iload_n hx hb dX6_layerOf_0 rfl (lv_at hl 2 rfl) ?_
    refine lv_istore_n (lv' := [(3, .int v2), (0, .ref (ad 0)), (1, .int v1), (2, .int v2)]) hx hb dX6_layerOf_1 rfl hl (by decide) rfl (fun ls hl => ?_)
    refine lv_bipush (v := 60) hx hb dX6_layerOf_2 (by decide) ?_
    refine lv_istore (lv' := [(4, .int (60 : Int32)), (3, .int v2), (0, .ref (ad 0)), (1, .int v1), (2, .int v2)]) hx hb dX6_layerOf_4 hl (by decide) rfl (fun ls hl => ?_)
    exact tX6_layerOf_6 X hA gx_fuel _ _ _ _ _ h _ _ _ hV (lv_sub hl [2, 3, 4, 1, 0] rfl)
  exact Y _ _ hV
def fX6_layers_32 (K4 : gS → Int32 → Int32 → Int32 → Option (Int32 × gS)) (S : gS) (v1 : Int32) (v3 : Int32) (t0 : Int32) (t1 : Int32) : Option (Int32 × gS) :=
gx_let (t0 + t1) fun v2_33 =>
gx_let (v3 + (1 : Int32)) fun v3_34 =>
K4 S v1 v2_33 v3_34
def fX6_layers_4L (K4 : gS → Int32 → Int32 → Int32 → Option (Int32 × gS)) (S : gS) (v1 : Int32) (v2 : Int32) (v3 : Int32) : Option (Int32 × gS) :=
if (61 : Int32) ≤ v3 then (some (v2, S)) else
gx_chk (((61 : Int32) * v1) + v3) 3904 <|
if (gJ S 8 (Int32.toNatClampNeg (((61 : Int32) * v1) + v3))) ≤ (0 : Int64) then (fX6_layers_32 K4 S v1 v3 v2 (0 : Int32)) else
fX6_layers_32 K4 S v1 v3 v2 (1 : Int32)
def fX6_layers_4 : Nat → gS → Int32 → Int32 → Int32 → Option (Int32 × gS)
  | 0, _, _, _, _ => none
  | f + 1, S, v1, v2, v3 => fX6_layers_4L (fX6_layers_4 f) S v1 v2 v3
def fX6_layers (S : gS) (v1 : Int32) : Option (Int32 × gS) :=
fX6_layers_4 gx_fuel S v1 (0 : Int32) (0 : Int32)
def rmX6_layers : Room := { frames := 0, cells := 0, slots := 0, locals := 0 }
set_option maxHeartbeats 4000000 in
set_option maxRecDepth 20000 in
theorem tX6_layers_32 {p : Program} {l : Launch} {e : Env} {s : State} {m : MethodId} {args : Array Value} {below : List Frame} {meth : Method} {c : Code} {G : gG} {ad : Nat → Nat} {A : Nat → Prop} {z : Int32 × gS} {K4 : gS → Int32 → Int32 → Int32 → Option (Int32 × gS)} (X : gCx p s m args meth c G cX6_layers RX6 (some .int) 4) (hA : ∀ q, s.heap.size ≤ q → A q) (kK4 : ∀ (S : gS) (v1 : Int32) (v2 : Int32) (v3 : Int32), K4 S v1 v2 v3 = some z → ∀ (H : Heap) (locs : List Loc) (ls : Array Slot), gV wdY G ad A s.heap S H locs → lv_has ls 4 [(0, .ref (ad 0)), (1, .int v1), (2, .int v2), (3, .int v3)] → W p l e rmX6_layers s m args below meth c H locs 0 0 (MQ below (gQi wdY G ad A z) args s 0 0 A) (F0 m 4 ls [])) (S : gS) (v1 : Int32) (v3 : Int32) (t0 : Int32) (t1 : Int32) (h : fX6_layers_32 K4 S v1 v3 t0 t1 = some z) {H : Heap} {locs : List Loc} {ls : Array Slot} (hV : gV wdY G ad A s.heap S H locs) (hl : lv_has ls 4 [(0, .ref (ad 0)), (1, .int v1), (3, .int v3)]) : W p l e rmX6_layers s m args below meth c H locs 0 0 (MQ below (gQi wdY G ad A z) args s 0 0 A) (F0 m 32 ls [.int t1, .int t0]) := by
  obtain ⟨hx, hb, hr, hml, hown, hts, hlk, hK⟩ := id X
  unfold fX6_layers_32 at h
  refine lv_iadd hx hb dX6_layers_32 ?_
  refine lv_topi (fun v2_33 e_33 => ?_)
  replace h := gx_let_e e_33 h
  clear e_33
  refine lv_istore_n (lv' := [(2, .int v2_33), (0, .ref (ad 0)), (1, .int v1), (3, .int v3)]) hx hb dX6_layers_33 rfl hl (by decide) rfl (fun ls hl => ?_)
  obtain ⟨v3_34, e_34⟩ : ∃ y : Int32, y = (v3 + (1 : Int32)) := ⟨_, rfl⟩
  refine lv_iinc (v := v3_34) (lv' := [(3, .int v3_34), (2, .int v2_33), (0, .ref (ad 0)), (1, .int v1)]) hx hb dX6_layers_34 hl (k := 3) rfl (by rw [e_34]; rfl) (by decide) rfl (fun ls hl => ?_)
  replace h := gx_let_e e_34 h
  clear e_34
  refine lv_goto (tgt := 4) hx hb dX6_layers_37 (by decide) ?_
  exact kK4 _ _ _ _ h _ _ _ hV (lv_sub hl [2, 3, 1, 0] rfl)
set_option maxHeartbeats 4000000 in
set_option maxRecDepth 20000 in
theorem tX6_layers_4L {p : Program} {l : Launch} {e : Env} {s : State} {m : MethodId} {args : Array Value} {below : List Frame} {meth : Method} {c : Code} {G : gG} {ad : Nat → Nat} {A : Nat → Prop} {z : Int32 × gS} {K4 : gS → Int32 → Int32 → Int32 → Option (Int32 × gS)} (X : gCx p s m args meth c G cX6_layers RX6 (some .int) 4) (hA : ∀ q, s.heap.size ≤ q → A q) (kK4 : ∀ (S : gS) (v1 : Int32) (v2 : Int32) (v3 : Int32), K4 S v1 v2 v3 = some z → ∀ (H : Heap) (locs : List Loc) (ls : Array Slot), gV wdY G ad A s.heap S H locs → lv_has ls 4 [(0, .ref (ad 0)), (1, .int v1), (2, .int v2), (3, .int v3)] → W p l e rmX6_layers s m args below meth c H locs 0 0 (MQ below (gQi wdY G ad A z) args s 0 0 A) (F0 m 4 ls [])) (S : gS) (v1 : Int32) (v2 : Int32) (v3 : Int32) (h : fX6_layers_4L K4 S v1 v2 v3 = some z) {H : Heap} {locs : List Loc} {ls : Array Slot} (hV : gV wdY G ad A s.heap S H locs) (hl : lv_has ls 4 [(0, .ref (ad 0)), (1, .int v1), (2, .int v2), (3, .int v3)]) : W p l e rmX6_layers s m args below meth c H locs 0 0 (MQ below (gQi wdY G ad A z) args s 0 0 A) (F0 m 4 ls []) := by
  obtain ⟨hx, hb, hr, hml, hown, hts, hlk, hK⟩ := id X
  unfold fX6_layers_4L at h
  refine lv_iload_n hx hb dX6_layers_4 rfl (lv_at hl 3 rfl) ?_
  refine lv_bipush (v := 61) hx hb dX6_layers_5 (by decide) ?_
  refine lv_icmp_ge (tgt := 40) hx hb dX6_layers_7 (by decide) (fun c_7 => ?_) (fun c_7 => ?_)
  · rw [if_pos c_7] at h
    refine lv_iload_n hx hb dX6_layers_40 rfl (lv_at hl 2 rfl) ?_
    exact gw_ireti X hV h dX6_layers_41
  · rw [if_neg c_7] at h
    refine lv_iload_n hx hb dX6_layers_10 rfl (lv_at hl 2 rfl) ?_
    refine lv_aload_n hx hb dX6_layers_11 rfl (lv_at hl 0 rfl) ?_
    refine ggX6_32 X hV (o := 0) rfl dX6_layers_12 ?_
    refine lv_bipush (v := 61) hx hb dX6_layers_15 (by decide) ?_
    refine lv_iload_n hx hb dX6_layers_17 rfl (lv_at hl 1 rfl) ?_
    refine lv_imul hx hb dX6_layers_18 ?_
    refine lv_iload_n hx hb dX6_layers_19 rfl (lv_at hl 3 rfl) ?_
    refine lv_iadd hx hb dX6_layers_20 ?_
    obtain ⟨c_21, h⟩ := gx_chk_e h
    refine gw_lald X hV (iYJ_5 (o := 8) rfl) c_21 dX6_layers_21 ?_
    refine lv_lconst (v := 0) hx hb dX6_layers_22 (by decide) ?_
    refine gw_cmp_le (tgt := 31) X dX6_layers_23 dX6_layers_24 (by decide) (fun c_23 => ?_) (fun c_23 => ?_)
    · rw [if_pos c_23] at h
      refine lv_iconst (v := 0) hx hb dX6_layers_31 (by decide) ?_
      exact tX6_layers_32 X hA kK4 _ _ _ _ _ h hV (lv_sub hl [0, 1, 3] rfl)
    · rw [if_neg c_23] at h
      refine lv_iconst (v := 1) hx hb dX6_layers_27 (by decide) ?_
      refine lv_goto (tgt := 32) hx hb dX6_layers_28 (by decide) ?_
      exact tX6_layers_32 X hA kK4 _ _ _ _ _ h hV (lv_sub hl [0, 1, 3] rfl)
set_option maxHeartbeats 4000000 in
set_option maxRecDepth 20000 in
theorem tX6_layers_4 {p : Program} {l : Launch} {e : Env} {s : State} {m : MethodId} {args : Array Value} {below : List Frame} {meth : Method} {c : Code} {G : gG} {ad : Nat → Nat} {A : Nat → Prop} {z : Int32 × gS} (X : gCx p s m args meth c G cX6_layers RX6 (some .int) 4) (hA : ∀ q, s.heap.size ≤ q → A q) : ∀ (f : Nat) (S : gS) (v1 : Int32) (v2 : Int32) (v3 : Int32) (h : fX6_layers_4 f S v1 v2 v3 = some z) (H : Heap) (locs : List Loc) (ls : Array Slot) (hV : gV wdY G ad A s.heap S H locs) (hl : lv_has ls 4 [(0, .ref (ad 0)), (1, .int v1), (2, .int v2), (3, .int v3)]), W p l e rmX6_layers s m args below meth c H locs 0 0 (MQ below (gQi wdY G ad A z) args s 0 0 A) (F0 m 4 ls []) := by
  intro f
  induction f with
  | zero => intro S v1 v2 v3 h; exact absurd h (by simp [fX6_layers_4])
  | succ f ih => intro S v1 v2 v3 h H locs ls hV hl; exact tX6_layers_4L X hA ih S v1 v2 v3 h hV hl
set_option maxHeartbeats 4000000 in
set_option maxRecDepth 20000 in
theorem mX6_layers (l : Launch) (G : gG) (ad : Nat → Nat) (sz : Nat) (S : gS) {v1 : Int32} {r : Int32} {S' : gS} (h : fX6_layers S v1 = some (r, S')) : gMetI l yX6_layers cX6_layers 4 (some .int) rmX6_layers wdY G ad S sz [.ref (ad 0), .int v1] r S' := by
  refine gMet_of (by decide) ?_
  intro p e s m below meth c A hA X hnm hV
  have hl := lv_entry ([.ref (ad 0), .int v1]) (n := 4) (Nat.le_of_ble_eq_true rfl)
  rw [lg_entry_eq]
  generalize (lg_sl ([.ref (ad 0), .int v1]) ++ List.replicate (4 - (lg_sl ([.ref (ad 0), .int v1])).length) Slot.unset).toArray = ls at hl ⊢
  have hl : lv_has ls 4 [(0, .ref (ad 0)), (1, .int v1)] := hl
  obtain ⟨hx, hb, hr, hml, hown, hts, hlk, hK⟩ := id X
  unfold fX6_layers at h
  generalize ([.ref (ad 0), .int v1].toArray : Array Value) = args at X ⊢
  have Y : ∀ (H : Heap) (locs : List Loc), gV wdY G ad A s.heap S H locs → W p l e rmX6_layers s m args below meth c H locs 0 0 (MQ below (gQi wdY G ad A (r, S')) args s 0 0 A) (F0 m 0 ls []) := by
    intro H locs hV
    refine lv_iconst (v := 0) hx hb dX6_layers_0 (by decide) ?_
    refine lv_istore_n (lv' := [(2, .int (0 : Int32)), (0, .ref (ad 0)), (1, .int v1)]) hx hb dX6_layers_1 rfl hl (by decide) rfl (fun ls hl => ?_)
    refine lv_iconst (v := 0) hx hb dX6_layers_2 (by decide) ?_
    refine lv_istore_n (lv' := [(3, .int (0 : Int32)), (2, .int (0 : Int32)), (0, .ref (ad 0)), (1, .int v1)]) hx hb dX6_layers_3 rfl hl (by decide) rfl (fun ls hl => ?_)
    exact tX6_layers_4 X hA gx_fuel _ _ _ _ h _ _ _ hV (lv_sub hl [2, 3, 1, 0] rfl)
  exact Y _ _ hV
theorem kc_RX6_184 : gKV RX6 184 yX6_layers cX6_layers 4 (some .int) 1 := ⟨q_759, q_761, q_33, q_762, q_42, by decide +kernel⟩
theorem kc_RX6_187 : gKV RX6 187 yX6_layerOf cX6_layerOf 5 (some .int) 2 := ⟨q_763, q_765, q_34, q_766, q_42, by decide +kernel⟩
def fX6_cell (S : gS) (v1 : Int32) (v2 : Int32) (v3 : Int32) : Option (Int64 × gS) :=
gx_bind (fX6_isPlace S v1 v2) fun r3 S3 =>
if r3 = 0 then (some ((-1 : Int64), S3)) else
gx_bind (fX6_in S3 (Int32.toInt64 v3) (0 : Int64) (6 : Int64)) fun r19 S19 =>
if r19 = 0 then (some ((-2 : Int64), S19)) else
gx_let (((8 : Int32) * v2) + v1) fun v4_35 =>
gx_chk v4_35 64 <|
if (gA S19 5 (Int32.toNatClampNeg v4_35)) = (4 : Int32) then (some ((-3 : Int64), S19)) else
if v3 = 0 then (gx_chk v4_35 64 <|
some ((Int32.toInt64 (gA S19 7 (Int32.toNatClampNeg v4_35))), S19)) else
if v3 = 1 then (gx_bind (fX6_thick S19 v4_35) fun r104 S104 =>
some (r104, S104)) else
if v3 = 2 then (gx_chk v4_35 64 <|
gx_bind (fX6_thick S19 v4_35) fun r119 S119 =>
some (((Int32.toInt64 (gA S19 7 (Int32.toNatClampNeg v4_35))) + r119), S119)) else
if v3 = 3 then (gx_bind (fX6_layers S19 v4_35) fun r127 S127 =>
some ((Int32.toInt64 r127), S127)) else
if v3 = 4 then (gx_bind (fX6_layerOf S19 v4_35 (0 : Int32)) fun r136 S136 =>
some ((Int32.toInt64 r136), S136)) else
if v3 = 5 then (gx_bind (fX6_layers S19 v4_35) fun r147 S147 =>
gx_bind (fX6_layerOf S147 v4_35 (r147 - (1 : Int32))) fun r152 S152 =>
some ((Int32.toInt64 r152), S152)) else
gx_chk v4_35 64 <|
some ((Int32.toInt64 ((gA S19 7 (Int32.toNatClampNeg v4_35)) / (1000 : Int32))), S19)
def rmX6_cell : Room := { frames := 2, cells := 0, slots := 0, locals := 47 }
set_option maxHeartbeats 4000000 in
set_option maxRecDepth 20000 in
theorem mX6_cell (l : Launch) (G : gG) (ad : Nat → Nat) (sz : Nat) (S : gS) {v1 : Int32} {v2 : Int32} {v3 : Int32} {r : Int64} {S' : gS} (h : fX6_cell S v1 v2 v3 = some (r, S')) : gMetL l yX6_cell cX6_cell 5 (some .long) rmX6_cell wdY G ad S sz [.ref (ad 0), .int v1, .int v2, .int v3] r S' := by
  refine gMet_of (by decide) ?_
  intro p e s m below meth c A hA X hnm hV
  have hl := lv_entry ([.ref (ad 0), .int v1, .int v2, .int v3]) (n := 5) (Nat.le_of_ble_eq_true rfl)
  rw [lg_entry_eq]
  generalize (lg_sl ([.ref (ad 0), .int v1, .int v2, .int v3]) ++ List.replicate (5 - (lg_sl ([.ref (ad 0), .int v1, .int v2, .int v3])).length) Slot.unset).toArray = ls at hl ⊢
  have hl : lv_has ls 5 [(0, .ref (ad 0)), (1, .int v1), (2, .int v2), (3, .int v3)] := hl
  obtain ⟨hx, hb, hr, hml, hown, hts, hlk, hK⟩ := id X
  unfold fX6_cell at h
  generalize ([.ref (ad 0), .int v1, .int v2, .int v3].toArray : Array Value) = args at X ⊢
  have Y : ∀ (H : Heap) (locs : List Loc), gV wdY G ad A s.heap S H locs → W p l e rmX6_cell s m args below meth c H locs 0 0 (MQ below (gQl wdY G ad A (r, S')) args s 0 0 A) (F0 m 0 ls []) := by
    intro H locs hV
    refine lv_aload_n hx hb dX6_cell_0 rfl (lv_at hl 0 rfl) ?_
    refine lv_iload_n hx hb dX6_cell_1 rfl (lv_at hl 1 rfl) ?_
    refine lv_iload_n hx hb dX6_cell_2 rfl (lv_at hl 2 rfl) ?_
    obtain ⟨r3, S3, k_3, h⟩ := gx_bind_e h
    refine gw_callI X hA hV (gw_runV X hV (o := 0) (As := [.int v1, .int v2]) (rest := []) (mX6_isPlace l G ad _ S k_3) kc_RX6_115 (iYO_0 rfl) rfl rfl rfl hl.1 rfl (Nat.le_of_ble_eq_true rfl) ⟨rfl, rfl⟩ ⟨Nat.le_of_ble_eq_true rfl, Nat.le_of_ble_eq_true rfl⟩ ⟨Nat.le_refl _, Nat.le_refl _⟩ dX6_cell_3) (fun H locs hV => ?_)
    refine lv_if_ne (tgt := 13) hx hb dX6_cell_6 (by decide) (fun c_6 => ?_) (fun c_6 => ?_)
    · rw [if_neg c_6] at h
      refine lv_iload_n hx hb dX6_cell_13 rfl (lv_at hl 3 rfl) ?_
      refine lv_i2l hx hb dX6_cell_14 rfl ?_
      refine lv_lconst (v := 0) hx hb dX6_cell_15 (by decide) ?_
      refine lv_ldc2 (v := 6) hx hb hown (hts _ q_758) dX6_cell_16 ?_
      obtain ⟨r19, S19, k_19, h⟩ := gx_bind_e h
      refine gw_callI X hA hV (gw_runS X hV (As := [.long (Int32.toInt64 v3), .long (0 : Int64), .long (6 : Int64)]) (rest := []) (mX6_in l G ad _ S3 k_19) kc_RX6_77 rfl hl.1 rfl (Nat.le_of_ble_eq_true rfl) ⟨rfl, rfl⟩ ⟨Nat.le_of_ble_eq_true rfl, Nat.le_of_ble_eq_true rfl⟩ ⟨Nat.le_refl _, Nat.le_refl _⟩ dX6_cell_19) (fun H locs hV => ?_)
      refine lv_if_ne (tgt := 29) hx hb dX6_cell_22 (by decide) (fun c_22 => ?_) (fun c_22 => ?_)
      · rw [if_neg c_22] at h
        refine lv_bipush (v := 8) hx hb dX6_cell_29 (by decide) ?_
        refine lv_iload_n hx hb dX6_cell_31 rfl (lv_at hl 2 rfl) ?_
        refine lv_imul hx hb dX6_cell_32 ?_
        refine lv_iload_n hx hb dX6_cell_33 rfl (lv_at hl 1 rfl) ?_
        refine lv_iadd hx hb dX6_cell_34 ?_
        refine lv_topi (fun v4_35 e_35 => ?_)
        replace h := gx_let_e e_35 h
        clear e_35
        refine lv_istore (lv' := [(4, .int v4_35), (0, .ref (ad 0)), (1, .int v1), (2, .int v2), (3, .int v3)]) hx hb dX6_cell_35 hl (by decide) rfl (fun ls hl => ?_)
        refine lv_aload_n hx hb dX6_cell_37 rfl (lv_at hl 1 rfl) ?_
        refine ggX6_23 X hV (o := 0) rfl dX6_cell_38 ?_
        refine lv_iload hx hb dX6_cell_41 (lv_at hl 0 rfl) ?_
        obtain ⟨c_43, h⟩ := gx_chk_e h
        refine gw_iald X hV (iYA_4 (o := 5) rfl) c_43 dX6_cell_43 ?_
        refine lv_iconst (v := 4) hx hb dX6_cell_44 (by decide) ?_
        refine lv_icmp_ne (tgt := 52) hx hb dX6_cell_45 (by decide) (fun c_45 => ?_) (fun c_45 => ?_)
        · rw [if_neg c_45] at h
          refine lv_iload_n hx hb dX6_cell_52 rfl (lv_at hl 4 rfl) ?_
          by_cases c_53_0 : v3 = 0
          · rw [if_pos c_53_0] at h
            refine lv_tableIn (off := 39) (tgt := 92) hx hb dX6_cell_53 (by rw [c_53_0]; decide) (by rw [c_53_0]; decide) (by rw [c_53_0]; rfl) (by decide) ?_
            refine lv_aload_n hx hb dX6_cell_92 rfl (lv_at hl 1 rfl) ?_
            refine ggX6_29 X hV (o := 0) rfl dX6_cell_93 ?_
            refine lv_iload hx hb dX6_cell_96 (lv_at hl 0 rfl) ?_
            obtain ⟨c_98, h⟩ := gx_chk_e h
            refine gw_iald X hV (iYA_4 (o := 7) rfl) c_98 dX6_cell_98 ?_
            refine lv_i2l hx hb dX6_cell_99 rfl ?_
            exact gw_lret X hV h dX6_cell_100
          · rw [if_neg c_53_0] at h
            by_cases c_53_1 : v3 = 1
            · rw [if_pos c_53_1] at h
              refine lv_tableIn (off := 48) (tgt := 101) hx hb dX6_cell_53 (by rw [c_53_1]; decide) (by rw [c_53_1]; decide) (by rw [c_53_1]; rfl) (by decide) ?_
              refine lv_aload_n hx hb dX6_cell_101 rfl (lv_at hl 1 rfl) ?_
              refine lv_iload hx hb dX6_cell_102 (lv_at hl 0 rfl) ?_
              obtain ⟨r104, S104, k_104, h⟩ := gx_bind_e h
              refine gw_callL X hA hV (gw_runV X hV (o := 0) (As := [.int v4_35]) (rest := []) (mX6_thick l G ad _ S19 k_104) kc_RX6_136 (iYO_0 rfl) rfl rfl rfl hl.1 rfl (Nat.le_of_ble_eq_true rfl) ⟨rfl, rfl⟩ ⟨Nat.le_of_ble_eq_true rfl, Nat.le_of_ble_eq_true rfl⟩ ⟨Nat.le_refl _, Nat.le_refl _⟩ dX6_cell_104) (fun H locs hV => ?_)
              exact gw_lret X hV h dX6_cell_107
            · rw [if_neg c_53_1] at h
              by_cases c_53_2 : v3 = 2
              · rw [if_pos c_53_2] at h
                refine lv_tableIn (off := 55) (tgt := 108) hx hb dX6_cell_53 (by rw [c_53_2]; decide) (by rw [c_53_2]; decide) (by rw [c_53_2]; rfl) (by decide) ?_
                refine lv_aload_n hx hb dX6_cell_108 rfl (lv_at hl 1 rfl) ?_
                refine ggX6_29 X hV (o := 0) rfl dX6_cell_109 ?_
                refine lv_iload hx hb dX6_cell_112 (lv_at hl 0 rfl) ?_
                obtain ⟨c_114, h⟩ := gx_chk_e h
                refine gw_iald X hV (iYA_4 (o := 7) rfl) c_114 dX6_cell_114 ?_
                refine lv_i2l hx hb dX6_cell_115 rfl ?_
                refine lv_aload_n hx hb dX6_cell_116 rfl (lv_at hl 1 rfl) ?_
                refine lv_iload hx hb dX6_cell_117 (lv_at hl 0 rfl) ?_
                obtain ⟨r119, S119, k_119, h⟩ := gx_bind_e h
                refine gw_callL X hA hV (gw_runV X hV (o := 0) (As := [.int v4_35]) (rest := [.long (Int32.toInt64 (gA S19 7 (Int32.toNatClampNeg v4_35)))]) (mX6_thick l G ad _ S19 k_119) kc_RX6_136 (iYO_0 rfl) rfl rfl rfl hl.1 rfl (Nat.le_of_ble_eq_true rfl) ⟨rfl, rfl⟩ ⟨Nat.le_of_ble_eq_true rfl, Nat.le_of_ble_eq_true rfl⟩ ⟨Nat.le_refl _, Nat.le_refl _⟩ dX6_cell_119) (fun H locs hV => ?_)
                refine lv_ladd hx hb dX6_cell_122 ?_
                exact gw_lret X hV h dX6_cell_123
              · rw [if_neg c_53_2] at h
                by_cases c_53_3 : v3 = 3
                · rw [if_pos c_53_3] at h
                  refine lv_tableIn (off := 71) (tgt := 124) hx hb dX6_cell_53 (by rw [c_53_3]; decide) (by rw [c_53_3]; decide) (by rw [c_53_3]; rfl) (by decide) ?_
                  refine lv_aload_n hx hb dX6_cell_124 rfl (lv_at hl 1 rfl) ?_
                  refine lv_iload hx hb dX6_cell_125 (lv_at hl 0 rfl) ?_
                  obtain ⟨r127, S127, k_127, h⟩ := gx_bind_e h
                  refine gw_callI X hA hV (gw_runV X hV (o := 0) (As := [.int v4_35]) (rest := []) (mX6_layers l G ad _ S19 k_127) kc_RX6_184 (iYO_0 rfl) rfl rfl rfl hl.1 rfl (Nat.le_of_ble_eq_true rfl) ⟨rfl, rfl⟩ ⟨Nat.le_of_ble_eq_true rfl, Nat.le_of_ble_eq_true rfl⟩ ⟨Nat.le_refl _, Nat.le_refl _⟩ dX6_cell_127) (fun H locs hV => ?_)
                  refine lv_i2l hx hb dX6_cell_130 rfl ?_
                  exact gw_lret X hV h dX6_cell_131
                · rw [if_neg c_53_3] at h
                  by_cases c_53_4 : v3 = 4
                  · rw [if_pos c_53_4] at h
                    refine lv_tableIn (off := 79) (tgt := 132) hx hb dX6_cell_53 (by rw [c_53_4]; decide) (by rw [c_53_4]; decide) (by rw [c_53_4]; rfl) (by decide) ?_
                    refine lv_aload_n hx hb dX6_cell_132 rfl (lv_at hl 1 rfl) ?_
                    refine lv_iload hx hb dX6_cell_133 (lv_at hl 0 rfl) ?_
                    refine lv_iconst (v := 0) hx hb dX6_cell_135 (by decide) ?_
                    obtain ⟨r136, S136, k_136, h⟩ := gx_bind_e h
                    refine gw_callI X hA hV (gw_runV X hV (o := 0) (As := [.int v4_35, .int (0 : Int32)]) (rest := []) (mX6_layerOf l G ad _ S19 k_136) kc_RX6_187 (iYO_0 rfl) rfl rfl rfl hl.1 rfl (Nat.le_of_ble_eq_true rfl) ⟨rfl, rfl⟩ ⟨Nat.le_of_ble_eq_true rfl, Nat.le_of_ble_eq_true rfl⟩ ⟨Nat.le_refl _, Nat.le_refl _⟩ dX6_cell_136) (fun H locs hV => ?_)
                    refine lv_i2l hx hb dX6_cell_139 rfl ?_
                    exact gw_lret X hV h dX6_cell_140
                  · rw [if_neg c_53_4] at h
                    by_cases c_53_5 : v3 = 5
                    · rw [if_pos c_53_5] at h
                      refine lv_tableIn (off := 88) (tgt := 141) hx hb dX6_cell_53 (by rw [c_53_5]; decide) (by rw [c_53_5]; decide) (by rw [c_53_5]; rfl) (by decide) ?_
                      refine lv_aload_n hx hb dX6_cell_141 rfl (lv_at hl 1 rfl) ?_
                      refine lv_iload hx hb dX6_cell_142 (lv_at hl 0 rfl) ?_
                      refine lv_aload_n hx hb dX6_cell_144 rfl (lv_at hl 1 rfl) ?_
                      refine lv_iload hx hb dX6_cell_145 (lv_at hl 0 rfl) ?_
                      obtain ⟨r147, S147, k_147, h⟩ := gx_bind_e h
                      refine gw_callI X hA hV (gw_runV X hV (o := 0) (As := [.int v4_35]) (rest := [.int v4_35, .ref (ad 0)]) (mX6_layers l G ad _ S19 k_147) kc_RX6_184 (iYO_0 rfl) rfl rfl rfl hl.1 rfl (Nat.le_of_ble_eq_true rfl) ⟨rfl, rfl⟩ ⟨Nat.le_of_ble_eq_true rfl, Nat.le_of_ble_eq_true rfl⟩ ⟨Nat.le_refl _, Nat.le_refl _⟩ dX6_cell_147) (fun H locs hV => ?_)
                      refine lv_iconst (v := 1) hx hb dX6_cell_150 (by decide) ?_
                      refine lv_isub hx hb dX6_cell_151 ?_
                      obtain ⟨r152, S152, k_152, h⟩ := gx_bind_e h
                      refine gw_callI X hA hV (gw_runV X hV (o := 0) (As := [.int v4_35, .int (r147 - (1 : Int32))]) (rest := []) (mX6_layerOf l G ad _ S147 k_152) kc_RX6_187 (iYO_0 rfl) rfl rfl rfl hl.1 rfl (Nat.le_of_ble_eq_true rfl) ⟨rfl, rfl⟩ ⟨Nat.le_of_ble_eq_true rfl, Nat.le_of_ble_eq_true rfl⟩ ⟨Nat.le_refl _, Nat.le_refl _⟩ dX6_cell_152) (fun H locs hV => ?_)
                      refine lv_i2l hx hb dX6_cell_155 rfl ?_
                      exact gw_lret X hV h dX6_cell_156
                    · rw [if_neg c_53_5] at h
                      refine lv_tableOut (tgt := 157) hx hb dX6_cell_53 (g_tabOut 6 (fun j hj => by
                        match j, hj with
                        | 0, _ => exact c_53_0
                        | 1, _ => exact c_53_1
                        | 2, _ => exact c_53_2
                        | 3, _ => exact c_53_3
                        | 4, _ => exact c_53_4
                        | 5, _ => exact c_53_5
                        | j + 6, hj => omega)) (by decide) ?_
                      refine lv_aload_n hx hb dX6_cell_157 rfl (lv_at hl 1 rfl) ?_
                      refine ggX6_29 X hV (o := 0) rfl dX6_cell_158 ?_
                      refine lv_iload hx hb dX6_cell_161 (lv_at hl 0 rfl) ?_
                      obtain ⟨c_163, h⟩ := gx_chk_e h
                      refine gw_iald X hV (iYA_4 (o := 7) rfl) c_163 dX6_cell_163 ?_
                      refine lv_sipush (v := 1000) hx hb dX6_cell_164 (by decide) ?_
                      refine lv_idiv hx hb dX6_cell_167 (by decide) ?_
                      refine lv_i2l hx hb dX6_cell_168 rfl ?_
                      exact gw_lret X hV h dX6_cell_169
        · rw [if_pos c_45] at h
          refine lv_ldc2 (v := -3) hx hb hown (hts _ q_693) dX6_cell_48 ?_
          exact gw_lret X hV h dX6_cell_51
      · rw [if_pos c_22] at h
        refine lv_ldc2 (v := -2) hx hb hown (hts _ q_652) dX6_cell_25 ?_
        exact gw_lret X hV h dX6_cell_28
    · rw [if_pos c_6] at h
      refine lv_ldc2 (v := -1) hx hb hown (hts _ q_651) dX6_cell_9 ?_
      exact gw_lret X hV h dX6_cell_12
  exact Y _ _ hV
def fX6_layer (S : gS) (v1 : Int32) (v2 : Int32) (v3 : Int32) (v4 : Int32) : Option (Int64 × gS) :=
gx_bind (fX6_isPlace S v1 v2) fun r3 S3 =>
if r3 = 0 then (some ((-1 : Int64), S3)) else
gx_bind (fX6_in S3 (Int32.toInt64 v4) (0 : Int64) (1 : Int64)) fun r18 S18 =>
if r18 = 0 then (some ((-2 : Int64), S18)) else
gx_let (((8 : Int32) * v2) + v1) fun v5_34 =>
gx_chk v5_34 64 <|
if (gA S18 5 (Int32.toNatClampNeg v5_34)) = (4 : Int32) then (some ((-3 : Int64), S18)) else
gx_bind (fX6_layerOf S18 v5_34 v3) fun r55 S55 =>
if r55 = (-9 : Int32) then (some ((-9 : Int64), S55)) else
if v4 = 0 then (some ((Int32.toInt64 r55), S55)) else
gx_chk (((61 : Int32) * v5_34) + r55) 3904 <|
some ((gJ S55 8 (Int32.toNatClampNeg (((61 : Int32) * v5_34) + r55))), S55)
def rmX6_layer : Room := { frames := 2, cells := 0, slots := 0, locals := 47 }
set_option maxHeartbeats 4000000 in
set_option maxRecDepth 20000 in
theorem mX6_layer (l : Launch) (G : gG) (ad : Nat → Nat) (sz : Nat) (S : gS) {v1 : Int32} {v2 : Int32} {v3 : Int32} {v4 : Int32} {r : Int64} {S' : gS} (h : fX6_layer S v1 v2 v3 v4 = some (r, S')) : gMetL l yX6_layer cX6_layer 7 (some .long) rmX6_layer wdY G ad S sz [.ref (ad 0), .int v1, .int v2, .int v3, .int v4] r S' := by
  refine gMet_of (by decide) ?_
  intro p e s m below meth c A hA X hnm hV
  have hl := lv_entry ([.ref (ad 0), .int v1, .int v2, .int v3, .int v4]) (n := 7) (Nat.le_of_ble_eq_true rfl)
  rw [lg_entry_eq]
  generalize (lg_sl ([.ref (ad 0), .int v1, .int v2, .int v3, .int v4]) ++ List.replicate (7 - (lg_sl ([.ref (ad 0), .int v1, .int v2, .int v3, .int v4])).length) Slot.unset).toArray = ls at hl ⊢
  have hl : lv_has ls 7 [(0, .ref (ad 0)), (1, .int v1), (2, .int v2), (3, .int v3), (4, .int v4)] := hl
  obtain ⟨hx, hb, hr, hml, hown, hts, hlk, hK⟩ := id X
  unfold fX6_layer at h
  generalize ([.ref (ad 0), .int v1, .int v2, .int v3, .int v4].toArray : Array Value) = args at X ⊢
  have Y : ∀ (H : Heap) (locs : List Loc), gV wdY G ad A s.heap S H locs → W p l e rmX6_layer s m args below meth c H locs 0 0 (MQ below (gQl wdY G ad A (r, S')) args s 0 0 A) (F0 m 0 ls []) := by
    intro H locs hV
    refine lv_aload_n hx hb dX6_layer_0 rfl (lv_at hl 0 rfl) ?_
    refine lv_iload_n hx hb dX6_layer_1 rfl (lv_at hl 1 rfl) ?_
    refine lv_iload_n hx hb dX6_layer_2 rfl (lv_at hl 2 rfl) ?_
    obtain ⟨r3, S3, k_3, h⟩ := gx_bind_e h
    refine gw_callI X hA hV (gw_runV X hV (o := 0) (As := [.int v1, .int v2]) (rest := []) (mX6_isPlace l G ad _ S k_3) kc_RX6_115 (iYO_0 rfl) rfl rfl rfl hl.1 rfl (Nat.le_of_ble_eq_true rfl) ⟨rfl, rfl⟩ ⟨Nat.le_of_ble_eq_true rfl, Nat.le_of_ble_eq_true rfl⟩ ⟨Nat.le_refl _, Nat.le_refl _⟩ dX6_layer_3) (fun H locs hV => ?_)
    refine lv_if_ne (tgt := 13) hx hb dX6_layer_6 (by decide) (fun c_6 => ?_) (fun c_6 => ?_)
    · rw [if_neg c_6] at h
      refine lv_iload hx hb dX6_layer_13 (lv_at hl 4 rfl) ?_
      refine lv_i2l hx hb dX6_layer_15 rfl ?_
      refine lv_lconst (v := 0) hx hb dX6_layer_16 (by decide) ?_
      refine lv_lconst (v := 1) hx hb dX6_layer_17 (by decide) ?_
      obtain ⟨r18, S18, k_18, h⟩ := gx_bind_e h
      refine gw_callI X hA hV (gw_runS X hV (As := [.long (Int32.toInt64 v4), .long (0 : Int64), .long (1 : Int64)]) (rest := []) (mX6_in l G ad _ S3 k_18) kc_RX6_77 rfl hl.1 rfl (Nat.le_of_ble_eq_true rfl) ⟨rfl, rfl⟩ ⟨Nat.le_of_ble_eq_true rfl, Nat.le_of_ble_eq_true rfl⟩ ⟨Nat.le_refl _, Nat.le_refl _⟩ dX6_layer_18) (fun H locs hV => ?_)
      refine lv_if_ne (tgt := 28) hx hb dX6_layer_21 (by decide) (fun c_21 => ?_) (fun c_21 => ?_)
      · rw [if_neg c_21] at h
        refine lv_bipush (v := 8) hx hb dX6_layer_28 (by decide) ?_
        refine lv_iload_n hx hb dX6_layer_30 rfl (lv_at hl 2 rfl) ?_
        refine lv_imul hx hb dX6_layer_31 ?_
        refine lv_iload_n hx hb dX6_layer_32 rfl (lv_at hl 1 rfl) ?_
        refine lv_iadd hx hb dX6_layer_33 ?_
        refine lv_topi (fun v5_34 e_34 => ?_)
        replace h := gx_let_e e_34 h
        clear e_34
        refine lv_istore (lv' := [(5, .int v5_34), (0, .ref (ad 0)), (1, .int v1), (2, .int v2), (3, .int v3), (4, .int v4)]) hx hb dX6_layer_34 hl (by decide) rfl (fun ls hl => ?_)
        refine lv_aload_n hx hb dX6_layer_36 rfl (lv_at hl 1 rfl) ?_
        refine ggX6_23 X hV (o := 0) rfl dX6_layer_37 ?_
        refine lv_iload hx hb dX6_layer_40 (lv_at hl 0 rfl) ?_
        obtain ⟨c_42, h⟩ := gx_chk_e h
        refine gw_iald X hV (iYA_4 (o := 5) rfl) c_42 dX6_layer_42 ?_
        refine lv_iconst (v := 4) hx hb dX6_layer_43 (by decide) ?_
        refine lv_icmp_ne (tgt := 51) hx hb dX6_layer_44 (by decide) (fun c_44 => ?_) (fun c_44 => ?_)
        · rw [if_neg c_44] at h
          refine lv_aload_n hx hb dX6_layer_51 rfl (lv_at hl 1 rfl) ?_
          refine lv_iload hx hb dX6_layer_52 (lv_at hl 0 rfl) ?_
          refine lv_iload_n hx hb dX6_layer_54 rfl (lv_at hl 4 rfl) ?_
          obtain ⟨r55, S55, k_55, h⟩ := gx_bind_e h
          refine gw_callI X hA hV (gw_runV X hV (o := 0) (As := [.int v5_34, .int v3]) (rest := []) (mX6_layerOf l G ad _ S18 k_55) kc_RX6_187 (iYO_0 rfl) rfl rfl rfl hl.1 rfl (Nat.le_of_ble_eq_true rfl) ⟨rfl, rfl⟩ ⟨Nat.le_of_ble_eq_true rfl, Nat.le_of_ble_eq_true rfl⟩ ⟨Nat.le_refl _, Nat.le_refl _⟩ dX6_layer_55) (fun H locs hV => ?_)
          refine lv_istore (lv' := [(6, .int r55), (5, .int v5_34), (0, .ref (ad 0)), (1, .int v1), (2, .int v2), (3, .int v3), (4, .int v4)]) hx hb dX6_layer_58 hl (by decide) rfl (fun ls hl => ?_)
          refine lv_iload hx hb dX6_layer_60 (lv_at hl 0 rfl) ?_
          refine lv_bipush (v := -9) hx hb dX6_layer_62 (by decide) ?_
          refine lv_icmp_ne (tgt := 73) hx hb dX6_layer_64 (by decide) (fun c_64 => ?_) (fun c_64 => ?_)
          · rw [if_neg c_64] at h
            refine lv_iload hx hb dX6_layer_73 (lv_at hl 6 rfl) ?_
            refine lv_if_ne (tgt := 84) hx hb dX6_layer_75 (by decide) (fun c_75 => ?_) (fun c_75 => ?_)
            · rw [if_neg c_75] at h
              refine lv_aload_n hx hb dX6_layer_84 rfl (lv_at hl 2 rfl) ?_
              refine ggX6_32 X hV (o := 0) rfl dX6_layer_85 ?_
              refine lv_bipush (v := 61) hx hb dX6_layer_88 (by decide) ?_
              refine lv_iload hx hb dX6_layer_90 (lv_at hl 1 rfl) ?_
              refine lv_imul hx hb dX6_layer_92 ?_
              refine lv_iload hx hb dX6_layer_93 (lv_at hl 0 rfl) ?_
              refine lv_iadd hx hb dX6_layer_95 ?_
              obtain ⟨c_96, h⟩ := gx_chk_e h
              refine gw_lald X hV (iYJ_5 (o := 8) rfl) c_96 dX6_layer_96 ?_
              exact gw_lret X hV h dX6_layer_97
            · rw [if_pos c_75] at h
              refine lv_iload hx hb dX6_layer_78 (lv_at hl 0 rfl) ?_
              refine lv_i2l hx hb dX6_layer_80 rfl ?_
              refine lv_goto (tgt := 97) hx hb dX6_layer_81 (by decide) ?_
              exact gw_lret X hV h dX6_layer_97
          · rw [if_pos c_64] at h
            refine lv_ldc2 (v := -9) hx hb hown (hts _ q_771) dX6_layer_67 ?_
            refine lv_goto (tgt := 97) hx hb dX6_layer_70 (by decide) ?_
            exact gw_lret X hV h dX6_layer_97
        · rw [if_pos c_44] at h
          refine lv_ldc2 (v := -3) hx hb hown (hts _ q_693) dX6_layer_47 ?_
          exact gw_lret X hV h dX6_layer_50
      · rw [if_pos c_21] at h
        refine lv_ldc2 (v := -2) hx hb hown (hts _ q_652) dX6_layer_24 ?_
        exact gw_lret X hV h dX6_layer_27
    · rw [if_pos c_6] at h
      refine lv_ldc2 (v := -1) hx hb hown (hts _ q_651) dX6_layer_9 ?_
      exact gw_lret X hV h dX6_layer_12
  exact Y _ _ hV
def fX6_sum_133 (K50 : gS → Int32 → Int32 → Int64 → Int32 → Option (Int64 × gS)) (S : gS) (v1 : Int32) (v2 : Int32) (v3 : Int64) (v5 : Int32) : Option (Int64 × gS) :=
gx_let (v5 + (1 : Int32)) fun v5_133 =>
K50 S v1 v2 v3 v5_133
def fX6_sum_125 (K50 : gS → Int32 → Int32 → Int64 → Int32 → Option (Int64 × gS)) (K87 : gS → Int32 → Int32 → Int64 → Int32 → Int32 → Option (Int64 × gS)) (S : gS) (v1 : Int32) (v2 : Int32) (v5 : Int32) (v6 : Int32) (t0 : Int64) (t1 : Int64) : Option (Int64 × gS) :=
gx_let (t0 + t1) fun v3_126 =>
gx_let (v6 + (1 : Int32)) fun v6_127 =>
K87 S v1 v2 v3_126 v5 v6_127
def fX6_sum_87L (K50 : gS → Int32 → Int32 → Int64 → Int32 → Option (Int64 × gS)) (K87 : gS → Int32 → Int32 → Int64 → Int32 → Int32 → Option (Int64 × gS)) (S : gS) (v1 : Int32) (v2 : Int32) (v3 : Int64) (v5 : Int32) (v6 : Int32) : Option (Int64 × gS) :=
if (64 : Int32) ≤ v6 then (fX6_sum_133 K50 S v1 v2 v3 v5) else
if v1 = 0 then (gx_bind (fX6_isIce S v6) fun r102 S102 =>
if r102 = 0 then (fX6_sum_125 K50 K87 S102 v1 v2 v5 v6 v3 (0 : Int64)) else
gx_chk (((61 : Int32) * v6) + v5) 3904 <|
fX6_sum_125 K50 K87 S102 v1 v2 v5 v6 v3 (gJ S102 8 (Int32.toNatClampNeg (((61 : Int32) * v6) + v5)))) else
fX6_sum_133 K50 S v1 v2 v3 v5
def fX6_sum_87 (K50 : gS → Int32 → Int32 → Int64 → Int32 → Option (Int64 × gS)) : Nat → gS → Int32 → Int32 → Int64 → Int32 → Int32 → Option (Int64 × gS)
  | 0, _, _, _, _, _, _ => none
  | f + 1, S, v1, v2, v3, v5, v6 => fX6_sum_87L K50 (fX6_sum_87 K50 f) S v1 v2 v3 v5 v6
def fX6_sum_69 (K50 : gS → Int32 → Int32 → Int64 → Int32 → Option (Int64 × gS)) (S : gS) (v1 : Int32) (v2 : Int32) (v3 : Int64) (v5 : Int32) : Option (Int64 × gS) :=
gx_chk (((61 : Int32) * v1) + v5) 305 <|
gx_let (v3 + (gJ S 9 (Int32.toNatClampNeg (((61 : Int32) * v1) + v5)))) fun v3_83 =>
fX6_sum_87 K50 gx_fuel S v1 v2 v3_83 v5 (0 : Int32)
def fX6_sum_50L (K50 : gS → Int32 → Int32 → Int64 → Int32 → Option (Int64 × gS)) (S : gS) (v1 : Int32) (v2 : Int32) (v3 : Int64) (v5 : Int32) : Option (Int64 × gS) :=
if (61 : Int32) ≤ v5 then (some (v3, S)) else
if v2 = (-9 : Int32) then (fX6_sum_69 K50 S v1 v2 v3 v5) else
if v5 = v2 then (fX6_sum_69 K50 S v1 v2 v3 v5) else
fX6_sum_133 K50 S v1 v2 v3 v5
def fX6_sum_50 : Nat → gS → Int32 → Int32 → Int64 → Int32 → Option (Int64 × gS)
  | 0, _, _, _, _, _ => none
  | f + 1, S, v1, v2, v3, v5 => fX6_sum_50L (fX6_sum_50 f) S v1 v2 v3 v5
def fX6_sum_34 (S : gS) (v1 : Int32) (v2 : Int32) : Option (Int64 × gS) :=
if (gI S 0 5) = 0 then (some ((-3 : Int64), S)) else
fX6_sum_50 gx_fuel S v1 v2 (0 : Int64) (0 : Int32)
def fX6_sum (S : gS) (v1 : Int32) (v2 : Int32) : Option (Int64 × gS) :=
gx_bind (fX6_in S (Int32.toInt64 v1) (0 : Int64) (4 : Int64)) fun r6 S6 =>
if r6 = 0 then (some ((-2 : Int64), S6)) else
if v2 = (-9 : Int32) then (fX6_sum_34 S6 v1 v2) else
gx_bind (fX6_in S6 (Int32.toInt64 v2) (0 : Int64) (60 : Int64)) fun r24 S24 =>
if r24 = 0 then (some ((-2 : Int64), S24)) else
fX6_sum_34 S24 v1 v2
def rmX6_sum : Room := { frames := 3, cells := 0, slots := 0, locals := 68 }
set_option maxHeartbeats 4000000 in
set_option maxRecDepth 20000 in
theorem tX6_sum_133 {p : Program} {l : Launch} {e : Env} {s : State} {m : MethodId} {args : Array Value} {below : List Frame} {meth : Method} {c : Code} {G : gG} {ad : Nat → Nat} {A : Nat → Prop} {z : Int64 × gS} {K50 : gS → Int32 → Int32 → Int64 → Int32 → Option (Int64 × gS)} (X : gCx p s m args meth c G cX6_sum RX6 (some .long) 7) (hA : ∀ q, s.heap.size ≤ q → A q) (kK50 : ∀ (S : gS) (v1 : Int32) (v2 : Int32) (v3 : Int64) (v5 : Int32), K50 S v1 v2 v3 v5 = some z → ∀ (H : Heap) (locs : List Loc) (ls : Array Slot), gV wdY G ad A s.heap S H locs → lv_has ls 7 [(0, .ref (ad 0)), (1, .int v1), (2, .int v2), (3, .long v3), (5, .int v5)] → W p l e rmX6_sum s m args below meth c H locs 0 0 (MQ below (gQl wdY G ad A z) args s 0 0 A) (F0 m 50 ls [])) (S : gS) (v1 : Int32) (v2 : Int32) (v3 : Int64) (v5 : Int32) (h : fX6_sum_133 K50 S v1 v2 v3 v5 = some z) {H : Heap} {locs : List Loc} {ls : Array Slot} (hV : gV wdY G ad A s.heap S H locs) (hl : lv_has ls 7 [(0, .ref (ad 0)), (1, .int v1), (2, .int v2), (3, .long v3), (5, .int v5)]) : W p l e rmX6_sum s m args below meth c H locs 0 0 (MQ below (gQl wdY G ad A z) args s 0 0 A) (F0 m 133 ls []) := by
  obtain ⟨hx, hb, hr, hml, hown, hts, hlk, hK⟩ := id X
  unfold fX6_sum_133 at h
  obtain ⟨v5_133, e_133⟩ : ∃ y : Int32, y = (v5 + (1 : Int32)) := ⟨_, rfl⟩
  refine lv_iinc (v := v5_133) (lv' := [(5, .int v5_133), (0, .ref (ad 0)), (1, .int v1), (2, .int v2), (3, .long v3)]) hx hb dX6_sum_133 hl (k := 4) rfl (by rw [e_133]; rfl) (by decide) rfl (fun ls hl => ?_)
  replace h := gx_let_e e_133 h
  clear e_133
  refine lv_goto (tgt := 50) hx hb dX6_sum_136 (by decide) ?_
  exact kK50 _ _ _ _ _ h _ _ _ hV (lv_sub hl [1, 2, 3, 4, 0] rfl)
set_option maxHeartbeats 4000000 in
set_option maxRecDepth 20000 in
theorem tX6_sum_125 {p : Program} {l : Launch} {e : Env} {s : State} {m : MethodId} {args : Array Value} {below : List Frame} {meth : Method} {c : Code} {G : gG} {ad : Nat → Nat} {A : Nat → Prop} {z : Int64 × gS} {K50 : gS → Int32 → Int32 → Int64 → Int32 → Option (Int64 × gS)} {K87 : gS → Int32 → Int32 → Int64 → Int32 → Int32 → Option (Int64 × gS)} (X : gCx p s m args meth c G cX6_sum RX6 (some .long) 7) (hA : ∀ q, s.heap.size ≤ q → A q) (kK50 : ∀ (S : gS) (v1 : Int32) (v2 : Int32) (v3 : Int64) (v5 : Int32), K50 S v1 v2 v3 v5 = some z → ∀ (H : Heap) (locs : List Loc) (ls : Array Slot), gV wdY G ad A s.heap S H locs → lv_has ls 7 [(0, .ref (ad 0)), (1, .int v1), (2, .int v2), (3, .long v3), (5, .int v5)] → W p l e rmX6_sum s m args below meth c H locs 0 0 (MQ below (gQl wdY G ad A z) args s 0 0 A) (F0 m 50 ls [])) (kK87 : ∀ (S : gS) (v1 : Int32) (v2 : Int32) (v3 : Int64) (v5 : Int32) (v6 : Int32), K87 S v1 v2 v3 v5 v6 = some z → ∀ (H : Heap) (locs : List Loc) (ls : Array Slot), gV wdY G ad A s.heap S H locs → lv_has ls 7 [(0, .ref (ad 0)), (1, .int v1), (2, .int v2), (3, .long v3), (5, .int v5), (6, .int v6)] → W p l e rmX6_sum s m args below meth c H locs 0 0 (MQ below (gQl wdY G ad A z) args s 0 0 A) (F0 m 87 ls [])) (S : gS) (v1 : Int32) (v2 : Int32) (v5 : Int32) (v6 : Int32) (t0 : Int64) (t1 : Int64) (h : fX6_sum_125 K50 K87 S v1 v2 v5 v6 t0 t1 = some z) {H : Heap} {locs : List Loc} {ls : Array Slot} (hV : gV wdY G ad A s.heap S H locs) (hl : lv_has ls 7 [(0, .ref (ad 0)), (1, .int v1), (2, .int v2), (5, .int v5), (6, .int v6)]) : W p l e rmX6_sum s m args below meth c H locs 0 0 (MQ below (gQl wdY G ad A z) args s 0 0 A) (F0 m 125 ls [.long t1, .long t0]) := by
  obtain ⟨hx, hb, hr, hml, hown, hts, hlk, hK⟩ := id X
  unfold fX6_sum_125 at h
  refine lv_ladd hx hb dX6_sum_125 ?_
  refine lv_topl (fun v3_126 e_126 => ?_)
  replace h := gx_let_e e_126 h
  clear e_126
  refine lv_lstore_n (lv' := [(3, .long v3_126), (0, .ref (ad 0)), (1, .int v1), (2, .int v2), (5, .int v5), (6, .int v6)]) hx hb dX6_sum_126 rfl hl (by decide) rfl (fun ls hl => ?_)
  obtain ⟨v6_127, e_127⟩ : ∃ y : Int32, y = (v6 + (1 : Int32)) := ⟨_, rfl⟩
  refine lv_iinc (v := v6_127) (lv' := [(6, .int v6_127), (3, .long v3_126), (0, .ref (ad 0)), (1, .int v1), (2, .int v2), (5, .int v5)]) hx hb dX6_sum_127 hl (k := 5) rfl (by rw [e_127]; rfl) (by decide) rfl (fun ls hl => ?_)
  replace h := gx_let_e e_127 h
  clear e_127
  refine lv_goto (tgt := 87) hx hb dX6_sum_130 (by decide) ?_
  exact kK87 _ _ _ _ _ _ h _ _ _ hV (lv_sub hl [2, 3, 4, 1, 5, 0] rfl)
set_option maxHeartbeats 4000000 in
set_option maxRecDepth 20000 in
theorem tX6_sum_87L {p : Program} {l : Launch} {e : Env} {s : State} {m : MethodId} {args : Array Value} {below : List Frame} {meth : Method} {c : Code} {G : gG} {ad : Nat → Nat} {A : Nat → Prop} {z : Int64 × gS} {K50 : gS → Int32 → Int32 → Int64 → Int32 → Option (Int64 × gS)} {K87 : gS → Int32 → Int32 → Int64 → Int32 → Int32 → Option (Int64 × gS)} (X : gCx p s m args meth c G cX6_sum RX6 (some .long) 7) (hA : ∀ q, s.heap.size ≤ q → A q) (kK50 : ∀ (S : gS) (v1 : Int32) (v2 : Int32) (v3 : Int64) (v5 : Int32), K50 S v1 v2 v3 v5 = some z → ∀ (H : Heap) (locs : List Loc) (ls : Array Slot), gV wdY G ad A s.heap S H locs → lv_has ls 7 [(0, .ref (ad 0)), (1, .int v1), (2, .int v2), (3, .long v3), (5, .int v5)] → W p l e rmX6_sum s m args below meth c H locs 0 0 (MQ below (gQl wdY G ad A z) args s 0 0 A) (F0 m 50 ls [])) (kK87 : ∀ (S : gS) (v1 : Int32) (v2 : Int32) (v3 : Int64) (v5 : Int32) (v6 : Int32), K87 S v1 v2 v3 v5 v6 = some z → ∀ (H : Heap) (locs : List Loc) (ls : Array Slot), gV wdY G ad A s.heap S H locs → lv_has ls 7 [(0, .ref (ad 0)), (1, .int v1), (2, .int v2), (3, .long v3), (5, .int v5), (6, .int v6)] → W p l e rmX6_sum s m args below meth c H locs 0 0 (MQ below (gQl wdY G ad A z) args s 0 0 A) (F0 m 87 ls [])) (S : gS) (v1 : Int32) (v2 : Int32) (v3 : Int64) (v5 : Int32) (v6 : Int32) (h : fX6_sum_87L K50 K87 S v1 v2 v3 v5 v6 = some z) {H : Heap} {locs : List Loc} {ls : Array Slot} (hV : gV wdY G ad A s.heap S H locs) (hl : lv_has ls 7 [(0, .ref (ad 0)), (1, .int v1), (2, .int v2), (3, .long v3), (5, .int v5), (6, .int v6)]) : W p l e rmX6_sum s m args below meth c H locs 0 0 (MQ below (gQl wdY G ad A z) args s 0 0 A) (F0 m 87 ls []) := by
  obtain ⟨hx, hb, hr, hml, hown, hts, hlk, hK⟩ := id X
  unfold fX6_sum_87L at h
  refine lv_iload hx hb dX6_sum_87 (lv_at hl 5 rfl) ?_
  refine lv_bipush (v := 64) hx hb dX6_sum_89 (by decide) ?_
  refine lv_icmp_ge (tgt := 133) hx hb dX6_sum_91 (by decide) (fun c_91 => ?_) (fun c_91 => ?_)
  · rw [if_pos c_91] at h
    exact tX6_sum_133 X hA kK50 _ _ _ _ _ h hV (lv_sub hl [0, 1, 2, 3, 4] rfl)
  · rw [if_neg c_91] at h
    refine lv_iload_n hx hb dX6_sum_94 rfl (lv_at hl 1 rfl) ?_
    refine lv_if_ne (tgt := 133) hx hb dX6_sum_95 (by decide) (fun c_95 => ?_) (fun c_95 => ?_)
    · rw [if_neg c_95] at h
      exact tX6_sum_133 X hA kK50 _ _ _ _ _ h hV (lv_sub hl [0, 1, 2, 3, 4] rfl)
    · rw [if_pos c_95] at h
      refine lv_lload_n hx hb dX6_sum_98 rfl (lv_at hl 3 rfl) ?_
      refine lv_aload_n hx hb dX6_sum_99 rfl (lv_at hl 0 rfl) ?_
      refine lv_iload hx hb dX6_sum_100 (lv_at hl 5 rfl) ?_
      obtain ⟨r102, S102, k_102, h⟩ := gx_bind_e h
      refine gw_callI X hA hV (gw_runV X hV (o := 0) (As := [.int v6]) (rest := [.long v3]) (mX6_isIce l G ad _ S k_102) kc_RX6_151 (iYO_0 rfl) rfl rfl rfl hl.1 rfl (Nat.le_of_ble_eq_true rfl) ⟨rfl, rfl⟩ ⟨Nat.le_of_ble_eq_true rfl, Nat.le_of_ble_eq_true rfl⟩ ⟨Nat.le_refl _, Nat.le_refl _⟩ dX6_sum_102) (fun H locs hV => ?_)
      refine lv_if_eq (tgt := 124) hx hb dX6_sum_105 (by decide) (fun c_105 => ?_) (fun c_105 => ?_)
      · rw [if_pos c_105] at h
        refine lv_lconst (v := 0) hx hb dX6_sum_124 (by decide) ?_
        exact tX6_sum_125 X hA kK50 kK87 _ _ _ _ _ _ _ h hV (lv_sub hl [0, 1, 2, 4, 5] rfl)
      · rw [if_neg c_105] at h
        refine lv_aload_n hx hb dX6_sum_108 rfl (lv_at hl 0 rfl) ?_
        refine ggX6_32 X hV (o := 0) rfl dX6_sum_109 ?_
        refine lv_bipush (v := 61) hx hb dX6_sum_112 (by decide) ?_
        refine lv_iload hx hb dX6_sum_114 (lv_at hl 5 rfl) ?_
        refine lv_imul hx hb dX6_sum_116 ?_
        refine lv_iload hx hb dX6_sum_117 (lv_at hl 4 rfl) ?_
        refine lv_iadd hx hb dX6_sum_119 ?_
        obtain ⟨c_120, h⟩ := gx_chk_e h
        refine gw_lald X hV (iYJ_5 (o := 8) rfl) c_120 dX6_sum_120 ?_
        refine lv_goto (tgt := 125) hx hb dX6_sum_121 (by decide) ?_
        exact tX6_sum_125 X hA kK50 kK87 _ _ _ _ _ _ _ h hV (lv_sub hl [0, 1, 2, 4, 5] rfl)
set_option maxHeartbeats 4000000 in
set_option maxRecDepth 20000 in
theorem tX6_sum_87 {p : Program} {l : Launch} {e : Env} {s : State} {m : MethodId} {args : Array Value} {below : List Frame} {meth : Method} {c : Code} {G : gG} {ad : Nat → Nat} {A : Nat → Prop} {z : Int64 × gS} {K50 : gS → Int32 → Int32 → Int64 → Int32 → Option (Int64 × gS)} (X : gCx p s m args meth c G cX6_sum RX6 (some .long) 7) (hA : ∀ q, s.heap.size ≤ q → A q) (kK50 : ∀ (S : gS) (v1 : Int32) (v2 : Int32) (v3 : Int64) (v5 : Int32), K50 S v1 v2 v3 v5 = some z → ∀ (H : Heap) (locs : List Loc) (ls : Array Slot), gV wdY G ad A s.heap S H locs → lv_has ls 7 [(0, .ref (ad 0)), (1, .int v1), (2, .int v2), (3, .long v3), (5, .int v5)] → W p l e rmX6_sum s m args below meth c H locs 0 0 (MQ below (gQl wdY G ad A z) args s 0 0 A) (F0 m 50 ls [])) : ∀ (f : Nat) (S : gS) (v1 : Int32) (v2 : Int32) (v3 : Int64) (v5 : Int32) (v6 : Int32) (h : fX6_sum_87 K50 f S v1 v2 v3 v5 v6 = some z) (H : Heap) (locs : List Loc) (ls : Array Slot) (hV : gV wdY G ad A s.heap S H locs) (hl : lv_has ls 7 [(0, .ref (ad 0)), (1, .int v1), (2, .int v2), (3, .long v3), (5, .int v5), (6, .int v6)]), W p l e rmX6_sum s m args below meth c H locs 0 0 (MQ below (gQl wdY G ad A z) args s 0 0 A) (F0 m 87 ls []) := by
  intro f
  induction f with
  | zero => intro S v1 v2 v3 v5 v6 h; exact absurd h (by simp [fX6_sum_87])
  | succ f ih => intro S v1 v2 v3 v5 v6 h H locs ls hV hl; exact tX6_sum_87L X hA kK50 ih S v1 v2 v3 v5 v6 h hV hl
set_option maxHeartbeats 4000000 in
set_option maxRecDepth 20000 in
theorem tX6_sum_69 {p : Program} {l : Launch} {e : Env} {s : State} {m : MethodId} {args : Array Value} {below : List Frame} {meth : Method} {c : Code} {G : gG} {ad : Nat → Nat} {A : Nat → Prop} {z : Int64 × gS} {K50 : gS → Int32 → Int32 → Int64 → Int32 → Option (Int64 × gS)} (X : gCx p s m args meth c G cX6_sum RX6 (some .long) 7) (hA : ∀ q, s.heap.size ≤ q → A q) (kK50 : ∀ (S : gS) (v1 : Int32) (v2 : Int32) (v3 : Int64) (v5 : Int32), K50 S v1 v2 v3 v5 = some z → ∀ (H : Heap) (locs : List Loc) (ls : Array Slot), gV wdY G ad A s.heap S H locs → lv_has ls 7 [(0, .ref (ad 0)), (1, .int v1), (2, .int v2), (3, .long v3), (5, .int v5)] → W p l e rmX6_sum s m args below meth c H locs 0 0 (MQ below (gQl wdY G ad A z) args s 0 0 A) (F0 m 50 ls [])) (S : gS) (v1 : Int32) (v2 : Int32) (v3 : Int64) (v5 : Int32) (h : fX6_sum_69 K50 S v1 v2 v3 v5 = some z) {H : Heap} {locs : List Loc} {ls : Array Slot} (hV : gV wdY G ad A s.heap S H locs) (hl : lv_has ls 7 [(0, .ref (ad 0)), (1, .int v1), (2, .int v2), (3, .long v3), (5, .int v5)]) : W p l e rmX6_sum s m args below meth c H locs 0 0 (MQ below (gQl wdY G ad A z) args s 0 0 A) (F0 m 69 ls []) := by
  obtain ⟨hx, hb, hr, hml, hown, hts, hlk, hK⟩ := id X
  unfold fX6_sum_69 at h
  refine lv_lload_n hx hb dX6_sum_69 rfl (lv_at hl 3 rfl) ?_
  refine lv_aload_n hx hb dX6_sum_70 rfl (lv_at hl 0 rfl) ?_
  refine ggX6_35 X hV (o := 0) rfl dX6_sum_71 ?_
  refine lv_bipush (v := 61) hx hb dX6_sum_74 (by decide) ?_
  refine lv_iload_n hx hb dX6_sum_76 rfl (lv_at hl 1 rfl) ?_
  refine lv_imul hx hb dX6_sum_77 ?_
  refine lv_iload hx hb dX6_sum_78 (lv_at hl 4 rfl) ?_
  refine lv_iadd hx hb dX6_sum_80 ?_
  obtain ⟨c_81, h⟩ := gx_chk_e h
  refine gw_lald X hV (iYJ_6 (o := 9) rfl) c_81 dX6_sum_81 ?_
  refine lv_ladd hx hb dX6_sum_82 ?_
  refine lv_topl (fun v3_83 e_83 => ?_)
  replace h := gx_let_e e_83 h
  clear e_83
  refine lv_lstore_n (lv' := [(3, .long v3_83), (0, .ref (ad 0)), (1, .int v1), (2, .int v2), (5, .int v5)]) hx hb dX6_sum_83 rfl hl (by decide) rfl (fun ls hl => ?_)
  refine lv_iconst (v := 0) hx hb dX6_sum_84 (by decide) ?_
  refine lv_istore (lv' := [(6, .int (0 : Int32)), (3, .long v3_83), (0, .ref (ad 0)), (1, .int v1), (2, .int v2), (5, .int v5)]) hx hb dX6_sum_85 hl (by decide) rfl (fun ls hl => ?_)
  exact tX6_sum_87 X hA kK50 gx_fuel _ _ _ _ _ _ h _ _ _ hV (lv_sub hl [2, 3, 4, 1, 5, 0] rfl)
set_option maxHeartbeats 4000000 in
set_option maxRecDepth 20000 in
theorem tX6_sum_50L {p : Program} {l : Launch} {e : Env} {s : State} {m : MethodId} {args : Array Value} {below : List Frame} {meth : Method} {c : Code} {G : gG} {ad : Nat → Nat} {A : Nat → Prop} {z : Int64 × gS} {K50 : gS → Int32 → Int32 → Int64 → Int32 → Option (Int64 × gS)} (X : gCx p s m args meth c G cX6_sum RX6 (some .long) 7) (hA : ∀ q, s.heap.size ≤ q → A q) (kK50 : ∀ (S : gS) (v1 : Int32) (v2 : Int32) (v3 : Int64) (v5 : Int32), K50 S v1 v2 v3 v5 = some z → ∀ (H : Heap) (locs : List Loc) (ls : Array Slot), gV wdY G ad A s.heap S H locs → lv_has ls 7 [(0, .ref (ad 0)), (1, .int v1), (2, .int v2), (3, .long v3), (5, .int v5)] → W p l e rmX6_sum s m args below meth c H locs 0 0 (MQ below (gQl wdY G ad A z) args s 0 0 A) (F0 m 50 ls [])) (S : gS) (v1 : Int32) (v2 : Int32) (v3 : Int64) (v5 : Int32) (h : fX6_sum_50L K50 S v1 v2 v3 v5 = some z) {H : Heap} {locs : List Loc} {ls : Array Slot} (hV : gV wdY G ad A s.heap S H locs) (hl : lv_has ls 7 [(0, .ref (ad 0)), (1, .int v1), (2, .int v2), (3, .long v3), (5, .int v5)]) : W p l e rmX6_sum s m args below meth c H locs 0 0 (MQ below (gQl wdY G ad A z) args s 0 0 A) (F0 m 50 ls []) := by
  obtain ⟨hx, hb, hr, hml, hown, hts, hlk, hK⟩ := id X
  unfold fX6_sum_50L at h
  refine lv_iload hx hb dX6_sum_50 (lv_at hl 4 rfl) ?_
  refine lv_bipush (v := 61) hx hb dX6_sum_52 (by decide) ?_
  refine lv_icmp_ge (tgt := 139) hx hb dX6_sum_54 (by decide) (fun c_54 => ?_) (fun c_54 => ?_)
  · rw [if_pos c_54] at h
    refine lv_lload_n hx hb dX6_sum_139 rfl (lv_at hl 3 rfl) ?_
    exact gw_lret X hV h dX6_sum_140
  · rw [if_neg c_54] at h
    refine lv_iload_n hx hb dX6_sum_57 rfl (lv_at hl 2 rfl) ?_
    refine lv_bipush (v := -9) hx hb dX6_sum_58 (by decide) ?_
    refine lv_icmp_eq (tgt := 69) hx hb dX6_sum_60 (by decide) (fun c_60 => ?_) (fun c_60 => ?_)
    · rw [if_pos c_60] at h
      exact tX6_sum_69 X hA kK50 _ _ _ _ _ h hV (lv_sub hl [0, 1, 2, 3, 4] rfl)
    · rw [if_neg c_60] at h
      refine lv_iload hx hb dX6_sum_63 (lv_at hl 4 rfl) ?_
      refine lv_iload_n hx hb dX6_sum_65 rfl (lv_at hl 2 rfl) ?_
      refine lv_icmp_ne (tgt := 133) hx hb dX6_sum_66 (by decide) (fun c_66 => ?_) (fun c_66 => ?_)
      · rw [if_neg c_66] at h
        exact tX6_sum_133 X hA kK50 _ _ _ _ _ h hV (lv_sub hl [0, 1, 2, 3, 4] rfl)
      · rw [if_pos c_66] at h
        exact tX6_sum_69 X hA kK50 _ _ _ _ _ h hV (lv_sub hl [0, 1, 2, 3, 4] rfl)
set_option maxHeartbeats 4000000 in
set_option maxRecDepth 20000 in
theorem tX6_sum_50 {p : Program} {l : Launch} {e : Env} {s : State} {m : MethodId} {args : Array Value} {below : List Frame} {meth : Method} {c : Code} {G : gG} {ad : Nat → Nat} {A : Nat → Prop} {z : Int64 × gS} (X : gCx p s m args meth c G cX6_sum RX6 (some .long) 7) (hA : ∀ q, s.heap.size ≤ q → A q) : ∀ (f : Nat) (S : gS) (v1 : Int32) (v2 : Int32) (v3 : Int64) (v5 : Int32) (h : fX6_sum_50 f S v1 v2 v3 v5 = some z) (H : Heap) (locs : List Loc) (ls : Array Slot) (hV : gV wdY G ad A s.heap S H locs) (hl : lv_has ls 7 [(0, .ref (ad 0)), (1, .int v1), (2, .int v2), (3, .long v3), (5, .int v5)]), W p l e rmX6_sum s m args below meth c H locs 0 0 (MQ below (gQl wdY G ad A z) args s 0 0 A) (F0 m 50 ls []) := by
  intro f
  induction f with
  | zero => intro S v1 v2 v3 v5 h; exact absurd h (by simp [fX6_sum_50])
  | succ f ih => intro S v1 v2 v3 v5 h H locs ls hV hl; exact tX6_sum_50L X hA ih S v1 v2 v3 v5 h hV hl
set_option maxHeartbeats 4000000 in
set_option maxRecDepth 20000 in
theorem tX6_sum_34 {p : Program} {l : Launch} {e : Env} {s : State} {m : MethodId} {args : Array Value} {below : List Frame} {meth : Method} {c : Code} {G : gG} {ad : Nat → Nat} {A : Nat → Prop} {z : Int64 × gS} (X : gCx p s m args meth c G cX6_sum RX6 (some .long) 7) (hA : ∀ q, s.heap.size ≤ q → A q) (S : gS) (v1 : Int32) (v2 : Int32) (h : fX6_sum_34 S v1 v2 = some z) {H : Heap} {locs : List Loc} {ls : Array Slot} (hV : gV wdY G ad A s.heap S H locs) (hl : lv_has ls 7 [(0, .ref (ad 0)), (1, .int v1), (2, .int v2)]) : W p l e rmX6_sum s m args below meth c H locs 0 0 (MQ below (gQl wdY G ad A z) args s 0 0 A) (F0 m 34 ls []) := by
  obtain ⟨hx, hb, hr, hml, hown, hts, hlk, hK⟩ := id X
  unfold fX6_sum_34 at h
  refine lv_aload_n hx hb dX6_sum_34 rfl (lv_at hl 0 rfl) ?_
  refine ggX6_99 X hV (o := 0) rfl dX6_sum_35 ?_
  refine lv_if_ne (tgt := 45) hx hb dX6_sum_38 (by decide) (fun c_38 => ?_) (fun c_38 => ?_)
  · rw [if_neg c_38] at h
    refine lv_lconst (v := 0) hx hb dX6_sum_45 (by decide) ?_
    refine lv_lstore_n (lv' := [(3, .long (0 : Int64)), (0, .ref (ad 0)), (1, .int v1), (2, .int v2)]) hx hb dX6_sum_46 rfl hl (by decide) rfl (fun ls hl => ?_)
    refine lv_iconst (v := 0) hx hb dX6_sum_47 (by decide) ?_
    refine lv_istore (lv' := [(5, .int (0 : Int32)), (3, .long (0 : Int64)), (0, .ref (ad 0)), (1, .int v1), (2, .int v2)]) hx hb dX6_sum_48 hl (by decide) rfl (fun ls hl => ?_)
    exact tX6_sum_50 X hA gx_fuel _ _ _ _ _ h _ _ _ hV (lv_sub hl [2, 3, 4, 1, 0] rfl)
  · rw [if_pos c_38] at h
    refine lv_ldc2 (v := -3) hx hb hown (hts _ q_693) dX6_sum_41 ?_
    exact gw_lret X hV h dX6_sum_44
set_option maxHeartbeats 4000000 in
set_option maxRecDepth 20000 in
theorem mX6_sum (l : Launch) (G : gG) (ad : Nat → Nat) (sz : Nat) (S : gS) {v1 : Int32} {v2 : Int32} {r : Int64} {S' : gS} (h : fX6_sum S v1 v2 = some (r, S')) : gMetL l yX6_sum cX6_sum 7 (some .long) rmX6_sum wdY G ad S sz [.ref (ad 0), .int v1, .int v2] r S' := by
  refine gMet_of (by decide) ?_
  intro p e s m below meth c A hA X hnm hV
  have hl := lv_entry ([.ref (ad 0), .int v1, .int v2]) (n := 7) (Nat.le_of_ble_eq_true rfl)
  rw [lg_entry_eq]
  generalize (lg_sl ([.ref (ad 0), .int v1, .int v2]) ++ List.replicate (7 - (lg_sl ([.ref (ad 0), .int v1, .int v2])).length) Slot.unset).toArray = ls at hl ⊢
  have hl : lv_has ls 7 [(0, .ref (ad 0)), (1, .int v1), (2, .int v2)] := hl
  obtain ⟨hx, hb, hr, hml, hown, hts, hlk, hK⟩ := id X
  unfold fX6_sum at h
  generalize ([.ref (ad 0), .int v1, .int v2].toArray : Array Value) = args at X ⊢
  have Y : ∀ (H : Heap) (locs : List Loc), gV wdY G ad A s.heap S H locs → W p l e rmX6_sum s m args below meth c H locs 0 0 (MQ below (gQl wdY G ad A (r, S')) args s 0 0 A) (F0 m 0 ls []) := by
    intro H locs hV
    refine lv_iload_n hx hb dX6_sum_0 rfl (lv_at hl 1 rfl) ?_
    refine lv_i2l hx hb dX6_sum_1 rfl ?_
    refine lv_lconst (v := 0) hx hb dX6_sum_2 (by decide) ?_
    refine lv_ldc2 (v := 4) hx hb hown (hts _ q_677) dX6_sum_3 ?_
    obtain ⟨r6, S6, k_6, h⟩ := gx_bind_e h
    refine gw_callI X hA hV (gw_runS X hV (As := [.long (Int32.toInt64 v1), .long (0 : Int64), .long (4 : Int64)]) (rest := []) (mX6_in l G ad _ S k_6) kc_RX6_77 rfl hl.1 rfl (Nat.le_of_ble_eq_true rfl) ⟨rfl, rfl⟩ ⟨Nat.le_of_ble_eq_true rfl, Nat.le_of_ble_eq_true rfl⟩ ⟨Nat.le_refl _, Nat.le_refl _⟩ dX6_sum_6) (fun H locs hV => ?_)
    refine lv_if_eq (tgt := 30) hx hb dX6_sum_9 (by decide) (fun c_9 => ?_) (fun c_9 => ?_)
    · rw [if_pos c_9] at h
      refine lv_ldc2 (v := -2) hx hb hown (hts _ q_652) dX6_sum_30 ?_
      exact gw_lret X hV h dX6_sum_33
    · rw [if_neg c_9] at h
      refine lv_iload_n hx hb dX6_sum_12 rfl (lv_at hl 2 rfl) ?_
      refine lv_bipush (v := -9) hx hb dX6_sum_13 (by decide) ?_
      refine lv_icmp_eq (tgt := 34) hx hb dX6_sum_15 (by decide) (fun c_15 => ?_) (fun c_15 => ?_)
      · rw [if_pos c_15] at h
        exact tX6_sum_34 X hA _ _ _ h hV (lv_sub hl [0, 1, 2] rfl)
      · rw [if_neg c_15] at h
        refine lv_iload_n hx hb dX6_sum_18 rfl (lv_at hl 2 rfl) ?_
        refine lv_i2l hx hb dX6_sum_19 rfl ?_
        refine lv_lconst (v := 0) hx hb dX6_sum_20 (by decide) ?_
        refine lv_ldc2 (v := 60) hx hb hown (hts _ q_706) dX6_sum_21 ?_
        obtain ⟨r24, S24, k_24, h⟩ := gx_bind_e h
        refine gw_callI X hA hV (gw_runS X hV (As := [.long (Int32.toInt64 v2), .long (0 : Int64), .long (60 : Int64)]) (rest := []) (mX6_in l G ad _ S6 k_24) kc_RX6_77 rfl hl.1 rfl (Nat.le_of_ble_eq_true rfl) ⟨rfl, rfl⟩ ⟨Nat.le_of_ble_eq_true rfl, Nat.le_of_ble_eq_true rfl⟩ ⟨Nat.le_refl _, Nat.le_refl _⟩ dX6_sum_24) (fun H locs hV => ?_)
        refine lv_if_ne (tgt := 34) hx hb dX6_sum_27 (by decide) (fun c_27 => ?_) (fun c_27 => ?_)
        · rw [if_neg c_27] at h
          exact tX6_sum_34 X hA _ _ _ h hV (lv_sub hl [0, 1, 2] rfl)
        · rw [if_pos c_27] at h
          refine lv_ldc2 (v := -2) hx hb hown (hts _ q_652) dX6_sum_30 ?_
          exact gw_lret X hV h dX6_sum_33
  exact Y _ _ hV
def fX6_about_198 (K47 : gS → Int32 → Int32 → Int64 → Int32 → Int64 → Int32 → Int32 → Option (Int64 × gS)) (S : gS) (v1 : Int32) (v2 : Int32) (v3 : Int64) (v5 : Int32) (v6 : Int64) (v8 : Int32) (v9 : Int32) : Option (Int64 × gS) :=
gx_let (v9 + (1 : Int32)) fun v9_198 =>
K47 S v1 v2 v3 v5 v6 v8 v9_198
def fX6_about_196 (K47 : gS → Int32 → Int32 → Int64 → Int32 → Int64 → Int32 → Int32 → Option (Int64 × gS)) (S : gS) (v1 : Int32) (v2 : Int32) (v3 : Int64) (v5 : Int32) (v6 : Int64) (v9 : Int32) (t0 : Int32) : Option (Int64 × gS) :=
fX6_about_198 K47 S v1 v2 v3 v5 v6 t0 v9
def fX6_about_189 (K47 : gS → Int32 → Int32 → Int64 → Int32 → Int64 → Int32 → Int32 → Option (Int64 × gS)) (S : gS) (v1 : Int32) (v2 : Int32) (v3 : Int64) (v5 : Int32) (v6 : Int64) (v9 : Int32) (v12 : Int32) : Option (Int64 × gS) :=
fX6_about_196 K47 S v1 v2 v3 v5 v6 v9 v12
def fX6_about_157 (K47 : gS → Int32 → Int32 → Int64 → Int32 → Int64 → Int32 → Int32 → Option (Int64 × gS)) (S : gS) (v1 : Int32) (v2 : Int32) (v3 : Int64) (v5 : Int32) (v8 : Int32) (v9 : Int32) (t0 : Int64) : Option (Int64 × gS) :=
gx_bind (fX6_layers S v9) fun r165 S165 =>
gx_bind (fX6_layerOf S165 v9 (r165 - (1 : Int32))) fun r170 S170 =>
if v8 = (-9 : Int32) then (fX6_about_189 K47 S170 v1 v2 v3 v5 t0 v9 r170) else
if v8 ≤ r170 then (fX6_about_196 K47 S170 v1 v2 v3 v5 t0 v9 v8) else
fX6_about_189 K47 S170 v1 v2 v3 v5 t0 v9 r170
def fX6_about_141 (K47 : gS → Int32 → Int32 → Int64 → Int32 → Int64 → Int32 → Int32 → Option (Int64 × gS)) (S : gS) (v1 : Int32) (v2 : Int32) (v3 : Int64) (v5 : Int32) (v8 : Int32) (v9 : Int32) (v10 : Int64) : Option (Int64 × gS) :=
gx_chk v9 64 <|
fX6_about_157 K47 S v1 v2 v3 v5 v8 v9 ((Int32.toInt64 (gA S 7 (Int32.toNatClampNeg v9))) + v10)
def fX6_about_114 (K47 : gS → Int32 → Int32 → Int64 → Int32 → Int64 → Int32 → Int32 → Option (Int64 × gS)) (S : gS) (v1 : Int32) (v2 : Int32) (v5 : Int32) (v6 : Int64) (v8 : Int32) (v9 : Int32) (v10 : Int64) (t0 : Int64) : Option (Int64 × gS) :=
if v6 = (-9 : Int64) then (fX6_about_141 K47 S v1 v2 t0 v5 v8 v9 v10) else
gx_chk v9 64 <|
if v6 ≤ ((Int32.toInt64 (gA S 7 (Int32.toNatClampNeg v9))) + v10) then (fX6_about_157 K47 S v1 v2 t0 v5 v8 v9 v6) else
fX6_about_141 K47 S v1 v2 t0 v5 v8 v9 v10
def fX6_about_99 (K47 : gS → Int32 → Int32 → Int64 → Int32 → Int64 → Int32 → Int32 → Option (Int64 × gS)) (S : gS) (v1 : Int32) (v2 : Int32) (v3 : Int64) (v6 : Int64) (v8 : Int32) (v9 : Int32) (v10 : Int64) (t0 : Int32) : Option (Int64 × gS) :=
if v10 ≤ v3 then (fX6_about_114 K47 S v1 v2 t0 v6 v8 v9 v10 v3) else
fX6_about_114 K47 S v1 v2 t0 v6 v8 v9 v10 v10
def fX6_about_73 (K47 : gS → Int32 → Int32 → Int64 → Int32 → Int64 → Int32 → Int32 → Option (Int64 × gS)) (S : gS) (v1 : Int32) (v2 : Int32) (v3 : Int64) (v5 : Int32) (v6 : Int64) (v8 : Int32) (v9 : Int32) (t0 : Int64) : Option (Int64 × gS) :=
if t0 ≤ (0 : Int64) then (fX6_about_198 K47 S v1 v2 v3 v5 v6 v8 v9) else
gx_let (v2 + (1 : Int32)) fun v2_82 =>
if t0 ≤ v3 then (fX6_about_99 K47 S v1 v2_82 v3 v6 v8 v9 t0 v5) else
fX6_about_99 K47 S v1 v2_82 v3 v6 v8 v9 t0 v9
def fX6_about_47L (K47 : gS → Int32 → Int32 → Int64 → Int32 → Int64 → Int32 → Int32 → Option (Int64 × gS)) (S : gS) (v1 : Int32) (v2 : Int32) (v3 : Int64) (v5 : Int32) (v6 : Int64) (v8 : Int32) (v9 : Int32) : Option (Int64 × gS) :=
if (64 : Int32) ≤ v9 then (if v1 = 0 then (some ((Int32.toInt64 v2), S)) else
if v1 = (1 : Int32) then (some (v3, S)) else
if v1 = (2 : Int32) then (some (v6, S)) else
if v1 = (3 : Int32) then (some ((Int32.toInt64 v8), S)) else
some ((Int32.toInt64 v5), S)) else
gx_bind (fX6_isIce S v9) fun r57 S57 =>
if r57 = 0 then (fX6_about_73 K47 S57 v1 v2 v3 v5 v6 v8 v9 (0 : Int64)) else
gx_bind (fX6_thick S57 v9) fun r66 S66 =>
fX6_about_73 K47 S66 v1 v2 v3 v5 v6 v8 v9 r66
def fX6_about_47 : Nat → gS → Int32 → Int32 → Int64 → Int32 → Int64 → Int32 → Int32 → Option (Int64 × gS)
  | 0, _, _, _, _, _, _, _, _ => none
  | f + 1, S, v1, v2, v3, v5, v6, v8, v9 => fX6_about_47L (fX6_about_47 f) S v1 v2 v3 v5 v6 v8 v9
def fX6_about (S : gS) (v1 : Int32) : Option (Int64 × gS) :=
gx_bind (fX6_in S (Int32.toInt64 v1) (0 : Int64) (4 : Int64)) fun r6 S6 =>
if r6 = 0 then (some ((-2 : Int64), S6)) else
if (gI S6 0 5) = 0 then (some ((-3 : Int64), S6)) else
fX6_about_47 gx_fuel S6 v1 (0 : Int32) (0 : Int64) (-9 : Int32) (-9 : Int64) (-9 : Int32) (0 : Int32)
def rmX6_about : Room := { frames := 3, cells := 0, slots := 0, locals := 68 }
set_option maxHeartbeats 4000000 in
set_option maxRecDepth 20000 in
theorem tX6_about_198 {p : Program} {l : Launch} {e : Env} {s : State} {m : MethodId} {args : Array Value} {below : List Frame} {meth : Method} {c : Code} {G : gG} {ad : Nat → Nat} {A : Nat → Prop} {z : Int64 × gS} {K47 : gS → Int32 → Int32 → Int64 → Int32 → Int64 → Int32 → Int32 → Option (Int64 × gS)} (X : gCx p s m args meth c G cX6_about RX6 (some .long) 13) (hA : ∀ q, s.heap.size ≤ q → A q) (kK47 : ∀ (S : gS) (v1 : Int32) (v2 : Int32) (v3 : Int64) (v5 : Int32) (v6 : Int64) (v8 : Int32) (v9 : Int32), K47 S v1 v2 v3 v5 v6 v8 v9 = some z → ∀ (H : Heap) (locs : List Loc) (ls : Array Slot), gV wdY G ad A s.heap S H locs → lv_has ls 13 [(0, .ref (ad 0)), (1, .int v1), (2, .int v2), (3, .long v3), (5, .int v5), (6, .long v6), (8, .int v8), (9, .int v9)] → W p l e rmX6_about s m args below meth c H locs 0 0 (MQ below (gQl wdY G ad A z) args s 0 0 A) (F0 m 47 ls [])) (S : gS) (v1 : Int32) (v2 : Int32) (v3 : Int64) (v5 : Int32) (v6 : Int64) (v8 : Int32) (v9 : Int32) (h : fX6_about_198 K47 S v1 v2 v3 v5 v6 v8 v9 = some z) {H : Heap} {locs : List Loc} {ls : Array Slot} (hV : gV wdY G ad A s.heap S H locs) (hl : lv_has ls 13 [(0, .ref (ad 0)), (1, .int v1), (2, .int v2), (3, .long v3), (5, .int v5), (6, .long v6), (8, .int v8), (9, .int v9)]) : W p l e rmX6_about s m args below meth c H locs 0 0 (MQ below (gQl wdY G ad A z) args s 0 0 A) (F0 m 198 ls []) := by
  obtain ⟨hx, hb, hr, hml, hown, hts, hlk, hK⟩ := id X
  unfold fX6_about_198 at h
  obtain ⟨v9_198, e_198⟩ : ∃ y : Int32, y = (v9 + (1 : Int32)) := ⟨_, rfl⟩
  refine lv_iinc (v := v9_198) (lv' := [(9, .int v9_198), (0, .ref (ad 0)), (1, .int v1), (2, .int v2), (3, .long v3), (5, .int v5), (6, .long v6), (8, .int v8)]) hx hb dX6_about_198 hl (k := 7) rfl (by rw [e_198]; rfl) (by decide) rfl (fun ls hl => ?_)
  replace h := gx_let_e e_198 h
  clear e_198
  refine lv_goto (tgt := 47) hx hb dX6_about_201 (by decide) ?_
  exact kK47 _ _ _ _ _ _ _ _ h _ _ _ hV (lv_sub hl [1, 2, 3, 4, 5, 6, 7, 0] rfl)
set_option maxHeartbeats 4000000 in
set_option maxRecDepth 20000 in
theorem tX6_about_196 {p : Program} {l : Launch} {e : Env} {s : State} {m : MethodId} {args : Array Value} {below : List Frame} {meth : Method} {c : Code} {G : gG} {ad : Nat → Nat} {A : Nat → Prop} {z : Int64 × gS} {K47 : gS → Int32 → Int32 → Int64 → Int32 → Int64 → Int32 → Int32 → Option (Int64 × gS)} (X : gCx p s m args meth c G cX6_about RX6 (some .long) 13) (hA : ∀ q, s.heap.size ≤ q → A q) (kK47 : ∀ (S : gS) (v1 : Int32) (v2 : Int32) (v3 : Int64) (v5 : Int32) (v6 : Int64) (v8 : Int32) (v9 : Int32), K47 S v1 v2 v3 v5 v6 v8 v9 = some z → ∀ (H : Heap) (locs : List Loc) (ls : Array Slot), gV wdY G ad A s.heap S H locs → lv_has ls 13 [(0, .ref (ad 0)), (1, .int v1), (2, .int v2), (3, .long v3), (5, .int v5), (6, .long v6), (8, .int v8), (9, .int v9)] → W p l e rmX6_about s m args below meth c H locs 0 0 (MQ below (gQl wdY G ad A z) args s 0 0 A) (F0 m 47 ls [])) (S : gS) (v1 : Int32) (v2 : Int32) (v3 : Int64) (v5 : Int32) (v6 : Int64) (v9 : Int32) (t0 : Int32) (h : fX6_about_196 K47 S v1 v2 v3 v5 v6 v9 t0 = some z) {H : Heap} {locs : List Loc} {ls : Array Slot} (hV : gV wdY G ad A s.heap S H locs) (hl : lv_has ls 13 [(0, .ref (ad 0)), (1, .int v1), (2, .int v2), (3, .long v3), (5, .int v5), (6, .long v6), (9, .int v9)]) : W p l e rmX6_about s m args below meth c H locs 0 0 (MQ below (gQl wdY G ad A z) args s 0 0 A) (F0 m 196 ls [.int t0]) := by
  obtain ⟨hx, hb, hr, hml, hown, hts, hlk, hK⟩ := id X
  unfold fX6_about_196 at h
  refine lv_istore (lv' := [(8, .int t0), (0, .ref (ad 0)), (1, .int v1), (2, .int v2), (3, .long v3), (5, .int v5), (6, .long v6), (9, .int v9)]) hx hb dX6_about_196 hl (by decide) rfl (fun ls hl => ?_)
  exact tX6_about_198 X hA kK47 _ _ _ _ _ _ _ _ h hV (lv_sub hl [1, 2, 3, 4, 5, 6, 0, 7] rfl)
set_option maxHeartbeats 4000000 in
set_option maxRecDepth 20000 in
theorem tX6_about_189 {p : Program} {l : Launch} {e : Env} {s : State} {m : MethodId} {args : Array Value} {below : List Frame} {meth : Method} {c : Code} {G : gG} {ad : Nat → Nat} {A : Nat → Prop} {z : Int64 × gS} {K47 : gS → Int32 → Int32 → Int64 → Int32 → Int64 → Int32 → Int32 → Option (Int64 × gS)} (X : gCx p s m args meth c G cX6_about RX6 (some .long) 13) (hA : ∀ q, s.heap.size ≤ q → A q) (kK47 : ∀ (S : gS) (v1 : Int32) (v2 : Int32) (v3 : Int64) (v5 : Int32) (v6 : Int64) (v8 : Int32) (v9 : Int32), K47 S v1 v2 v3 v5 v6 v8 v9 = some z → ∀ (H : Heap) (locs : List Loc) (ls : Array Slot), gV wdY G ad A s.heap S H locs → lv_has ls 13 [(0, .ref (ad 0)), (1, .int v1), (2, .int v2), (3, .long v3), (5, .int v5), (6, .long v6), (8, .int v8), (9, .int v9)] → W p l e rmX6_about s m args below meth c H locs 0 0 (MQ below (gQl wdY G ad A z) args s 0 0 A) (F0 m 47 ls [])) (S : gS) (v1 : Int32) (v2 : Int32) (v3 : Int64) (v5 : Int32) (v6 : Int64) (v9 : Int32) (v12 : Int32) (h : fX6_about_189 K47 S v1 v2 v3 v5 v6 v9 v12 = some z) {H : Heap} {locs : List Loc} {ls : Array Slot} (hV : gV wdY G ad A s.heap S H locs) (hl : lv_has ls 13 [(0, .ref (ad 0)), (1, .int v1), (2, .int v2), (3, .long v3), (5, .int v5), (6, .long v6), (9, .int v9), (12, .int v12)]) : W p l e rmX6_about s m args below meth c H locs 0 0 (MQ below (gQl wdY G ad A z) args s 0 0 A) (F0 m 189 ls []) := by
  obtain ⟨hx, hb, hr, hml, hown, hts, hlk, hK⟩ := id X
  unfold fX6_about_189 at h
  refine lv_iload hx hb dX6_about_189 (lv_at hl 7 rfl) ?_
  refine lv_goto (tgt := 196) hx hb dX6_about_191 (by decide) ?_
  exact tX6_about_196 X hA kK47 _ _ _ _ _ _ _ _ h hV (lv_sub hl [0, 1, 2, 3, 4, 5, 6] rfl)
set_option maxHeartbeats 4000000 in
set_option maxRecDepth 20000 in
theorem tX6_about_157 {p : Program} {l : Launch} {e : Env} {s : State} {m : MethodId} {args : Array Value} {below : List Frame} {meth : Method} {c : Code} {G : gG} {ad : Nat → Nat} {A : Nat → Prop} {z : Int64 × gS} {K47 : gS → Int32 → Int32 → Int64 → Int32 → Int64 → Int32 → Int32 → Option (Int64 × gS)} (X : gCx p s m args meth c G cX6_about RX6 (some .long) 13) (hA : ∀ q, s.heap.size ≤ q → A q) (kK47 : ∀ (S : gS) (v1 : Int32) (v2 : Int32) (v3 : Int64) (v5 : Int32) (v6 : Int64) (v8 : Int32) (v9 : Int32), K47 S v1 v2 v3 v5 v6 v8 v9 = some z → ∀ (H : Heap) (locs : List Loc) (ls : Array Slot), gV wdY G ad A s.heap S H locs → lv_has ls 13 [(0, .ref (ad 0)), (1, .int v1), (2, .int v2), (3, .long v3), (5, .int v5), (6, .long v6), (8, .int v8), (9, .int v9)] → W p l e rmX6_about s m args below meth c H locs 0 0 (MQ below (gQl wdY G ad A z) args s 0 0 A) (F0 m 47 ls [])) (S : gS) (v1 : Int32) (v2 : Int32) (v3 : Int64) (v5 : Int32) (v8 : Int32) (v9 : Int32) (t0 : Int64) (h : fX6_about_157 K47 S v1 v2 v3 v5 v8 v9 t0 = some z) {H : Heap} {locs : List Loc} {ls : Array Slot} (hV : gV wdY G ad A s.heap S H locs) (hl : lv_has ls 13 [(0, .ref (ad 0)), (1, .int v1), (2, .int v2), (3, .long v3), (5, .int v5), (8, .int v8), (9, .int v9)]) : W p l e rmX6_about s m args below meth c H locs 0 0 (MQ below (gQl wdY G ad A z) args s 0 0 A) (F0 m 157 ls [.long t0]) := by
  obtain ⟨hx, hb, hr, hml, hown, hts, hlk, hK⟩ := id X
  unfold fX6_about_157 at h
  refine lv_lstore (lv' := [(6, .long t0), (0, .ref (ad 0)), (1, .int v1), (2, .int v2), (3, .long v3), (5, .int v5), (8, .int v8), (9, .int v9)]) hx hb dX6_about_157 hl (by decide) rfl (fun ls hl => ?_)
  refine lv_aload_n hx hb dX6_about_159 rfl (lv_at hl 1 rfl) ?_
  refine lv_iload hx hb dX6_about_160 (lv_at hl 7 rfl) ?_
  refine lv_aload_n hx hb dX6_about_162 rfl (lv_at hl 1 rfl) ?_
  refine lv_iload hx hb dX6_about_163 (lv_at hl 7 rfl) ?_
  obtain ⟨r165, S165, k_165, h⟩ := gx_bind_e h
  refine gw_callI X hA hV (gw_runV X hV (o := 0) (As := [.int v9]) (rest := [.int v9, .ref (ad 0)]) (mX6_layers l G ad _ S k_165) kc_RX6_184 (iYO_0 rfl) rfl rfl rfl hl.1 rfl (Nat.le_of_ble_eq_true rfl) ⟨rfl, rfl⟩ ⟨Nat.le_of_ble_eq_true rfl, Nat.le_of_ble_eq_true rfl⟩ ⟨Nat.le_refl _, Nat.le_refl _⟩ dX6_about_165) (fun H locs hV => ?_)
  refine lv_iconst (v := 1) hx hb dX6_about_168 (by decide) ?_
  refine lv_isub hx hb dX6_about_169 ?_
  obtain ⟨r170, S170, k_170, h⟩ := gx_bind_e h
  refine gw_callI X hA hV (gw_runV X hV (o := 0) (As := [.int v9, .int (r165 - (1 : Int32))]) (rest := []) (mX6_layerOf l G ad _ S165 k_170) kc_RX6_187 (iYO_0 rfl) rfl rfl rfl hl.1 rfl (Nat.le_of_ble_eq_true rfl) ⟨rfl, rfl⟩ ⟨Nat.le_of_ble_eq_true rfl, Nat.le_of_ble_eq_true rfl⟩ ⟨Nat.le_refl _, Nat.le_refl _⟩ dX6_about_170) (fun H locs hV => ?_)
  refine lv_istore (lv' := [(12, .int r170), (6, .long t0), (0, .ref (ad 0)), (1, .int v1), (2, .int v2), (3, .long v3), (5, .int v5), (8, .int v8), (9, .int v9)]) hx hb dX6_about_173 hl (by decide) rfl (fun ls hl => ?_)
  refine lv_iload hx hb dX6_about_175 (lv_at hl 7 rfl) ?_
  refine lv_bipush (v := -9) hx hb dX6_about_177 (by decide) ?_
  refine lv_icmp_eq (tgt := 189) hx hb dX6_about_179 (by decide) (fun c_179 => ?_) (fun c_179 => ?_)
  · rw [if_pos c_179] at h
    exact tX6_about_189 X hA kK47 _ _ _ _ _ _ _ _ h hV (lv_sub hl [2, 3, 4, 5, 6, 1, 8, 0] rfl)
  · rw [if_neg c_179] at h
    refine lv_iload hx hb dX6_about_182 (lv_at hl 0 rfl) ?_
    refine lv_iload hx hb dX6_about_184 (lv_at hl 7 rfl) ?_
    refine lv_icmp_ge (tgt := 194) hx hb dX6_about_186 (by decide) (fun c_186 => ?_) (fun c_186 => ?_)
    · rw [if_pos c_186] at h
      refine lv_iload hx hb dX6_about_194 (lv_at hl 7 rfl) ?_
      exact tX6_about_196 X hA kK47 _ _ _ _ _ _ _ _ h hV (lv_sub hl [2, 3, 4, 5, 6, 1, 8] rfl)
    · rw [if_neg c_186] at h
      exact tX6_about_189 X hA kK47 _ _ _ _ _ _ _ _ h hV (lv_sub hl [2, 3, 4, 5, 6, 1, 8, 0] rfl)
set_option maxHeartbeats 4000000 in
set_option maxRecDepth 20000 in
theorem tX6_about_141 {p : Program} {l : Launch} {e : Env} {s : State} {m : MethodId} {args : Array Value} {below : List Frame} {meth : Method} {c : Code} {G : gG} {ad : Nat → Nat} {A : Nat → Prop} {z : Int64 × gS} {K47 : gS → Int32 → Int32 → Int64 → Int32 → Int64 → Int32 → Int32 → Option (Int64 × gS)} (X : gCx p s m args meth c G cX6_about RX6 (some .long) 13) (hA : ∀ q, s.heap.size ≤ q → A q) (kK47 : ∀ (S : gS) (v1 : Int32) (v2 : Int32) (v3 : Int64) (v5 : Int32) (v6 : Int64) (v8 : Int32) (v9 : Int32), K47 S v1 v2 v3 v5 v6 v8 v9 = some z → ∀ (H : Heap) (locs : List Loc) (ls : Array Slot), gV wdY G ad A s.heap S H locs → lv_has ls 13 [(0, .ref (ad 0)), (1, .int v1), (2, .int v2), (3, .long v3), (5, .int v5), (6, .long v6), (8, .int v8), (9, .int v9)] → W p l e rmX6_about s m args below meth c H locs 0 0 (MQ below (gQl wdY G ad A z) args s 0 0 A) (F0 m 47 ls [])) (S : gS) (v1 : Int32) (v2 : Int32) (v3 : Int64) (v5 : Int32) (v8 : Int32) (v9 : Int32) (v10 : Int64) (h : fX6_about_141 K47 S v1 v2 v3 v5 v8 v9 v10 = some z) {H : Heap} {locs : List Loc} {ls : Array Slot} (hV : gV wdY G ad A s.heap S H locs) (hl : lv_has ls 13 [(0, .ref (ad 0)), (1, .int v1), (2, .int v2), (3, .long v3), (5, .int v5), (8, .int v8), (9, .int v9), (10, .long v10)]) : W p l e rmX6_about s m args below meth c H locs 0 0 (MQ below (gQl wdY G ad A z) args s 0 0 A) (F0 m 141 ls []) := by
  obtain ⟨hx, hb, hr, hml, hown, hts, hlk, hK⟩ := id X
  unfold fX6_about_141 at h
  refine lv_aload_n hx hb dX6_about_141 rfl (lv_at hl 0 rfl) ?_
  refine ggX6_29 X hV (o := 0) rfl dX6_about_142 ?_
  refine lv_iload hx hb dX6_about_145 (lv_at hl 6 rfl) ?_
  obtain ⟨c_147, h⟩ := gx_chk_e h
  refine gw_iald X hV (iYA_4 (o := 7) rfl) c_147 dX6_about_147 ?_
  refine lv_i2l hx hb dX6_about_148 rfl ?_
  refine lv_lload hx hb dX6_about_149 (lv_at hl 7 rfl) ?_
  refine lv_ladd hx hb dX6_about_151 ?_
  refine lv_goto (tgt := 157) hx hb dX6_about_152 (by decide) ?_
  exact tX6_about_157 X hA kK47 _ _ _ _ _ _ _ _ h hV (lv_sub hl [0, 1, 2, 3, 4, 5, 6] rfl)
set_option maxHeartbeats 4000000 in
set_option maxRecDepth 20000 in
theorem tX6_about_114 {p : Program} {l : Launch} {e : Env} {s : State} {m : MethodId} {args : Array Value} {below : List Frame} {meth : Method} {c : Code} {G : gG} {ad : Nat → Nat} {A : Nat → Prop} {z : Int64 × gS} {K47 : gS → Int32 → Int32 → Int64 → Int32 → Int64 → Int32 → Int32 → Option (Int64 × gS)} (X : gCx p s m args meth c G cX6_about RX6 (some .long) 13) (hA : ∀ q, s.heap.size ≤ q → A q) (kK47 : ∀ (S : gS) (v1 : Int32) (v2 : Int32) (v3 : Int64) (v5 : Int32) (v6 : Int64) (v8 : Int32) (v9 : Int32), K47 S v1 v2 v3 v5 v6 v8 v9 = some z → ∀ (H : Heap) (locs : List Loc) (ls : Array Slot), gV wdY G ad A s.heap S H locs → lv_has ls 13 [(0, .ref (ad 0)), (1, .int v1), (2, .int v2), (3, .long v3), (5, .int v5), (6, .long v6), (8, .int v8), (9, .int v9)] → W p l e rmX6_about s m args below meth c H locs 0 0 (MQ below (gQl wdY G ad A z) args s 0 0 A) (F0 m 47 ls [])) (S : gS) (v1 : Int32) (v2 : Int32) (v5 : Int32) (v6 : Int64) (v8 : Int32) (v9 : Int32) (v10 : Int64) (t0 : Int64) (h : fX6_about_114 K47 S v1 v2 v5 v6 v8 v9 v10 t0 = some z) {H : Heap} {locs : List Loc} {ls : Array Slot} (hV : gV wdY G ad A s.heap S H locs) (hl : lv_has ls 13 [(0, .ref (ad 0)), (1, .int v1), (2, .int v2), (5, .int v5), (6, .long v6), (8, .int v8), (9, .int v9), (10, .long v10)]) : W p l e rmX6_about s m args below meth c H locs 0 0 (MQ below (gQl wdY G ad A z) args s 0 0 A) (F0 m 114 ls [.long t0]) := by
  obtain ⟨hx, hb, hr, hml, hown, hts, hlk, hK⟩ := id X
  unfold fX6_about_114 at h
  refine lv_lstore_n (lv' := [(3, .long t0), (0, .ref (ad 0)), (1, .int v1), (2, .int v2), (5, .int v5), (6, .long v6), (8, .int v8), (9, .int v9), (10, .long v10)]) hx hb dX6_about_114 rfl hl (by decide) rfl (fun ls hl => ?_)
  refine lv_lload hx hb dX6_about_115 (lv_at hl 5 rfl) ?_
  refine lv_ldc2 (v := -9) hx hb hown (hts _ q_771) dX6_about_117 ?_
  refine gw_cmp_eq (tgt := 141) X dX6_about_120 dX6_about_121 (by decide) (fun c_120 => ?_) (fun c_120 => ?_)
  · rw [if_pos c_120] at h
    exact tX6_about_141 X hA kK47 _ _ _ _ _ _ _ _ h hV (lv_sub hl [1, 2, 3, 0, 4, 6, 7, 8] rfl)
  · rw [if_neg c_120] at h
    refine lv_aload_n hx hb dX6_about_124 rfl (lv_at hl 1 rfl) ?_
    refine ggX6_29 X hV (o := 0) rfl dX6_about_125 ?_
    refine lv_iload hx hb dX6_about_128 (lv_at hl 7 rfl) ?_
    obtain ⟨c_130, h⟩ := gx_chk_e h
    refine gw_iald X hV (iYA_4 (o := 7) rfl) c_130 dX6_about_130 ?_
    refine lv_i2l hx hb dX6_about_131 rfl ?_
    refine lv_lload hx hb dX6_about_132 (lv_at hl 8 rfl) ?_
    refine lv_ladd hx hb dX6_about_134 ?_
    refine lv_lload hx hb dX6_about_135 (lv_at hl 5 rfl) ?_
    refine gw_cmp_ge (tgt := 155) X dX6_about_137 dX6_about_138 (by decide) (fun c_137 => ?_) (fun c_137 => ?_)
    · rw [if_pos c_137] at h
      refine lv_lload hx hb dX6_about_155 (lv_at hl 5 rfl) ?_
      exact tX6_about_157 X hA kK47 _ _ _ _ _ _ _ _ h hV (lv_sub hl [1, 2, 3, 0, 4, 6, 7] rfl)
    · rw [if_neg c_137] at h
      exact tX6_about_141 X hA kK47 _ _ _ _ _ _ _ _ h hV (lv_sub hl [1, 2, 3, 0, 4, 6, 7, 8] rfl)
set_option maxHeartbeats 4000000 in
set_option maxRecDepth 20000 in
theorem tX6_about_99 {p : Program} {l : Launch} {e : Env} {s : State} {m : MethodId} {args : Array Value} {below : List Frame} {meth : Method} {c : Code} {G : gG} {ad : Nat → Nat} {A : Nat → Prop} {z : Int64 × gS} {K47 : gS → Int32 → Int32 → Int64 → Int32 → Int64 → Int32 → Int32 → Option (Int64 × gS)} (X : gCx p s m args meth c G cX6_about RX6 (some .long) 13) (hA : ∀ q, s.heap.size ≤ q → A q) (kK47 : ∀ (S : gS) (v1 : Int32) (v2 : Int32) (v3 : Int64) (v5 : Int32) (v6 : Int64) (v8 : Int32) (v9 : Int32), K47 S v1 v2 v3 v5 v6 v8 v9 = some z → ∀ (H : Heap) (locs : List Loc) (ls : Array Slot), gV wdY G ad A s.heap S H locs → lv_has ls 13 [(0, .ref (ad 0)), (1, .int v1), (2, .int v2), (3, .long v3), (5, .int v5), (6, .long v6), (8, .int v8), (9, .int v9)] → W p l e rmX6_about s m args below meth c H locs 0 0 (MQ below (gQl wdY G ad A z) args s 0 0 A) (F0 m 47 ls [])) (S : gS) (v1 : Int32) (v2 : Int32) (v3 : Int64) (v6 : Int64) (v8 : Int32) (v9 : Int32) (v10 : Int64) (t0 : Int32) (h : fX6_about_99 K47 S v1 v2 v3 v6 v8 v9 v10 t0 = some z) {H : Heap} {locs : List Loc} {ls : Array Slot} (hV : gV wdY G ad A s.heap S H locs) (hl : lv_has ls 13 [(0, .ref (ad 0)), (1, .int v1), (2, .int v2), (3, .long v3), (6, .long v6), (8, .int v8), (9, .int v9), (10, .long v10)]) : W p l e rmX6_about s m args below meth c H locs 0 0 (MQ below (gQl wdY G ad A z) args s 0 0 A) (F0 m 99 ls [.int t0]) := by
  obtain ⟨hx, hb, hr, hml, hown, hts, hlk, hK⟩ := id X
  unfold fX6_about_99 at h
  refine lv_istore (lv' := [(5, .int t0), (0, .ref (ad 0)), (1, .int v1), (2, .int v2), (3, .long v3), (6, .long v6), (8, .int v8), (9, .int v9), (10, .long v10)]) hx hb dX6_about_99 hl (by decide) rfl (fun ls hl => ?_)
  refine lv_lload hx hb dX6_about_101 (lv_at hl 8 rfl) ?_
  refine lv_lload_n hx hb dX6_about_103 rfl (lv_at hl 4 rfl) ?_
  refine gw_cmp_le (tgt := 113) X dX6_about_104 dX6_about_105 (by decide) (fun c_104 => ?_) (fun c_104 => ?_)
  · rw [if_pos c_104] at h
    refine lv_lload_n hx hb dX6_about_113 rfl (lv_at hl 4 rfl) ?_
    exact tX6_about_114 X hA kK47 _ _ _ _ _ _ _ _ _ h hV (lv_sub hl [1, 2, 3, 0, 5, 6, 7, 8] rfl)
  · rw [if_neg c_104] at h
    refine lv_lload hx hb dX6_about_108 (lv_at hl 8 rfl) ?_
    refine lv_goto (tgt := 114) hx hb dX6_about_110 (by decide) ?_
    exact tX6_about_114 X hA kK47 _ _ _ _ _ _ _ _ _ h hV (lv_sub hl [1, 2, 3, 0, 5, 6, 7, 8] rfl)
set_option maxHeartbeats 4000000 in
set_option maxRecDepth 20000 in
theorem tX6_about_73 {p : Program} {l : Launch} {e : Env} {s : State} {m : MethodId} {args : Array Value} {below : List Frame} {meth : Method} {c : Code} {G : gG} {ad : Nat → Nat} {A : Nat → Prop} {z : Int64 × gS} {K47 : gS → Int32 → Int32 → Int64 → Int32 → Int64 → Int32 → Int32 → Option (Int64 × gS)} (X : gCx p s m args meth c G cX6_about RX6 (some .long) 13) (hA : ∀ q, s.heap.size ≤ q → A q) (kK47 : ∀ (S : gS) (v1 : Int32) (v2 : Int32) (v3 : Int64) (v5 : Int32) (v6 : Int64) (v8 : Int32) (v9 : Int32), K47 S v1 v2 v3 v5 v6 v8 v9 = some z → ∀ (H : Heap) (locs : List Loc) (ls : Array Slot), gV wdY G ad A s.heap S H locs → lv_has ls 13 [(0, .ref (ad 0)), (1, .int v1), (2, .int v2), (3, .long v3), (5, .int v5), (6, .long v6), (8, .int v8), (9, .int v9)] → W p l e rmX6_about s m args below meth c H locs 0 0 (MQ below (gQl wdY G ad A z) args s 0 0 A) (F0 m 47 ls [])) (S : gS) (v1 : Int32) (v2 : Int32) (v3 : Int64) (v5 : Int32) (v6 : Int64) (v8 : Int32) (v9 : Int32) (t0 : Int64) (h : fX6_about_73 K47 S v1 v2 v3 v5 v6 v8 v9 t0 = some z) {H : Heap} {locs : List Loc} {ls : Array Slot} (hV : gV wdY G ad A s.heap S H locs) (hl : lv_has ls 13 [(0, .ref (ad 0)), (1, .int v1), (2, .int v2), (3, .long v3), (5, .int v5), (6, .long v6), (8, .int v8), (9, .int v9)]) : W p l e rmX6_about s m args below meth c H locs 0 0 (MQ below (gQl wdY G ad A z) args s 0 0 A) (F0 m 73 ls [.long t0]) := by
  obtain ⟨hx, hb, hr, hml, hown, hts, hlk, hK⟩ := id X
  unfold fX6_about_73 at h
  refine lv_lstore (lv' := [(10, .long t0), (0, .ref (ad 0)), (1, .int v1), (2, .int v2), (3, .long v3), (5, .int v5), (6, .long v6), (8, .int v8), (9, .int v9)]) hx hb dX6_about_73 hl (by decide) rfl (fun ls hl => ?_)
  refine lv_lload hx hb dX6_about_75 (lv_at hl 0 rfl) ?_
  refine lv_lconst (v := 0) hx hb dX6_about_77 (by decide) ?_
  refine gw_cmp_le (tgt := 198) X dX6_about_78 dX6_about_79 (by decide) (fun c_78 => ?_) (fun c_78 => ?_)
  · rw [if_pos c_78] at h
    exact tX6_about_198 X hA kK47 _ _ _ _ _ _ _ _ h hV (lv_sub hl [1, 2, 3, 4, 5, 6, 7, 8] rfl)
  · rw [if_neg c_78] at h
    obtain ⟨v2_82, e_82⟩ : ∃ y : Int32, y = (v2 + (1 : Int32)) := ⟨_, rfl⟩
    refine lv_iinc (v := v2_82) (lv' := [(2, .int v2_82), (10, .long t0), (0, .ref (ad 0)), (1, .int v1), (3, .long v3), (5, .int v5), (6, .long v6), (8, .int v8), (9, .int v9)]) hx hb dX6_about_82 hl (k := 3) rfl (by rw [e_82]; rfl) (by decide) rfl (fun ls hl => ?_)
    replace h := gx_let_e e_82 h
    clear e_82
    refine lv_lload hx hb dX6_about_85 (lv_at hl 1 rfl) ?_
    refine lv_lload_n hx hb dX6_about_87 rfl (lv_at hl 4 rfl) ?_
    refine gw_cmp_le (tgt := 97) X dX6_about_88 dX6_about_89 (by decide) (fun c_88 => ?_) (fun c_88 => ?_)
    · rw [if_pos c_88] at h
      refine lv_iload hx hb dX6_about_97 (lv_at hl 5 rfl) ?_
      exact tX6_about_99 X hA kK47 _ _ _ _ _ _ _ _ _ h hV (lv_sub hl [2, 3, 0, 4, 6, 7, 8, 1] rfl)
    · rw [if_neg c_88] at h
      refine lv_iload hx hb dX6_about_92 (lv_at hl 8 rfl) ?_
      refine lv_goto (tgt := 99) hx hb dX6_about_94 (by decide) ?_
      exact tX6_about_99 X hA kK47 _ _ _ _ _ _ _ _ _ h hV (lv_sub hl [2, 3, 0, 4, 6, 7, 8, 1] rfl)
set_option maxHeartbeats 4000000 in
set_option maxRecDepth 20000 in
theorem tX6_about_47L {p : Program} {l : Launch} {e : Env} {s : State} {m : MethodId} {args : Array Value} {below : List Frame} {meth : Method} {c : Code} {G : gG} {ad : Nat → Nat} {A : Nat → Prop} {z : Int64 × gS} {K47 : gS → Int32 → Int32 → Int64 → Int32 → Int64 → Int32 → Int32 → Option (Int64 × gS)} (X : gCx p s m args meth c G cX6_about RX6 (some .long) 13) (hA : ∀ q, s.heap.size ≤ q → A q) (kK47 : ∀ (S : gS) (v1 : Int32) (v2 : Int32) (v3 : Int64) (v5 : Int32) (v6 : Int64) (v8 : Int32) (v9 : Int32), K47 S v1 v2 v3 v5 v6 v8 v9 = some z → ∀ (H : Heap) (locs : List Loc) (ls : Array Slot), gV wdY G ad A s.heap S H locs → lv_has ls 13 [(0, .ref (ad 0)), (1, .int v1), (2, .int v2), (3, .long v3), (5, .int v5), (6, .long v6), (8, .int v8), (9, .int v9)] → W p l e rmX6_about s m args below meth c H locs 0 0 (MQ below (gQl wdY G ad A z) args s 0 0 A) (F0 m 47 ls [])) (S : gS) (v1 : Int32) (v2 : Int32) (v3 : Int64) (v5 : Int32) (v6 : Int64) (v8 : Int32) (v9 : Int32) (h : fX6_about_47L K47 S v1 v2 v3 v5 v6 v8 v9 = some z) {H : Heap} {locs : List Loc} {ls : Array Slot} (hV : gV wdY G ad A s.heap S H locs) (hl : lv_has ls 13 [(0, .ref (ad 0)), (1, .int v1), (2, .int v2), (3, .long v3), (5, .int v5), (6, .long v6), (8, .int v8), (9, .int v9)]) : W p l e rmX6_about s m args below meth c H locs 0 0 (MQ below (gQl wdY G ad A z) args s 0 0 A) (F0 m 47 ls []) := by
  obtain ⟨hx, hb, hr, hml, hown, hts, hlk, hK⟩ := id X
  unfold fX6_about_47L at h
  refine lv_iload hx hb dX6_about_47 (lv_at hl 7 rfl) ?_
  refine lv_bipush (v := 64) hx hb dX6_about_49 (by decide) ?_
  refine lv_icmp_ge (tgt := 204) hx hb dX6_about_51 (by decide) (fun c_51 => ?_) (fun c_51 => ?_)
  · rw [if_pos c_51] at h
    refine lv_iload_n hx hb dX6_about_204 rfl (lv_at hl 1 rfl) ?_
    refine lv_if_ne (tgt := 213) hx hb dX6_about_205 (by decide) (fun c_205 => ?_) (fun c_205 => ?_)
    · rw [if_neg c_205] at h
      refine lv_iload_n hx hb dX6_about_213 rfl (lv_at hl 1 rfl) ?_
      refine lv_iconst (v := 1) hx hb dX6_about_214 (by decide) ?_
      refine lv_icmp_ne (tgt := 222) hx hb dX6_about_215 (by decide) (fun c_215 => ?_) (fun c_215 => ?_)
      · rw [if_neg c_215] at h
        refine lv_iload_n hx hb dX6_about_222 rfl (lv_at hl 1 rfl) ?_
        refine lv_iconst (v := 2) hx hb dX6_about_223 (by decide) ?_
        refine lv_icmp_ne (tgt := 232) hx hb dX6_about_224 (by decide) (fun c_224 => ?_) (fun c_224 => ?_)
        · rw [if_neg c_224] at h
          refine lv_iload_n hx hb dX6_about_232 rfl (lv_at hl 1 rfl) ?_
          refine lv_iconst (v := 3) hx hb dX6_about_233 (by decide) ?_
          refine lv_icmp_ne (tgt := 243) hx hb dX6_about_234 (by decide) (fun c_234 => ?_) (fun c_234 => ?_)
          · rw [if_neg c_234] at h
            refine lv_iload hx hb dX6_about_243 (lv_at hl 4 rfl) ?_
            refine lv_i2l hx hb dX6_about_245 rfl ?_
            exact gw_lret X hV h dX6_about_246
          · rw [if_pos c_234] at h
            refine lv_iload hx hb dX6_about_237 (lv_at hl 6 rfl) ?_
            refine lv_i2l hx hb dX6_about_239 rfl ?_
            refine lv_goto (tgt := 246) hx hb dX6_about_240 (by decide) ?_
            exact gw_lret X hV h dX6_about_246
        · rw [if_pos c_224] at h
          refine lv_lload hx hb dX6_about_227 (lv_at hl 5 rfl) ?_
          refine lv_goto (tgt := 246) hx hb dX6_about_229 (by decide) ?_
          exact gw_lret X hV h dX6_about_246
      · rw [if_pos c_215] at h
        refine lv_lload_n hx hb dX6_about_218 rfl (lv_at hl 3 rfl) ?_
        refine lv_goto (tgt := 246) hx hb dX6_about_219 (by decide) ?_
        exact gw_lret X hV h dX6_about_246
    · rw [if_pos c_205] at h
      refine lv_iload_n hx hb dX6_about_208 rfl (lv_at hl 2 rfl) ?_
      refine lv_i2l hx hb dX6_about_209 rfl ?_
      refine lv_goto (tgt := 246) hx hb dX6_about_210 (by decide) ?_
      exact gw_lret X hV h dX6_about_246
  · rw [if_neg c_51] at h
    refine lv_aload_n hx hb dX6_about_54 rfl (lv_at hl 0 rfl) ?_
    refine lv_iload hx hb dX6_about_55 (lv_at hl 7 rfl) ?_
    obtain ⟨r57, S57, k_57, h⟩ := gx_bind_e h
    refine gw_callI X hA hV (gw_runV X hV (o := 0) (As := [.int v9]) (rest := []) (mX6_isIce l G ad _ S k_57) kc_RX6_151 (iYO_0 rfl) rfl rfl rfl hl.1 rfl (Nat.le_of_ble_eq_true rfl) ⟨rfl, rfl⟩ ⟨Nat.le_of_ble_eq_true rfl, Nat.le_of_ble_eq_true rfl⟩ ⟨Nat.le_refl _, Nat.le_refl _⟩ dX6_about_57) (fun H locs hV => ?_)
    refine lv_if_eq (tgt := 72) hx hb dX6_about_60 (by decide) (fun c_60 => ?_) (fun c_60 => ?_)
    · rw [if_pos c_60] at h
      refine lv_lconst (v := 0) hx hb dX6_about_72 (by decide) ?_
      exact tX6_about_73 X hA kK47 _ _ _ _ _ _ _ _ _ h hV (lv_sub hl [0, 1, 2, 3, 4, 5, 6, 7] rfl)
    · rw [if_neg c_60] at h
      refine lv_aload_n hx hb dX6_about_63 rfl (lv_at hl 0 rfl) ?_
      refine lv_iload hx hb dX6_about_64 (lv_at hl 7 rfl) ?_
      obtain ⟨r66, S66, k_66, h⟩ := gx_bind_e h
      refine gw_callL X hA hV (gw_runV X hV (o := 0) (As := [.int v9]) (rest := []) (mX6_thick l G ad _ S57 k_66) kc_RX6_136 (iYO_0 rfl) rfl rfl rfl hl.1 rfl (Nat.le_of_ble_eq_true rfl) ⟨rfl, rfl⟩ ⟨Nat.le_of_ble_eq_true rfl, Nat.le_of_ble_eq_true rfl⟩ ⟨Nat.le_refl _, Nat.le_refl _⟩ dX6_about_66) (fun H locs hV => ?_)
      refine lv_goto (tgt := 73) hx hb dX6_about_69 (by decide) ?_
      exact tX6_about_73 X hA kK47 _ _ _ _ _ _ _ _ _ h hV (lv_sub hl [0, 1, 2, 3, 4, 5, 6, 7] rfl)
set_option maxHeartbeats 4000000 in
set_option maxRecDepth 20000 in
theorem tX6_about_47 {p : Program} {l : Launch} {e : Env} {s : State} {m : MethodId} {args : Array Value} {below : List Frame} {meth : Method} {c : Code} {G : gG} {ad : Nat → Nat} {A : Nat → Prop} {z : Int64 × gS} (X : gCx p s m args meth c G cX6_about RX6 (some .long) 13) (hA : ∀ q, s.heap.size ≤ q → A q) : ∀ (f : Nat) (S : gS) (v1 : Int32) (v2 : Int32) (v3 : Int64) (v5 : Int32) (v6 : Int64) (v8 : Int32) (v9 : Int32) (h : fX6_about_47 f S v1 v2 v3 v5 v6 v8 v9 = some z) (H : Heap) (locs : List Loc) (ls : Array Slot) (hV : gV wdY G ad A s.heap S H locs) (hl : lv_has ls 13 [(0, .ref (ad 0)), (1, .int v1), (2, .int v2), (3, .long v3), (5, .int v5), (6, .long v6), (8, .int v8), (9, .int v9)]), W p l e rmX6_about s m args below meth c H locs 0 0 (MQ below (gQl wdY G ad A z) args s 0 0 A) (F0 m 47 ls []) := by
  intro f
  induction f with
  | zero => intro S v1 v2 v3 v5 v6 v8 v9 h; exact absurd h (by simp [fX6_about_47])
  | succ f ih => intro S v1 v2 v3 v5 v6 v8 v9 h H locs ls hV hl; exact tX6_about_47L X hA ih S v1 v2 v3 v5 v6 v8 v9 h hV hl
set_option maxHeartbeats 4000000 in
set_option maxRecDepth 20000 in
theorem mX6_about (l : Launch) (G : gG) (ad : Nat → Nat) (sz : Nat) (S : gS) {v1 : Int32} {r : Int64} {S' : gS} (h : fX6_about S v1 = some (r, S')) : gMetL l yX6_about cX6_about 13 (some .long) rmX6_about wdY G ad S sz [.ref (ad 0), .int v1] r S' := by
  refine gMet_of (by decide) ?_
  intro p e s m below meth c A hA X hnm hV
  have hl := lv_entry ([.ref (ad 0), .int v1]) (n := 13) (Nat.le_of_ble_eq_true rfl)
  rw [lg_entry_eq]
  generalize (lg_sl ([.ref (ad 0), .int v1]) ++ List.replicate (13 - (lg_sl ([.ref (ad 0), .int v1])).length) Slot.unset).toArray = ls at hl ⊢
  have hl : lv_has ls 13 [(0, .ref (ad 0)), (1, .int v1)] := hl
  obtain ⟨hx, hb, hr, hml, hown, hts, hlk, hK⟩ := id X
  unfold fX6_about at h
  generalize ([.ref (ad 0), .int v1].toArray : Array Value) = args at X ⊢
  have Y : ∀ (H : Heap) (locs : List Loc), gV wdY G ad A s.heap S H locs → W p l e rmX6_about s m args below meth c H locs 0 0 (MQ below (gQl wdY G ad A (r, S')) args s 0 0 A) (F0 m 0 ls []) := by
    intro H locs hV
    refine lv_iload_n hx hb dX6_about_0 rfl (lv_at hl 1 rfl) ?_
    refine lv_i2l hx hb dX6_about_1 rfl ?_
    refine lv_lconst (v := 0) hx hb dX6_about_2 (by decide) ?_
    refine lv_ldc2 (v := 4) hx hb hown (hts _ q_677) dX6_about_3 ?_
    obtain ⟨r6, S6, k_6, h⟩ := gx_bind_e h
    refine gw_callI X hA hV (gw_runS X hV (As := [.long (Int32.toInt64 v1), .long (0 : Int64), .long (4 : Int64)]) (rest := []) (mX6_in l G ad _ S k_6) kc_RX6_77 rfl hl.1 rfl (Nat.le_of_ble_eq_true rfl) ⟨rfl, rfl⟩ ⟨Nat.le_of_ble_eq_true rfl, Nat.le_of_ble_eq_true rfl⟩ ⟨Nat.le_refl _, Nat.le_refl _⟩ dX6_about_6) (fun H locs hV => ?_)
    refine lv_if_ne (tgt := 16) hx hb dX6_about_9 (by decide) (fun c_9 => ?_) (fun c_9 => ?_)
    · rw [if_neg c_9] at h
      refine lv_aload_n hx hb dX6_about_16 rfl (lv_at hl 0 rfl) ?_
      refine ggX6_99 X hV (o := 0) rfl dX6_about_17 ?_
      refine lv_if_ne (tgt := 27) hx hb dX6_about_20 (by decide) (fun c_20 => ?_) (fun c_20 => ?_)
      · rw [if_neg c_20] at h
        refine lv_iconst (v := 0) hx hb dX6_about_27 (by decide) ?_
        refine lv_istore_n (lv' := [(2, .int (0 : Int32)), (0, .ref (ad 0)), (1, .int v1)]) hx hb dX6_about_28 rfl hl (by decide) rfl (fun ls hl => ?_)
        refine lv_lconst (v := 0) hx hb dX6_about_29 (by decide) ?_
        refine lv_lstore_n (lv' := [(3, .long (0 : Int64)), (2, .int (0 : Int32)), (0, .ref (ad 0)), (1, .int v1)]) hx hb dX6_about_30 rfl hl (by decide) rfl (fun ls hl => ?_)
        refine lv_bipush (v := -9) hx hb dX6_about_31 (by decide) ?_
        refine lv_istore (lv' := [(5, .int (-9 : Int32)), (3, .long (0 : Int64)), (2, .int (0 : Int32)), (0, .ref (ad 0)), (1, .int v1)]) hx hb dX6_about_33 hl (by decide) rfl (fun ls hl => ?_)
        refine lv_ldc2 (v := -9) hx hb hown (hts _ q_771) dX6_about_35 ?_
        refine lv_lstore (lv' := [(6, .long (-9 : Int64)), (5, .int (-9 : Int32)), (3, .long (0 : Int64)), (2, .int (0 : Int32)), (0, .ref (ad 0)), (1, .int v1)]) hx hb dX6_about_38 hl (by decide) rfl (fun ls hl => ?_)
        refine lv_bipush (v := -9) hx hb dX6_about_40 (by decide) ?_
        refine lv_istore (lv' := [(8, .int (-9 : Int32)), (6, .long (-9 : Int64)), (5, .int (-9 : Int32)), (3, .long (0 : Int64)), (2, .int (0 : Int32)), (0, .ref (ad 0)), (1, .int v1)]) hx hb dX6_about_42 hl (by decide) rfl (fun ls hl => ?_)
        refine lv_iconst (v := 0) hx hb dX6_about_44 (by decide) ?_
        refine lv_istore (lv' := [(9, .int (0 : Int32)), (8, .int (-9 : Int32)), (6, .long (-9 : Int64)), (5, .int (-9 : Int32)), (3, .long (0 : Int64)), (2, .int (0 : Int32)), (0, .ref (ad 0)), (1, .int v1)]) hx hb dX6_about_45 hl (by decide) rfl (fun ls hl => ?_)
        exact tX6_about_47 X hA gx_fuel _ _ _ _ _ _ _ _ h _ _ _ hV (lv_sub hl [6, 7, 5, 4, 3, 2, 1, 0] rfl)
      · rw [if_pos c_20] at h
        refine lv_ldc2 (v := -3) hx hb hown (hts _ q_693) dX6_about_23 ?_
        exact gw_lret X hV h dX6_about_26
    · rw [if_pos c_9] at h
      refine lv_ldc2 (v := -2) hx hb hown (hts _ q_652) dX6_about_12 ?_
      exact gw_lret X hV h dX6_about_15
  exact Y _ _ hV
def fX6_gives (S : gS) (v1 : Int32) (v2 : Int32) (v3 : Int32) : Option (Int64 × gS) :=
gx_bind (fX6_isPlace S v1 v2) fun r3 S3 =>
if r3 = 0 then (some ((-1 : Int64), S3)) else
gx_bind (fX6_in S3 (Int32.toInt64 v3) (0 : Int64) (3 : Int64)) fun r19 S19 =>
if r19 = 0 then (some ((-2 : Int64), S19)) else
gx_chk (((8 : Int32) * v2) + v1) 64 <|
if (gA S19 5 (Int32.toNatClampNeg (((8 : Int32) * v2) + v1))) = (4 : Int32) then (some ((-3 : Int64), S19)) else
gx_bind (fX6_given S19 (((8 : Int32) * v2) + v1) v3) fun r58 S58 =>
some (r58, S58)
def rmX6_gives : Room := { frames := 4, cells := 0, slots := 0, locals := 102 }
set_option maxHeartbeats 4000000 in
set_option maxRecDepth 20000 in
theorem mX6_gives (l : Launch) (G : gG) (ad : Nat → Nat) (sz : Nat) (S : gS) {v1 : Int32} {v2 : Int32} {v3 : Int32} {r : Int64} {S' : gS} (h : fX6_gives S v1 v2 v3 = some (r, S')) : gMetL l yX6_gives cX6_gives 4 (some .long) rmX6_gives wdY G ad S sz [.ref (ad 0), .int v1, .int v2, .int v3] r S' := by
  refine gMet_of (by decide) ?_
  intro p e s m below meth c A hA X hnm hV
  have hl := lv_entry ([.ref (ad 0), .int v1, .int v2, .int v3]) (n := 4) (Nat.le_of_ble_eq_true rfl)
  rw [lg_entry_eq]
  generalize (lg_sl ([.ref (ad 0), .int v1, .int v2, .int v3]) ++ List.replicate (4 - (lg_sl ([.ref (ad 0), .int v1, .int v2, .int v3])).length) Slot.unset).toArray = ls at hl ⊢
  have hl : lv_has ls 4 [(0, .ref (ad 0)), (1, .int v1), (2, .int v2), (3, .int v3)] := hl
  obtain ⟨hx, hb, hr, hml, hown, hts, hlk, hK⟩ := id X
  unfold fX6_gives at h
  generalize ([.ref (ad 0), .int v1, .int v2, .int v3].toArray : Array Value) = args at X ⊢
  have Y : ∀ (H : Heap) (locs : List Loc), gV wdY G ad A s.heap S H locs → W p l e rmX6_gives s m args below meth c H locs 0 0 (MQ below (gQl wdY G ad A (r, S')) args s 0 0 A) (F0 m 0 ls []) := by
    intro H locs hV
    refine lv_aload_n hx hb dX6_gives_0 rfl (lv_at hl 0 rfl) ?_
    refine lv_iload_n hx hb dX6_gives_1 rfl (lv_at hl 1 rfl) ?_
    refine lv_iload_n hx hb dX6_gives_2 rfl (lv_at hl 2 rfl) ?_
    obtain ⟨r3, S3, k_3, h⟩ := gx_bind_e h
    refine gw_callI X hA hV (gw_runV X hV (o := 0) (As := [.int v1, .int v2]) (rest := []) (mX6_isPlace l G ad _ S k_3) kc_RX6_115 (iYO_0 rfl) rfl rfl rfl hl.1 rfl (Nat.le_of_ble_eq_true rfl) ⟨rfl, rfl⟩ ⟨Nat.le_of_ble_eq_true rfl, Nat.le_of_ble_eq_true rfl⟩ ⟨Nat.le_refl _, Nat.le_refl _⟩ dX6_gives_3) (fun H locs hV => ?_)
    refine lv_if_ne (tgt := 13) hx hb dX6_gives_6 (by decide) (fun c_6 => ?_) (fun c_6 => ?_)
    · rw [if_neg c_6] at h
      refine lv_iload_n hx hb dX6_gives_13 rfl (lv_at hl 3 rfl) ?_
      refine lv_i2l hx hb dX6_gives_14 rfl ?_
      refine lv_lconst (v := 0) hx hb dX6_gives_15 (by decide) ?_
      refine lv_ldc2 (v := 3) hx hb hown (hts _ q_671) dX6_gives_16 ?_
      obtain ⟨r19, S19, k_19, h⟩ := gx_bind_e h
      refine gw_callI X hA hV (gw_runS X hV (As := [.long (Int32.toInt64 v3), .long (0 : Int64), .long (3 : Int64)]) (rest := []) (mX6_in l G ad _ S3 k_19) kc_RX6_77 rfl hl.1 rfl (Nat.le_of_ble_eq_true rfl) ⟨rfl, rfl⟩ ⟨Nat.le_of_ble_eq_true rfl, Nat.le_of_ble_eq_true rfl⟩ ⟨Nat.le_refl _, Nat.le_refl _⟩ dX6_gives_19) (fun H locs hV => ?_)
      refine lv_if_ne (tgt := 29) hx hb dX6_gives_22 (by decide) (fun c_22 => ?_) (fun c_22 => ?_)
      · rw [if_neg c_22] at h
        refine lv_aload_n hx hb dX6_gives_29 rfl (lv_at hl 0 rfl) ?_
        refine ggX6_23 X hV (o := 0) rfl dX6_gives_30 ?_
        refine lv_bipush (v := 8) hx hb dX6_gives_33 (by decide) ?_
        refine lv_iload_n hx hb dX6_gives_35 rfl (lv_at hl 2 rfl) ?_
        refine lv_imul hx hb dX6_gives_36 ?_
        refine lv_iload_n hx hb dX6_gives_37 rfl (lv_at hl 1 rfl) ?_
        refine lv_iadd hx hb dX6_gives_38 ?_
        obtain ⟨c_39, h⟩ := gx_chk_e h
        refine gw_iald X hV (iYA_4 (o := 5) rfl) c_39 dX6_gives_39 ?_
        refine lv_iconst (v := 4) hx hb dX6_gives_40 (by decide) ?_
        refine lv_icmp_ne (tgt := 50) hx hb dX6_gives_41 (by decide) (fun c_41 => ?_) (fun c_41 => ?_)
        · rw [if_neg c_41] at h
          refine lv_aload_n hx hb dX6_gives_50 rfl (lv_at hl 0 rfl) ?_
          refine lv_bipush (v := 8) hx hb dX6_gives_51 (by decide) ?_
          refine lv_iload_n hx hb dX6_gives_53 rfl (lv_at hl 2 rfl) ?_
          refine lv_imul hx hb dX6_gives_54 ?_
          refine lv_iload_n hx hb dX6_gives_55 rfl (lv_at hl 1 rfl) ?_
          refine lv_iadd hx hb dX6_gives_56 ?_
          refine lv_iload_n hx hb dX6_gives_57 rfl (lv_at hl 3 rfl) ?_
          obtain ⟨r58, S58, k_58, h⟩ := gx_bind_e h
          refine gw_callL X hA hV (gw_runV X hV (o := 0) (As := [.int (((8 : Int32) * v2) + v1), .int v3]) (rest := []) (mX6_given l G ad _ S19 k_58) kc_RX6_154 (iYO_0 rfl) rfl rfl rfl hl.1 rfl (Nat.le_of_ble_eq_true rfl) ⟨rfl, rfl⟩ ⟨Nat.le_of_ble_eq_true rfl, Nat.le_of_ble_eq_true rfl⟩ ⟨Nat.le_refl _, Nat.le_refl _⟩ dX6_gives_58) (fun H locs hV => ?_)
          exact gw_lret X hV h dX6_gives_61
        · rw [if_pos c_41] at h
          refine lv_ldc2 (v := -3) hx hb hown (hts _ q_693) dX6_gives_44 ?_
          refine lv_goto (tgt := 61) hx hb dX6_gives_47 (by decide) ?_
          exact gw_lret X hV h dX6_gives_61
      · rw [if_pos c_22] at h
        refine lv_ldc2 (v := -2) hx hb hown (hts _ q_652) dX6_gives_25 ?_
        exact gw_lret X hV h dX6_gives_28
    · rw [if_pos c_6] at h
      refine lv_ldc2 (v := -1) hx hb hown (hts _ q_651) dX6_gives_9 ?_
      exact gw_lret X hV h dX6_gives_12
  exact Y _ _ hV
def fX6_turn_249L (K146 : gS → Int32 → Int32 → Int32 → Int32 → Option (Int32 × gS)) (K155 : gS → Int32 → Int32 → Int32 → Int32 → Int32 → Option (Int32 × gS)) (K249 : gS → Int32 → Int32 → Int32 → Int32 → Int32 → Int32 → Int32 → Int32 → Option (Int32 × gS)) (S : gS) (v1 : Int32) (v2 : Int32) (v3 : Int32) (v4 : Int32) (v5 : Int32) (v6 : Int32) (v7 : Int32) (v8 : Int32) : Option (Int32 × gS) :=
if (61 : Int32) ≤ v8 then (gx_let (v5 + (1 : Int32)) fun v5_288 =>
K155 S v1 v2 v3 v4 v5_288) else
gx_chk (((61 : Int32) * v6) + v8) 3904 <|
gx_chk (((61 : Int32) * v7) + v8) 3904 <|
gx_let (gJ_up S 8 (Int32.toNatClampNeg (((61 : Int32) * v7) + v8)) (gJ S 15 (Int32.toNatClampNeg (((61 : Int32) * v6) + v8)))) fun S281 =>
gx_let (v8 + (1 : Int32)) fun v8_282 =>
K249 S281 v1 v2 v3 v4 v5 v6 v7 v8_282
def fX6_turn_249 (K146 : gS → Int32 → Int32 → Int32 → Int32 → Option (Int32 × gS)) (K155 : gS → Int32 → Int32 → Int32 → Int32 → Int32 → Option (Int32 × gS)) : Nat → gS → Int32 → Int32 → Int32 → Int32 → Int32 → Int32 → Int32 → Int32 → Option (Int32 × gS)
  | 0, _, _, _, _, _, _, _, _, _ => none
  | f + 1, S, v1, v2, v3, v4, v5, v6, v7, v8 => fX6_turn_249L K146 K155 (fX6_turn_249 K146 K155 f) S v1 v2 v3 v4 v5 v6 v7 v8
def fX6_turn_202 (K146 : gS → Int32 → Int32 → Int32 → Int32 → Option (Int32 × gS)) (K155 : gS → Int32 → Int32 → Int32 → Int32 → Int32 → Option (Int32 × gS)) (S : gS) (v1 : Int32) (v2 : Int32) (v3 : Int32) (v4 : Int32) (v5 : Int32) (v6 : Int32) (t0 : Int32) : Option (Int32 × gS) :=
gx_chk v6 64 <|
gx_chk t0 64 <|
gx_let (gA_up S 5 (Int32.toNatClampNeg t0) (gA S 17 (Int32.toNatClampNeg v6))) fun S217 =>
gx_chk v6 64 <|
gx_chk t0 64 <|
gx_let (gA_up S217 6 (Int32.toNatClampNeg t0) (gA S217 18 (Int32.toNatClampNeg v6))) fun S231 =>
gx_chk v6 64 <|
gx_chk t0 64 <|
gx_let (gA_up S231 7 (Int32.toNatClampNeg t0) (gA S231 19 (Int32.toNatClampNeg v6))) fun S245 =>
fX6_turn_249 K146 K155 gx_fuel S245 v1 v2 v3 v4 v5 v6 t0 (0 : Int32)
def fX6_turn_155L (K146 : gS → Int32 → Int32 → Int32 → Int32 → Option (Int32 × gS)) (K155 : gS → Int32 → Int32 → Int32 → Int32 → Int32 → Option (Int32 × gS)) (S : gS) (v1 : Int32) (v2 : Int32) (v3 : Int32) (v4 : Int32) (v5 : Int32) : Option (Int32 × gS) :=
if v2 ≤ v5 then (gx_let (v4 + (1 : Int32)) fun v4_294 =>
K146 S v1 v2 v3 v4_294) else
gx_let (((8 : Int32) * v4) + v5) fun v6_169 =>
if v1 = 0 then (fX6_turn_202 K146 K155 S v1 v2 v3 v4 v5 v6_169 (((((8 : Int32) * v4) + v2) - (1 : Int32)) - v5)) else
fX6_turn_202 K146 K155 S v1 v2 v3 v4 v5 v6_169 (((((8 : Int32) * v5) + v3) - (1 : Int32)) - v4)
def fX6_turn_155 (K146 : gS → Int32 → Int32 → Int32 → Int32 → Option (Int32 × gS)) : Nat → gS → Int32 → Int32 → Int32 → Int32 → Int32 → Option (Int32 × gS)
  | 0, _, _, _, _, _, _ => none
  | f + 1, S, v1, v2, v3, v4, v5 => fX6_turn_155L K146 (fX6_turn_155 K146 f) S v1 v2 v3 v4 v5
def fX6_turn_146L (K146 : gS → Int32 → Int32 → Int32 → Int32 → Option (Int32 × gS)) (S : gS) (v1 : Int32) (v2 : Int32) (v3 : Int32) (v4 : Int32) : Option (Int32 × gS) :=
if v3 ≤ v4 then (gx_let (gI_up S 0 17 (0 : Int32)) fun S302 =>
some ((gI S302 0 5), S302)) else
fX6_turn_155 K146 gx_fuel S v1 v2 v3 v4 (0 : Int32)
def fX6_turn_146 : Nat → gS → Int32 → Int32 → Int32 → Int32 → Option (Int32 × gS)
  | 0, _, _, _, _, _ => none
  | f + 1, S, v1, v2, v3, v4 => fX6_turn_146L (fX6_turn_146 f) S v1 v2 v3 v4
def fX6_turn_140 (S : gS) (v1 : Int32) (v2 : Int32) (v3 : Int32) (t1 : Int32) : Option (Int32 × gS) :=
gx_let (gI_up S 0 6 t1) fun S140 =>
fX6_turn_146 gx_fuel S140 v1 v2 v3 (0 : Int32)
def fX6_turn_127 (S : gS) (v1 : Int32) (v2 : Int32) (v3 : Int32) (t1 : Int32) : Option (Int32 × gS) :=
gx_let (gI_up S 0 5 t1) fun S127 =>
if v1 = 0 then (fX6_turn_140 S127 v1 v2 v3 v3) else
fX6_turn_140 S127 v1 v2 v3 v2
def fX6_turn_75L (K75 : gS → Int32 → Int32 → Option (Int32 × gS)) (S : gS) (v1 : Int32) (v2 : Int32) : Option (Int32 × gS) :=
if (3904 : Int32) ≤ v2 then (gx_let (gI S 0 5) fun v2_111 =>
gx_let (gI S 0 6) fun v3_116 =>
if v1 = 0 then (fX6_turn_127 S v1 v2_111 v3_116 v2_111) else
fX6_turn_127 S v1 v2_111 v3_116 v3_116) else
gx_chk v2 3904 <|
gx_chk v2 3904 <|
gx_let (gJ_up S 15 (Int32.toNatClampNeg v2) (gJ S 8 (Int32.toNatClampNeg v2))) fun S93 =>
gx_chk v2 3904 <|
gx_let (gJ_up S93 8 (Int32.toNatClampNeg v2) (0 : Int64)) fun S100 =>
gx_let (v2 + (1 : Int32)) fun v2_101 =>
K75 S100 v1 v2_101
def fX6_turn_75 : Nat → gS → Int32 → Int32 → Option (Int32 × gS)
  | 0, _, _, _ => none
  | f + 1, S, v1, v2 => fX6_turn_75L (fX6_turn_75 f) S v1 v2
def fX6_turn_25L (K25 : gS → Int32 → Int32 → Option (Int32 × gS)) (S : gS) (v1 : Int32) (v2 : Int32) : Option (Int32 × gS) :=
if (64 : Int32) ≤ v2 then (fX6_turn_75 gx_fuel S v1 (0 : Int32)) else
gx_chk v2 64 <|
gx_chk v2 64 <|
gx_let (gA_up S 17 (Int32.toNatClampNeg v2) (gA S 5 (Int32.toNatClampNeg v2))) fun S42 =>
gx_chk v2 64 <|
gx_chk v2 64 <|
gx_let (gA_up S42 18 (Int32.toNatClampNeg v2) (gA S42 6 (Int32.toNatClampNeg v2))) fun S54 =>
gx_chk v2 64 <|
gx_chk v2 64 <|
gx_let (gA_up S54 19 (Int32.toNatClampNeg v2) (gA S54 7 (Int32.toNatClampNeg v2))) fun S66 =>
gx_let (v2 + (1 : Int32)) fun v2_67 =>
K25 S66 v1 v2_67
def fX6_turn_25 : Nat → gS → Int32 → Int32 → Option (Int32 × gS)
  | 0, _, _, _ => none
  | f + 1, S, v1, v2 => fX6_turn_25L (fX6_turn_25 f) S v1 v2
def fX6_turn (S : gS) (v1 : Int32) : Option (Int32 × gS) :=
gx_bind (fX6_in S (Int32.toInt64 v1) (0 : Int64) (1 : Int64)) fun r4 S4 =>
if r4 = 0 then (some ((-2 : Int32), S4)) else
if (gI S4 0 5) = 0 then (some ((-3 : Int32), S4)) else
fX6_turn_25 gx_fuel S4 v1 (0 : Int32)
def rmX6_turn : Room := { frames := 1, cells := 0, slots := 0, locals := 25 }
set_option maxHeartbeats 4000000 in
set_option maxRecDepth 20000 in
theorem tX6_turn_249L {p : Program} {l : Launch} {e : Env} {s : State} {m : MethodId} {args : Array Value} {below : List Frame} {meth : Method} {c : Code} {G : gG} {ad : Nat → Nat} {A : Nat → Prop} {z : Int32 × gS} {K146 : gS → Int32 → Int32 → Int32 → Int32 → Option (Int32 × gS)} {K155 : gS → Int32 → Int32 → Int32 → Int32 → Int32 → Option (Int32 × gS)} {K249 : gS → Int32 → Int32 → Int32 → Int32 → Int32 → Int32 → Int32 → Int32 → Option (Int32 × gS)} (X : gCx p s m args meth c G cX6_turn RX6 (some .int) 9) (hA : ∀ q, s.heap.size ≤ q → A q) (kK146 : ∀ (S : gS) (v1 : Int32) (v2 : Int32) (v3 : Int32) (v4 : Int32), K146 S v1 v2 v3 v4 = some z → ∀ (H : Heap) (locs : List Loc) (ls : Array Slot), gV wdY G ad A s.heap S H locs → lv_has ls 9 [(0, .ref (ad 0)), (1, .int v1), (2, .int v2), (3, .int v3), (4, .int v4)] → W p l e rmX6_turn s m args below meth c H locs 0 0 (MQ below (gQi wdY G ad A z) args s 0 0 A) (F0 m 146 ls [])) (kK155 : ∀ (S : gS) (v1 : Int32) (v2 : Int32) (v3 : Int32) (v4 : Int32) (v5 : Int32), K155 S v1 v2 v3 v4 v5 = some z → ∀ (H : Heap) (locs : List Loc) (ls : Array Slot), gV wdY G ad A s.heap S H locs → lv_has ls 9 [(0, .ref (ad 0)), (1, .int v1), (2, .int v2), (3, .int v3), (4, .int v4), (5, .int v5)] → W p l e rmX6_turn s m args below meth c H locs 0 0 (MQ below (gQi wdY G ad A z) args s 0 0 A) (F0 m 155 ls [])) (kK249 : ∀ (S : gS) (v1 : Int32) (v2 : Int32) (v3 : Int32) (v4 : Int32) (v5 : Int32) (v6 : Int32) (v7 : Int32) (v8 : Int32), K249 S v1 v2 v3 v4 v5 v6 v7 v8 = some z → ∀ (H : Heap) (locs : List Loc) (ls : Array Slot), gV wdY G ad A s.heap S H locs → lv_has ls 9 [(0, .ref (ad 0)), (1, .int v1), (2, .int v2), (3, .int v3), (4, .int v4), (5, .int v5), (6, .int v6), (7, .int v7), (8, .int v8)] → W p l e rmX6_turn s m args below meth c H locs 0 0 (MQ below (gQi wdY G ad A z) args s 0 0 A) (F0 m 249 ls [])) (S : gS) (v1 : Int32) (v2 : Int32) (v3 : Int32) (v4 : Int32) (v5 : Int32) (v6 : Int32) (v7 : Int32) (v8 : Int32) (h : fX6_turn_249L K146 K155 K249 S v1 v2 v3 v4 v5 v6 v7 v8 = some z) {H : Heap} {locs : List Loc} {ls : Array Slot} (hV : gV wdY G ad A s.heap S H locs) (hl : lv_has ls 9 [(0, .ref (ad 0)), (1, .int v1), (2, .int v2), (3, .int v3), (4, .int v4), (5, .int v5), (6, .int v6), (7, .int v7), (8, .int v8)]) : W p l e rmX6_turn s m args below meth c H locs 0 0 (MQ below (gQi wdY G ad A z) args s 0 0 A) (F0 m 249 ls []) := by
  obtain ⟨hx, hb, hr, hml, hown, hts, hlk, hK⟩ := id X
  unfold fX6_turn_249L at h
  refine lv_iload hx hb dX6_turn_249 (lv_at hl 8 rfl) ?_
  refine lv_bipush (v := 61) hx hb dX6_turn_251 (by decide) ?_
  refine lv_icmp_ge (tgt := 288) hx hb dX6_turn_253 (by decide) (fun c_253 => ?_) (fun c_253 => ?_)
  · rw [if_pos c_253] at h
    obtain ⟨v5_288, e_288⟩ : ∃ y : Int32, y = (v5 + (1 : Int32)) := ⟨_, rfl⟩
    refine lv_iinc (v := v5_288) (lv' := [(5, .int v5_288), (0, .ref (ad 0)), (1, .int v1), (2, .int v2), (3, .int v3), (4, .int v4), (6, .int v6), (7, .int v7), (8, .int v8)]) hx hb dX6_turn_288 hl (k := 5) rfl (by rw [e_288]; rfl) (by decide) rfl (fun ls hl => ?_)
    replace h := gx_let_e e_288 h
    clear e_288
    refine lv_goto (tgt := 155) hx hb dX6_turn_291 (by decide) ?_
    exact kK155 _ _ _ _ _ _ h _ _ _ hV (lv_sub hl [1, 2, 3, 4, 5, 0] rfl)
  · rw [if_neg c_253] at h
    refine lv_aload_n hx hb dX6_turn_256 rfl (lv_at hl 0 rfl) ?_
    refine ggX6_32 X hV (o := 0) rfl dX6_turn_257 ?_
    refine lv_bipush (v := 61) hx hb dX6_turn_260 (by decide) ?_
    refine lv_iload hx hb dX6_turn_262 (lv_at hl 7 rfl) ?_
    refine lv_imul hx hb dX6_turn_264 ?_
    refine lv_iload hx hb dX6_turn_265 (lv_at hl 8 rfl) ?_
    refine lv_iadd hx hb dX6_turn_267 ?_
    refine lv_aload_n hx hb dX6_turn_268 rfl (lv_at hl 0 rfl) ?_
    refine ggX6_57 X hV (o := 0) rfl dX6_turn_269 ?_
    refine lv_bipush (v := 61) hx hb dX6_turn_272 (by decide) ?_
    refine lv_iload hx hb dX6_turn_274 (lv_at hl 6 rfl) ?_
    refine lv_imul hx hb dX6_turn_276 ?_
    refine lv_iload hx hb dX6_turn_277 (lv_at hl 8 rfl) ?_
    refine lv_iadd hx hb dX6_turn_279 ?_
    obtain ⟨c_280, h⟩ := gx_chk_e h
    refine gw_lald X hV (iYJ_5 (o := 15) rfl) c_280 dX6_turn_280 ?_
    obtain ⟨c_281, h⟩ := gx_chk_e h
    refine gw_last X hV (iYJ_5 (o := 8) rfl) c_281 dX6_turn_281 (fun S281 e_281 H locs hV => ?_)
    replace h := gx_let_e e_281 h
    clear e_281
    obtain ⟨v8_282, e_282⟩ : ∃ y : Int32, y = (v8 + (1 : Int32)) := ⟨_, rfl⟩
    refine lv_iinc (v := v8_282) (lv' := [(8, .int v8_282), (0, .ref (ad 0)), (1, .int v1), (2, .int v2), (3, .int v3), (4, .int v4), (5, .int v5), (6, .int v6), (7, .int v7)]) hx hb dX6_turn_282 hl (k := 8) rfl (by rw [e_282]; rfl) (by decide) rfl (fun ls hl => ?_)
    replace h := gx_let_e e_282 h
    clear e_282
    refine lv_goto (tgt := 249) hx hb dX6_turn_285 (by decide) ?_
    exact kK249 _ _ _ _ _ _ _ _ _ h _ _ _ hV (lv_sub hl [1, 2, 3, 4, 5, 6, 7, 8, 0] rfl)
set_option maxHeartbeats 4000000 in
set_option maxRecDepth 20000 in
theorem tX6_turn_249 {p : Program} {l : Launch} {e : Env} {s : State} {m : MethodId} {args : Array Value} {below : List Frame} {meth : Method} {c : Code} {G : gG} {ad : Nat → Nat} {A : Nat → Prop} {z : Int32 × gS} {K146 : gS → Int32 → Int32 → Int32 → Int32 → Option (Int32 × gS)} {K155 : gS → Int32 → Int32 → Int32 → Int32 → Int32 → Option (Int32 × gS)} (X : gCx p s m args meth c G cX6_turn RX6 (some .int) 9) (hA : ∀ q, s.heap.size ≤ q → A q) (kK146 : ∀ (S : gS) (v1 : Int32) (v2 : Int32) (v3 : Int32) (v4 : Int32), K146 S v1 v2 v3 v4 = some z → ∀ (H : Heap) (locs : List Loc) (ls : Array Slot), gV wdY G ad A s.heap S H locs → lv_has ls 9 [(0, .ref (ad 0)), (1, .int v1), (2, .int v2), (3, .int v3), (4, .int v4)] → W p l e rmX6_turn s m args below meth c H locs 0 0 (MQ below (gQi wdY G ad A z) args s 0 0 A) (F0 m 146 ls [])) (kK155 : ∀ (S : gS) (v1 : Int32) (v2 : Int32) (v3 : Int32) (v4 : Int32) (v5 : Int32), K155 S v1 v2 v3 v4 v5 = some z → ∀ (H : Heap) (locs : List Loc) (ls : Array Slot), gV wdY G ad A s.heap S H locs → lv_has ls 9 [(0, .ref (ad 0)), (1, .int v1), (2, .int v2), (3, .int v3), (4, .int v4), (5, .int v5)] → W p l e rmX6_turn s m args below meth c H locs 0 0 (MQ below (gQi wdY G ad A z) args s 0 0 A) (F0 m 155 ls [])) : ∀ (f : Nat) (S : gS) (v1 : Int32) (v2 : Int32) (v3 : Int32) (v4 : Int32) (v5 : Int32) (v6 : Int32) (v7 : Int32) (v8 : Int32) (h : fX6_turn_249 K146 K155 f S v1 v2 v3 v4 v5 v6 v7 v8 = some z) (H : Heap) (locs : List Loc) (ls : Array Slot) (hV : gV wdY G ad A s.heap S H locs) (hl : lv_has ls 9 [(0, .ref (ad 0)), (1, .int v1), (2, .int v2), (3, .int v3), (4, .int v4), (5, .int v5), (6, .int v6), (7, .int v7), (8, .int v8)]), W p l e rmX6_turn s m args below meth c H locs 0 0 (MQ below (gQi wdY G ad A z) args s 0 0 A) (F0 m 249 ls []) := by
  intro f
  induction f with
  | zero => intro S v1 v2 v3 v4 v5 v6 v7 v8 h; exact absurd h (by simp [fX6_turn_249])
  | succ f ih => intro S v1 v2 v3 v4 v5 v6 v7 v8 h H locs ls hV hl; exact tX6_turn_249L X hA kK146 kK155 ih S v1 v2 v3 v4 v5 v6 v7 v8 h hV hl
set_option maxHeartbeats 4000000 in
set_option maxRecDepth 20000 in
theorem tX6_turn_202 {p : Program} {l : Launch} {e : Env} {s : State} {m : MethodId} {args : Array Value} {below : List Frame} {meth : Method} {c : Code} {G : gG} {ad : Nat → Nat} {A : Nat → Prop} {z : Int32 × gS} {K146 : gS → Int32 → Int32 → Int32 → Int32 → Option (Int32 × gS)} {K155 : gS → Int32 → Int32 → Int32 → Int32 → Int32 → Option (Int32 × gS)} (X : gCx p s m args meth c G cX6_turn RX6 (some .int) 9) (hA : ∀ q, s.heap.size ≤ q → A q) (kK146 : ∀ (S : gS) (v1 : Int32) (v2 : Int32) (v3 : Int32) (v4 : Int32), K146 S v1 v2 v3 v4 = some z → ∀ (H : Heap) (locs : List Loc) (ls : Array Slot), gV wdY G ad A s.heap S H locs → lv_has ls 9 [(0, .ref (ad 0)), (1, .int v1), (2, .int v2), (3, .int v3), (4, .int v4)] → W p l e rmX6_turn s m args below meth c H locs 0 0 (MQ below (gQi wdY G ad A z) args s 0 0 A) (F0 m 146 ls [])) (kK155 : ∀ (S : gS) (v1 : Int32) (v2 : Int32) (v3 : Int32) (v4 : Int32) (v5 : Int32), K155 S v1 v2 v3 v4 v5 = some z → ∀ (H : Heap) (locs : List Loc) (ls : Array Slot), gV wdY G ad A s.heap S H locs → lv_has ls 9 [(0, .ref (ad 0)), (1, .int v1), (2, .int v2), (3, .int v3), (4, .int v4), (5, .int v5)] → W p l e rmX6_turn s m args below meth c H locs 0 0 (MQ below (gQi wdY G ad A z) args s 0 0 A) (F0 m 155 ls [])) (S : gS) (v1 : Int32) (v2 : Int32) (v3 : Int32) (v4 : Int32) (v5 : Int32) (v6 : Int32) (t0 : Int32) (h : fX6_turn_202 K146 K155 S v1 v2 v3 v4 v5 v6 t0 = some z) {H : Heap} {locs : List Loc} {ls : Array Slot} (hV : gV wdY G ad A s.heap S H locs) (hl : lv_has ls 9 [(0, .ref (ad 0)), (1, .int v1), (2, .int v2), (3, .int v3), (4, .int v4), (5, .int v5), (6, .int v6)]) : W p l e rmX6_turn s m args below meth c H locs 0 0 (MQ below (gQi wdY G ad A z) args s 0 0 A) (F0 m 202 ls [.int t0]) := by
  obtain ⟨hx, hb, hr, hml, hown, hts, hlk, hK⟩ := id X
  unfold fX6_turn_202 at h
  refine lv_istore (lv' := [(7, .int t0), (0, .ref (ad 0)), (1, .int v1), (2, .int v2), (3, .int v3), (4, .int v4), (5, .int v5), (6, .int v6)]) hx hb dX6_turn_202 hl (by decide) rfl (fun ls hl => ?_)
  refine lv_aload_n hx hb dX6_turn_204 rfl (lv_at hl 1 rfl) ?_
  refine ggX6_23 X hV (o := 0) rfl dX6_turn_205 ?_
  refine lv_iload hx hb dX6_turn_208 (lv_at hl 0 rfl) ?_
  refine lv_aload_n hx hb dX6_turn_210 rfl (lv_at hl 1 rfl) ?_
  refine ggX6_63 X hV (o := 0) rfl dX6_turn_211 ?_
  refine lv_iload hx hb dX6_turn_214 (lv_at hl 7 rfl) ?_
  obtain ⟨c_216, h⟩ := gx_chk_e h
  refine gw_iald X hV (iYA_4 (o := 17) rfl) c_216 dX6_turn_216 ?_
  obtain ⟨c_217, h⟩ := gx_chk_e h
  refine gw_iast X hV (iYA_4 (o := 5) rfl) c_217 dX6_turn_217 (fun S217 e_217 H locs hV => ?_)
  replace h := gx_let_e e_217 h
  clear e_217
  refine lv_aload_n hx hb dX6_turn_218 rfl (lv_at hl 1 rfl) ?_
  refine ggX6_26 X hV (o := 0) rfl dX6_turn_219 ?_
  refine lv_iload hx hb dX6_turn_222 (lv_at hl 0 rfl) ?_
  refine lv_aload_n hx hb dX6_turn_224 rfl (lv_at hl 1 rfl) ?_
  refine ggX6_66 X hV (o := 0) rfl dX6_turn_225 ?_
  refine lv_iload hx hb dX6_turn_228 (lv_at hl 7 rfl) ?_
  obtain ⟨c_230, h⟩ := gx_chk_e h
  refine gw_iald X hV (iYA_4 (o := 18) rfl) c_230 dX6_turn_230 ?_
  obtain ⟨c_231, h⟩ := gx_chk_e h
  refine gw_iast X hV (iYA_4 (o := 6) rfl) c_231 dX6_turn_231 (fun S231 e_231 H locs hV => ?_)
  replace h := gx_let_e e_231 h
  clear e_231
  refine lv_aload_n hx hb dX6_turn_232 rfl (lv_at hl 1 rfl) ?_
  refine ggX6_29 X hV (o := 0) rfl dX6_turn_233 ?_
  refine lv_iload hx hb dX6_turn_236 (lv_at hl 0 rfl) ?_
  refine lv_aload_n hx hb dX6_turn_238 rfl (lv_at hl 1 rfl) ?_
  refine ggX6_69 X hV (o := 0) rfl dX6_turn_239 ?_
  refine lv_iload hx hb dX6_turn_242 (lv_at hl 7 rfl) ?_
  obtain ⟨c_244, h⟩ := gx_chk_e h
  refine gw_iald X hV (iYA_4 (o := 19) rfl) c_244 dX6_turn_244 ?_
  obtain ⟨c_245, h⟩ := gx_chk_e h
  refine gw_iast X hV (iYA_4 (o := 7) rfl) c_245 dX6_turn_245 (fun S245 e_245 H locs hV => ?_)
  replace h := gx_let_e e_245 h
  clear e_245
  refine lv_iconst (v := 0) hx hb dX6_turn_246 (by decide) ?_
  refine lv_istore (lv' := [(8, .int (0 : Int32)), (7, .int t0), (0, .ref (ad 0)), (1, .int v1), (2, .int v2), (3, .int v3), (4, .int v4), (5, .int v5), (6, .int v6)]) hx hb dX6_turn_247 hl (by decide) rfl (fun ls hl => ?_)
  exact tX6_turn_249 X hA kK146 kK155 gx_fuel _ _ _ _ _ _ _ _ _ h _ _ _ hV (lv_sub hl [2, 3, 4, 5, 6, 7, 8, 1, 0] rfl)
set_option maxHeartbeats 4000000 in
set_option maxRecDepth 20000 in
theorem tX6_turn_155L {p : Program} {l : Launch} {e : Env} {s : State} {m : MethodId} {args : Array Value} {below : List Frame} {meth : Method} {c : Code} {G : gG} {ad : Nat → Nat} {A : Nat → Prop} {z : Int32 × gS} {K146 : gS → Int32 → Int32 → Int32 → Int32 → Option (Int32 × gS)} {K155 : gS → Int32 → Int32 → Int32 → Int32 → Int32 → Option (Int32 × gS)} (X : gCx p s m args meth c G cX6_turn RX6 (some .int) 9) (hA : ∀ q, s.heap.size ≤ q → A q) (kK146 : ∀ (S : gS) (v1 : Int32) (v2 : Int32) (v3 : Int32) (v4 : Int32), K146 S v1 v2 v3 v4 = some z → ∀ (H : Heap) (locs : List Loc) (ls : Array Slot), gV wdY G ad A s.heap S H locs → lv_has ls 9 [(0, .ref (ad 0)), (1, .int v1), (2, .int v2), (3, .int v3), (4, .int v4)] → W p l e rmX6_turn s m args below meth c H locs 0 0 (MQ below (gQi wdY G ad A z) args s 0 0 A) (F0 m 146 ls [])) (kK155 : ∀ (S : gS) (v1 : Int32) (v2 : Int32) (v3 : Int32) (v4 : Int32) (v5 : Int32), K155 S v1 v2 v3 v4 v5 = some z → ∀ (H : Heap) (locs : List Loc) (ls : Array Slot), gV wdY G ad A s.heap S H locs → lv_has ls 9 [(0, .ref (ad 0)), (1, .int v1), (2, .int v2), (3, .int v3), (4, .int v4), (5, .int v5)] → W p l e rmX6_turn s m args below meth c H locs 0 0 (MQ below (gQi wdY G ad A z) args s 0 0 A) (F0 m 155 ls [])) (S : gS) (v1 : Int32) (v2 : Int32) (v3 : Int32) (v4 : Int32) (v5 : Int32) (h : fX6_turn_155L K146 K155 S v1 v2 v3 v4 v5 = some z) {H : Heap} {locs : List Loc} {ls : Array Slot} (hV : gV wdY G ad A s.heap S H locs) (hl : lv_has ls 9 [(0, .ref (ad 0)), (1, .int v1), (2, .int v2), (3, .int v3), (4, .int v4), (5, .int v5)]) : W p l e rmX6_turn s m args below meth c H locs 0 0 (MQ below (gQi wdY G ad A z) args s 0 0 A) (F0 m 155 ls []) := by
  obtain ⟨hx, hb, hr, hml, hown, hts, hlk, hK⟩ := id X
  unfold fX6_turn_155L at h
  refine lv_iload hx hb dX6_turn_155 (lv_at hl 5 rfl) ?_
  refine lv_iload_n hx hb dX6_turn_157 rfl (lv_at hl 2 rfl) ?_
  refine lv_icmp_ge (tgt := 294) hx hb dX6_turn_158 (by decide) (fun c_158 => ?_) (fun c_158 => ?_)
  · rw [if_pos c_158] at h
    obtain ⟨v4_294, e_294⟩ : ∃ y : Int32, y = (v4 + (1 : Int32)) := ⟨_, rfl⟩
    refine lv_iinc (v := v4_294) (lv' := [(4, .int v4_294), (0, .ref (ad 0)), (1, .int v1), (2, .int v2), (3, .int v3), (5, .int v5)]) hx hb dX6_turn_294 hl (k := 4) rfl (by rw [e_294]; rfl) (by decide) rfl (fun ls hl => ?_)
    replace h := gx_let_e e_294 h
    clear e_294
    refine lv_goto (tgt := 146) hx hb dX6_turn_297 (by decide) ?_
    exact kK146 _ _ _ _ _ h _ _ _ hV (lv_sub hl [1, 2, 3, 4, 0] rfl)
  · rw [if_neg c_158] at h
    refine lv_bipush (v := 8) hx hb dX6_turn_161 (by decide) ?_
    refine lv_iload hx hb dX6_turn_163 (lv_at hl 4 rfl) ?_
    refine lv_imul hx hb dX6_turn_165 ?_
    refine lv_iload hx hb dX6_turn_166 (lv_at hl 5 rfl) ?_
    refine lv_iadd hx hb dX6_turn_168 ?_
    refine lv_topi (fun v6_169 e_169 => ?_)
    replace h := gx_let_e e_169 h
    clear e_169
    refine lv_istore (lv' := [(6, .int v6_169), (0, .ref (ad 0)), (1, .int v1), (2, .int v2), (3, .int v3), (4, .int v4), (5, .int v5)]) hx hb dX6_turn_169 hl (by decide) rfl (fun ls hl => ?_)
    refine lv_iload_n hx hb dX6_turn_171 rfl (lv_at hl 2 rfl) ?_
    refine lv_if_ne (tgt := 190) hx hb dX6_turn_172 (by decide) (fun c_172 => ?_) (fun c_172 => ?_)
    · rw [if_neg c_172] at h
      refine lv_bipush (v := 8) hx hb dX6_turn_190 (by decide) ?_
      refine lv_iload hx hb dX6_turn_192 (lv_at hl 6 rfl) ?_
      refine lv_imul hx hb dX6_turn_194 ?_
      refine lv_iload_n hx hb dX6_turn_195 rfl (lv_at hl 4 rfl) ?_
      refine lv_iadd hx hb dX6_turn_196 ?_
      refine lv_iconst (v := 1) hx hb dX6_turn_197 (by decide) ?_
      refine lv_isub hx hb dX6_turn_198 ?_
      refine lv_iload hx hb dX6_turn_199 (lv_at hl 5 rfl) ?_
      refine lv_isub hx hb dX6_turn_201 ?_
      exact tX6_turn_202 X hA kK146 kK155 _ _ _ _ _ _ _ _ h hV (lv_sub hl [1, 2, 3, 4, 5, 6, 0] rfl)
    · rw [if_pos c_172] at h
      refine lv_bipush (v := 8) hx hb dX6_turn_175 (by decide) ?_
      refine lv_iload hx hb dX6_turn_177 (lv_at hl 5 rfl) ?_
      refine lv_imul hx hb dX6_turn_179 ?_
      refine lv_iload_n hx hb dX6_turn_180 rfl (lv_at hl 3 rfl) ?_
      refine lv_iadd hx hb dX6_turn_181 ?_
      refine lv_iconst (v := 1) hx hb dX6_turn_182 (by decide) ?_
      refine lv_isub hx hb dX6_turn_183 ?_
      refine lv_iload hx hb dX6_turn_184 (lv_at hl 6 rfl) ?_
      refine lv_isub hx hb dX6_turn_186 ?_
      refine lv_goto (tgt := 202) hx hb dX6_turn_187 (by decide) ?_
      exact tX6_turn_202 X hA kK146 kK155 _ _ _ _ _ _ _ _ h hV (lv_sub hl [1, 2, 3, 4, 5, 6, 0] rfl)
set_option maxHeartbeats 4000000 in
set_option maxRecDepth 20000 in
theorem tX6_turn_155 {p : Program} {l : Launch} {e : Env} {s : State} {m : MethodId} {args : Array Value} {below : List Frame} {meth : Method} {c : Code} {G : gG} {ad : Nat → Nat} {A : Nat → Prop} {z : Int32 × gS} {K146 : gS → Int32 → Int32 → Int32 → Int32 → Option (Int32 × gS)} (X : gCx p s m args meth c G cX6_turn RX6 (some .int) 9) (hA : ∀ q, s.heap.size ≤ q → A q) (kK146 : ∀ (S : gS) (v1 : Int32) (v2 : Int32) (v3 : Int32) (v4 : Int32), K146 S v1 v2 v3 v4 = some z → ∀ (H : Heap) (locs : List Loc) (ls : Array Slot), gV wdY G ad A s.heap S H locs → lv_has ls 9 [(0, .ref (ad 0)), (1, .int v1), (2, .int v2), (3, .int v3), (4, .int v4)] → W p l e rmX6_turn s m args below meth c H locs 0 0 (MQ below (gQi wdY G ad A z) args s 0 0 A) (F0 m 146 ls [])) : ∀ (f : Nat) (S : gS) (v1 : Int32) (v2 : Int32) (v3 : Int32) (v4 : Int32) (v5 : Int32) (h : fX6_turn_155 K146 f S v1 v2 v3 v4 v5 = some z) (H : Heap) (locs : List Loc) (ls : Array Slot) (hV : gV wdY G ad A s.heap S H locs) (hl : lv_has ls 9 [(0, .ref (ad 0)), (1, .int v1), (2, .int v2), (3, .int v3), (4, .int v4), (5, .int v5)]), W p l e rmX6_turn s m args below meth c H locs 0 0 (MQ below (gQi wdY G ad A z) args s 0 0 A) (F0 m 155 ls []) := by
  intro f
  induction f with
  | zero => intro S v1 v2 v3 v4 v5 h; exact absurd h (by simp [fX6_turn_155])
  | succ f ih => intro S v1 v2 v3 v4 v5 h H locs ls hV hl; exact tX6_turn_155L X hA kK146 ih S v1 v2 v3 v4 v5 h hV hl
set_option maxHeartbeats 4000000 in
set_option maxRecDepth 20000 in
theorem tX6_turn_146L {p : Program} {l : Launch} {e : Env} {s : State} {m : MethodId} {args : Array Value} {below : List Frame} {meth : Method} {c : Code} {G : gG} {ad : Nat → Nat} {A : Nat → Prop} {z : Int32 × gS} {K146 : gS → Int32 → Int32 → Int32 → Int32 → Option (Int32 × gS)} (X : gCx p s m args meth c G cX6_turn RX6 (some .int) 9) (hA : ∀ q, s.heap.size ≤ q → A q) (kK146 : ∀ (S : gS) (v1 : Int32) (v2 : Int32) (v3 : Int32) (v4 : Int32), K146 S v1 v2 v3 v4 = some z → ∀ (H : Heap) (locs : List Loc) (ls : Array Slot), gV wdY G ad A s.heap S H locs → lv_has ls 9 [(0, .ref (ad 0)), (1, .int v1), (2, .int v2), (3, .int v3), (4, .int v4)] → W p l e rmX6_turn s m args below meth c H locs 0 0 (MQ below (gQi wdY G ad A z) args s 0 0 A) (F0 m 146 ls [])) (S : gS) (v1 : Int32) (v2 : Int32) (v3 : Int32) (v4 : Int32) (h : fX6_turn_146L K146 S v1 v2 v3 v4 = some z) {H : Heap} {locs : List Loc} {ls : Array Slot} (hV : gV wdY G ad A s.heap S H locs) (hl : lv_has ls 9 [(0, .ref (ad 0)), (1, .int v1), (2, .int v2), (3, .int v3), (4, .int v4)]) : W p l e rmX6_turn s m args below meth c H locs 0 0 (MQ below (gQi wdY G ad A z) args s 0 0 A) (F0 m 146 ls []) := by
  obtain ⟨hx, hb, hr, hml, hown, hts, hlk, hK⟩ := id X
  unfold fX6_turn_146L at h
  refine lv_iload hx hb dX6_turn_146 (lv_at hl 4 rfl) ?_
  refine lv_iload_n hx hb dX6_turn_148 rfl (lv_at hl 3 rfl) ?_
  refine lv_icmp_ge (tgt := 300) hx hb dX6_turn_149 (by decide) (fun c_149 => ?_) (fun c_149 => ?_)
  · rw [if_pos c_149] at h
    refine lv_aload_n hx hb dX6_turn_300 rfl (lv_at hl 0 rfl) ?_
    refine lv_iconst (v := 0) hx hb dX6_turn_301 (by decide) ?_
    refine gpX6_110 X hV (o := 0) rfl dX6_turn_302 (fun S302 e_302 H locs hV => ?_)
    replace h := gx_let_e e_302 h
    clear e_302
    refine lv_aload_n hx hb dX6_turn_305 rfl (lv_at hl 0 rfl) ?_
    refine ggX6_99 X hV (o := 0) rfl dX6_turn_306 ?_
    exact gw_ireti X hV h dX6_turn_309
  · rw [if_neg c_149] at h
    refine lv_iconst (v := 0) hx hb dX6_turn_152 (by decide) ?_
    refine lv_istore (lv' := [(5, .int (0 : Int32)), (0, .ref (ad 0)), (1, .int v1), (2, .int v2), (3, .int v3), (4, .int v4)]) hx hb dX6_turn_153 hl (by decide) rfl (fun ls hl => ?_)
    exact tX6_turn_155 X hA kK146 gx_fuel _ _ _ _ _ _ h _ _ _ hV (lv_sub hl [1, 2, 3, 4, 5, 0] rfl)
set_option maxHeartbeats 4000000 in
set_option maxRecDepth 20000 in
theorem tX6_turn_146 {p : Program} {l : Launch} {e : Env} {s : State} {m : MethodId} {args : Array Value} {below : List Frame} {meth : Method} {c : Code} {G : gG} {ad : Nat → Nat} {A : Nat → Prop} {z : Int32 × gS} (X : gCx p s m args meth c G cX6_turn RX6 (some .int) 9) (hA : ∀ q, s.heap.size ≤ q → A q) : ∀ (f : Nat) (S : gS) (v1 : Int32) (v2 : Int32) (v3 : Int32) (v4 : Int32) (h : fX6_turn_146 f S v1 v2 v3 v4 = some z) (H : Heap) (locs : List Loc) (ls : Array Slot) (hV : gV wdY G ad A s.heap S H locs) (hl : lv_has ls 9 [(0, .ref (ad 0)), (1, .int v1), (2, .int v2), (3, .int v3), (4, .int v4)]), W p l e rmX6_turn s m args below meth c H locs 0 0 (MQ below (gQi wdY G ad A z) args s 0 0 A) (F0 m 146 ls []) := by
  intro f
  induction f with
  | zero => intro S v1 v2 v3 v4 h; exact absurd h (by simp [fX6_turn_146])
  | succ f ih => intro S v1 v2 v3 v4 h H locs ls hV hl; exact tX6_turn_146L X hA ih S v1 v2 v3 v4 h hV hl
set_option maxHeartbeats 4000000 in
set_option maxRecDepth 20000 in
theorem tX6_turn_140 {p : Program} {l : Launch} {e : Env} {s : State} {m : MethodId} {args : Array Value} {below : List Frame} {meth : Method} {c : Code} {G : gG} {ad : Nat → Nat} {A : Nat → Prop} {z : Int32 × gS} (X : gCx p s m args meth c G cX6_turn RX6 (some .int) 9) (hA : ∀ q, s.heap.size ≤ q → A q) (S : gS) (v1 : Int32) (v2 : Int32) (v3 : Int32) (t1 : Int32) (h : fX6_turn_140 S v1 v2 v3 t1 = some z) {H : Heap} {locs : List Loc} {ls : Array Slot} (hV : gV wdY G ad A s.heap S H locs) (hl : lv_has ls 9 [(0, .ref (ad 0)), (1, .int v1), (2, .int v2), (3, .int v3)]) : W p l e rmX6_turn s m args below meth c H locs 0 0 (MQ below (gQi wdY G ad A z) args s 0 0 A) (F0 m 140 ls [.int t1, .ref (ad 0)]) := by
  obtain ⟨hx, hb, hr, hml, hown, hts, hlk, hK⟩ := id X
  unfold fX6_turn_140 at h
  refine gpX6_102 X hV (o := 0) rfl dX6_turn_140 (fun S140 e_140 H locs hV => ?_)
  replace h := gx_let_e e_140 h
  clear e_140
  refine lv_iconst (v := 0) hx hb dX6_turn_143 (by decide) ?_
  refine lv_istore (lv' := [(4, .int (0 : Int32)), (0, .ref (ad 0)), (1, .int v1), (2, .int v2), (3, .int v3)]) hx hb dX6_turn_144 hl (by decide) rfl (fun ls hl => ?_)
  exact tX6_turn_146 X hA gx_fuel _ _ _ _ _ h _ _ _ hV (lv_sub hl [1, 2, 3, 4, 0] rfl)
set_option maxHeartbeats 4000000 in
set_option maxRecDepth 20000 in
theorem tX6_turn_127 {p : Program} {l : Launch} {e : Env} {s : State} {m : MethodId} {args : Array Value} {below : List Frame} {meth : Method} {c : Code} {G : gG} {ad : Nat → Nat} {A : Nat → Prop} {z : Int32 × gS} (X : gCx p s m args meth c G cX6_turn RX6 (some .int) 9) (hA : ∀ q, s.heap.size ≤ q → A q) (S : gS) (v1 : Int32) (v2 : Int32) (v3 : Int32) (t1 : Int32) (h : fX6_turn_127 S v1 v2 v3 t1 = some z) {H : Heap} {locs : List Loc} {ls : Array Slot} (hV : gV wdY G ad A s.heap S H locs) (hl : lv_has ls 9 [(0, .ref (ad 0)), (1, .int v1), (2, .int v2), (3, .int v3)]) : W p l e rmX6_turn s m args below meth c H locs 0 0 (MQ below (gQi wdY G ad A z) args s 0 0 A) (F0 m 127 ls [.int t1, .ref (ad 0)]) := by
  obtain ⟨hx, hb, hr, hml, hown, hts, hlk, hK⟩ := id X
  unfold fX6_turn_127 at h
  refine gpX6_99 X hV (o := 0) rfl dX6_turn_127 (fun S127 e_127 H locs hV => ?_)
  replace h := gx_let_e e_127 h
  clear e_127
  refine lv_aload_n hx hb dX6_turn_130 rfl (lv_at hl 0 rfl) ?_
  refine lv_iload_n hx hb dX6_turn_131 rfl (lv_at hl 1 rfl) ?_
  refine lv_if_ne (tgt := 139) hx hb dX6_turn_132 (by decide) (fun c_132 => ?_) (fun c_132 => ?_)
  · rw [if_neg c_132] at h
    refine lv_iload_n hx hb dX6_turn_139 rfl (lv_at hl 2 rfl) ?_
    exact tX6_turn_140 X hA _ _ _ _ _ h hV (lv_sub hl [0, 1, 2, 3] rfl)
  · rw [if_pos c_132] at h
    refine lv_iload_n hx hb dX6_turn_135 rfl (lv_at hl 3 rfl) ?_
    refine lv_goto (tgt := 140) hx hb dX6_turn_136 (by decide) ?_
    exact tX6_turn_140 X hA _ _ _ _ _ h hV (lv_sub hl [0, 1, 2, 3] rfl)
set_option maxHeartbeats 4000000 in
set_option maxRecDepth 20000 in
theorem tX6_turn_75L {p : Program} {l : Launch} {e : Env} {s : State} {m : MethodId} {args : Array Value} {below : List Frame} {meth : Method} {c : Code} {G : gG} {ad : Nat → Nat} {A : Nat → Prop} {z : Int32 × gS} {K75 : gS → Int32 → Int32 → Option (Int32 × gS)} (X : gCx p s m args meth c G cX6_turn RX6 (some .int) 9) (hA : ∀ q, s.heap.size ≤ q → A q) (kK75 : ∀ (S : gS) (v1 : Int32) (v2 : Int32), K75 S v1 v2 = some z → ∀ (H : Heap) (locs : List Loc) (ls : Array Slot), gV wdY G ad A s.heap S H locs → lv_has ls 9 [(0, .ref (ad 0)), (1, .int v1), (2, .int v2)] → W p l e rmX6_turn s m args below meth c H locs 0 0 (MQ below (gQi wdY G ad A z) args s 0 0 A) (F0 m 75 ls [])) (S : gS) (v1 : Int32) (v2 : Int32) (h : fX6_turn_75L K75 S v1 v2 = some z) {H : Heap} {locs : List Loc} {ls : Array Slot} (hV : gV wdY G ad A s.heap S H locs) (hl : lv_has ls 9 [(0, .ref (ad 0)), (1, .int v1), (2, .int v2)]) : W p l e rmX6_turn s m args below meth c H locs 0 0 (MQ below (gQi wdY G ad A z) args s 0 0 A) (F0 m 75 ls []) := by
  obtain ⟨hx, hb, hr, hml, hown, hts, hlk, hK⟩ := id X
  unfold fX6_turn_75L at h
  refine lv_iload_n hx hb dX6_turn_75 rfl (lv_at hl 2 rfl) ?_
  refine lv_sipush (v := 3904) hx hb dX6_turn_76 (by decide) ?_
  refine lv_icmp_ge (tgt := 107) hx hb dX6_turn_79 (by decide) (fun c_79 => ?_) (fun c_79 => ?_)
  · rw [if_pos c_79] at h
    refine lv_aload_n hx hb dX6_turn_107 rfl (lv_at hl 0 rfl) ?_
    refine ggX6_99 X hV (o := 0) rfl dX6_turn_108 ?_
    refine lv_topi (fun v2_111 e_111 => ?_)
    replace h := gx_let_e e_111 h
    clear e_111
    refine lv_istore_n (lv' := [(2, .int v2_111), (0, .ref (ad 0)), (1, .int v1)]) hx hb dX6_turn_111 rfl hl (by decide) rfl (fun ls hl => ?_)
    refine lv_aload_n hx hb dX6_turn_112 rfl (lv_at hl 1 rfl) ?_
    refine ggX6_102 X hV (o := 0) rfl dX6_turn_113 ?_
    refine lv_topi (fun v3_116 e_116 => ?_)
    replace h := gx_let_e e_116 h
    clear e_116
    refine lv_istore_n (lv' := [(3, .int v3_116), (2, .int v2_111), (0, .ref (ad 0)), (1, .int v1)]) hx hb dX6_turn_116 rfl hl (by decide) rfl (fun ls hl => ?_)
    refine lv_aload_n hx hb dX6_turn_117 rfl (lv_at hl 2 rfl) ?_
    refine lv_iload_n hx hb dX6_turn_118 rfl (lv_at hl 3 rfl) ?_
    refine lv_if_ne (tgt := 126) hx hb dX6_turn_119 (by decide) (fun c_119 => ?_) (fun c_119 => ?_)
    · rw [if_neg c_119] at h
      refine lv_iload_n hx hb dX6_turn_126 rfl (lv_at hl 0 rfl) ?_
      exact tX6_turn_127 X hA _ _ _ _ _ h hV (lv_sub hl [2, 3, 1, 0] rfl)
    · rw [if_pos c_119] at h
      refine lv_iload_n hx hb dX6_turn_122 rfl (lv_at hl 1 rfl) ?_
      refine lv_goto (tgt := 127) hx hb dX6_turn_123 (by decide) ?_
      exact tX6_turn_127 X hA _ _ _ _ _ h hV (lv_sub hl [2, 3, 1, 0] rfl)
  · rw [if_neg c_79] at h
    refine lv_aload_n hx hb dX6_turn_82 rfl (lv_at hl 0 rfl) ?_
    refine ggX6_57 X hV (o := 0) rfl dX6_turn_83 ?_
    refine lv_iload_n hx hb dX6_turn_86 rfl (lv_at hl 2 rfl) ?_
    refine lv_aload_n hx hb dX6_turn_87 rfl (lv_at hl 0 rfl) ?_
    refine ggX6_32 X hV (o := 0) rfl dX6_turn_88 ?_
    refine lv_iload_n hx hb dX6_turn_91 rfl (lv_at hl 2 rfl) ?_
    obtain ⟨c_92, h⟩ := gx_chk_e h
    refine gw_lald X hV (iYJ_5 (o := 8) rfl) c_92 dX6_turn_92 ?_
    obtain ⟨c_93, h⟩ := gx_chk_e h
    refine gw_last X hV (iYJ_5 (o := 15) rfl) c_93 dX6_turn_93 (fun S93 e_93 H locs hV => ?_)
    replace h := gx_let_e e_93 h
    clear e_93
    refine lv_aload_n hx hb dX6_turn_94 rfl (lv_at hl 0 rfl) ?_
    refine ggX6_32 X hV (o := 0) rfl dX6_turn_95 ?_
    refine lv_iload_n hx hb dX6_turn_98 rfl (lv_at hl 2 rfl) ?_
    refine lv_lconst (v := 0) hx hb dX6_turn_99 (by decide) ?_
    obtain ⟨c_100, h⟩ := gx_chk_e h
    refine gw_last X hV (iYJ_5 (o := 8) rfl) c_100 dX6_turn_100 (fun S100 e_100 H locs hV => ?_)
    replace h := gx_let_e e_100 h
    clear e_100
    obtain ⟨v2_101, e_101⟩ : ∃ y : Int32, y = (v2 + (1 : Int32)) := ⟨_, rfl⟩
    refine lv_iinc (v := v2_101) (lv' := [(2, .int v2_101), (0, .ref (ad 0)), (1, .int v1)]) hx hb dX6_turn_101 hl (k := 2) rfl (by rw [e_101]; rfl) (by decide) rfl (fun ls hl => ?_)
    replace h := gx_let_e e_101 h
    clear e_101
    refine lv_goto (tgt := 75) hx hb dX6_turn_104 (by decide) ?_
    exact kK75 _ _ _ h _ _ _ hV (lv_sub hl [1, 2, 0] rfl)
set_option maxHeartbeats 4000000 in
set_option maxRecDepth 20000 in
theorem tX6_turn_75 {p : Program} {l : Launch} {e : Env} {s : State} {m : MethodId} {args : Array Value} {below : List Frame} {meth : Method} {c : Code} {G : gG} {ad : Nat → Nat} {A : Nat → Prop} {z : Int32 × gS} (X : gCx p s m args meth c G cX6_turn RX6 (some .int) 9) (hA : ∀ q, s.heap.size ≤ q → A q) : ∀ (f : Nat) (S : gS) (v1 : Int32) (v2 : Int32) (h : fX6_turn_75 f S v1 v2 = some z) (H : Heap) (locs : List Loc) (ls : Array Slot) (hV : gV wdY G ad A s.heap S H locs) (hl : lv_has ls 9 [(0, .ref (ad 0)), (1, .int v1), (2, .int v2)]), W p l e rmX6_turn s m args below meth c H locs 0 0 (MQ below (gQi wdY G ad A z) args s 0 0 A) (F0 m 75 ls []) := by
  intro f
  induction f with
  | zero => intro S v1 v2 h; exact absurd h (by simp [fX6_turn_75])
  | succ f ih => intro S v1 v2 h H locs ls hV hl; exact tX6_turn_75L X hA ih S v1 v2 h hV hl
set_option maxHeartbeats 4000000 in
set_option maxRecDepth 20000 in
theorem tX6_turn_25L {p : Program} {l : Launch} {e : Env} {s : State} {m : MethodId} {args : Array Value} {below : List Frame} {meth : Method} {c : Code} {G : gG} {ad : Nat → Nat} {A : Nat → Prop} {z : Int32 × gS} {K25 : gS → Int32 → Int32 → Option (Int32 × gS)} (X : gCx p s m args meth c G cX6_turn RX6 (some .int) 9) (hA : ∀ q, s.heap.size ≤ q → A q) (kK25 : ∀ (S : gS) (v1 : Int32) (v2 : Int32), K25 S v1 v2 = some z → ∀ (H : Heap) (locs : List Loc) (ls : Array Slot), gV wdY G ad A s.heap S H locs → lv_has ls 9 [(0, .ref (ad 0)), (1, .int v1), (2, .int v2)] → W p l e rmX6_turn s m args below meth c H locs 0 0 (MQ below (gQi wdY G ad A z) args s 0 0 A) (F0 m 25 ls [])) (S : gS) (v1 : Int32) (v2 : Int32) (h : fX6_turn_25L K25 S v1 v2 = some z) {H : Heap} {locs : List Loc} {ls : Array Slot} (hV : gV wdY G ad A s.heap S H locs) (hl : lv_has ls 9 [(0, .ref (ad 0)), (1, .int v1), (2, .int v2)]) : W p l e rmX6_turn s m args below meth c H locs 0 0 (MQ below (gQi wdY G ad A z) args s 0 0 A) (F0 m 25 ls []) := by
  obtain ⟨hx, hb, hr, hml, hown, hts, hlk, hK⟩ := id X
  unfold fX6_turn_25L at h
  refine lv_iload_n hx hb dX6_turn_25 rfl (lv_at hl 2 rfl) ?_
  refine lv_bipush (v := 64) hx hb dX6_turn_26 (by decide) ?_
  refine lv_icmp_ge (tgt := 73) hx hb dX6_turn_28 (by decide) (fun c_28 => ?_) (fun c_28 => ?_)
  · rw [if_pos c_28] at h
    refine lv_iconst (v := 0) hx hb dX6_turn_73 (by decide) ?_
    refine lv_istore_n (lv' := [(2, .int (0 : Int32)), (0, .ref (ad 0)), (1, .int v1)]) hx hb dX6_turn_74 rfl hl (by decide) rfl (fun ls hl => ?_)
    exact tX6_turn_75 X hA gx_fuel _ _ _ h _ _ _ hV (lv_sub hl [1, 2, 0] rfl)
  · rw [if_neg c_28] at h
    refine lv_aload_n hx hb dX6_turn_31 rfl (lv_at hl 0 rfl) ?_
    refine ggX6_63 X hV (o := 0) rfl dX6_turn_32 ?_
    refine lv_iload_n hx hb dX6_turn_35 rfl (lv_at hl 2 rfl) ?_
    refine lv_aload_n hx hb dX6_turn_36 rfl (lv_at hl 0 rfl) ?_
    refine ggX6_23 X hV (o := 0) rfl dX6_turn_37 ?_
    refine lv_iload_n hx hb dX6_turn_40 rfl (lv_at hl 2 rfl) ?_
    obtain ⟨c_41, h⟩ := gx_chk_e h
    refine gw_iald X hV (iYA_4 (o := 5) rfl) c_41 dX6_turn_41 ?_
    obtain ⟨c_42, h⟩ := gx_chk_e h
    refine gw_iast X hV (iYA_4 (o := 17) rfl) c_42 dX6_turn_42 (fun S42 e_42 H locs hV => ?_)
    replace h := gx_let_e e_42 h
    clear e_42
    refine lv_aload_n hx hb dX6_turn_43 rfl (lv_at hl 0 rfl) ?_
    refine ggX6_66 X hV (o := 0) rfl dX6_turn_44 ?_
    refine lv_iload_n hx hb dX6_turn_47 rfl (lv_at hl 2 rfl) ?_
    refine lv_aload_n hx hb dX6_turn_48 rfl (lv_at hl 0 rfl) ?_
    refine ggX6_26 X hV (o := 0) rfl dX6_turn_49 ?_
    refine lv_iload_n hx hb dX6_turn_52 rfl (lv_at hl 2 rfl) ?_
    obtain ⟨c_53, h⟩ := gx_chk_e h
    refine gw_iald X hV (iYA_4 (o := 6) rfl) c_53 dX6_turn_53 ?_
    obtain ⟨c_54, h⟩ := gx_chk_e h
    refine gw_iast X hV (iYA_4 (o := 18) rfl) c_54 dX6_turn_54 (fun S54 e_54 H locs hV => ?_)
    replace h := gx_let_e e_54 h
    clear e_54
    refine lv_aload_n hx hb dX6_turn_55 rfl (lv_at hl 0 rfl) ?_
    refine ggX6_69 X hV (o := 0) rfl dX6_turn_56 ?_
    refine lv_iload_n hx hb dX6_turn_59 rfl (lv_at hl 2 rfl) ?_
    refine lv_aload_n hx hb dX6_turn_60 rfl (lv_at hl 0 rfl) ?_
    refine ggX6_29 X hV (o := 0) rfl dX6_turn_61 ?_
    refine lv_iload_n hx hb dX6_turn_64 rfl (lv_at hl 2 rfl) ?_
    obtain ⟨c_65, h⟩ := gx_chk_e h
    refine gw_iald X hV (iYA_4 (o := 7) rfl) c_65 dX6_turn_65 ?_
    obtain ⟨c_66, h⟩ := gx_chk_e h
    refine gw_iast X hV (iYA_4 (o := 19) rfl) c_66 dX6_turn_66 (fun S66 e_66 H locs hV => ?_)
    replace h := gx_let_e e_66 h
    clear e_66
    obtain ⟨v2_67, e_67⟩ : ∃ y : Int32, y = (v2 + (1 : Int32)) := ⟨_, rfl⟩
    refine lv_iinc (v := v2_67) (lv' := [(2, .int v2_67), (0, .ref (ad 0)), (1, .int v1)]) hx hb dX6_turn_67 hl (k := 2) rfl (by rw [e_67]; rfl) (by decide) rfl (fun ls hl => ?_)
    replace h := gx_let_e e_67 h
    clear e_67
    refine lv_goto (tgt := 25) hx hb dX6_turn_70 (by decide) ?_
    exact kK25 _ _ _ h _ _ _ hV (lv_sub hl [1, 2, 0] rfl)
set_option maxHeartbeats 4000000 in
set_option maxRecDepth 20000 in
theorem tX6_turn_25 {p : Program} {l : Launch} {e : Env} {s : State} {m : MethodId} {args : Array Value} {below : List Frame} {meth : Method} {c : Code} {G : gG} {ad : Nat → Nat} {A : Nat → Prop} {z : Int32 × gS} (X : gCx p s m args meth c G cX6_turn RX6 (some .int) 9) (hA : ∀ q, s.heap.size ≤ q → A q) : ∀ (f : Nat) (S : gS) (v1 : Int32) (v2 : Int32) (h : fX6_turn_25 f S v1 v2 = some z) (H : Heap) (locs : List Loc) (ls : Array Slot) (hV : gV wdY G ad A s.heap S H locs) (hl : lv_has ls 9 [(0, .ref (ad 0)), (1, .int v1), (2, .int v2)]), W p l e rmX6_turn s m args below meth c H locs 0 0 (MQ below (gQi wdY G ad A z) args s 0 0 A) (F0 m 25 ls []) := by
  intro f
  induction f with
  | zero => intro S v1 v2 h; exact absurd h (by simp [fX6_turn_25])
  | succ f ih => intro S v1 v2 h H locs ls hV hl; exact tX6_turn_25L X hA ih S v1 v2 h hV hl
set_option maxHeartbeats 4000000 in
set_option maxRecDepth 20000 in
theorem mX6_turn (l : Launch) (G : gG) (ad : Nat → Nat) (sz : Nat) (S : gS) {v1 : Int32} {r : Int32} {S' : gS} (h : fX6_turn S v1 = some (r, S')) : gMetI l yX6_turn cX6_turn 9 (some .int) rmX6_turn wdY G ad S sz [.ref (ad 0), .int v1] r S' := by
  refine gMet_of (by decide) ?_
  intro p e s m below meth c A hA X hnm hV
  have hl := lv_entry ([.ref (ad 0), .int v1]) (n := 9) (Nat.le_of_ble_eq_true rfl)
  rw [lg_entry_eq]
  generalize (lg_sl ([.ref (ad 0), .int v1]) ++ List.replicate (9 - (lg_sl ([.ref (ad 0), .int v1])).length) Slot.unset).toArray = ls at hl ⊢
  have hl : lv_has ls 9 [(0, .ref (ad 0)), (1, .int v1)] := hl
  obtain ⟨hx, hb, hr, hml, hown, hts, hlk, hK⟩ := id X
  unfold fX6_turn at h
  generalize ([.ref (ad 0), .int v1].toArray : Array Value) = args at X ⊢
  have Y : ∀ (H : Heap) (locs : List Loc), gV wdY G ad A s.heap S H locs → W p l e rmX6_turn s m args below meth c H locs 0 0 (MQ below (gQi wdY G ad A (r, S')) args s 0 0 A) (F0 m 0 ls []) := by
    intro H locs hV
    refine lv_iload_n hx hb dX6_turn_0 rfl (lv_at hl 1 rfl) ?_
    refine lv_i2l hx hb dX6_turn_1 rfl ?_
    refine lv_lconst (v := 0) hx hb dX6_turn_2 (by decide) ?_
    refine lv_lconst (v := 1) hx hb dX6_turn_3 (by decide) ?_
    obtain ⟨r4, S4, k_4, h⟩ := gx_bind_e h
    refine gw_callI X hA hV (gw_runS X hV (As := [.long (Int32.toInt64 v1), .long (0 : Int64), .long (1 : Int64)]) (rest := []) (mX6_in l G ad _ S k_4) kc_RX6_77 rfl hl.1 rfl (Nat.le_of_ble_eq_true rfl) ⟨rfl, rfl⟩ ⟨Nat.le_of_ble_eq_true rfl, Nat.le_of_ble_eq_true rfl⟩ ⟨Nat.le_refl _, Nat.le_refl _⟩ dX6_turn_4) (fun H locs hV => ?_)
    refine lv_if_ne (tgt := 13) hx hb dX6_turn_7 (by decide) (fun c_7 => ?_) (fun c_7 => ?_)
    · rw [if_neg c_7] at h
      refine lv_aload_n hx hb dX6_turn_13 rfl (lv_at hl 0 rfl) ?_
      refine ggX6_99 X hV (o := 0) rfl dX6_turn_14 ?_
      refine lv_if_ne (tgt := 23) hx hb dX6_turn_17 (by decide) (fun c_17 => ?_) (fun c_17 => ?_)
      · rw [if_neg c_17] at h
        refine lv_iconst (v := 0) hx hb dX6_turn_23 (by decide) ?_
        refine lv_istore_n (lv' := [(2, .int (0 : Int32)), (0, .ref (ad 0)), (1, .int v1)]) hx hb dX6_turn_24 rfl hl (by decide) rfl (fun ls hl => ?_)
        exact tX6_turn_25 X hA gx_fuel _ _ _ h _ _ _ hV (lv_sub hl [1, 2, 0] rfl)
      · rw [if_pos c_17] at h
        refine lv_bipush (v := -3) hx hb dX6_turn_20 (by decide) ?_
        exact gw_ireti X hV h dX6_turn_22
    · rw [if_pos c_7] at h
      refine lv_bipush (v := -2) hx hb dX6_turn_10 (by decide) ?_
      exact gw_ireti X hV h dX6_turn_12
  exact Y _ _ hV
def fX6_count_108 (K71 : gS → Int32 → Int32 → Option (Int32 × gS)) (S : gS) (v3 : Int32) (t0 : Int32) (t1 : Int32) : Option (Int32 × gS) :=
gx_let (t0 + t1) fun v2_109 =>
gx_let (v3 + (1 : Int32)) fun v3_110 =>
K71 S v2_109 v3_110
def fX6_count_107 (K71 : gS → Int32 → Int32 → Option (Int32 × gS)) (S : gS) (v3 : Int32) (t0 : Int32) : Option (Int32 × gS) :=
fX6_count_108 K71 S v3 t0 (0 : Int32)
def fX6_count_71L (K71 : gS → Int32 → Int32 → Option (Int32 × gS)) (S : gS) (v2 : Int32) (v3 : Int32) : Option (Int32 × gS) :=
if (64 : Int32) ≤ v3 then (some (v2, S)) else
gx_bind (fX6_isPlace S (v3 - v3 / (8 : Int32) * (8 : Int32)) (v3 / (8 : Int32))) fun r87 S87 =>
if r87 = 0 then (fX6_count_107 K71 S87 v3 v2) else
gx_chk v3 64 <|
if (gA S87 5 (Int32.toNatClampNeg v3)) = (4 : Int32) then (fX6_count_108 K71 S87 v3 v2 (1 : Int32)) else
fX6_count_107 K71 S87 v3 v2
def fX6_count_71 : Nat → gS → Int32 → Int32 → Option (Int32 × gS)
  | 0, _, _, _ => none
  | f + 1, S, v2, v3 => fX6_count_71L (fX6_count_71 f) S v2 v3
def fX6_count_143 (K120 : gS → Int32 → Int32 → Option (Int32 × gS)) (S : gS) (v3 : Int32) (t0 : Int32) (t1 : Int32) : Option (Int32 × gS) :=
gx_let (t0 + t1) fun v2_144 =>
gx_let (v3 + (1 : Int32)) fun v3_145 =>
K120 S v2_144 v3_145
def fX6_count_120L (K120 : gS → Int32 → Int32 → Option (Int32 × gS)) (S : gS) (v2 : Int32) (v3 : Int32) : Option (Int32 × gS) :=
if (8 : Int32) ≤ v3 then (some (v2, S)) else
gx_chk v3 8 <|
if (gA S 1 (Int32.toNatClampNeg v3)) = (-9 : Int32) then (fX6_count_143 K120 S v3 v2 (0 : Int32)) else
fX6_count_143 K120 S v3 v2 (1 : Int32)
def fX6_count_120 : Nat → gS → Int32 → Int32 → Option (Int32 × gS)
  | 0, _, _, _ => none
  | f + 1, S, v2, v3 => fX6_count_120L (fX6_count_120 f) S v2 v3
def fX6_count (S : gS) (v1 : Int32) : Option (Int32 × gS) :=
if v1 = 0 then (some ((gI S 0 5), S)) else
if v1 = 1 then (some ((gI S 0 6), S)) else
if v1 = 2 then (some ((gI S 0 7), S)) else
if v1 = 3 then (some ((gI S 0 17), S)) else
if v1 = 4 then (some ((gI S 0 3), S)) else
if v1 = 5 then (fX6_count_71 gx_fuel S (0 : Int32) (0 : Int32)) else
if v1 = 6 then (fX6_count_120 gx_fuel S (0 : Int32) (0 : Int32)) else
some ((-2 : Int32), S)
def rmX6_count : Room := { frames := 2, cells := 0, slots := 0, locals := 47 }
set_option maxHeartbeats 4000000 in
set_option maxRecDepth 20000 in
theorem tX6_count_108 {p : Program} {l : Launch} {e : Env} {s : State} {m : MethodId} {args : Array Value} {below : List Frame} {meth : Method} {c : Code} {G : gG} {ad : Nat → Nat} {A : Nat → Prop} {z : Int32 × gS} {K71 : gS → Int32 → Int32 → Option (Int32 × gS)} (X : gCx p s m args meth c G cX6_count RX6 (some .int) 4) (hA : ∀ q, s.heap.size ≤ q → A q) (kK71 : ∀ (S : gS) (v2 : Int32) (v3 : Int32), K71 S v2 v3 = some z → ∀ (H : Heap) (locs : List Loc) (ls : Array Slot), gV wdY G ad A s.heap S H locs → lv_has ls 4 [(0, .ref (ad 0)), (2, .int v2), (3, .int v3)] → W p l e rmX6_count s m args below meth c H locs 0 0 (MQ below (gQi wdY G ad A z) args s 0 0 A) (F0 m 71 ls [])) (S : gS) (v3 : Int32) (t0 : Int32) (t1 : Int32) (h : fX6_count_108 K71 S v3 t0 t1 = some z) {H : Heap} {locs : List Loc} {ls : Array Slot} (hV : gV wdY G ad A s.heap S H locs) (hl : lv_has ls 4 [(0, .ref (ad 0)), (3, .int v3)]) : W p l e rmX6_count s m args below meth c H locs 0 0 (MQ below (gQi wdY G ad A z) args s 0 0 A) (F0 m 108 ls [.int t1, .int t0]) := by
  obtain ⟨hx, hb, hr, hml, hown, hts, hlk, hK⟩ := id X
  unfold fX6_count_108 at h
  refine lv_iadd hx hb dX6_count_108 ?_
  refine lv_topi (fun v2_109 e_109 => ?_)
  replace h := gx_let_e e_109 h
  clear e_109
  refine lv_istore_n (lv' := [(2, .int v2_109), (0, .ref (ad 0)), (3, .int v3)]) hx hb dX6_count_109 rfl hl (by decide) rfl (fun ls hl => ?_)
  obtain ⟨v3_110, e_110⟩ : ∃ y : Int32, y = (v3 + (1 : Int32)) := ⟨_, rfl⟩
  refine lv_iinc (v := v3_110) (lv' := [(3, .int v3_110), (2, .int v2_109), (0, .ref (ad 0))]) hx hb dX6_count_110 hl (k := 2) rfl (by rw [e_110]; rfl) (by decide) rfl (fun ls hl => ?_)
  replace h := gx_let_e e_110 h
  clear e_110
  refine lv_goto (tgt := 71) hx hb dX6_count_113 (by decide) ?_
  exact kK71 _ _ _ h _ _ _ hV (lv_sub hl [2, 1, 0] rfl)
set_option maxHeartbeats 4000000 in
set_option maxRecDepth 20000 in
theorem tX6_count_107 {p : Program} {l : Launch} {e : Env} {s : State} {m : MethodId} {args : Array Value} {below : List Frame} {meth : Method} {c : Code} {G : gG} {ad : Nat → Nat} {A : Nat → Prop} {z : Int32 × gS} {K71 : gS → Int32 → Int32 → Option (Int32 × gS)} (X : gCx p s m args meth c G cX6_count RX6 (some .int) 4) (hA : ∀ q, s.heap.size ≤ q → A q) (kK71 : ∀ (S : gS) (v2 : Int32) (v3 : Int32), K71 S v2 v3 = some z → ∀ (H : Heap) (locs : List Loc) (ls : Array Slot), gV wdY G ad A s.heap S H locs → lv_has ls 4 [(0, .ref (ad 0)), (2, .int v2), (3, .int v3)] → W p l e rmX6_count s m args below meth c H locs 0 0 (MQ below (gQi wdY G ad A z) args s 0 0 A) (F0 m 71 ls [])) (S : gS) (v3 : Int32) (t0 : Int32) (h : fX6_count_107 K71 S v3 t0 = some z) {H : Heap} {locs : List Loc} {ls : Array Slot} (hV : gV wdY G ad A s.heap S H locs) (hl : lv_has ls 4 [(0, .ref (ad 0)), (3, .int v3)]) : W p l e rmX6_count s m args below meth c H locs 0 0 (MQ below (gQi wdY G ad A z) args s 0 0 A) (F0 m 107 ls [.int t0]) := by
  obtain ⟨hx, hb, hr, hml, hown, hts, hlk, hK⟩ := id X
  unfold fX6_count_107 at h
  refine lv_iconst (v := 0) hx hb dX6_count_107 (by decide) ?_
  exact tX6_count_108 X hA kK71 _ _ _ _ h hV (lv_sub hl [0, 1] rfl)
set_option maxHeartbeats 4000000 in
set_option maxRecDepth 20000 in
theorem tX6_count_71L {p : Program} {l : Launch} {e : Env} {s : State} {m : MethodId} {args : Array Value} {below : List Frame} {meth : Method} {c : Code} {G : gG} {ad : Nat → Nat} {A : Nat → Prop} {z : Int32 × gS} {K71 : gS → Int32 → Int32 → Option (Int32 × gS)} (X : gCx p s m args meth c G cX6_count RX6 (some .int) 4) (hA : ∀ q, s.heap.size ≤ q → A q) (kK71 : ∀ (S : gS) (v2 : Int32) (v3 : Int32), K71 S v2 v3 = some z → ∀ (H : Heap) (locs : List Loc) (ls : Array Slot), gV wdY G ad A s.heap S H locs → lv_has ls 4 [(0, .ref (ad 0)), (2, .int v2), (3, .int v3)] → W p l e rmX6_count s m args below meth c H locs 0 0 (MQ below (gQi wdY G ad A z) args s 0 0 A) (F0 m 71 ls [])) (S : gS) (v2 : Int32) (v3 : Int32) (h : fX6_count_71L K71 S v2 v3 = some z) {H : Heap} {locs : List Loc} {ls : Array Slot} (hV : gV wdY G ad A s.heap S H locs) (hl : lv_has ls 4 [(0, .ref (ad 0)), (2, .int v2), (3, .int v3)]) : W p l e rmX6_count s m args below meth c H locs 0 0 (MQ below (gQi wdY G ad A z) args s 0 0 A) (F0 m 71 ls []) := by
  obtain ⟨hx, hb, hr, hml, hown, hts, hlk, hK⟩ := id X
  unfold fX6_count_71L at h
  refine lv_iload_n hx hb dX6_count_71 rfl (lv_at hl 2 rfl) ?_
  refine lv_bipush (v := 64) hx hb dX6_count_72 (by decide) ?_
  refine lv_icmp_ge (tgt := 116) hx hb dX6_count_74 (by decide) (fun c_74 => ?_) (fun c_74 => ?_)
  · rw [if_pos c_74] at h
    refine lv_iload_n hx hb dX6_count_116 rfl (lv_at hl 1 rfl) ?_
    exact gw_ireti X hV h dX6_count_117
  · rw [if_neg c_74] at h
    refine lv_iload_n hx hb dX6_count_77 rfl (lv_at hl 1 rfl) ?_
    refine lv_aload_n hx hb dX6_count_78 rfl (lv_at hl 0 rfl) ?_
    refine lv_iload_n hx hb dX6_count_79 rfl (lv_at hl 2 rfl) ?_
    refine lv_bipush (v := 8) hx hb dX6_count_80 (by decide) ?_
    refine lv_irem hx hb dX6_count_82 (by decide) ?_
    refine lv_iload_n hx hb dX6_count_83 rfl (lv_at hl 2 rfl) ?_
    refine lv_bipush (v := 8) hx hb dX6_count_84 (by decide) ?_
    refine lv_idiv hx hb dX6_count_86 (by decide) ?_
    obtain ⟨r87, S87, k_87, h⟩ := gx_bind_e h
    refine gw_callI X hA hV (gw_runV X hV (o := 0) (As := [.int (v3 - v3 / (8 : Int32) * (8 : Int32)), .int (v3 / (8 : Int32))]) (rest := [.int v2]) (mX6_isPlace l G ad _ S k_87) kc_RX6_115 (iYO_0 rfl) rfl rfl rfl hl.1 rfl (Nat.le_of_ble_eq_true rfl) ⟨rfl, rfl⟩ ⟨Nat.le_of_ble_eq_true rfl, Nat.le_of_ble_eq_true rfl⟩ ⟨Nat.le_refl _, Nat.le_refl _⟩ dX6_count_87) (fun H locs hV => ?_)
    refine lv_if_eq (tgt := 107) hx hb dX6_count_90 (by decide) (fun c_90 => ?_) (fun c_90 => ?_)
    · rw [if_pos c_90] at h
      exact tX6_count_107 X hA kK71 _ _ _ h hV (lv_sub hl [0, 2] rfl)
    · rw [if_neg c_90] at h
      refine lv_aload_n hx hb dX6_count_93 rfl (lv_at hl 0 rfl) ?_
      refine ggX6_23 X hV (o := 0) rfl dX6_count_94 ?_
      refine lv_iload_n hx hb dX6_count_97 rfl (lv_at hl 2 rfl) ?_
      obtain ⟨c_98, h⟩ := gx_chk_e h
      refine gw_iald X hV (iYA_4 (o := 5) rfl) c_98 dX6_count_98 ?_
      refine lv_iconst (v := 4) hx hb dX6_count_99 (by decide) ?_
      refine lv_icmp_ne (tgt := 107) hx hb dX6_count_100 (by decide) (fun c_100 => ?_) (fun c_100 => ?_)
      · rw [if_neg c_100] at h
        exact tX6_count_107 X hA kK71 _ _ _ h hV (lv_sub hl [0, 2] rfl)
      · rw [if_pos c_100] at h
        refine lv_iconst (v := 1) hx hb dX6_count_103 (by decide) ?_
        refine lv_goto (tgt := 108) hx hb dX6_count_104 (by decide) ?_
        exact tX6_count_108 X hA kK71 _ _ _ _ h hV (lv_sub hl [0, 2] rfl)
set_option maxHeartbeats 4000000 in
set_option maxRecDepth 20000 in
theorem tX6_count_71 {p : Program} {l : Launch} {e : Env} {s : State} {m : MethodId} {args : Array Value} {below : List Frame} {meth : Method} {c : Code} {G : gG} {ad : Nat → Nat} {A : Nat → Prop} {z : Int32 × gS} (X : gCx p s m args meth c G cX6_count RX6 (some .int) 4) (hA : ∀ q, s.heap.size ≤ q → A q) : ∀ (f : Nat) (S : gS) (v2 : Int32) (v3 : Int32) (h : fX6_count_71 f S v2 v3 = some z) (H : Heap) (locs : List Loc) (ls : Array Slot) (hV : gV wdY G ad A s.heap S H locs) (hl : lv_has ls 4 [(0, .ref (ad 0)), (2, .int v2), (3, .int v3)]), W p l e rmX6_count s m args below meth c H locs 0 0 (MQ below (gQi wdY G ad A z) args s 0 0 A) (F0 m 71 ls []) := by
  intro f
  induction f with
  | zero => intro S v2 v3 h; exact absurd h (by simp [fX6_count_71])
  | succ f ih => intro S v2 v3 h H locs ls hV hl; exact tX6_count_71L X hA ih S v2 v3 h hV hl
set_option maxHeartbeats 4000000 in
set_option maxRecDepth 20000 in
theorem tX6_count_143 {p : Program} {l : Launch} {e : Env} {s : State} {m : MethodId} {args : Array Value} {below : List Frame} {meth : Method} {c : Code} {G : gG} {ad : Nat → Nat} {A : Nat → Prop} {z : Int32 × gS} {K120 : gS → Int32 → Int32 → Option (Int32 × gS)} (X : gCx p s m args meth c G cX6_count RX6 (some .int) 4) (hA : ∀ q, s.heap.size ≤ q → A q) (kK120 : ∀ (S : gS) (v2 : Int32) (v3 : Int32), K120 S v2 v3 = some z → ∀ (H : Heap) (locs : List Loc) (ls : Array Slot), gV wdY G ad A s.heap S H locs → lv_has ls 4 [(0, .ref (ad 0)), (2, .int v2), (3, .int v3)] → W p l e rmX6_count s m args below meth c H locs 0 0 (MQ below (gQi wdY G ad A z) args s 0 0 A) (F0 m 120 ls [])) (S : gS) (v3 : Int32) (t0 : Int32) (t1 : Int32) (h : fX6_count_143 K120 S v3 t0 t1 = some z) {H : Heap} {locs : List Loc} {ls : Array Slot} (hV : gV wdY G ad A s.heap S H locs) (hl : lv_has ls 4 [(0, .ref (ad 0)), (3, .int v3)]) : W p l e rmX6_count s m args below meth c H locs 0 0 (MQ below (gQi wdY G ad A z) args s 0 0 A) (F0 m 143 ls [.int t1, .int t0]) := by
  obtain ⟨hx, hb, hr, hml, hown, hts, hlk, hK⟩ := id X
  unfold fX6_count_143 at h
  refine lv_iadd hx hb dX6_count_143 ?_
  refine lv_topi (fun v2_144 e_144 => ?_)
  replace h := gx_let_e e_144 h
  clear e_144
  refine lv_istore_n (lv' := [(2, .int v2_144), (0, .ref (ad 0)), (3, .int v3)]) hx hb dX6_count_144 rfl hl (by decide) rfl (fun ls hl => ?_)
  obtain ⟨v3_145, e_145⟩ : ∃ y : Int32, y = (v3 + (1 : Int32)) := ⟨_, rfl⟩
  refine lv_iinc (v := v3_145) (lv' := [(3, .int v3_145), (2, .int v2_144), (0, .ref (ad 0))]) hx hb dX6_count_145 hl (k := 2) rfl (by rw [e_145]; rfl) (by decide) rfl (fun ls hl => ?_)
  replace h := gx_let_e e_145 h
  clear e_145
  refine lv_goto (tgt := 120) hx hb dX6_count_148 (by decide) ?_
  exact kK120 _ _ _ h _ _ _ hV (lv_sub hl [2, 1, 0] rfl)
set_option maxHeartbeats 4000000 in
set_option maxRecDepth 20000 in
theorem tX6_count_120L {p : Program} {l : Launch} {e : Env} {s : State} {m : MethodId} {args : Array Value} {below : List Frame} {meth : Method} {c : Code} {G : gG} {ad : Nat → Nat} {A : Nat → Prop} {z : Int32 × gS} {K120 : gS → Int32 → Int32 → Option (Int32 × gS)} (X : gCx p s m args meth c G cX6_count RX6 (some .int) 4) (hA : ∀ q, s.heap.size ≤ q → A q) (kK120 : ∀ (S : gS) (v2 : Int32) (v3 : Int32), K120 S v2 v3 = some z → ∀ (H : Heap) (locs : List Loc) (ls : Array Slot), gV wdY G ad A s.heap S H locs → lv_has ls 4 [(0, .ref (ad 0)), (2, .int v2), (3, .int v3)] → W p l e rmX6_count s m args below meth c H locs 0 0 (MQ below (gQi wdY G ad A z) args s 0 0 A) (F0 m 120 ls [])) (S : gS) (v2 : Int32) (v3 : Int32) (h : fX6_count_120L K120 S v2 v3 = some z) {H : Heap} {locs : List Loc} {ls : Array Slot} (hV : gV wdY G ad A s.heap S H locs) (hl : lv_has ls 4 [(0, .ref (ad 0)), (2, .int v2), (3, .int v3)]) : W p l e rmX6_count s m args below meth c H locs 0 0 (MQ below (gQi wdY G ad A z) args s 0 0 A) (F0 m 120 ls []) := by
  obtain ⟨hx, hb, hr, hml, hown, hts, hlk, hK⟩ := id X
  unfold fX6_count_120L at h
  refine lv_iload_n hx hb dX6_count_120 rfl (lv_at hl 2 rfl) ?_
  refine lv_bipush (v := 8) hx hb dX6_count_121 (by decide) ?_
  refine lv_icmp_ge (tgt := 151) hx hb dX6_count_123 (by decide) (fun c_123 => ?_) (fun c_123 => ?_)
  · rw [if_pos c_123] at h
    refine lv_iload_n hx hb dX6_count_151 rfl (lv_at hl 1 rfl) ?_
    exact gw_ireti X hV h dX6_count_152
  · rw [if_neg c_123] at h
    refine lv_iload_n hx hb dX6_count_126 rfl (lv_at hl 1 rfl) ?_
    refine lv_aload_n hx hb dX6_count_127 rfl (lv_at hl 0 rfl) ?_
    refine ggX6_7 X hV (o := 0) rfl dX6_count_128 ?_
    refine lv_iload_n hx hb dX6_count_131 rfl (lv_at hl 2 rfl) ?_
    obtain ⟨c_132, h⟩ := gx_chk_e h
    refine gw_iald X hV (iYA_1 (o := 1) rfl) c_132 dX6_count_132 ?_
    refine lv_bipush (v := -9) hx hb dX6_count_133 (by decide) ?_
    refine lv_icmp_ne (tgt := 142) hx hb dX6_count_135 (by decide) (fun c_135 => ?_) (fun c_135 => ?_)
    · rw [if_neg c_135] at h
      refine lv_iconst (v := 1) hx hb dX6_count_142 (by decide) ?_
      exact tX6_count_143 X hA kK120 _ _ _ _ h hV (lv_sub hl [0, 2] rfl)
    · rw [if_pos c_135] at h
      refine lv_iconst (v := 0) hx hb dX6_count_138 (by decide) ?_
      refine lv_goto (tgt := 143) hx hb dX6_count_139 (by decide) ?_
      exact tX6_count_143 X hA kK120 _ _ _ _ h hV (lv_sub hl [0, 2] rfl)
set_option maxHeartbeats 4000000 in
set_option maxRecDepth 20000 in
theorem tX6_count_120 {p : Program} {l : Launch} {e : Env} {s : State} {m : MethodId} {args : Array Value} {below : List Frame} {meth : Method} {c : Code} {G : gG} {ad : Nat → Nat} {A : Nat → Prop} {z : Int32 × gS} (X : gCx p s m args meth c G cX6_count RX6 (some .int) 4) (hA : ∀ q, s.heap.size ≤ q → A q) : ∀ (f : Nat) (S : gS) (v2 : Int32) (v3 : Int32) (h : fX6_count_120 f S v2 v3 = some z) (H : Heap) (locs : List Loc) (ls : Array Slot) (hV : gV wdY G ad A s.heap S H locs) (hl : lv_has ls 4 [(0, .ref (ad 0)), (2, .int v2), (3, .int v3)]), W p l e rmX6_count s m args below meth c H locs 0 0 (MQ below (gQi wdY G ad A z) args s 0 0 A) (F0 m 120 ls []) := by
  intro f
  induction f with
  | zero => intro S v2 v3 h; exact absurd h (by simp [fX6_count_120])
  | succ f ih => intro S v2 v3 h H locs ls hV hl; exact tX6_count_120L X hA ih S v2 v3 h hV hl
set_option maxHeartbeats 4000000 in
set_option maxRecDepth 20000 in
theorem mX6_count (l : Launch) (G : gG) (ad : Nat → Nat) (sz : Nat) (S : gS) {v1 : Int32} {r : Int32} {S' : gS} (h : fX6_count S v1 = some (r, S')) : gMetI l yX6_count cX6_count 4 (some .int) rmX6_count wdY G ad S sz [.ref (ad 0), .int v1] r S' := by
  refine gMet_of (by decide) ?_
  intro p e s m below meth c A hA X hnm hV
  have hl := lv_entry ([.ref (ad 0), .int v1]) (n := 4) (Nat.le_of_ble_eq_true rfl)
  rw [lg_entry_eq]
  generalize (lg_sl ([.ref (ad 0), .int v1]) ++ List.replicate (4 - (lg_sl ([.ref (ad 0), .int v1])).length) Slot.unset).toArray = ls at hl ⊢
  have hl : lv_has ls 4 [(0, .ref (ad 0)), (1, .int v1)] := hl
  obtain ⟨hx, hb, hr, hml, hown, hts, hlk, hK⟩ := id X
  unfold fX6_count at h
  generalize ([.ref (ad 0), .int v1].toArray : Array Value) = args at X ⊢
  have Y : ∀ (H : Heap) (locs : List Loc), gV wdY G ad A s.heap S H locs → W p l e rmX6_count s m args below meth c H locs 0 0 (MQ below (gQi wdY G ad A (r, S')) args s 0 0 A) (F0 m 0 ls []) := by
    intro H locs hV
    refine lv_iconst (v := 0) hx hb dX6_count_0 (by decide) ?_
    refine lv_istore_n (lv' := [(2, .int (0 : Int32)), (0, .ref (ad 0)), (1, .int v1)]) hx hb dX6_count_1 rfl hl (by decide) rfl (fun ls hl => ?_)
    refine lv_iload_n hx hb dX6_count_2 rfl (lv_at hl 2 rfl) ?_
    by_cases c_3_0 : v1 = 0
    · rw [if_pos c_3_0] at h
      refine lv_tableIn (off := 41) (tgt := 44) hx hb dX6_count_3 (by rw [c_3_0]; decide) (by rw [c_3_0]; decide) (by rw [c_3_0]; rfl) (by decide) ?_
      refine lv_aload_n hx hb dX6_count_44 rfl (lv_at hl 1 rfl) ?_
      refine ggX6_99 X hV (o := 0) rfl dX6_count_45 ?_
      exact gw_ireti X hV h dX6_count_48
    · rw [if_neg c_3_0] at h
      by_cases c_3_1 : v1 = 1
      · rw [if_pos c_3_1] at h
        refine lv_tableIn (off := 46) (tgt := 49) hx hb dX6_count_3 (by rw [c_3_1]; decide) (by rw [c_3_1]; decide) (by rw [c_3_1]; rfl) (by decide) ?_
        refine lv_aload_n hx hb dX6_count_49 rfl (lv_at hl 1 rfl) ?_
        refine ggX6_102 X hV (o := 0) rfl dX6_count_50 ?_
        exact gw_ireti X hV h dX6_count_53
      · rw [if_neg c_3_1] at h
        by_cases c_3_2 : v1 = 2
        · rw [if_pos c_3_2] at h
          refine lv_tableIn (off := 51) (tgt := 54) hx hb dX6_count_3 (by rw [c_3_2]; decide) (by rw [c_3_2]; decide) (by rw [c_3_2]; rfl) (by decide) ?_
          refine lv_aload_n hx hb dX6_count_54 rfl (lv_at hl 1 rfl) ?_
          refine ggX6_107 X hV (o := 0) rfl dX6_count_55 ?_
          exact gw_ireti X hV h dX6_count_58
        · rw [if_neg c_3_2] at h
          by_cases c_3_3 : v1 = 3
          · rw [if_pos c_3_3] at h
            refine lv_tableIn (off := 56) (tgt := 59) hx hb dX6_count_3 (by rw [c_3_3]; decide) (by rw [c_3_3]; decide) (by rw [c_3_3]; rfl) (by decide) ?_
            refine lv_aload_n hx hb dX6_count_59 rfl (lv_at hl 1 rfl) ?_
            refine ggX6_110 X hV (o := 0) rfl dX6_count_60 ?_
            exact gw_ireti X hV h dX6_count_63
          · rw [if_neg c_3_3] at h
            by_cases c_3_4 : v1 = 4
            · rw [if_pos c_3_4] at h
              refine lv_tableIn (off := 61) (tgt := 64) hx hb dX6_count_3 (by rw [c_3_4]; decide) (by rw [c_3_4]; decide) (by rw [c_3_4]; rfl) (by decide) ?_
              refine lv_aload_n hx hb dX6_count_64 rfl (lv_at hl 1 rfl) ?_
              refine ggX6_72 X hV (o := 0) rfl dX6_count_65 ?_
              exact gw_ireti X hV h dX6_count_68
            · rw [if_neg c_3_4] at h
              by_cases c_3_5 : v1 = 5
              · rw [if_pos c_3_5] at h
                refine lv_tableIn (off := 66) (tgt := 69) hx hb dX6_count_3 (by rw [c_3_5]; decide) (by rw [c_3_5]; decide) (by rw [c_3_5]; rfl) (by decide) ?_
                refine lv_iconst (v := 0) hx hb dX6_count_69 (by decide) ?_
                refine lv_istore_n (lv' := [(3, .int (0 : Int32)), (2, .int (0 : Int32)), (0, .ref (ad 0)), (1, .int v1)]) hx hb dX6_count_70 rfl hl (by decide) rfl (fun ls hl => ?_)
                exact tX6_count_71 X hA gx_fuel _ _ _ h _ _ _ hV (lv_sub hl [2, 1, 0] rfl)
              · rw [if_neg c_3_5] at h
                by_cases c_3_6 : v1 = 6
                · rw [if_pos c_3_6] at h
                  refine lv_tableIn (off := 115) (tgt := 118) hx hb dX6_count_3 (by rw [c_3_6]; decide) (by rw [c_3_6]; decide) (by rw [c_3_6]; rfl) (by decide) ?_
                  refine lv_iconst (v := 0) hx hb dX6_count_118 (by decide) ?_
                  refine lv_istore_n (lv' := [(3, .int (0 : Int32)), (2, .int (0 : Int32)), (0, .ref (ad 0)), (1, .int v1)]) hx hb dX6_count_119 rfl hl (by decide) rfl (fun ls hl => ?_)
                  exact tX6_count_120 X hA gx_fuel _ _ _ h _ _ _ hV (lv_sub hl [2, 1, 0] rfl)
                · rw [if_neg c_3_6] at h
                  refine lv_tableOut (tgt := 153) hx hb dX6_count_3 (g_tabOut 7 (fun j hj => by
                    match j, hj with
                    | 0, _ => exact c_3_0
                    | 1, _ => exact c_3_1
                    | 2, _ => exact c_3_2
                    | 3, _ => exact c_3_3
                    | 4, _ => exact c_3_4
                    | 5, _ => exact c_3_5
                    | 6, _ => exact c_3_6
                    | j + 7, hj => omega)) (by decide) ?_
                  refine lv_bipush (v := -2) hx hb dX6_count_153 (by decide) ?_
                  exact gw_ireti X hV h dX6_count_155
  exact Y _ _ hV

def rmX6_init : Room := { frames := 1, cells := 19, slots := 33810, locals := 20 }
set_option maxHeartbeats 8000000 in
set_option maxRecDepth 100000 in
theorem cX6 (l : Launch) (G : gG) (h0 sz : Nat) : gIn l yX6_init cX6_init 2 rmX6_init G h0 (.inr (6, [.null, .null, .null, .int 0, .null, .int 0, .int 0, .int 0, .null, .null, .null, .null, .null, .null, .null, .int 0, .int 0, .int 0, .int 0, .null, .null, .null, .null, .null, .null, .null, .null])) sz ((fun u => wdY G (aX h0 u) S0Y)) 19 33810 := by
  refine gIn_of (by decide) ?_
  intro p e s m below meth c A hA X hnm hE hP hD hS
  have hl := lv_entry ([.ref h0]) (n := 2) (Nat.le_of_ble_eq_true rfl)
  rw [lg_entry_eq]
  generalize (lg_sl ([.ref h0]) ++ List.replicate (2 - (lg_sl ([.ref h0])).length) Slot.unset).toArray = ls at hl ⊢
  have hl : lv_has ls 2 [(0, .ref h0)] := hl
  obtain ⟨hx, hb, hr, hml, hown, hts, hlk, hK⟩ := id X
  have Y : ∀ (H : Heap) (locs : List Loc), va_P G.1 vwCl [(h0, .inr (6, [.null, .null, .null, .int 0, .null, .int 0, .int 0, .int 0, .null, .null, .null, .null, .null, .null, .null, .int 0, .int 0, .int 0, .int 0, .null, .null, .null, .null, .null, .null, .null, .null]))] H → va_D A [(h0, .inr (6, [.null, .null, .null, .int 0, .null, .int 0, .int 0, .int 0, .null, .null, .null, .null, .null, .null, .null, .int 0, .int 0, .int 0, .int 0, .null, .null, .null, .null, .null, .null, .null, .null]))] → va_S A s.heap H locs → W p l e rmX6_init s m #[.ref h0] below meth c H locs 0 0 (MQ below (va_Qv (fun _ : Unit => True) (gInAt G A ((fun u => wdY G (aX h0 u) S0Y))) A) #[.ref h0] s 19 33810 A) (F0 m 0 ls []) := by
    intro H locs hP hD hS
    refine lv_aload_n hx hb dX6_init_0 rfl (lv_at hl 0 rfl) ?_
    refine W.objInit hx hb hown (hts _ q_537) (hts _ q_52) (hts _ q_53) rfl (by rw [hml]; exact hl.1) rfl dX6_init_1 (Nat.le_of_ble_eq_true rfl) (Nat.le_of_ble_eq_true rfl) ?_
    refine W.eq (g2 := F0 m 4 ls []) rfl ?_
    refine lv_aload_n hx hb dX6_init_4 rfl (lv_at hl 0 rfl) ?_
    refine lv_bipush (v := 8) hx hb dX6_init_5 (by decide) ?_
    refine gn_newI (N := 8) X hA hP hD hS q_78 (by decide) (by decide) (Nat.le_of_ble_eq_true rfl) (Nat.le_of_ble_eq_true rfl) (Nat.le_of_ble_eq_true rfl) dX6_init_7 (fun q5 H hP hD hS => ?_)
    have hP : va_P G.1 vwCl ((h0, .inr (6, [.null, .null, .null, .int 0, .null, .int 0, .int 0, .int 0, .null, .null, .null, .null, .null, .null, .null, .int 0, .int 0, .int 0, .int 0, .null, .null, .null, .null, .null, .null, .null, .null])) :: [(q5, .inl (G.2 0, 8, .inl (fun _ => 0)))]) H := hP
    have hD : va_D A ((h0, .inr (6, [.null, .null, .null, .int 0, .null, .int 0, .int 0, .int 0, .null, .null, .null, .null, .null, .null, .null, .int 0, .int 0, .int 0, .int 0, .null, .null, .null, .null, .null, .null, .null, .null])) :: [(q5, .inl (G.2 0, 8, .inl (fun _ => 0)))]) := hD
    have hP : va_P G.1 vwCl ((h0, .inr (6, [.null, .null, .null, .int 0, .null, .int 0, .int 0, .int 0, .null, .null, .null, .null, .null, .null, .null, .int 0, .int 0, .int 0, .int 0, .null, .null, .null, .null, .null, .null, .null, .null])) :: (q5, .inl (G.2 0, 8, .inl (fun _ => 0))) :: []) H := hP
    have hD : va_D A ((h0, .inr (6, [.null, .null, .null, .int 0, .null, .int 0, .int 0, .int 0, .null, .null, .null, .null, .null, .null, .null, .int 0, .int 0, .int 0, .int 0, .null, .null, .null, .null, .null, .null, .null, .null])) :: (q5, .inl (G.2 0, 8, .inl (fun _ => 0))) :: []) := hD
    refine gn_put (C := RX6) (T := TX6) (ty0 := tyX6) (N := 27) (ci := 6) (k := 0) (ty := tyX6 0) (v := .ref q5) X hnm hP hD hS rfl inT_6 tyX6_ok nmX6 (by decide) q_538 rfl rfl (by decide +kernel) (by first | rfl | decide) (by first | rfl | decide) (by show 0 < 27; decide) dX6_init_9 (fun H locs hP hD hS => ?_)
    have hP : va_P G.1 vwCl ((h0, .inr (6, [.ref q5, .null, .null, .int 0, .null, .int 0, .int 0, .int 0, .null, .null, .null, .null, .null, .null, .null, .int 0, .int 0, .int 0, .int 0, .null, .null, .null, .null, .null, .null, .null, .null])) :: (q5, .inl (G.2 0, 8, .inl (fun _ => 0))) :: []) H := hP
    have hD : va_D A ((h0, .inr (6, [.ref q5, .null, .null, .int 0, .null, .int 0, .int 0, .int 0, .null, .null, .null, .null, .null, .null, .null, .int 0, .int 0, .int 0, .int 0, .null, .null, .null, .null, .null, .null, .null, .null])) :: (q5, .inl (G.2 0, 8, .inl (fun _ => 0))) :: []) := hD
    refine lv_aload_n hx hb dX6_init_12 rfl (lv_at hl 0 rfl) ?_
    refine lv_bipush (v := 8) hx hb dX6_init_13 (by decide) ?_
    refine gn_newI (N := 8) X hA hP hD hS q_78 (by decide) (by decide) (Nat.le_of_ble_eq_true rfl) (Nat.le_of_ble_eq_true rfl) (Nat.le_of_ble_eq_true rfl) dX6_init_15 (fun q9 H hP hD hS => ?_)
    have hP : va_P G.1 vwCl ((h0, .inr (6, [.ref q5, .null, .null, .int 0, .null, .int 0, .int 0, .int 0, .null, .null, .null, .null, .null, .null, .null, .int 0, .int 0, .int 0, .int 0, .null, .null, .null, .null, .null, .null, .null, .null])) :: (q5, .inl (G.2 0, 8, .inl (fun _ => 0))) :: [(q9, .inl (G.2 0, 8, .inl (fun _ => 0)))]) H := hP
    have hD : va_D A ((h0, .inr (6, [.ref q5, .null, .null, .int 0, .null, .int 0, .int 0, .int 0, .null, .null, .null, .null, .null, .null, .null, .int 0, .int 0, .int 0, .int 0, .null, .null, .null, .null, .null, .null, .null, .null])) :: (q5, .inl (G.2 0, 8, .inl (fun _ => 0))) :: [(q9, .inl (G.2 0, 8, .inl (fun _ => 0)))]) := hD
    generalize hT1 : ([(q9, .inl (G.2 0, 8, .inl (fun _ => 0)))] : va_W) = T1 at hP hD
    refine gn_put (C := RX6) (T := TX6) (ty0 := tyX6) (N := 27) (ci := 6) (k := 1) (ty := tyX6 1) (v := .ref q9) X hnm hP hD hS rfl inT_6 tyX6_ok nmX6 (by decide) q_539 rfl rfl (by decide +kernel) (by first | rfl | decide) (by first | rfl | decide) (by show 1 < 27; decide) dX6_init_17 (fun H locs hP hD hS => ?_)
    have hP : va_P G.1 vwCl ((h0, .inr (6, [.ref q5, .ref q9, .null, .int 0, .null, .int 0, .int 0, .int 0, .null, .null, .null, .null, .null, .null, .null, .int 0, .int 0, .int 0, .int 0, .null, .null, .null, .null, .null, .null, .null, .null])) :: (q5, .inl (G.2 0, 8, .inl (fun _ => 0))) :: T1) H := hP
    have hD : va_D A ((h0, .inr (6, [.ref q5, .ref q9, .null, .int 0, .null, .int 0, .int 0, .int 0, .null, .null, .null, .null, .null, .null, .null, .int 0, .int 0, .int 0, .int 0, .null, .null, .null, .null, .null, .null, .null, .null])) :: (q5, .inl (G.2 0, 8, .inl (fun _ => 0))) :: T1) := hD
    refine lv_aload_n hx hb dX6_init_20 rfl (lv_at hl 0 rfl) ?_
    refine lv_bipush (v := 64) hx hb dX6_init_21 (by decide) ?_
    refine gn_newJ (N := 64) X hA hP hD hS q_137 (by decide) (by decide) (Nat.le_of_ble_eq_true rfl) (Nat.le_of_ble_eq_true rfl) (Nat.le_of_ble_eq_true rfl) dX6_init_23 (fun q13 H hP hD hS => ?_)
    have hP : va_P G.1 vwCl ((h0, .inr (6, [.ref q5, .ref q9, .null, .int 0, .null, .int 0, .int 0, .int 0, .null, .null, .null, .null, .null, .null, .null, .int 0, .int 0, .int 0, .int 0, .null, .null, .null, .null, .null, .null, .null, .null])) :: (q5, .inl (G.2 0, 8, .inl (fun _ => 0))) :: (T1 ++ [(q13, .inl (G.2 1, 64, .inr (.inl (fun _ => 0))))])) H := hP
    have hD : va_D A ((h0, .inr (6, [.ref q5, .ref q9, .null, .int 0, .null, .int 0, .int 0, .int 0, .null, .null, .null, .null, .null, .null, .null, .int 0, .int 0, .int 0, .int 0, .null, .null, .null, .null, .null, .null, .null, .null])) :: (q5, .inl (G.2 0, 8, .inl (fun _ => 0))) :: (T1 ++ [(q13, .inl (G.2 1, 64, .inr (.inl (fun _ => 0))))])) := hD
    generalize hT2 : ((T1 ++ [(q13, .inl (G.2 1, 64, .inr (.inl (fun _ => 0))))]) : va_W) = T2 at hP hD
    refine gn_put (C := RX6) (T := TX6) (ty0 := tyX6) (N := 27) (ci := 6) (k := 2) (ty := tyX6 2) (v := .ref q13) X hnm hP hD hS rfl inT_6 tyX6_ok nmX6 (by decide) q_540 rfl rfl (by decide +kernel) (by first | rfl | decide) (by first | rfl | decide) (by show 2 < 27; decide) dX6_init_25 (fun H locs hP hD hS => ?_)
    have hP : va_P G.1 vwCl ((h0, .inr (6, [.ref q5, .ref q9, .ref q13, .int 0, .null, .int 0, .int 0, .int 0, .null, .null, .null, .null, .null, .null, .null, .int 0, .int 0, .int 0, .int 0, .null, .null, .null, .null, .null, .null, .null, .null])) :: (q5, .inl (G.2 0, 8, .inl (fun _ => 0))) :: T2) H := hP
    have hD : va_D A ((h0, .inr (6, [.ref q5, .ref q9, .ref q13, .int 0, .null, .int 0, .int 0, .int 0, .null, .null, .null, .null, .null, .null, .null, .int 0, .int 0, .int 0, .int 0, .null, .null, .null, .null, .null, .null, .null, .null])) :: (q5, .inl (G.2 0, 8, .inl (fun _ => 0))) :: T2) := hD
    refine lv_aload_n hx hb dX6_init_28 rfl (lv_at hl 0 rfl) ?_
    refine lv_bipush (v := 8) hx hb dX6_init_29 (by decide) ?_
    refine gn_newJ (N := 8) X hA hP hD hS q_137 (by decide) (by decide) (Nat.le_of_ble_eq_true rfl) (Nat.le_of_ble_eq_true rfl) (Nat.le_of_ble_eq_true rfl) dX6_init_31 (fun q17 H hP hD hS => ?_)
    have hP : va_P G.1 vwCl ((h0, .inr (6, [.ref q5, .ref q9, .ref q13, .int 0, .null, .int 0, .int 0, .int 0, .null, .null, .null, .null, .null, .null, .null, .int 0, .int 0, .int 0, .int 0, .null, .null, .null, .null, .null, .null, .null, .null])) :: (q5, .inl (G.2 0, 8, .inl (fun _ => 0))) :: (T2 ++ [(q17, .inl (G.2 1, 8, .inr (.inl (fun _ => 0))))])) H := hP
    have hD : va_D A ((h0, .inr (6, [.ref q5, .ref q9, .ref q13, .int 0, .null, .int 0, .int 0, .int 0, .null, .null, .null, .null, .null, .null, .null, .int 0, .int 0, .int 0, .int 0, .null, .null, .null, .null, .null, .null, .null, .null])) :: (q5, .inl (G.2 0, 8, .inl (fun _ => 0))) :: (T2 ++ [(q17, .inl (G.2 1, 8, .inr (.inl (fun _ => 0))))])) := hD
    generalize hT3 : ((T2 ++ [(q17, .inl (G.2 1, 8, .inr (.inl (fun _ => 0))))]) : va_W) = T3 at hP hD
    refine gn_put (C := RX6) (T := TX6) (ty0 := tyX6) (N := 27) (ci := 6) (k := 4) (ty := tyX6 4) (v := .ref q17) X hnm hP hD hS rfl inT_6 tyX6_ok nmX6 (by decide) q_542 rfl rfl (by decide +kernel) (by first | rfl | decide) (by first | rfl | decide) (by show 4 < 27; decide) dX6_init_33 (fun H locs hP hD hS => ?_)
    have hP : va_P G.1 vwCl ((h0, .inr (6, [.ref q5, .ref q9, .ref q13, .int 0, .ref q17, .int 0, .int 0, .int 0, .null, .null, .null, .null, .null, .null, .null, .int 0, .int 0, .int 0, .int 0, .null, .null, .null, .null, .null, .null, .null, .null])) :: (q5, .inl (G.2 0, 8, .inl (fun _ => 0))) :: T3) H := hP
    have hD : va_D A ((h0, .inr (6, [.ref q5, .ref q9, .ref q13, .int 0, .ref q17, .int 0, .int 0, .int 0, .null, .null, .null, .null, .null, .null, .null, .int 0, .int 0, .int 0, .int 0, .null, .null, .null, .null, .null, .null, .null, .null])) :: (q5, .inl (G.2 0, 8, .inl (fun _ => 0))) :: T3) := hD
    refine lv_aload_n hx hb dX6_init_36 rfl (lv_at hl 0 rfl) ?_
    refine lv_bipush (v := 64) hx hb dX6_init_37 (by decide) ?_
    refine gn_newI (N := 64) X hA hP hD hS q_78 (by decide) (by decide) (Nat.le_of_ble_eq_true rfl) (Nat.le_of_ble_eq_true rfl) (Nat.le_of_ble_eq_true rfl) dX6_init_39 (fun q21 H hP hD hS => ?_)
    have hP : va_P G.1 vwCl ((h0, .inr (6, [.ref q5, .ref q9, .ref q13, .int 0, .ref q17, .int 0, .int 0, .int 0, .null, .null, .null, .null, .null, .null, .null, .int 0, .int 0, .int 0, .int 0, .null, .null, .null, .null, .null, .null, .null, .null])) :: (q5, .inl (G.2 0, 8, .inl (fun _ => 0))) :: (T3 ++ [(q21, .inl (G.2 0, 64, .inl (fun _ => 0)))])) H := hP
    have hD : va_D A ((h0, .inr (6, [.ref q5, .ref q9, .ref q13, .int 0, .ref q17, .int 0, .int 0, .int 0, .null, .null, .null, .null, .null, .null, .null, .int 0, .int 0, .int 0, .int 0, .null, .null, .null, .null, .null, .null, .null, .null])) :: (q5, .inl (G.2 0, 8, .inl (fun _ => 0))) :: (T3 ++ [(q21, .inl (G.2 0, 64, .inl (fun _ => 0)))])) := hD
    generalize hT4 : ((T3 ++ [(q21, .inl (G.2 0, 64, .inl (fun _ => 0)))]) : va_W) = T4 at hP hD
    refine gn_put (C := RX6) (T := TX6) (ty0 := tyX6) (N := 27) (ci := 6) (k := 8) (ty := tyX6 8) (v := .ref q21) X hnm hP hD hS rfl inT_6 tyX6_ok nmX6 (by decide) q_546 rfl rfl (by decide +kernel) (by first | rfl | decide) (by first | rfl | decide) (by show 8 < 27; decide) dX6_init_41 (fun H locs hP hD hS => ?_)
    have hP : va_P G.1 vwCl ((h0, .inr (6, [.ref q5, .ref q9, .ref q13, .int 0, .ref q17, .int 0, .int 0, .int 0, .ref q21, .null, .null, .null, .null, .null, .null, .int 0, .int 0, .int 0, .int 0, .null, .null, .null, .null, .null, .null, .null, .null])) :: (q5, .inl (G.2 0, 8, .inl (fun _ => 0))) :: T4) H := hP
    have hD : va_D A ((h0, .inr (6, [.ref q5, .ref q9, .ref q13, .int 0, .ref q17, .int 0, .int 0, .int 0, .ref q21, .null, .null, .null, .null, .null, .null, .int 0, .int 0, .int 0, .int 0, .null, .null, .null, .null, .null, .null, .null, .null])) :: (q5, .inl (G.2 0, 8, .inl (fun _ => 0))) :: T4) := hD
    refine lv_aload_n hx hb dX6_init_44 rfl (lv_at hl 0 rfl) ?_
    refine lv_bipush (v := 64) hx hb dX6_init_45 (by decide) ?_
    refine gn_newI (N := 64) X hA hP hD hS q_78 (by decide) (by decide) (Nat.le_of_ble_eq_true rfl) (Nat.le_of_ble_eq_true rfl) (Nat.le_of_ble_eq_true rfl) dX6_init_47 (fun q25 H hP hD hS => ?_)
    have hP : va_P G.1 vwCl ((h0, .inr (6, [.ref q5, .ref q9, .ref q13, .int 0, .ref q17, .int 0, .int 0, .int 0, .ref q21, .null, .null, .null, .null, .null, .null, .int 0, .int 0, .int 0, .int 0, .null, .null, .null, .null, .null, .null, .null, .null])) :: (q5, .inl (G.2 0, 8, .inl (fun _ => 0))) :: (T4 ++ [(q25, .inl (G.2 0, 64, .inl (fun _ => 0)))])) H := hP
    have hD : va_D A ((h0, .inr (6, [.ref q5, .ref q9, .ref q13, .int 0, .ref q17, .int 0, .int 0, .int 0, .ref q21, .null, .null, .null, .null, .null, .null, .int 0, .int 0, .int 0, .int 0, .null, .null, .null, .null, .null, .null, .null, .null])) :: (q5, .inl (G.2 0, 8, .inl (fun _ => 0))) :: (T4 ++ [(q25, .inl (G.2 0, 64, .inl (fun _ => 0)))])) := hD
    generalize hT5 : ((T4 ++ [(q25, .inl (G.2 0, 64, .inl (fun _ => 0)))]) : va_W) = T5 at hP hD
    refine gn_put (C := RX6) (T := TX6) (ty0 := tyX6) (N := 27) (ci := 6) (k := 9) (ty := tyX6 9) (v := .ref q25) X hnm hP hD hS rfl inT_6 tyX6_ok nmX6 (by decide) q_547 rfl rfl (by decide +kernel) (by first | rfl | decide) (by first | rfl | decide) (by show 9 < 27; decide) dX6_init_49 (fun H locs hP hD hS => ?_)
    have hP : va_P G.1 vwCl ((h0, .inr (6, [.ref q5, .ref q9, .ref q13, .int 0, .ref q17, .int 0, .int 0, .int 0, .ref q21, .ref q25, .null, .null, .null, .null, .null, .int 0, .int 0, .int 0, .int 0, .null, .null, .null, .null, .null, .null, .null, .null])) :: (q5, .inl (G.2 0, 8, .inl (fun _ => 0))) :: T5) H := hP
    have hD : va_D A ((h0, .inr (6, [.ref q5, .ref q9, .ref q13, .int 0, .ref q17, .int 0, .int 0, .int 0, .ref q21, .ref q25, .null, .null, .null, .null, .null, .int 0, .int 0, .int 0, .int 0, .null, .null, .null, .null, .null, .null, .null, .null])) :: (q5, .inl (G.2 0, 8, .inl (fun _ => 0))) :: T5) := hD
    refine lv_aload_n hx hb dX6_init_52 rfl (lv_at hl 0 rfl) ?_
    refine lv_bipush (v := 64) hx hb dX6_init_53 (by decide) ?_
    refine gn_newI (N := 64) X hA hP hD hS q_78 (by decide) (by decide) (Nat.le_of_ble_eq_true rfl) (Nat.le_of_ble_eq_true rfl) (Nat.le_of_ble_eq_true rfl) dX6_init_55 (fun q29 H hP hD hS => ?_)
    have hP : va_P G.1 vwCl ((h0, .inr (6, [.ref q5, .ref q9, .ref q13, .int 0, .ref q17, .int 0, .int 0, .int 0, .ref q21, .ref q25, .null, .null, .null, .null, .null, .int 0, .int 0, .int 0, .int 0, .null, .null, .null, .null, .null, .null, .null, .null])) :: (q5, .inl (G.2 0, 8, .inl (fun _ => 0))) :: (T5 ++ [(q29, .inl (G.2 0, 64, .inl (fun _ => 0)))])) H := hP
    have hD : va_D A ((h0, .inr (6, [.ref q5, .ref q9, .ref q13, .int 0, .ref q17, .int 0, .int 0, .int 0, .ref q21, .ref q25, .null, .null, .null, .null, .null, .int 0, .int 0, .int 0, .int 0, .null, .null, .null, .null, .null, .null, .null, .null])) :: (q5, .inl (G.2 0, 8, .inl (fun _ => 0))) :: (T5 ++ [(q29, .inl (G.2 0, 64, .inl (fun _ => 0)))])) := hD
    generalize hT6 : ((T5 ++ [(q29, .inl (G.2 0, 64, .inl (fun _ => 0)))]) : va_W) = T6 at hP hD
    refine gn_put (C := RX6) (T := TX6) (ty0 := tyX6) (N := 27) (ci := 6) (k := 10) (ty := tyX6 10) (v := .ref q29) X hnm hP hD hS rfl inT_6 tyX6_ok nmX6 (by decide) q_548 rfl rfl (by decide +kernel) (by first | rfl | decide) (by first | rfl | decide) (by show 10 < 27; decide) dX6_init_57 (fun H locs hP hD hS => ?_)
    have hP : va_P G.1 vwCl ((h0, .inr (6, [.ref q5, .ref q9, .ref q13, .int 0, .ref q17, .int 0, .int 0, .int 0, .ref q21, .ref q25, .ref q29, .null, .null, .null, .null, .int 0, .int 0, .int 0, .int 0, .null, .null, .null, .null, .null, .null, .null, .null])) :: (q5, .inl (G.2 0, 8, .inl (fun _ => 0))) :: T6) H := hP
    have hD : va_D A ((h0, .inr (6, [.ref q5, .ref q9, .ref q13, .int 0, .ref q17, .int 0, .int 0, .int 0, .ref q21, .ref q25, .ref q29, .null, .null, .null, .null, .int 0, .int 0, .int 0, .int 0, .null, .null, .null, .null, .null, .null, .null, .null])) :: (q5, .inl (G.2 0, 8, .inl (fun _ => 0))) :: T6) := hD
    refine lv_aload_n hx hb dX6_init_60 rfl (lv_at hl 0 rfl) ?_
    refine lv_sipush (v := 3904) hx hb dX6_init_61 (by decide) ?_
    refine gn_newJ (N := 3904) X hA hP hD hS q_137 (by decide) (by decide) (Nat.le_of_ble_eq_true rfl) (Nat.le_of_ble_eq_true rfl) (Nat.le_of_ble_eq_true rfl) dX6_init_64 (fun q33 H hP hD hS => ?_)
    have hP : va_P G.1 vwCl ((h0, .inr (6, [.ref q5, .ref q9, .ref q13, .int 0, .ref q17, .int 0, .int 0, .int 0, .ref q21, .ref q25, .ref q29, .null, .null, .null, .null, .int 0, .int 0, .int 0, .int 0, .null, .null, .null, .null, .null, .null, .null, .null])) :: (q5, .inl (G.2 0, 8, .inl (fun _ => 0))) :: (T6 ++ [(q33, .inl (G.2 1, 3904, .inr (.inl (fun _ => 0))))])) H := hP
    have hD : va_D A ((h0, .inr (6, [.ref q5, .ref q9, .ref q13, .int 0, .ref q17, .int 0, .int 0, .int 0, .ref q21, .ref q25, .ref q29, .null, .null, .null, .null, .int 0, .int 0, .int 0, .int 0, .null, .null, .null, .null, .null, .null, .null, .null])) :: (q5, .inl (G.2 0, 8, .inl (fun _ => 0))) :: (T6 ++ [(q33, .inl (G.2 1, 3904, .inr (.inl (fun _ => 0))))])) := hD
    generalize hT7 : ((T6 ++ [(q33, .inl (G.2 1, 3904, .inr (.inl (fun _ => 0))))]) : va_W) = T7 at hP hD
    refine gn_put (C := RX6) (T := TX6) (ty0 := tyX6) (N := 27) (ci := 6) (k := 11) (ty := tyX6 11) (v := .ref q33) X hnm hP hD hS rfl inT_6 tyX6_ok nmX6 (by decide) q_549 rfl rfl (by decide +kernel) (by first | rfl | decide) (by first | rfl | decide) (by show 11 < 27; decide) dX6_init_66 (fun H locs hP hD hS => ?_)
    have hP : va_P G.1 vwCl ((h0, .inr (6, [.ref q5, .ref q9, .ref q13, .int 0, .ref q17, .int 0, .int 0, .int 0, .ref q21, .ref q25, .ref q29, .ref q33, .null, .null, .null, .int 0, .int 0, .int 0, .int 0, .null, .null, .null, .null, .null, .null, .null, .null])) :: (q5, .inl (G.2 0, 8, .inl (fun _ => 0))) :: T7) H := hP
    have hD : va_D A ((h0, .inr (6, [.ref q5, .ref q9, .ref q13, .int 0, .ref q17, .int 0, .int 0, .int 0, .ref q21, .ref q25, .ref q29, .ref q33, .null, .null, .null, .int 0, .int 0, .int 0, .int 0, .null, .null, .null, .null, .null, .null, .null, .null])) :: (q5, .inl (G.2 0, 8, .inl (fun _ => 0))) :: T7) := hD
    refine lv_aload_n hx hb dX6_init_69 rfl (lv_at hl 0 rfl) ?_
    refine lv_sipush (v := 305) hx hb dX6_init_70 (by decide) ?_
    refine gn_newJ (N := 305) X hA hP hD hS q_137 (by decide) (by decide) (Nat.le_of_ble_eq_true rfl) (Nat.le_of_ble_eq_true rfl) (Nat.le_of_ble_eq_true rfl) dX6_init_73 (fun q37 H hP hD hS => ?_)
    have hP : va_P G.1 vwCl ((h0, .inr (6, [.ref q5, .ref q9, .ref q13, .int 0, .ref q17, .int 0, .int 0, .int 0, .ref q21, .ref q25, .ref q29, .ref q33, .null, .null, .null, .int 0, .int 0, .int 0, .int 0, .null, .null, .null, .null, .null, .null, .null, .null])) :: (q5, .inl (G.2 0, 8, .inl (fun _ => 0))) :: (T7 ++ [(q37, .inl (G.2 1, 305, .inr (.inl (fun _ => 0))))])) H := hP
    have hD : va_D A ((h0, .inr (6, [.ref q5, .ref q9, .ref q13, .int 0, .ref q17, .int 0, .int 0, .int 0, .ref q21, .ref q25, .ref q29, .ref q33, .null, .null, .null, .int 0, .int 0, .int 0, .int 0, .null, .null, .null, .null, .null, .null, .null, .null])) :: (q5, .inl (G.2 0, 8, .inl (fun _ => 0))) :: (T7 ++ [(q37, .inl (G.2 1, 305, .inr (.inl (fun _ => 0))))])) := hD
    generalize hT8 : ((T7 ++ [(q37, .inl (G.2 1, 305, .inr (.inl (fun _ => 0))))]) : va_W) = T8 at hP hD
    refine gn_put (C := RX6) (T := TX6) (ty0 := tyX6) (N := 27) (ci := 6) (k := 12) (ty := tyX6 12) (v := .ref q37) X hnm hP hD hS rfl inT_6 tyX6_ok nmX6 (by decide) q_550 rfl rfl (by decide +kernel) (by first | rfl | decide) (by first | rfl | decide) (by show 12 < 27; decide) dX6_init_75 (fun H locs hP hD hS => ?_)
    have hP : va_P G.1 vwCl ((h0, .inr (6, [.ref q5, .ref q9, .ref q13, .int 0, .ref q17, .int 0, .int 0, .int 0, .ref q21, .ref q25, .ref q29, .ref q33, .ref q37, .null, .null, .int 0, .int 0, .int 0, .int 0, .null, .null, .null, .null, .null, .null, .null, .null])) :: (q5, .inl (G.2 0, 8, .inl (fun _ => 0))) :: T8) H := hP
    have hD : va_D A ((h0, .inr (6, [.ref q5, .ref q9, .ref q13, .int 0, .ref q17, .int 0, .int 0, .int 0, .ref q21, .ref q25, .ref q29, .ref q33, .ref q37, .null, .null, .int 0, .int 0, .int 0, .int 0, .null, .null, .null, .null, .null, .null, .null, .null])) :: (q5, .inl (G.2 0, 8, .inl (fun _ => 0))) :: T8) := hD
    refine lv_aload_n hx hb dX6_init_78 rfl (lv_at hl 0 rfl) ?_
    refine lv_bipush (v := 10) hx hb dX6_init_79 (by decide) ?_
    refine gn_newI (N := 10) X hA hP hD hS q_78 (by decide) (by decide) (Nat.le_of_ble_eq_true rfl) (Nat.le_of_ble_eq_true rfl) (Nat.le_of_ble_eq_true rfl) dX6_init_81 (fun q41 H hP hD hS => ?_)
    have hP : va_P G.1 vwCl ((h0, .inr (6, [.ref q5, .ref q9, .ref q13, .int 0, .ref q17, .int 0, .int 0, .int 0, .ref q21, .ref q25, .ref q29, .ref q33, .ref q37, .null, .null, .int 0, .int 0, .int 0, .int 0, .null, .null, .null, .null, .null, .null, .null, .null])) :: (q5, .inl (G.2 0, 8, .inl (fun _ => 0))) :: (T8 ++ [(q41, .inl (G.2 0, 10, .inl (fun _ => 0)))])) H := hP
    have hD : va_D A ((h0, .inr (6, [.ref q5, .ref q9, .ref q13, .int 0, .ref q17, .int 0, .int 0, .int 0, .ref q21, .ref q25, .ref q29, .ref q33, .ref q37, .null, .null, .int 0, .int 0, .int 0, .int 0, .null, .null, .null, .null, .null, .null, .null, .null])) :: (q5, .inl (G.2 0, 8, .inl (fun _ => 0))) :: (T8 ++ [(q41, .inl (G.2 0, 10, .inl (fun _ => 0)))])) := hD
    generalize hT9 : ((T8 ++ [(q41, .inl (G.2 0, 10, .inl (fun _ => 0)))]) : va_W) = T9 at hP hD
    refine gn_put (C := RX6) (T := TX6) (ty0 := tyX6) (N := 27) (ci := 6) (k := 13) (ty := tyX6 13) (v := .ref q41) X hnm hP hD hS rfl inT_6 tyX6_ok nmX6 (by decide) q_551 rfl rfl (by decide +kernel) (by first | rfl | decide) (by first | rfl | decide) (by show 13 < 27; decide) dX6_init_83 (fun H locs hP hD hS => ?_)
    have hP : va_P G.1 vwCl ((h0, .inr (6, [.ref q5, .ref q9, .ref q13, .int 0, .ref q17, .int 0, .int 0, .int 0, .ref q21, .ref q25, .ref q29, .ref q33, .ref q37, .ref q41, .null, .int 0, .int 0, .int 0, .int 0, .null, .null, .null, .null, .null, .null, .null, .null])) :: (q5, .inl (G.2 0, 8, .inl (fun _ => 0))) :: T9) H := hP
    have hD : va_D A ((h0, .inr (6, [.ref q5, .ref q9, .ref q13, .int 0, .ref q17, .int 0, .int 0, .int 0, .ref q21, .ref q25, .ref q29, .ref q33, .ref q37, .ref q41, .null, .int 0, .int 0, .int 0, .int 0, .null, .null, .null, .null, .null, .null, .null, .null])) :: (q5, .inl (G.2 0, 8, .inl (fun _ => 0))) :: T9) := hD
    refine lv_aload_n hx hb dX6_init_86 rfl (lv_at hl 0 rfl) ?_
    refine lv_bipush (v := 10) hx hb dX6_init_87 (by decide) ?_
    refine gn_newI (N := 10) X hA hP hD hS q_78 (by decide) (by decide) (Nat.le_of_ble_eq_true rfl) (Nat.le_of_ble_eq_true rfl) (Nat.le_of_ble_eq_true rfl) dX6_init_89 (fun q45 H hP hD hS => ?_)
    have hP : va_P G.1 vwCl ((h0, .inr (6, [.ref q5, .ref q9, .ref q13, .int 0, .ref q17, .int 0, .int 0, .int 0, .ref q21, .ref q25, .ref q29, .ref q33, .ref q37, .ref q41, .null, .int 0, .int 0, .int 0, .int 0, .null, .null, .null, .null, .null, .null, .null, .null])) :: (q5, .inl (G.2 0, 8, .inl (fun _ => 0))) :: (T9 ++ [(q45, .inl (G.2 0, 10, .inl (fun _ => 0)))])) H := hP
    have hD : va_D A ((h0, .inr (6, [.ref q5, .ref q9, .ref q13, .int 0, .ref q17, .int 0, .int 0, .int 0, .ref q21, .ref q25, .ref q29, .ref q33, .ref q37, .ref q41, .null, .int 0, .int 0, .int 0, .int 0, .null, .null, .null, .null, .null, .null, .null, .null])) :: (q5, .inl (G.2 0, 8, .inl (fun _ => 0))) :: (T9 ++ [(q45, .inl (G.2 0, 10, .inl (fun _ => 0)))])) := hD
    generalize hT10 : ((T9 ++ [(q45, .inl (G.2 0, 10, .inl (fun _ => 0)))]) : va_W) = T10 at hP hD
    refine gn_put (C := RX6) (T := TX6) (ty0 := tyX6) (N := 27) (ci := 6) (k := 14) (ty := tyX6 14) (v := .ref q45) X hnm hP hD hS rfl inT_6 tyX6_ok nmX6 (by decide) q_552 rfl rfl (by decide +kernel) (by first | rfl | decide) (by first | rfl | decide) (by show 14 < 27; decide) dX6_init_91 (fun H locs hP hD hS => ?_)
    have hP : va_P G.1 vwCl ((h0, .inr (6, [.ref q5, .ref q9, .ref q13, .int 0, .ref q17, .int 0, .int 0, .int 0, .ref q21, .ref q25, .ref q29, .ref q33, .ref q37, .ref q41, .ref q45, .int 0, .int 0, .int 0, .int 0, .null, .null, .null, .null, .null, .null, .null, .null])) :: (q5, .inl (G.2 0, 8, .inl (fun _ => 0))) :: T10) H := hP
    have hD : va_D A ((h0, .inr (6, [.ref q5, .ref q9, .ref q13, .int 0, .ref q17, .int 0, .int 0, .int 0, .ref q21, .ref q25, .ref q29, .ref q33, .ref q37, .ref q41, .ref q45, .int 0, .int 0, .int 0, .int 0, .null, .null, .null, .null, .null, .null, .null, .null])) :: (q5, .inl (G.2 0, 8, .inl (fun _ => 0))) :: T10) := hD
    refine lv_aload_n hx hb dX6_init_94 rfl (lv_at hl 0 rfl) ?_
    refine lv_sipush (v := 1000) hx hb dX6_init_95 (by decide) ?_
    refine gn_put (C := RX6) (T := TX6) (ty0 := tyX6) (N := 27) (ci := 6) (k := 16) (ty := tyX6 16) (v := .int 1000) X hnm hP hD hS rfl inT_6 tyX6_ok nmX6 (by decide) q_554 rfl rfl (by decide +kernel) (by first | rfl | decide) (by first | rfl | decide) (by show 16 < 27; decide) dX6_init_98 (fun H locs hP hD hS => ?_)
    have hP : va_P G.1 vwCl ((h0, .inr (6, [.ref q5, .ref q9, .ref q13, .int 0, .ref q17, .int 0, .int 0, .int 0, .ref q21, .ref q25, .ref q29, .ref q33, .ref q37, .ref q41, .ref q45, .int 0, .int 1000, .int 0, .int 0, .null, .null, .null, .null, .null, .null, .null, .null])) :: (q5, .inl (G.2 0, 8, .inl (fun _ => 0))) :: T10) H := hP
    have hD : va_D A ((h0, .inr (6, [.ref q5, .ref q9, .ref q13, .int 0, .ref q17, .int 0, .int 0, .int 0, .ref q21, .ref q25, .ref q29, .ref q33, .ref q37, .ref q41, .ref q45, .int 0, .int 1000, .int 0, .int 0, .null, .null, .null, .null, .null, .null, .null, .null])) :: (q5, .inl (G.2 0, 8, .inl (fun _ => 0))) :: T10) := hD
    refine lv_aload_n hx hb dX6_init_101 rfl (lv_at hl 0 rfl) ?_
    refine lv_sipush (v := 19520) hx hb dX6_init_102 (by decide) ?_
    refine gn_newJ (N := 19520) X hA hP hD hS q_137 (by decide) (by decide) (Nat.le_of_ble_eq_true rfl) (Nat.le_of_ble_eq_true rfl) (Nat.le_of_ble_eq_true rfl) dX6_init_105 (fun q52 H hP hD hS => ?_)
    have hP : va_P G.1 vwCl ((h0, .inr (6, [.ref q5, .ref q9, .ref q13, .int 0, .ref q17, .int 0, .int 0, .int 0, .ref q21, .ref q25, .ref q29, .ref q33, .ref q37, .ref q41, .ref q45, .int 0, .int 1000, .int 0, .int 0, .null, .null, .null, .null, .null, .null, .null, .null])) :: (q5, .inl (G.2 0, 8, .inl (fun _ => 0))) :: (T10 ++ [(q52, .inl (G.2 1, 19520, .inr (.inl (fun _ => 0))))])) H := hP
    have hD : va_D A ((h0, .inr (6, [.ref q5, .ref q9, .ref q13, .int 0, .ref q17, .int 0, .int 0, .int 0, .ref q21, .ref q25, .ref q29, .ref q33, .ref q37, .ref q41, .ref q45, .int 0, .int 1000, .int 0, .int 0, .null, .null, .null, .null, .null, .null, .null, .null])) :: (q5, .inl (G.2 0, 8, .inl (fun _ => 0))) :: (T10 ++ [(q52, .inl (G.2 1, 19520, .inr (.inl (fun _ => 0))))])) := hD
    generalize hT11 : ((T10 ++ [(q52, .inl (G.2 1, 19520, .inr (.inl (fun _ => 0))))]) : va_W) = T11 at hP hD
    refine gn_put (C := RX6) (T := TX6) (ty0 := tyX6) (N := 27) (ci := 6) (k := 19) (ty := tyX6 19) (v := .ref q52) X hnm hP hD hS rfl inT_6 tyX6_ok nmX6 (by decide) q_557 rfl rfl (by decide +kernel) (by first | rfl | decide) (by first | rfl | decide) (by show 19 < 27; decide) dX6_init_107 (fun H locs hP hD hS => ?_)
    have hP : va_P G.1 vwCl ((h0, .inr (6, [.ref q5, .ref q9, .ref q13, .int 0, .ref q17, .int 0, .int 0, .int 0, .ref q21, .ref q25, .ref q29, .ref q33, .ref q37, .ref q41, .ref q45, .int 0, .int 1000, .int 0, .int 0, .ref q52, .null, .null, .null, .null, .null, .null, .null])) :: (q5, .inl (G.2 0, 8, .inl (fun _ => 0))) :: T11) H := hP
    have hD : va_D A ((h0, .inr (6, [.ref q5, .ref q9, .ref q13, .int 0, .ref q17, .int 0, .int 0, .int 0, .ref q21, .ref q25, .ref q29, .ref q33, .ref q37, .ref q41, .ref q45, .int 0, .int 1000, .int 0, .int 0, .ref q52, .null, .null, .null, .null, .null, .null, .null])) :: (q5, .inl (G.2 0, 8, .inl (fun _ => 0))) :: T11) := hD
    refine lv_aload_n hx hb dX6_init_110 rfl (lv_at hl 0 rfl) ?_
    refine lv_sipush (v := 1525) hx hb dX6_init_111 (by decide) ?_
    refine gn_newJ (N := 1525) X hA hP hD hS q_137 (by decide) (by decide) (Nat.le_of_ble_eq_true rfl) (Nat.le_of_ble_eq_true rfl) (Nat.le_of_ble_eq_true rfl) dX6_init_114 (fun q56 H hP hD hS => ?_)
    have hP : va_P G.1 vwCl ((h0, .inr (6, [.ref q5, .ref q9, .ref q13, .int 0, .ref q17, .int 0, .int 0, .int 0, .ref q21, .ref q25, .ref q29, .ref q33, .ref q37, .ref q41, .ref q45, .int 0, .int 1000, .int 0, .int 0, .ref q52, .null, .null, .null, .null, .null, .null, .null])) :: (q5, .inl (G.2 0, 8, .inl (fun _ => 0))) :: (T11 ++ [(q56, .inl (G.2 1, 1525, .inr (.inl (fun _ => 0))))])) H := hP
    have hD : va_D A ((h0, .inr (6, [.ref q5, .ref q9, .ref q13, .int 0, .ref q17, .int 0, .int 0, .int 0, .ref q21, .ref q25, .ref q29, .ref q33, .ref q37, .ref q41, .ref q45, .int 0, .int 1000, .int 0, .int 0, .ref q52, .null, .null, .null, .null, .null, .null, .null])) :: (q5, .inl (G.2 0, 8, .inl (fun _ => 0))) :: (T11 ++ [(q56, .inl (G.2 1, 1525, .inr (.inl (fun _ => 0))))])) := hD
    generalize hT12 : ((T11 ++ [(q56, .inl (G.2 1, 1525, .inr (.inl (fun _ => 0))))]) : va_W) = T12 at hP hD
    refine gn_put (C := RX6) (T := TX6) (ty0 := tyX6) (N := 27) (ci := 6) (k := 20) (ty := tyX6 20) (v := .ref q56) X hnm hP hD hS rfl inT_6 tyX6_ok nmX6 (by decide) q_558 rfl rfl (by decide +kernel) (by first | rfl | decide) (by first | rfl | decide) (by show 20 < 27; decide) dX6_init_116 (fun H locs hP hD hS => ?_)
    have hP : va_P G.1 vwCl ((h0, .inr (6, [.ref q5, .ref q9, .ref q13, .int 0, .ref q17, .int 0, .int 0, .int 0, .ref q21, .ref q25, .ref q29, .ref q33, .ref q37, .ref q41, .ref q45, .int 0, .int 1000, .int 0, .int 0, .ref q52, .ref q56, .null, .null, .null, .null, .null, .null])) :: (q5, .inl (G.2 0, 8, .inl (fun _ => 0))) :: T12) H := hP
    have hD : va_D A ((h0, .inr (6, [.ref q5, .ref q9, .ref q13, .int 0, .ref q17, .int 0, .int 0, .int 0, .ref q21, .ref q25, .ref q29, .ref q33, .ref q37, .ref q41, .ref q45, .int 0, .int 1000, .int 0, .int 0, .ref q52, .ref q56, .null, .null, .null, .null, .null, .null])) :: (q5, .inl (G.2 0, 8, .inl (fun _ => 0))) :: T12) := hD
    refine lv_aload_n hx hb dX6_init_119 rfl (lv_at hl 0 rfl) ?_
    refine lv_sipush (v := 256) hx hb dX6_init_120 (by decide) ?_
    refine gn_newJ (N := 256) X hA hP hD hS q_137 (by decide) (by decide) (Nat.le_of_ble_eq_true rfl) (Nat.le_of_ble_eq_true rfl) (Nat.le_of_ble_eq_true rfl) dX6_init_123 (fun q60 H hP hD hS => ?_)
    have hP : va_P G.1 vwCl ((h0, .inr (6, [.ref q5, .ref q9, .ref q13, .int 0, .ref q17, .int 0, .int 0, .int 0, .ref q21, .ref q25, .ref q29, .ref q33, .ref q37, .ref q41, .ref q45, .int 0, .int 1000, .int 0, .int 0, .ref q52, .ref q56, .null, .null, .null, .null, .null, .null])) :: (q5, .inl (G.2 0, 8, .inl (fun _ => 0))) :: (T12 ++ [(q60, .inl (G.2 1, 256, .inr (.inl (fun _ => 0))))])) H := hP
    have hD : va_D A ((h0, .inr (6, [.ref q5, .ref q9, .ref q13, .int 0, .ref q17, .int 0, .int 0, .int 0, .ref q21, .ref q25, .ref q29, .ref q33, .ref q37, .ref q41, .ref q45, .int 0, .int 1000, .int 0, .int 0, .ref q52, .ref q56, .null, .null, .null, .null, .null, .null])) :: (q5, .inl (G.2 0, 8, .inl (fun _ => 0))) :: (T12 ++ [(q60, .inl (G.2 1, 256, .inr (.inl (fun _ => 0))))])) := hD
    generalize hT13 : ((T12 ++ [(q60, .inl (G.2 1, 256, .inr (.inl (fun _ => 0))))]) : va_W) = T13 at hP hD
    refine gn_put (C := RX6) (T := TX6) (ty0 := tyX6) (N := 27) (ci := 6) (k := 21) (ty := tyX6 21) (v := .ref q60) X hnm hP hD hS rfl inT_6 tyX6_ok nmX6 (by decide) q_559 rfl rfl (by decide +kernel) (by first | rfl | decide) (by first | rfl | decide) (by show 21 < 27; decide) dX6_init_125 (fun H locs hP hD hS => ?_)
    have hP : va_P G.1 vwCl ((h0, .inr (6, [.ref q5, .ref q9, .ref q13, .int 0, .ref q17, .int 0, .int 0, .int 0, .ref q21, .ref q25, .ref q29, .ref q33, .ref q37, .ref q41, .ref q45, .int 0, .int 1000, .int 0, .int 0, .ref q52, .ref q56, .ref q60, .null, .null, .null, .null, .null])) :: (q5, .inl (G.2 0, 8, .inl (fun _ => 0))) :: T13) H := hP
    have hD : va_D A ((h0, .inr (6, [.ref q5, .ref q9, .ref q13, .int 0, .ref q17, .int 0, .int 0, .int 0, .ref q21, .ref q25, .ref q29, .ref q33, .ref q37, .ref q41, .ref q45, .int 0, .int 1000, .int 0, .int 0, .ref q52, .ref q56, .ref q60, .null, .null, .null, .null, .null])) :: (q5, .inl (G.2 0, 8, .inl (fun _ => 0))) :: T13) := hD
    refine lv_aload_n hx hb dX6_init_128 rfl (lv_at hl 0 rfl) ?_
    refine lv_sipush (v := 3904) hx hb dX6_init_129 (by decide) ?_
    refine gn_newJ (N := 3904) X hA hP hD hS q_137 (by decide) (by decide) (Nat.le_of_ble_eq_true rfl) (Nat.le_of_ble_eq_true rfl) (Nat.le_of_ble_eq_true rfl) dX6_init_132 (fun q64 H hP hD hS => ?_)
    have hP : va_P G.1 vwCl ((h0, .inr (6, [.ref q5, .ref q9, .ref q13, .int 0, .ref q17, .int 0, .int 0, .int 0, .ref q21, .ref q25, .ref q29, .ref q33, .ref q37, .ref q41, .ref q45, .int 0, .int 1000, .int 0, .int 0, .ref q52, .ref q56, .ref q60, .null, .null, .null, .null, .null])) :: (q5, .inl (G.2 0, 8, .inl (fun _ => 0))) :: (T13 ++ [(q64, .inl (G.2 1, 3904, .inr (.inl (fun _ => 0))))])) H := hP
    have hD : va_D A ((h0, .inr (6, [.ref q5, .ref q9, .ref q13, .int 0, .ref q17, .int 0, .int 0, .int 0, .ref q21, .ref q25, .ref q29, .ref q33, .ref q37, .ref q41, .ref q45, .int 0, .int 1000, .int 0, .int 0, .ref q52, .ref q56, .ref q60, .null, .null, .null, .null, .null])) :: (q5, .inl (G.2 0, 8, .inl (fun _ => 0))) :: (T13 ++ [(q64, .inl (G.2 1, 3904, .inr (.inl (fun _ => 0))))])) := hD
    generalize hT14 : ((T13 ++ [(q64, .inl (G.2 1, 3904, .inr (.inl (fun _ => 0))))]) : va_W) = T14 at hP hD
    refine gn_put (C := RX6) (T := TX6) (ty0 := tyX6) (N := 27) (ci := 6) (k := 22) (ty := tyX6 22) (v := .ref q64) X hnm hP hD hS rfl inT_6 tyX6_ok nmX6 (by decide) q_560 rfl rfl (by decide +kernel) (by first | rfl | decide) (by first | rfl | decide) (by show 22 < 27; decide) dX6_init_134 (fun H locs hP hD hS => ?_)
    have hP : va_P G.1 vwCl ((h0, .inr (6, [.ref q5, .ref q9, .ref q13, .int 0, .ref q17, .int 0, .int 0, .int 0, .ref q21, .ref q25, .ref q29, .ref q33, .ref q37, .ref q41, .ref q45, .int 0, .int 1000, .int 0, .int 0, .ref q52, .ref q56, .ref q60, .ref q64, .null, .null, .null, .null])) :: (q5, .inl (G.2 0, 8, .inl (fun _ => 0))) :: T14) H := hP
    have hD : va_D A ((h0, .inr (6, [.ref q5, .ref q9, .ref q13, .int 0, .ref q17, .int 0, .int 0, .int 0, .ref q21, .ref q25, .ref q29, .ref q33, .ref q37, .ref q41, .ref q45, .int 0, .int 1000, .int 0, .int 0, .ref q52, .ref q56, .ref q60, .ref q64, .null, .null, .null, .null])) :: (q5, .inl (G.2 0, 8, .inl (fun _ => 0))) :: T14) := hD
    refine lv_aload_n hx hb dX6_init_137 rfl (lv_at hl 0 rfl) ?_
    refine lv_sipush (v := 3904) hx hb dX6_init_138 (by decide) ?_
    refine gn_newJ (N := 3904) X hA hP hD hS q_137 (by decide) (by decide) (Nat.le_of_ble_eq_true rfl) (Nat.le_of_ble_eq_true rfl) (Nat.le_of_ble_eq_true rfl) dX6_init_141 (fun q68 H hP hD hS => ?_)
    have hP : va_P G.1 vwCl ((h0, .inr (6, [.ref q5, .ref q9, .ref q13, .int 0, .ref q17, .int 0, .int 0, .int 0, .ref q21, .ref q25, .ref q29, .ref q33, .ref q37, .ref q41, .ref q45, .int 0, .int 1000, .int 0, .int 0, .ref q52, .ref q56, .ref q60, .ref q64, .null, .null, .null, .null])) :: (q5, .inl (G.2 0, 8, .inl (fun _ => 0))) :: (T14 ++ [(q68, .inl (G.2 1, 3904, .inr (.inl (fun _ => 0))))])) H := hP
    have hD : va_D A ((h0, .inr (6, [.ref q5, .ref q9, .ref q13, .int 0, .ref q17, .int 0, .int 0, .int 0, .ref q21, .ref q25, .ref q29, .ref q33, .ref q37, .ref q41, .ref q45, .int 0, .int 1000, .int 0, .int 0, .ref q52, .ref q56, .ref q60, .ref q64, .null, .null, .null, .null])) :: (q5, .inl (G.2 0, 8, .inl (fun _ => 0))) :: (T14 ++ [(q68, .inl (G.2 1, 3904, .inr (.inl (fun _ => 0))))])) := hD
    generalize hT15 : ((T14 ++ [(q68, .inl (G.2 1, 3904, .inr (.inl (fun _ => 0))))]) : va_W) = T15 at hP hD
    refine gn_put (C := RX6) (T := TX6) (ty0 := tyX6) (N := 27) (ci := 6) (k := 23) (ty := tyX6 23) (v := .ref q68) X hnm hP hD hS rfl inT_6 tyX6_ok nmX6 (by decide) q_561 rfl rfl (by decide +kernel) (by first | rfl | decide) (by first | rfl | decide) (by show 23 < 27; decide) dX6_init_143 (fun H locs hP hD hS => ?_)
    have hP : va_P G.1 vwCl ((h0, .inr (6, [.ref q5, .ref q9, .ref q13, .int 0, .ref q17, .int 0, .int 0, .int 0, .ref q21, .ref q25, .ref q29, .ref q33, .ref q37, .ref q41, .ref q45, .int 0, .int 1000, .int 0, .int 0, .ref q52, .ref q56, .ref q60, .ref q64, .ref q68, .null, .null, .null])) :: (q5, .inl (G.2 0, 8, .inl (fun _ => 0))) :: T15) H := hP
    have hD : va_D A ((h0, .inr (6, [.ref q5, .ref q9, .ref q13, .int 0, .ref q17, .int 0, .int 0, .int 0, .ref q21, .ref q25, .ref q29, .ref q33, .ref q37, .ref q41, .ref q45, .int 0, .int 1000, .int 0, .int 0, .ref q52, .ref q56, .ref q60, .ref q64, .ref q68, .null, .null, .null])) :: (q5, .inl (G.2 0, 8, .inl (fun _ => 0))) :: T15) := hD
    refine lv_aload_n hx hb dX6_init_146 rfl (lv_at hl 0 rfl) ?_
    refine lv_bipush (v := 64) hx hb dX6_init_147 (by decide) ?_
    refine gn_newI (N := 64) X hA hP hD hS q_78 (by decide) (by decide) (Nat.le_of_ble_eq_true rfl) (Nat.le_of_ble_eq_true rfl) (Nat.le_of_ble_eq_true rfl) dX6_init_149 (fun q72 H hP hD hS => ?_)
    have hP : va_P G.1 vwCl ((h0, .inr (6, [.ref q5, .ref q9, .ref q13, .int 0, .ref q17, .int 0, .int 0, .int 0, .ref q21, .ref q25, .ref q29, .ref q33, .ref q37, .ref q41, .ref q45, .int 0, .int 1000, .int 0, .int 0, .ref q52, .ref q56, .ref q60, .ref q64, .ref q68, .null, .null, .null])) :: (q5, .inl (G.2 0, 8, .inl (fun _ => 0))) :: (T15 ++ [(q72, .inl (G.2 0, 64, .inl (fun _ => 0)))])) H := hP
    have hD : va_D A ((h0, .inr (6, [.ref q5, .ref q9, .ref q13, .int 0, .ref q17, .int 0, .int 0, .int 0, .ref q21, .ref q25, .ref q29, .ref q33, .ref q37, .ref q41, .ref q45, .int 0, .int 1000, .int 0, .int 0, .ref q52, .ref q56, .ref q60, .ref q64, .ref q68, .null, .null, .null])) :: (q5, .inl (G.2 0, 8, .inl (fun _ => 0))) :: (T15 ++ [(q72, .inl (G.2 0, 64, .inl (fun _ => 0)))])) := hD
    generalize hT16 : ((T15 ++ [(q72, .inl (G.2 0, 64, .inl (fun _ => 0)))]) : va_W) = T16 at hP hD
    refine gn_put (C := RX6) (T := TX6) (ty0 := tyX6) (N := 27) (ci := 6) (k := 24) (ty := tyX6 24) (v := .ref q72) X hnm hP hD hS rfl inT_6 tyX6_ok nmX6 (by decide) q_562 rfl rfl (by decide +kernel) (by first | rfl | decide) (by first | rfl | decide) (by show 24 < 27; decide) dX6_init_151 (fun H locs hP hD hS => ?_)
    have hP : va_P G.1 vwCl ((h0, .inr (6, [.ref q5, .ref q9, .ref q13, .int 0, .ref q17, .int 0, .int 0, .int 0, .ref q21, .ref q25, .ref q29, .ref q33, .ref q37, .ref q41, .ref q45, .int 0, .int 1000, .int 0, .int 0, .ref q52, .ref q56, .ref q60, .ref q64, .ref q68, .ref q72, .null, .null])) :: (q5, .inl (G.2 0, 8, .inl (fun _ => 0))) :: T16) H := hP
    have hD : va_D A ((h0, .inr (6, [.ref q5, .ref q9, .ref q13, .int 0, .ref q17, .int 0, .int 0, .int 0, .ref q21, .ref q25, .ref q29, .ref q33, .ref q37, .ref q41, .ref q45, .int 0, .int 1000, .int 0, .int 0, .ref q52, .ref q56, .ref q60, .ref q64, .ref q68, .ref q72, .null, .null])) :: (q5, .inl (G.2 0, 8, .inl (fun _ => 0))) :: T16) := hD
    refine lv_aload_n hx hb dX6_init_154 rfl (lv_at hl 0 rfl) ?_
    refine lv_bipush (v := 64) hx hb dX6_init_155 (by decide) ?_
    refine gn_newI (N := 64) X hA hP hD hS q_78 (by decide) (by decide) (Nat.le_of_ble_eq_true rfl) (Nat.le_of_ble_eq_true rfl) (Nat.le_of_ble_eq_true rfl) dX6_init_157 (fun q76 H hP hD hS => ?_)
    have hP : va_P G.1 vwCl ((h0, .inr (6, [.ref q5, .ref q9, .ref q13, .int 0, .ref q17, .int 0, .int 0, .int 0, .ref q21, .ref q25, .ref q29, .ref q33, .ref q37, .ref q41, .ref q45, .int 0, .int 1000, .int 0, .int 0, .ref q52, .ref q56, .ref q60, .ref q64, .ref q68, .ref q72, .null, .null])) :: (q5, .inl (G.2 0, 8, .inl (fun _ => 0))) :: (T16 ++ [(q76, .inl (G.2 0, 64, .inl (fun _ => 0)))])) H := hP
    have hD : va_D A ((h0, .inr (6, [.ref q5, .ref q9, .ref q13, .int 0, .ref q17, .int 0, .int 0, .int 0, .ref q21, .ref q25, .ref q29, .ref q33, .ref q37, .ref q41, .ref q45, .int 0, .int 1000, .int 0, .int 0, .ref q52, .ref q56, .ref q60, .ref q64, .ref q68, .ref q72, .null, .null])) :: (q5, .inl (G.2 0, 8, .inl (fun _ => 0))) :: (T16 ++ [(q76, .inl (G.2 0, 64, .inl (fun _ => 0)))])) := hD
    generalize hT17 : ((T16 ++ [(q76, .inl (G.2 0, 64, .inl (fun _ => 0)))]) : va_W) = T17 at hP hD
    refine gn_put (C := RX6) (T := TX6) (ty0 := tyX6) (N := 27) (ci := 6) (k := 25) (ty := tyX6 25) (v := .ref q76) X hnm hP hD hS rfl inT_6 tyX6_ok nmX6 (by decide) q_563 rfl rfl (by decide +kernel) (by first | rfl | decide) (by first | rfl | decide) (by show 25 < 27; decide) dX6_init_159 (fun H locs hP hD hS => ?_)
    have hP : va_P G.1 vwCl ((h0, .inr (6, [.ref q5, .ref q9, .ref q13, .int 0, .ref q17, .int 0, .int 0, .int 0, .ref q21, .ref q25, .ref q29, .ref q33, .ref q37, .ref q41, .ref q45, .int 0, .int 1000, .int 0, .int 0, .ref q52, .ref q56, .ref q60, .ref q64, .ref q68, .ref q72, .ref q76, .null])) :: (q5, .inl (G.2 0, 8, .inl (fun _ => 0))) :: T17) H := hP
    have hD : va_D A ((h0, .inr (6, [.ref q5, .ref q9, .ref q13, .int 0, .ref q17, .int 0, .int 0, .int 0, .ref q21, .ref q25, .ref q29, .ref q33, .ref q37, .ref q41, .ref q45, .int 0, .int 1000, .int 0, .int 0, .ref q52, .ref q56, .ref q60, .ref q64, .ref q68, .ref q72, .ref q76, .null])) :: (q5, .inl (G.2 0, 8, .inl (fun _ => 0))) :: T17) := hD
    refine lv_aload_n hx hb dX6_init_162 rfl (lv_at hl 0 rfl) ?_
    refine lv_bipush (v := 64) hx hb dX6_init_163 (by decide) ?_
    refine gn_newI (N := 64) X hA hP hD hS q_78 (by decide) (by decide) (Nat.le_of_ble_eq_true rfl) (Nat.le_of_ble_eq_true rfl) (Nat.le_of_ble_eq_true rfl) dX6_init_165 (fun q80 H hP hD hS => ?_)
    have hP : va_P G.1 vwCl ((h0, .inr (6, [.ref q5, .ref q9, .ref q13, .int 0, .ref q17, .int 0, .int 0, .int 0, .ref q21, .ref q25, .ref q29, .ref q33, .ref q37, .ref q41, .ref q45, .int 0, .int 1000, .int 0, .int 0, .ref q52, .ref q56, .ref q60, .ref q64, .ref q68, .ref q72, .ref q76, .null])) :: (q5, .inl (G.2 0, 8, .inl (fun _ => 0))) :: (T17 ++ [(q80, .inl (G.2 0, 64, .inl (fun _ => 0)))])) H := hP
    have hD : va_D A ((h0, .inr (6, [.ref q5, .ref q9, .ref q13, .int 0, .ref q17, .int 0, .int 0, .int 0, .ref q21, .ref q25, .ref q29, .ref q33, .ref q37, .ref q41, .ref q45, .int 0, .int 1000, .int 0, .int 0, .ref q52, .ref q56, .ref q60, .ref q64, .ref q68, .ref q72, .ref q76, .null])) :: (q5, .inl (G.2 0, 8, .inl (fun _ => 0))) :: (T17 ++ [(q80, .inl (G.2 0, 64, .inl (fun _ => 0)))])) := hD
    generalize hT18 : ((T17 ++ [(q80, .inl (G.2 0, 64, .inl (fun _ => 0)))]) : va_W) = T18 at hP hD
    refine gn_put (C := RX6) (T := TX6) (ty0 := tyX6) (N := 27) (ci := 6) (k := 26) (ty := tyX6 26) (v := .ref q80) X hnm hP hD hS rfl inT_6 tyX6_ok nmX6 (by decide) q_564 rfl rfl (by decide +kernel) (by first | rfl | decide) (by first | rfl | decide) (by show 26 < 27; decide) dX6_init_167 (fun H locs hP hD hS => ?_)
    have hP : va_P G.1 vwCl ((h0, .inr (6, [.ref q5, .ref q9, .ref q13, .int 0, .ref q17, .int 0, .int 0, .int 0, .ref q21, .ref q25, .ref q29, .ref q33, .ref q37, .ref q41, .ref q45, .int 0, .int 1000, .int 0, .int 0, .ref q52, .ref q56, .ref q60, .ref q64, .ref q68, .ref q72, .ref q76, .ref q80])) :: (q5, .inl (G.2 0, 8, .inl (fun _ => 0))) :: T18) H := hP
    have hD : va_D A ((h0, .inr (6, [.ref q5, .ref q9, .ref q13, .int 0, .ref q17, .int 0, .int 0, .int 0, .ref q21, .ref q25, .ref q29, .ref q33, .ref q37, .ref q41, .ref q45, .int 0, .int 1000, .int 0, .int 0, .ref q52, .ref q56, .ref q60, .ref q64, .ref q68, .ref q72, .ref q76, .ref q80])) :: (q5, .inl (G.2 0, 8, .inl (fun _ => 0))) :: T18) := hD
    refine lv_iconst (v := 0) hx hb dX6_init_170 (by decide) ?_
    refine lv_istore_n (lv' := [(1, .int 0), (0, .ref h0)]) hx hb dX6_init_171 rfl hl (by decide) rfl (fun ls hl => ?_)
    refine lv_iload_n hx hb dX6_init_172 rfl (lv_at hl 0 rfl) ?_
    refine lv_bipush (v := 8) hx hb dX6_init_173 (by decide) ?_
    refine lv_icmp_ge (tgt := 192) hx hb dX6_init_175 (by decide) (fun c_ => absurd c_ (by decide)) (fun _ => ?_)
    refine lv_aload_n hx hb dX6_init_178 rfl (lv_at hl 1 rfl) ?_
    refine gn_get (C := RX6) (T := TX6) (N := 27) (ci := 6) (k := 0) X hP rfl inT_6 (by decide) q_538 rfl rfl dX6_init_179 ?_
    refine lv_iload_n hx hb dX6_init_182 rfl (lv_at hl 0 rfl) ?_
    refine lv_bipush (v := -9) hx hb dX6_init_183 (by decide) ?_
    refine gn_iast X hP hD hS (by unfold vp_in; decide) dX6_init_185 (fun H locs hP hD hS => ?_)
    have hP : va_P G.1 vwCl ((h0, .inr (6, [.ref q5, .ref q9, .ref q13, .int 0, .ref q17, .int 0, .int 0, .int 0, .ref q21, .ref q25, .ref q29, .ref q33, .ref q37, .ref q41, .ref q45, .int 0, .int 1000, .int 0, .int 0, .ref q52, .ref q56, .ref q60, .ref q64, .ref q68, .ref q72, .ref q76, .ref q80])) :: (q5, .inl (G.2 0, 8, .inl (upd (fun _ => 0) (Int32.toNatClampNeg 0) (-9)))) :: T18) H := hP
    have hD : va_D A ((h0, .inr (6, [.ref q5, .ref q9, .ref q13, .int 0, .ref q17, .int 0, .int 0, .int 0, .ref q21, .ref q25, .ref q29, .ref q33, .ref q37, .ref q41, .ref q45, .int 0, .int 1000, .int 0, .int 0, .ref q52, .ref q56, .ref q60, .ref q64, .ref q68, .ref q72, .ref q76, .ref q80])) :: (q5, .inl (G.2 0, 8, .inl (upd (fun _ => 0) (Int32.toNatClampNeg 0) (-9)))) :: T18) := hD
    refine lv_iinc (v := 1) (lv' := [(1, .int 1), (0, .ref h0)]) hx hb dX6_init_186 hl (k := 0) rfl (by decide) (by decide) rfl (fun ls hl => ?_)
    refine lv_goto (tgt := 172) hx hb dX6_init_189 (by decide) ?_
    refine lv_iload_n hx hb dX6_init_172 rfl (lv_at hl 0 rfl) ?_
    refine lv_bipush (v := 8) hx hb dX6_init_173 (by decide) ?_
    refine lv_icmp_ge (tgt := 192) hx hb dX6_init_175 (by decide) (fun c_ => absurd c_ (by decide)) (fun _ => ?_)
    refine lv_aload_n hx hb dX6_init_178 rfl (lv_at hl 1 rfl) ?_
    refine gn_get (C := RX6) (T := TX6) (N := 27) (ci := 6) (k := 0) X hP rfl inT_6 (by decide) q_538 rfl rfl dX6_init_179 ?_
    refine lv_iload_n hx hb dX6_init_182 rfl (lv_at hl 0 rfl) ?_
    refine lv_bipush (v := -9) hx hb dX6_init_183 (by decide) ?_
    refine gn_iast X hP hD hS (by unfold vp_in; decide) dX6_init_185 (fun H locs hP hD hS => ?_)
    have hP : va_P G.1 vwCl ((h0, .inr (6, [.ref q5, .ref q9, .ref q13, .int 0, .ref q17, .int 0, .int 0, .int 0, .ref q21, .ref q25, .ref q29, .ref q33, .ref q37, .ref q41, .ref q45, .int 0, .int 1000, .int 0, .int 0, .ref q52, .ref q56, .ref q60, .ref q64, .ref q68, .ref q72, .ref q76, .ref q80])) :: (q5, .inl (G.2 0, 8, .inl (upd (upd (fun _ => 0) (Int32.toNatClampNeg 0) (-9)) (Int32.toNatClampNeg 1) (-9)))) :: T18) H := hP
    have hD : va_D A ((h0, .inr (6, [.ref q5, .ref q9, .ref q13, .int 0, .ref q17, .int 0, .int 0, .int 0, .ref q21, .ref q25, .ref q29, .ref q33, .ref q37, .ref q41, .ref q45, .int 0, .int 1000, .int 0, .int 0, .ref q52, .ref q56, .ref q60, .ref q64, .ref q68, .ref q72, .ref q76, .ref q80])) :: (q5, .inl (G.2 0, 8, .inl (upd (upd (fun _ => 0) (Int32.toNatClampNeg 0) (-9)) (Int32.toNatClampNeg 1) (-9)))) :: T18) := hD
    refine lv_iinc (v := 2) (lv' := [(1, .int 2), (0, .ref h0)]) hx hb dX6_init_186 hl (k := 0) rfl (by decide) (by decide) rfl (fun ls hl => ?_)
    refine lv_goto (tgt := 172) hx hb dX6_init_189 (by decide) ?_
    refine lv_iload_n hx hb dX6_init_172 rfl (lv_at hl 0 rfl) ?_
    refine lv_bipush (v := 8) hx hb dX6_init_173 (by decide) ?_
    refine lv_icmp_ge (tgt := 192) hx hb dX6_init_175 (by decide) (fun c_ => absurd c_ (by decide)) (fun _ => ?_)
    refine lv_aload_n hx hb dX6_init_178 rfl (lv_at hl 1 rfl) ?_
    refine gn_get (C := RX6) (T := TX6) (N := 27) (ci := 6) (k := 0) X hP rfl inT_6 (by decide) q_538 rfl rfl dX6_init_179 ?_
    refine lv_iload_n hx hb dX6_init_182 rfl (lv_at hl 0 rfl) ?_
    refine lv_bipush (v := -9) hx hb dX6_init_183 (by decide) ?_
    refine gn_iast X hP hD hS (by unfold vp_in; decide) dX6_init_185 (fun H locs hP hD hS => ?_)
    have hP : va_P G.1 vwCl ((h0, .inr (6, [.ref q5, .ref q9, .ref q13, .int 0, .ref q17, .int 0, .int 0, .int 0, .ref q21, .ref q25, .ref q29, .ref q33, .ref q37, .ref q41, .ref q45, .int 0, .int 1000, .int 0, .int 0, .ref q52, .ref q56, .ref q60, .ref q64, .ref q68, .ref q72, .ref q76, .ref q80])) :: (q5, .inl (G.2 0, 8, .inl (upd (upd (upd (fun _ => 0) (Int32.toNatClampNeg 0) (-9)) (Int32.toNatClampNeg 1) (-9)) (Int32.toNatClampNeg 2) (-9)))) :: T18) H := hP
    have hD : va_D A ((h0, .inr (6, [.ref q5, .ref q9, .ref q13, .int 0, .ref q17, .int 0, .int 0, .int 0, .ref q21, .ref q25, .ref q29, .ref q33, .ref q37, .ref q41, .ref q45, .int 0, .int 1000, .int 0, .int 0, .ref q52, .ref q56, .ref q60, .ref q64, .ref q68, .ref q72, .ref q76, .ref q80])) :: (q5, .inl (G.2 0, 8, .inl (upd (upd (upd (fun _ => 0) (Int32.toNatClampNeg 0) (-9)) (Int32.toNatClampNeg 1) (-9)) (Int32.toNatClampNeg 2) (-9)))) :: T18) := hD
    refine lv_iinc (v := 3) (lv' := [(1, .int 3), (0, .ref h0)]) hx hb dX6_init_186 hl (k := 0) rfl (by decide) (by decide) rfl (fun ls hl => ?_)
    refine lv_goto (tgt := 172) hx hb dX6_init_189 (by decide) ?_
    refine lv_iload_n hx hb dX6_init_172 rfl (lv_at hl 0 rfl) ?_
    refine lv_bipush (v := 8) hx hb dX6_init_173 (by decide) ?_
    refine lv_icmp_ge (tgt := 192) hx hb dX6_init_175 (by decide) (fun c_ => absurd c_ (by decide)) (fun _ => ?_)
    refine lv_aload_n hx hb dX6_init_178 rfl (lv_at hl 1 rfl) ?_
    refine gn_get (C := RX6) (T := TX6) (N := 27) (ci := 6) (k := 0) X hP rfl inT_6 (by decide) q_538 rfl rfl dX6_init_179 ?_
    refine lv_iload_n hx hb dX6_init_182 rfl (lv_at hl 0 rfl) ?_
    refine lv_bipush (v := -9) hx hb dX6_init_183 (by decide) ?_
    refine gn_iast X hP hD hS (by unfold vp_in; decide) dX6_init_185 (fun H locs hP hD hS => ?_)
    have hP : va_P G.1 vwCl ((h0, .inr (6, [.ref q5, .ref q9, .ref q13, .int 0, .ref q17, .int 0, .int 0, .int 0, .ref q21, .ref q25, .ref q29, .ref q33, .ref q37, .ref q41, .ref q45, .int 0, .int 1000, .int 0, .int 0, .ref q52, .ref q56, .ref q60, .ref q64, .ref q68, .ref q72, .ref q76, .ref q80])) :: (q5, .inl (G.2 0, 8, .inl (upd (upd (upd (upd (fun _ => 0) (Int32.toNatClampNeg 0) (-9)) (Int32.toNatClampNeg 1) (-9)) (Int32.toNatClampNeg 2) (-9)) (Int32.toNatClampNeg 3) (-9)))) :: T18) H := hP
    have hD : va_D A ((h0, .inr (6, [.ref q5, .ref q9, .ref q13, .int 0, .ref q17, .int 0, .int 0, .int 0, .ref q21, .ref q25, .ref q29, .ref q33, .ref q37, .ref q41, .ref q45, .int 0, .int 1000, .int 0, .int 0, .ref q52, .ref q56, .ref q60, .ref q64, .ref q68, .ref q72, .ref q76, .ref q80])) :: (q5, .inl (G.2 0, 8, .inl (upd (upd (upd (upd (fun _ => 0) (Int32.toNatClampNeg 0) (-9)) (Int32.toNatClampNeg 1) (-9)) (Int32.toNatClampNeg 2) (-9)) (Int32.toNatClampNeg 3) (-9)))) :: T18) := hD
    refine lv_iinc (v := 4) (lv' := [(1, .int 4), (0, .ref h0)]) hx hb dX6_init_186 hl (k := 0) rfl (by decide) (by decide) rfl (fun ls hl => ?_)
    refine lv_goto (tgt := 172) hx hb dX6_init_189 (by decide) ?_
    refine lv_iload_n hx hb dX6_init_172 rfl (lv_at hl 0 rfl) ?_
    refine lv_bipush (v := 8) hx hb dX6_init_173 (by decide) ?_
    refine lv_icmp_ge (tgt := 192) hx hb dX6_init_175 (by decide) (fun c_ => absurd c_ (by decide)) (fun _ => ?_)
    refine lv_aload_n hx hb dX6_init_178 rfl (lv_at hl 1 rfl) ?_
    refine gn_get (C := RX6) (T := TX6) (N := 27) (ci := 6) (k := 0) X hP rfl inT_6 (by decide) q_538 rfl rfl dX6_init_179 ?_
    refine lv_iload_n hx hb dX6_init_182 rfl (lv_at hl 0 rfl) ?_
    refine lv_bipush (v := -9) hx hb dX6_init_183 (by decide) ?_
    refine gn_iast X hP hD hS (by unfold vp_in; decide) dX6_init_185 (fun H locs hP hD hS => ?_)
    have hP : va_P G.1 vwCl ((h0, .inr (6, [.ref q5, .ref q9, .ref q13, .int 0, .ref q17, .int 0, .int 0, .int 0, .ref q21, .ref q25, .ref q29, .ref q33, .ref q37, .ref q41, .ref q45, .int 0, .int 1000, .int 0, .int 0, .ref q52, .ref q56, .ref q60, .ref q64, .ref q68, .ref q72, .ref q76, .ref q80])) :: (q5, .inl (G.2 0, 8, .inl (upd (upd (upd (upd (upd (fun _ => 0) (Int32.toNatClampNeg 0) (-9)) (Int32.toNatClampNeg 1) (-9)) (Int32.toNatClampNeg 2) (-9)) (Int32.toNatClampNeg 3) (-9)) (Int32.toNatClampNeg 4) (-9)))) :: T18) H := hP
    have hD : va_D A ((h0, .inr (6, [.ref q5, .ref q9, .ref q13, .int 0, .ref q17, .int 0, .int 0, .int 0, .ref q21, .ref q25, .ref q29, .ref q33, .ref q37, .ref q41, .ref q45, .int 0, .int 1000, .int 0, .int 0, .ref q52, .ref q56, .ref q60, .ref q64, .ref q68, .ref q72, .ref q76, .ref q80])) :: (q5, .inl (G.2 0, 8, .inl (upd (upd (upd (upd (upd (fun _ => 0) (Int32.toNatClampNeg 0) (-9)) (Int32.toNatClampNeg 1) (-9)) (Int32.toNatClampNeg 2) (-9)) (Int32.toNatClampNeg 3) (-9)) (Int32.toNatClampNeg 4) (-9)))) :: T18) := hD
    refine lv_iinc (v := 5) (lv' := [(1, .int 5), (0, .ref h0)]) hx hb dX6_init_186 hl (k := 0) rfl (by decide) (by decide) rfl (fun ls hl => ?_)
    refine lv_goto (tgt := 172) hx hb dX6_init_189 (by decide) ?_
    refine lv_iload_n hx hb dX6_init_172 rfl (lv_at hl 0 rfl) ?_
    refine lv_bipush (v := 8) hx hb dX6_init_173 (by decide) ?_
    refine lv_icmp_ge (tgt := 192) hx hb dX6_init_175 (by decide) (fun c_ => absurd c_ (by decide)) (fun _ => ?_)
    refine lv_aload_n hx hb dX6_init_178 rfl (lv_at hl 1 rfl) ?_
    refine gn_get (C := RX6) (T := TX6) (N := 27) (ci := 6) (k := 0) X hP rfl inT_6 (by decide) q_538 rfl rfl dX6_init_179 ?_
    refine lv_iload_n hx hb dX6_init_182 rfl (lv_at hl 0 rfl) ?_
    refine lv_bipush (v := -9) hx hb dX6_init_183 (by decide) ?_
    refine gn_iast X hP hD hS (by unfold vp_in; decide) dX6_init_185 (fun H locs hP hD hS => ?_)
    have hP : va_P G.1 vwCl ((h0, .inr (6, [.ref q5, .ref q9, .ref q13, .int 0, .ref q17, .int 0, .int 0, .int 0, .ref q21, .ref q25, .ref q29, .ref q33, .ref q37, .ref q41, .ref q45, .int 0, .int 1000, .int 0, .int 0, .ref q52, .ref q56, .ref q60, .ref q64, .ref q68, .ref q72, .ref q76, .ref q80])) :: (q5, .inl (G.2 0, 8, .inl (upd (upd (upd (upd (upd (upd (fun _ => 0) (Int32.toNatClampNeg 0) (-9)) (Int32.toNatClampNeg 1) (-9)) (Int32.toNatClampNeg 2) (-9)) (Int32.toNatClampNeg 3) (-9)) (Int32.toNatClampNeg 4) (-9)) (Int32.toNatClampNeg 5) (-9)))) :: T18) H := hP
    have hD : va_D A ((h0, .inr (6, [.ref q5, .ref q9, .ref q13, .int 0, .ref q17, .int 0, .int 0, .int 0, .ref q21, .ref q25, .ref q29, .ref q33, .ref q37, .ref q41, .ref q45, .int 0, .int 1000, .int 0, .int 0, .ref q52, .ref q56, .ref q60, .ref q64, .ref q68, .ref q72, .ref q76, .ref q80])) :: (q5, .inl (G.2 0, 8, .inl (upd (upd (upd (upd (upd (upd (fun _ => 0) (Int32.toNatClampNeg 0) (-9)) (Int32.toNatClampNeg 1) (-9)) (Int32.toNatClampNeg 2) (-9)) (Int32.toNatClampNeg 3) (-9)) (Int32.toNatClampNeg 4) (-9)) (Int32.toNatClampNeg 5) (-9)))) :: T18) := hD
    refine lv_iinc (v := 6) (lv' := [(1, .int 6), (0, .ref h0)]) hx hb dX6_init_186 hl (k := 0) rfl (by decide) (by decide) rfl (fun ls hl => ?_)
    refine lv_goto (tgt := 172) hx hb dX6_init_189 (by decide) ?_
    refine lv_iload_n hx hb dX6_init_172 rfl (lv_at hl 0 rfl) ?_
    refine lv_bipush (v := 8) hx hb dX6_init_173 (by decide) ?_
    refine lv_icmp_ge (tgt := 192) hx hb dX6_init_175 (by decide) (fun c_ => absurd c_ (by decide)) (fun _ => ?_)
    refine lv_aload_n hx hb dX6_init_178 rfl (lv_at hl 1 rfl) ?_
    refine gn_get (C := RX6) (T := TX6) (N := 27) (ci := 6) (k := 0) X hP rfl inT_6 (by decide) q_538 rfl rfl dX6_init_179 ?_
    refine lv_iload_n hx hb dX6_init_182 rfl (lv_at hl 0 rfl) ?_
    refine lv_bipush (v := -9) hx hb dX6_init_183 (by decide) ?_
    refine gn_iast X hP hD hS (by unfold vp_in; decide) dX6_init_185 (fun H locs hP hD hS => ?_)
    have hP : va_P G.1 vwCl ((h0, .inr (6, [.ref q5, .ref q9, .ref q13, .int 0, .ref q17, .int 0, .int 0, .int 0, .ref q21, .ref q25, .ref q29, .ref q33, .ref q37, .ref q41, .ref q45, .int 0, .int 1000, .int 0, .int 0, .ref q52, .ref q56, .ref q60, .ref q64, .ref q68, .ref q72, .ref q76, .ref q80])) :: (q5, .inl (G.2 0, 8, .inl (upd (upd (upd (upd (upd (upd (upd (fun _ => 0) (Int32.toNatClampNeg 0) (-9)) (Int32.toNatClampNeg 1) (-9)) (Int32.toNatClampNeg 2) (-9)) (Int32.toNatClampNeg 3) (-9)) (Int32.toNatClampNeg 4) (-9)) (Int32.toNatClampNeg 5) (-9)) (Int32.toNatClampNeg 6) (-9)))) :: T18) H := hP
    have hD : va_D A ((h0, .inr (6, [.ref q5, .ref q9, .ref q13, .int 0, .ref q17, .int 0, .int 0, .int 0, .ref q21, .ref q25, .ref q29, .ref q33, .ref q37, .ref q41, .ref q45, .int 0, .int 1000, .int 0, .int 0, .ref q52, .ref q56, .ref q60, .ref q64, .ref q68, .ref q72, .ref q76, .ref q80])) :: (q5, .inl (G.2 0, 8, .inl (upd (upd (upd (upd (upd (upd (upd (fun _ => 0) (Int32.toNatClampNeg 0) (-9)) (Int32.toNatClampNeg 1) (-9)) (Int32.toNatClampNeg 2) (-9)) (Int32.toNatClampNeg 3) (-9)) (Int32.toNatClampNeg 4) (-9)) (Int32.toNatClampNeg 5) (-9)) (Int32.toNatClampNeg 6) (-9)))) :: T18) := hD
    refine lv_iinc (v := 7) (lv' := [(1, .int 7), (0, .ref h0)]) hx hb dX6_init_186 hl (k := 0) rfl (by decide) (by decide) rfl (fun ls hl => ?_)
    refine lv_goto (tgt := 172) hx hb dX6_init_189 (by decide) ?_
    refine lv_iload_n hx hb dX6_init_172 rfl (lv_at hl 0 rfl) ?_
    refine lv_bipush (v := 8) hx hb dX6_init_173 (by decide) ?_
    refine lv_icmp_ge (tgt := 192) hx hb dX6_init_175 (by decide) (fun c_ => absurd c_ (by decide)) (fun _ => ?_)
    refine lv_aload_n hx hb dX6_init_178 rfl (lv_at hl 1 rfl) ?_
    refine gn_get (C := RX6) (T := TX6) (N := 27) (ci := 6) (k := 0) X hP rfl inT_6 (by decide) q_538 rfl rfl dX6_init_179 ?_
    refine lv_iload_n hx hb dX6_init_182 rfl (lv_at hl 0 rfl) ?_
    refine lv_bipush (v := -9) hx hb dX6_init_183 (by decide) ?_
    refine gn_iast X hP hD hS (by unfold vp_in; decide) dX6_init_185 (fun H locs hP hD hS => ?_)
    have hP : va_P G.1 vwCl ((h0, .inr (6, [.ref q5, .ref q9, .ref q13, .int 0, .ref q17, .int 0, .int 0, .int 0, .ref q21, .ref q25, .ref q29, .ref q33, .ref q37, .ref q41, .ref q45, .int 0, .int 1000, .int 0, .int 0, .ref q52, .ref q56, .ref q60, .ref q64, .ref q68, .ref q72, .ref q76, .ref q80])) :: (q5, .inl (G.2 0, 8, .inl (upd (upd (upd (upd (upd (upd (upd (upd (fun _ => 0) (Int32.toNatClampNeg 0) (-9)) (Int32.toNatClampNeg 1) (-9)) (Int32.toNatClampNeg 2) (-9)) (Int32.toNatClampNeg 3) (-9)) (Int32.toNatClampNeg 4) (-9)) (Int32.toNatClampNeg 5) (-9)) (Int32.toNatClampNeg 6) (-9)) (Int32.toNatClampNeg 7) (-9)))) :: T18) H := hP
    have hD : va_D A ((h0, .inr (6, [.ref q5, .ref q9, .ref q13, .int 0, .ref q17, .int 0, .int 0, .int 0, .ref q21, .ref q25, .ref q29, .ref q33, .ref q37, .ref q41, .ref q45, .int 0, .int 1000, .int 0, .int 0, .ref q52, .ref q56, .ref q60, .ref q64, .ref q68, .ref q72, .ref q76, .ref q80])) :: (q5, .inl (G.2 0, 8, .inl (upd (upd (upd (upd (upd (upd (upd (upd (fun _ => 0) (Int32.toNatClampNeg 0) (-9)) (Int32.toNatClampNeg 1) (-9)) (Int32.toNatClampNeg 2) (-9)) (Int32.toNatClampNeg 3) (-9)) (Int32.toNatClampNeg 4) (-9)) (Int32.toNatClampNeg 5) (-9)) (Int32.toNatClampNeg 6) (-9)) (Int32.toNatClampNeg 7) (-9)))) :: T18) := hD
    refine lv_iinc (v := 8) (lv' := [(1, .int 8), (0, .ref h0)]) hx hb dX6_init_186 hl (k := 0) rfl (by decide) (by decide) rfl (fun ls hl => ?_)
    refine lv_goto (tgt := 172) hx hb dX6_init_189 (by decide) ?_
    refine lv_iload_n hx hb dX6_init_172 rfl (lv_at hl 0 rfl) ?_
    refine lv_bipush (v := 8) hx hb dX6_init_173 (by decide) ?_
    refine lv_icmp_ge (tgt := 192) hx hb dX6_init_175 (by decide) (fun _ => ?_) (fun c_ => absurd (by decide) c_)
    have hi : (((h0, .inr (6, [.ref q5, .ref q9, .ref q13, .int 0, .ref q17, .int 0, .int 0, .int 0, .ref q21, .ref q25, .ref q29, .ref q33, .ref q37, .ref q41, .ref q45, .int 0, .int 1000, .int 0, .int 0, .ref q52, .ref q56, .ref q60, .ref q64, .ref q68, .ref q72, .ref q76, .ref q80])) :: (q5, .inl (G.2 0, 8, .inl (upd (upd (upd (upd (upd (upd (upd (upd (fun _ => 0) (Int32.toNatClampNeg 0) (-9)) (Int32.toNatClampNeg 1) (-9)) (Int32.toNatClampNeg 2) (-9)) (Int32.toNatClampNeg 3) (-9)) (Int32.toNatClampNeg 4) (-9)) (Int32.toNatClampNeg 5) (-9)) (Int32.toNatClampNeg 6) (-9)) (Int32.toNatClampNeg 7) (-9)))) :: T18) : va_W)[1]? = some (q5, .inl (G.2 0, 8, .inl (upd (upd (upd (upd (upd (upd (upd (upd (fun _ => 0) (Int32.toNatClampNeg 0) (-9)) (Int32.toNatClampNeg 1) (-9)) (Int32.toNatClampNeg 2) (-9)) (Int32.toNatClampNeg 3) (-9)) (Int32.toNatClampNeg 4) (-9)) (Int32.toNatClampNeg 5) (-9)) (Int32.toNatClampNeg 6) (-9)) (Int32.toNatClampNeg 7) (-9)))) := rfl
    have hD := hD.set (e := .inl (G.2 0, 8, .inl (fun _ => -9))) hi
    have hP := gn_fixI (g := (fun _ => -9)) hP hi (fun j hj => by
      match j, hj with
      | 0, _ => rfl
      | 1, _ => rfl
      | 2, _ => rfl
      | 3, _ => rfl
      | 4, _ => rfl
      | 5, _ => rfl
      | 6, _ => rfl
      | 7, _ => rfl
      | j + 8, hj => omega)
    subst hT18
    subst hT17
    subst hT16
    subst hT15
    subst hT14
    subst hT13
    subst hT12
    subst hT11
    subst hT10
    subst hT9
    subst hT8
    subst hT7
    subst hT6
    subst hT5
    subst hT4
    subst hT3
    subst hT2
    subst hT1
    have hP : va_P G.1 vwCl ((h0, .inr (6, [.ref q5, .ref q9, .ref q13, .int 0, .ref q17, .int 0, .int 0, .int 0, .ref q21, .ref q25, .ref q29, .ref q33, .ref q37, .ref q41, .ref q45, .int 0, .int 1000, .int 0, .int 0, .ref q52, .ref q56, .ref q60, .ref q64, .ref q68, .ref q72, .ref q76, .ref q80])) :: (q5, .inl (G.2 0, 8, .inl (fun _ => -9))) :: (q9, .inl (G.2 0, 8, .inl (fun _ => 0))) :: (q13, .inl (G.2 1, 64, .inr (.inl (fun _ => 0)))) :: (q17, .inl (G.2 1, 8, .inr (.inl (fun _ => 0)))) :: (q21, .inl (G.2 0, 64, .inl (fun _ => 0))) :: (q25, .inl (G.2 0, 64, .inl (fun _ => 0))) :: (q29, .inl (G.2 0, 64, .inl (fun _ => 0))) :: (q33, .inl (G.2 1, 3904, .inr (.inl (fun _ => 0)))) :: (q37, .inl (G.2 1, 305, .inr (.inl (fun _ => 0)))) :: (q41, .inl (G.2 0, 10, .inl (fun _ => 0))) :: (q45, .inl (G.2 0, 10, .inl (fun _ => 0))) :: (q52, .inl (G.2 1, 19520, .inr (.inl (fun _ => 0)))) :: (q56, .inl (G.2 1, 1525, .inr (.inl (fun _ => 0)))) :: (q60, .inl (G.2 1, 256, .inr (.inl (fun _ => 0)))) :: (q64, .inl (G.2 1, 3904, .inr (.inl (fun _ => 0)))) :: (q68, .inl (G.2 1, 3904, .inr (.inl (fun _ => 0)))) :: (q72, .inl (G.2 0, 64, .inl (fun _ => 0))) :: (q76, .inl (G.2 0, 64, .inl (fun _ => 0))) :: (q80, .inl (G.2 0, 64, .inl (fun _ => 0))) :: []) H := hP
    have hD : va_D A ((h0, .inr (6, [.ref q5, .ref q9, .ref q13, .int 0, .ref q17, .int 0, .int 0, .int 0, .ref q21, .ref q25, .ref q29, .ref q33, .ref q37, .ref q41, .ref q45, .int 0, .int 1000, .int 0, .int 0, .ref q52, .ref q56, .ref q60, .ref q64, .ref q68, .ref q72, .ref q76, .ref q80])) :: (q5, .inl (G.2 0, 8, .inl (fun _ => -9))) :: (q9, .inl (G.2 0, 8, .inl (fun _ => 0))) :: (q13, .inl (G.2 1, 64, .inr (.inl (fun _ => 0)))) :: (q17, .inl (G.2 1, 8, .inr (.inl (fun _ => 0)))) :: (q21, .inl (G.2 0, 64, .inl (fun _ => 0))) :: (q25, .inl (G.2 0, 64, .inl (fun _ => 0))) :: (q29, .inl (G.2 0, 64, .inl (fun _ => 0))) :: (q33, .inl (G.2 1, 3904, .inr (.inl (fun _ => 0)))) :: (q37, .inl (G.2 1, 305, .inr (.inl (fun _ => 0)))) :: (q41, .inl (G.2 0, 10, .inl (fun _ => 0))) :: (q45, .inl (G.2 0, 10, .inl (fun _ => 0))) :: (q52, .inl (G.2 1, 19520, .inr (.inl (fun _ => 0)))) :: (q56, .inl (G.2 1, 1525, .inr (.inl (fun _ => 0)))) :: (q60, .inl (G.2 1, 256, .inr (.inl (fun _ => 0)))) :: (q64, .inl (G.2 1, 3904, .inr (.inl (fun _ => 0)))) :: (q68, .inl (G.2 1, 3904, .inr (.inl (fun _ => 0)))) :: (q72, .inl (G.2 0, 64, .inl (fun _ => 0))) :: (q76, .inl (G.2 0, 64, .inl (fun _ => 0))) :: (q80, .inl (G.2 0, 64, .inl (fun _ => 0))) :: []) := hD
    refine gn_vret X (q5 :: q9 :: q13 :: q17 :: q21 :: q25 :: q29 :: q33 :: q37 :: q41 :: q45 :: q52 :: q56 :: q60 :: q64 :: q68 :: q72 :: q76 :: q80 :: []) ?_ ?_ hS dX6_init_192
    · show va_P G.1 vwCl (wdY G (aX h0 (q5 :: q9 :: q13 :: q17 :: q21 :: q25 :: q29 :: q33 :: q37 :: q41 :: q45 :: q52 :: q56 :: q60 :: q64 :: q68 :: q72 :: q76 :: q80 :: [])) S0Y) H
      rw [wdY_S0]
      exact hP
    · show va_D A (wdY G (aX h0 (q5 :: q9 :: q13 :: q17 :: q21 :: q25 :: q29 :: q33 :: q37 :: q41 :: q45 :: q52 :: q56 :: q60 :: q64 :: q68 :: q72 :: q76 :: q80 :: [])) S0Y)
      rw [wdY_S0]
      exact hD
  exact Y _ _ hP hD hS

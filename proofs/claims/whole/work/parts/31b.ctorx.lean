def rmX5_init : Room := { frames := 3, cells := 62, slots := 34761, locals := 61 }
set_option maxHeartbeats 8000000 in
set_option maxRecDepth 100000 in
theorem cX5 (l : Launch) (G : gG) (h0 sz : Nat) : gIn l yX5_init cX5_init 2 rmX5_init G h0 (.inr (5, [.null, .null, .null, .null, .null, .null, .null, .null, .null, .int 0])) sz ((fun u => wdX G (aX h0 u) S0X)) 62 34761 := by
  refine gIn_of (by decide) ?_
  intro p e s m below meth c A hA X hnm hE hP hD hS
  have hl := lv_entry ([.ref h0]) (n := 2) (Nat.le_of_ble_eq_true rfl)
  rw [lg_entry_eq]
  generalize (lg_sl ([.ref h0]) ++ List.replicate (2 - (lg_sl ([.ref h0])).length) Slot.unset).toArray = ls at hl ⊢
  have hl : lv_has ls 2 [(0, .ref h0)] := hl
  obtain ⟨hx, hb, hr, hml, hown, hts, hlk, hK⟩ := id X
  have Y : ∀ (H : Heap) (locs : List Loc), va_P G.1 vwCl [(h0, .inr (5, [.null, .null, .null, .null, .null, .null, .null, .null, .null, .int 0]))] H → va_D A [(h0, .inr (5, [.null, .null, .null, .null, .null, .null, .null, .null, .null, .int 0]))] → va_S A s.heap H locs → W p l e rmX5_init s m #[.ref h0] below meth c H locs 0 0 (MQ below (va_Qv (fun _ : Unit => True) (gInAt G A ((fun u => wdX G (aX h0 u) S0X))) A) #[.ref h0] s 62 34761 A) (F0 m 0 ls []) := by
    intro H locs hP hD hS
    refine lv_aload_n hx hb dX5_init_0 rfl (lv_at hl 0 rfl) ?_
    refine W.objInit hx hb hown (hts _ q_51) (hts _ q_52) (hts _ q_53) rfl (by rw [hml]; exact hl.1) rfl dX5_init_1 (Nat.le_of_ble_eq_true rfl) (Nat.le_of_ble_eq_true rfl) ?_
    refine W.eq (g2 := F0 m 4 ls []) rfl ?_
    refine lv_aload_n hx hb dX5_init_4 rfl (lv_at hl 0 rfl) ?_
    refine lv_bipush (v := 8) hx hb dX5_init_5 (by decide) ?_
    refine gn_newQ (t := 3) (N := 8) X hA hP hD hS rfl q_54 hE.1 (by decide) (by decide) (Nat.le_of_ble_eq_true rfl) (Nat.le_of_ble_eq_true rfl) (Nat.le_of_ble_eq_true rfl) dX5_init_7 (fun q5 H hP hD hS => ?_)
    have hP : va_P G.1 vwCl ((h0, .inr (5, [.null, .null, .null, .null, .null, .null, .null, .null, .null, .int 0])) :: (q5, .inl (G.2 3, 8, .inr (.inr (.inr (.inr (fun _ => none)))))) :: []) H := hP
    have hD : va_D A ((h0, .inr (5, [.null, .null, .null, .null, .null, .null, .null, .null, .null, .int 0])) :: (q5, .inl (G.2 3, 8, .inr (.inr (.inr (.inr (fun _ => none)))))) :: []) := hD
    refine gn_put (C := RX5) (T := TX5) (ty0 := tyX5) (N := 10) (ci := 5) (k := 0) (ty := tyX5 0) (v := .ref q5) X hnm hP hD hS rfl inT_5 tyX5_ok nmX5 (by decide) q_179 rfl rfl (by decide +kernel) (by first | rfl | decide) (by first | rfl | decide) (by show 0 < 10; decide) dX5_init_10 (fun H locs hP hD hS => ?_)
    have hP : va_P G.1 vwCl ((h0, .inr (5, [.ref q5, .null, .null, .null, .null, .null, .null, .null, .null, .int 0])) :: (q5, .inl (G.2 3, 8, .inr (.inr (.inr (.inr (fun _ => none)))))) :: []) H := hP
    have hD : va_D A ((h0, .inr (5, [.ref q5, .null, .null, .null, .null, .null, .null, .null, .null, .int 0])) :: (q5, .inl (G.2 3, 8, .inr (.inr (.inr (.inr (fun _ => none)))))) :: []) := hD
    refine lv_aload_n hx hb dX5_init_13 rfl (lv_at hl 0 rfl) ?_
    refine gn_new (C := RX4) (T := TX4) (N := 4) (ci := 4) (ty := tyX4) (fs := [.null, .null, .int 0, .int 0]) X hA hP hD hS rfl inT_4 tyX4_ok q_56 q_57 q_37 (fun j hj => by
      match j, hj with
      | 0, _ => rfl
      | 1, _ => rfl
      | 2, _ => rfl
      | 3, _ => rfl
      | j + 4, hj => omega) (Nat.le_of_ble_eq_true rfl) (Nat.le_of_ble_eq_true rfl) dX5_init_14 (fun q8 H hP hD hS => ?_)
    refine lv_dup hx hb dX5_init_17 rfl ?_
    refine gn_callN (rest := [.ref q8, .ref h0]) X hE hA hP hD hS (cX4 l G q8 _) hE.2.2.1 (q_59) (q_60) (q_37) (by decide +kernel) rfl rfl rfl ⟨Nat.le_of_ble_eq_true rfl, Nat.le_of_ble_eq_true rfl⟩ hl.1 rfl (Nat.le_of_ble_eq_true rfl) ⟨Nat.le_of_ble_eq_true rfl, Nat.le_of_ble_eq_true rfl⟩ dX5_init_18 (fun u10 H locs hP hD hS => ?_)
    have hP : va_P G.1 vwCl ((h0, .inr (5, [.ref q5, .null, .null, .null, .null, .null, .null, .null, .null, .int 0])) :: (q5, .inl (G.2 3, 8, .inr (.inr (.inr (.inr (fun _ => none)))))) :: bX4 G q8 u10) H := hP
    have hD : va_D A ((h0, .inr (5, [.ref q5, .null, .null, .null, .null, .null, .null, .null, .null, .int 0])) :: (q5, .inl (G.2 3, 8, .inr (.inr (.inr (.inr (fun _ => none)))))) :: bX4 G q8 u10) := hD
    generalize hT1 : (bX4 G q8 u10 : va_W) = T1 at hP hD
    refine gn_put (C := RX5) (T := TX5) (ty0 := tyX5) (N := 10) (ci := 5) (k := 1) (ty := tyX5 1) (v := .ref q8) X hnm hP hD hS rfl inT_5 tyX5_ok nmX5 (by decide) q_180 rfl rfl (by decide +kernel) (by first | rfl | decide) (by first | rfl | decide) (by show 1 < 10; decide) dX5_init_21 (fun H locs hP hD hS => ?_)
    have hP : va_P G.1 vwCl ((h0, .inr (5, [.ref q5, .ref q8, .null, .null, .null, .null, .null, .null, .null, .int 0])) :: (q5, .inl (G.2 3, 8, .inr (.inr (.inr (.inr (fun _ => none)))))) :: T1) H := hP
    have hD : va_D A ((h0, .inr (5, [.ref q5, .ref q8, .null, .null, .null, .null, .null, .null, .null, .int 0])) :: (q5, .inl (G.2 3, 8, .inr (.inr (.inr (.inr (fun _ => none)))))) :: T1) := hD
    refine lv_aload_n hx hb dX5_init_24 rfl (lv_at hl 0 rfl) ?_
    refine gn_new (C := RX1) (T := TX1) (N := 7) (ci := 1) (ty := tyX1) (fs := [.null, .null, .null, .null, .int 0, .int 0, .int 0]) X hA hP hD hS rfl inT_1 tyX1_ok q_79 q_80 q_38 (fun j hj => by
      match j, hj with
      | 0, _ => rfl
      | 1, _ => rfl
      | 2, _ => rfl
      | 3, _ => rfl
      | 4, _ => rfl
      | 5, _ => rfl
      | 6, _ => rfl
      | j + 7, hj => omega) (Nat.le_of_ble_eq_true rfl) (Nat.le_of_ble_eq_true rfl) dX5_init_25 (fun q13 H hP hD hS => ?_)
    refine lv_dup hx hb dX5_init_28 rfl ?_
    refine gn_callN (rest := [.ref q13, .ref h0]) X hE hA hP hD hS (cX1 l G q13 _) hE.2.2.2.1 (q_82) (q_83) (q_38) (by decide +kernel) rfl rfl rfl ⟨Nat.le_of_ble_eq_true rfl, Nat.le_of_ble_eq_true rfl⟩ hl.1 rfl (Nat.le_of_ble_eq_true rfl) ⟨Nat.le_of_ble_eq_true rfl, Nat.le_of_ble_eq_true rfl⟩ dX5_init_29 (fun u15 H locs hP hD hS => ?_)
    have hP : va_P G.1 vwCl ((h0, .inr (5, [.ref q5, .ref q8, .null, .null, .null, .null, .null, .null, .null, .int 0])) :: (q5, .inl (G.2 3, 8, .inr (.inr (.inr (.inr (fun _ => none)))))) :: (T1 ++ bX1 G q13 u15)) H := hP
    have hD : va_D A ((h0, .inr (5, [.ref q5, .ref q8, .null, .null, .null, .null, .null, .null, .null, .int 0])) :: (q5, .inl (G.2 3, 8, .inr (.inr (.inr (.inr (fun _ => none)))))) :: (T1 ++ bX1 G q13 u15)) := hD
    generalize hT2 : ((T1 ++ bX1 G q13 u15) : va_W) = T2 at hP hD
    refine gn_put (C := RX5) (T := TX5) (ty0 := tyX5) (N := 10) (ci := 5) (k := 2) (ty := tyX5 2) (v := .ref q13) X hnm hP hD hS rfl inT_5 tyX5_ok nmX5 (by decide) q_181 rfl rfl (by decide +kernel) (by first | rfl | decide) (by first | rfl | decide) (by show 2 < 10; decide) dX5_init_32 (fun H locs hP hD hS => ?_)
    have hP : va_P G.1 vwCl ((h0, .inr (5, [.ref q5, .ref q8, .ref q13, .null, .null, .null, .null, .null, .null, .int 0])) :: (q5, .inl (G.2 3, 8, .inr (.inr (.inr (.inr (fun _ => none)))))) :: T2) H := hP
    have hD : va_D A ((h0, .inr (5, [.ref q5, .ref q8, .ref q13, .null, .null, .null, .null, .null, .null, .int 0])) :: (q5, .inl (G.2 3, 8, .inr (.inr (.inr (.inr (fun _ => none)))))) :: T2) := hD
    refine lv_aload_n hx hb dX5_init_35 rfl (lv_at hl 0 rfl) ?_
    refine gn_new (C := RX0) (T := TX0) (N := 4) (ci := 0) (ty := tyX0) (fs := [.null, .null, .null, .int 0]) X hA hP hD hS rfl inT_0 tyX0_ok q_114 q_115 q_39 (fun j hj => by
      match j, hj with
      | 0, _ => rfl
      | 1, _ => rfl
      | 2, _ => rfl
      | 3, _ => rfl
      | j + 4, hj => omega) (Nat.le_of_ble_eq_true rfl) (Nat.le_of_ble_eq_true rfl) dX5_init_36 (fun q18 H hP hD hS => ?_)
    refine lv_dup hx hb dX5_init_39 rfl ?_
    refine gn_callN (rest := [.ref q18, .ref h0]) X hE hA hP hD hS (cX0 l G q18 _) hE.2.2.2.2.1 (q_117) (q_118) (q_39) (by decide +kernel) rfl rfl rfl ⟨Nat.le_of_ble_eq_true rfl, Nat.le_of_ble_eq_true rfl⟩ hl.1 rfl (Nat.le_of_ble_eq_true rfl) ⟨Nat.le_of_ble_eq_true rfl, Nat.le_of_ble_eq_true rfl⟩ dX5_init_40 (fun u20 H locs hP hD hS => ?_)
    have hP : va_P G.1 vwCl ((h0, .inr (5, [.ref q5, .ref q8, .ref q13, .null, .null, .null, .null, .null, .null, .int 0])) :: (q5, .inl (G.2 3, 8, .inr (.inr (.inr (.inr (fun _ => none)))))) :: (T2 ++ bX0 G q18 u20)) H := hP
    have hD : va_D A ((h0, .inr (5, [.ref q5, .ref q8, .ref q13, .null, .null, .null, .null, .null, .null, .int 0])) :: (q5, .inl (G.2 3, 8, .inr (.inr (.inr (.inr (fun _ => none)))))) :: (T2 ++ bX0 G q18 u20)) := hD
    generalize hT3 : ((T2 ++ bX0 G q18 u20) : va_W) = T3 at hP hD
    refine gn_put (C := RX5) (T := TX5) (ty0 := tyX5) (N := 10) (ci := 5) (k := 3) (ty := tyX5 3) (v := .ref q18) X hnm hP hD hS rfl inT_5 tyX5_ok nmX5 (by decide) q_182 rfl rfl (by decide +kernel) (by first | rfl | decide) (by first | rfl | decide) (by show 3 < 10; decide) dX5_init_43 (fun H locs hP hD hS => ?_)
    have hP : va_P G.1 vwCl ((h0, .inr (5, [.ref q5, .ref q8, .ref q13, .ref q18, .null, .null, .null, .null, .null, .int 0])) :: (q5, .inl (G.2 3, 8, .inr (.inr (.inr (.inr (fun _ => none)))))) :: T3) H := hP
    have hD : va_D A ((h0, .inr (5, [.ref q5, .ref q8, .ref q13, .ref q18, .null, .null, .null, .null, .null, .int 0])) :: (q5, .inl (G.2 3, 8, .inr (.inr (.inr (.inr (fun _ => none)))))) :: T3) := hD
    refine lv_aload_n hx hb dX5_init_46 rfl (lv_at hl 0 rfl) ?_
    refine gn_new (C := RX2) (T := TX2) (N := 3) (ci := 2) (ty := tyX2) (fs := [.null, .int 0, .int 0]) X hA hP hD hS rfl inT_2 tyX2_ok q_138 q_139 q_40 (fun j hj => by
      match j, hj with
      | 0, _ => rfl
      | 1, _ => rfl
      | 2, _ => rfl
      | j + 3, hj => omega) (Nat.le_of_ble_eq_true rfl) (Nat.le_of_ble_eq_true rfl) dX5_init_47 (fun q23 H hP hD hS => ?_)
    refine lv_dup hx hb dX5_init_50 rfl ?_
    refine gn_callP (rest := [.ref q23, .ref h0]) X hE hA hP hD hS (cX2 l G q23 _) q_140 (q_141) (q_142) (q_40) (by decide +kernel) rfl rfl rfl ⟨Nat.le_of_ble_eq_true rfl, Nat.le_of_ble_eq_true rfl⟩ hl.1 rfl (Nat.le_of_ble_eq_true rfl) ⟨Nat.le_of_ble_eq_true rfl, Nat.le_of_ble_eq_true rfl⟩ dX5_init_51 (fun u25 H locs hP hD hS => ?_)
    have hP : va_P G.1 vwCl ((h0, .inr (5, [.ref q5, .ref q8, .ref q13, .ref q18, .null, .null, .null, .null, .null, .int 0])) :: (q5, .inl (G.2 3, 8, .inr (.inr (.inr (.inr (fun _ => none)))))) :: (T3 ++ bX2 G q23 u25)) H := hP
    have hD : va_D A ((h0, .inr (5, [.ref q5, .ref q8, .ref q13, .ref q18, .null, .null, .null, .null, .null, .int 0])) :: (q5, .inl (G.2 3, 8, .inr (.inr (.inr (.inr (fun _ => none)))))) :: (T3 ++ bX2 G q23 u25)) := hD
    generalize hT4 : ((T3 ++ bX2 G q23 u25) : va_W) = T4 at hP hD
    refine gn_put (C := RX5) (T := TX5) (ty0 := tyX5) (N := 10) (ci := 5) (k := 4) (ty := tyX5 4) (v := .ref q23) X hnm hP hD hS rfl inT_5 tyX5_ok nmX5 (by decide) q_183 rfl rfl (by decide +kernel) (by first | rfl | decide) (by first | rfl | decide) (by show 4 < 10; decide) dX5_init_54 (fun H locs hP hD hS => ?_)
    have hP : va_P G.1 vwCl ((h0, .inr (5, [.ref q5, .ref q8, .ref q13, .ref q18, .ref q23, .null, .null, .null, .null, .int 0])) :: (q5, .inl (G.2 3, 8, .inr (.inr (.inr (.inr (fun _ => none)))))) :: T4) H := hP
    have hD : va_D A ((h0, .inr (5, [.ref q5, .ref q8, .ref q13, .ref q18, .ref q23, .null, .null, .null, .null, .int 0])) :: (q5, .inl (G.2 3, 8, .inr (.inr (.inr (.inr (fun _ => none)))))) :: T4) := hD
    refine lv_aload_n hx hb dX5_init_57 rfl (lv_at hl 0 rfl) ?_
    refine gn_new (C := RX1) (T := TX1) (N := 7) (ci := 1) (ty := tyX1) (fs := [.null, .null, .null, .null, .int 0, .int 0, .int 0]) X hA hP hD hS rfl inT_1 tyX1_ok q_79 q_80 q_38 (fun j hj => by
      match j, hj with
      | 0, _ => rfl
      | 1, _ => rfl
      | 2, _ => rfl
      | 3, _ => rfl
      | 4, _ => rfl
      | 5, _ => rfl
      | 6, _ => rfl
      | j + 7, hj => omega) (Nat.le_of_ble_eq_true rfl) (Nat.le_of_ble_eq_true rfl) dX5_init_58 (fun q28 H hP hD hS => ?_)
    refine lv_dup hx hb dX5_init_61 rfl ?_
    refine gn_callN (rest := [.ref q28, .ref h0]) X hE hA hP hD hS (cX1 l G q28 _) hE.2.2.2.1 (q_82) (q_83) (q_38) (by decide +kernel) rfl rfl rfl ⟨Nat.le_of_ble_eq_true rfl, Nat.le_of_ble_eq_true rfl⟩ hl.1 rfl (Nat.le_of_ble_eq_true rfl) ⟨Nat.le_of_ble_eq_true rfl, Nat.le_of_ble_eq_true rfl⟩ dX5_init_62 (fun u30 H locs hP hD hS => ?_)
    have hP : va_P G.1 vwCl ((h0, .inr (5, [.ref q5, .ref q8, .ref q13, .ref q18, .ref q23, .null, .null, .null, .null, .int 0])) :: (q5, .inl (G.2 3, 8, .inr (.inr (.inr (.inr (fun _ => none)))))) :: (T4 ++ bX1 G q28 u30)) H := hP
    have hD : va_D A ((h0, .inr (5, [.ref q5, .ref q8, .ref q13, .ref q18, .ref q23, .null, .null, .null, .null, .int 0])) :: (q5, .inl (G.2 3, 8, .inr (.inr (.inr (.inr (fun _ => none)))))) :: (T4 ++ bX1 G q28 u30)) := hD
    generalize hT5 : ((T4 ++ bX1 G q28 u30) : va_W) = T5 at hP hD
    refine gn_put (C := RX5) (T := TX5) (ty0 := tyX5) (N := 10) (ci := 5) (k := 5) (ty := tyX5 5) (v := .ref q28) X hnm hP hD hS rfl inT_5 tyX5_ok nmX5 (by decide) q_184 rfl rfl (by decide +kernel) (by first | rfl | decide) (by first | rfl | decide) (by show 5 < 10; decide) dX5_init_65 (fun H locs hP hD hS => ?_)
    have hP : va_P G.1 vwCl ((h0, .inr (5, [.ref q5, .ref q8, .ref q13, .ref q18, .ref q23, .ref q28, .null, .null, .null, .int 0])) :: (q5, .inl (G.2 3, 8, .inr (.inr (.inr (.inr (fun _ => none)))))) :: T5) H := hP
    have hD : va_D A ((h0, .inr (5, [.ref q5, .ref q8, .ref q13, .ref q18, .ref q23, .ref q28, .null, .null, .null, .int 0])) :: (q5, .inl (G.2 3, 8, .inr (.inr (.inr (.inr (fun _ => none)))))) :: T5) := hD
    refine lv_aload_n hx hb dX5_init_68 rfl (lv_at hl 0 rfl) ?_
    refine gn_new (C := RX0) (T := TX0) (N := 4) (ci := 0) (ty := tyX0) (fs := [.null, .null, .null, .int 0]) X hA hP hD hS rfl inT_0 tyX0_ok q_114 q_115 q_39 (fun j hj => by
      match j, hj with
      | 0, _ => rfl
      | 1, _ => rfl
      | 2, _ => rfl
      | 3, _ => rfl
      | j + 4, hj => omega) (Nat.le_of_ble_eq_true rfl) (Nat.le_of_ble_eq_true rfl) dX5_init_69 (fun q33 H hP hD hS => ?_)
    refine lv_dup hx hb dX5_init_72 rfl ?_
    refine gn_callN (rest := [.ref q33, .ref h0]) X hE hA hP hD hS (cX0 l G q33 _) hE.2.2.2.2.1 (q_117) (q_118) (q_39) (by decide +kernel) rfl rfl rfl ⟨Nat.le_of_ble_eq_true rfl, Nat.le_of_ble_eq_true rfl⟩ hl.1 rfl (Nat.le_of_ble_eq_true rfl) ⟨Nat.le_of_ble_eq_true rfl, Nat.le_of_ble_eq_true rfl⟩ dX5_init_73 (fun u35 H locs hP hD hS => ?_)
    have hP : va_P G.1 vwCl ((h0, .inr (5, [.ref q5, .ref q8, .ref q13, .ref q18, .ref q23, .ref q28, .null, .null, .null, .int 0])) :: (q5, .inl (G.2 3, 8, .inr (.inr (.inr (.inr (fun _ => none)))))) :: (T5 ++ bX0 G q33 u35)) H := hP
    have hD : va_D A ((h0, .inr (5, [.ref q5, .ref q8, .ref q13, .ref q18, .ref q23, .ref q28, .null, .null, .null, .int 0])) :: (q5, .inl (G.2 3, 8, .inr (.inr (.inr (.inr (fun _ => none)))))) :: (T5 ++ bX0 G q33 u35)) := hD
    generalize hT6 : ((T5 ++ bX0 G q33 u35) : va_W) = T6 at hP hD
    refine gn_put (C := RX5) (T := TX5) (ty0 := tyX5) (N := 10) (ci := 5) (k := 6) (ty := tyX5 6) (v := .ref q33) X hnm hP hD hS rfl inT_5 tyX5_ok nmX5 (by decide) q_185 rfl rfl (by decide +kernel) (by first | rfl | decide) (by first | rfl | decide) (by show 6 < 10; decide) dX5_init_76 (fun H locs hP hD hS => ?_)
    have hP : va_P G.1 vwCl ((h0, .inr (5, [.ref q5, .ref q8, .ref q13, .ref q18, .ref q23, .ref q28, .ref q33, .null, .null, .int 0])) :: (q5, .inl (G.2 3, 8, .inr (.inr (.inr (.inr (fun _ => none)))))) :: T6) H := hP
    have hD : va_D A ((h0, .inr (5, [.ref q5, .ref q8, .ref q13, .ref q18, .ref q23, .ref q28, .ref q33, .null, .null, .int 0])) :: (q5, .inl (G.2 3, 8, .inr (.inr (.inr (.inr (fun _ => none)))))) :: T6) := hD
    refine lv_aload_n hx hb dX5_init_79 rfl (lv_at hl 0 rfl) ?_
    refine lv_sipush (v := 256) hx hb dX5_init_80 (by decide) ?_
    refine gn_newJ (N := 256) X hA hP hD hS q_137 (by decide) (by decide) (Nat.le_of_ble_eq_true rfl) (Nat.le_of_ble_eq_true rfl) (Nat.le_of_ble_eq_true rfl) dX5_init_83 (fun q39 H hP hD hS => ?_)
    have hP : va_P G.1 vwCl ((h0, .inr (5, [.ref q5, .ref q8, .ref q13, .ref q18, .ref q23, .ref q28, .ref q33, .null, .null, .int 0])) :: (q5, .inl (G.2 3, 8, .inr (.inr (.inr (.inr (fun _ => none)))))) :: (T6 ++ [(q39, .inl (G.2 1, 256, .inr (.inl (fun _ => 0))))])) H := hP
    have hD : va_D A ((h0, .inr (5, [.ref q5, .ref q8, .ref q13, .ref q18, .ref q23, .ref q28, .ref q33, .null, .null, .int 0])) :: (q5, .inl (G.2 3, 8, .inr (.inr (.inr (.inr (fun _ => none)))))) :: (T6 ++ [(q39, .inl (G.2 1, 256, .inr (.inl (fun _ => 0))))])) := hD
    generalize hT7 : ((T6 ++ [(q39, .inl (G.2 1, 256, .inr (.inl (fun _ => 0))))]) : va_W) = T7 at hP hD
    refine gn_put (C := RX5) (T := TX5) (ty0 := tyX5) (N := 10) (ci := 5) (k := 7) (ty := tyX5 7) (v := .ref q39) X hnm hP hD hS rfl inT_5 tyX5_ok nmX5 (by decide) q_186 rfl rfl (by decide +kernel) (by first | rfl | decide) (by first | rfl | decide) (by show 7 < 10; decide) dX5_init_85 (fun H locs hP hD hS => ?_)
    have hP : va_P G.1 vwCl ((h0, .inr (5, [.ref q5, .ref q8, .ref q13, .ref q18, .ref q23, .ref q28, .ref q33, .ref q39, .null, .int 0])) :: (q5, .inl (G.2 3, 8, .inr (.inr (.inr (.inr (fun _ => none)))))) :: T7) H := hP
    have hD : va_D A ((h0, .inr (5, [.ref q5, .ref q8, .ref q13, .ref q18, .ref q23, .ref q28, .ref q33, .ref q39, .null, .int 0])) :: (q5, .inl (G.2 3, 8, .inr (.inr (.inr (.inr (fun _ => none)))))) :: T7) := hD
    refine lv_aload_n hx hb dX5_init_88 rfl (lv_at hl 0 rfl) ?_
    refine lv_sipush (v := 3904) hx hb dX5_init_89 (by decide) ?_
    refine gn_newJ (N := 3904) X hA hP hD hS q_137 (by decide) (by decide) (Nat.le_of_ble_eq_true rfl) (Nat.le_of_ble_eq_true rfl) (Nat.le_of_ble_eq_true rfl) dX5_init_92 (fun q43 H hP hD hS => ?_)
    have hP : va_P G.1 vwCl ((h0, .inr (5, [.ref q5, .ref q8, .ref q13, .ref q18, .ref q23, .ref q28, .ref q33, .ref q39, .null, .int 0])) :: (q5, .inl (G.2 3, 8, .inr (.inr (.inr (.inr (fun _ => none)))))) :: (T7 ++ [(q43, .inl (G.2 1, 3904, .inr (.inl (fun _ => 0))))])) H := hP
    have hD : va_D A ((h0, .inr (5, [.ref q5, .ref q8, .ref q13, .ref q18, .ref q23, .ref q28, .ref q33, .ref q39, .null, .int 0])) :: (q5, .inl (G.2 3, 8, .inr (.inr (.inr (.inr (fun _ => none)))))) :: (T7 ++ [(q43, .inl (G.2 1, 3904, .inr (.inl (fun _ => 0))))])) := hD
    generalize hT8 : ((T7 ++ [(q43, .inl (G.2 1, 3904, .inr (.inl (fun _ => 0))))]) : va_W) = T8 at hP hD
    refine gn_put (C := RX5) (T := TX5) (ty0 := tyX5) (N := 10) (ci := 5) (k := 8) (ty := tyX5 8) (v := .ref q43) X hnm hP hD hS rfl inT_5 tyX5_ok nmX5 (by decide) q_187 rfl rfl (by decide +kernel) (by first | rfl | decide) (by first | rfl | decide) (by show 8 < 10; decide) dX5_init_94 (fun H locs hP hD hS => ?_)
    have hP : va_P G.1 vwCl ((h0, .inr (5, [.ref q5, .ref q8, .ref q13, .ref q18, .ref q23, .ref q28, .ref q33, .ref q39, .ref q43, .int 0])) :: (q5, .inl (G.2 3, 8, .inr (.inr (.inr (.inr (fun _ => none)))))) :: T8) H := hP
    have hD : va_D A ((h0, .inr (5, [.ref q5, .ref q8, .ref q13, .ref q18, .ref q23, .ref q28, .ref q33, .ref q39, .ref q43, .int 0])) :: (q5, .inl (G.2 3, 8, .inr (.inr (.inr (.inr (fun _ => none)))))) :: T8) := hD
    refine lv_iconst (v := 0) hx hb dX5_init_97 (by decide) ?_
    refine lv_istore_n (lv' := [(1, .int 0), (0, .ref h0)]) hx hb dX5_init_98 rfl hl (by decide) rfl (fun ls hl => ?_)
    refine lv_iload_n hx hb dX5_init_99 rfl (lv_at hl 0 rfl) ?_
    refine lv_bipush (v := 8) hx hb dX5_init_100 (by decide) ?_
    refine lv_icmp_ge (tgt := 124) hx hb dX5_init_102 (by decide) (fun c_ => absurd c_ (by decide)) (fun _ => ?_)
    refine lv_aload_n hx hb dX5_init_105 rfl (lv_at hl 1 rfl) ?_
    refine gn_get (C := RX5) (T := TX5) (N := 10) (ci := 5) (k := 0) X hP rfl inT_5 (by decide) q_179 rfl rfl dX5_init_106 ?_
    refine lv_iload_n hx hb dX5_init_109 rfl (lv_at hl 0 rfl) ?_
    refine gn_new (C := RX3) (T := TX3) (N := 4) (ci := 3) (ty := tyX3) (fs := [.null, .int 0, .int 0, .int 0]) X hA hP hD hS rfl inT_3 tyX3_ok q_54 q_158 q_41 (fun j hj => by
      match j, hj with
      | 0, _ => rfl
      | 1, _ => rfl
      | 2, _ => rfl
      | 3, _ => rfl
      | j + 4, hj => omega) (Nat.le_of_ble_eq_true rfl) (Nat.le_of_ble_eq_true rfl) dX5_init_110 (fun q53 H hP hD hS => ?_)
    refine lv_dup hx hb dX5_init_113 rfl ?_
    refine gn_callN (rest := [.ref q53, .int 0, .ref q5]) X hE hA hP hD hS (cX3 l G q53 _) hE.2.2.2.2.2.2 (q_160) (q_161) (q_41) (by decide +kernel) rfl rfl rfl ⟨Nat.le_of_ble_eq_true rfl, Nat.le_of_ble_eq_true rfl⟩ hl.1 rfl (Nat.le_of_ble_eq_true rfl) ⟨Nat.le_of_ble_eq_true rfl, Nat.le_of_ble_eq_true rfl⟩ dX5_init_114 (fun u55 H locs hP hD hS => ?_)
    have hP : va_P G.1 vwCl ((h0, .inr (5, [.ref q5, .ref q8, .ref q13, .ref q18, .ref q23, .ref q28, .ref q33, .ref q39, .ref q43, .int 0])) :: (q5, .inl (G.2 3, 8, .inr (.inr (.inr (.inr (fun _ => none)))))) :: (T8 ++ bX3 G q53 u55)) H := hP
    have hD : va_D A ((h0, .inr (5, [.ref q5, .ref q8, .ref q13, .ref q18, .ref q23, .ref q28, .ref q33, .ref q39, .ref q43, .int 0])) :: (q5, .inl (G.2 3, 8, .inr (.inr (.inr (.inr (fun _ => none)))))) :: (T8 ++ bX3 G q53 u55)) := hD
    refine gn_aast (t := 3) (ci := 3) (qk := List.length T8) X rfl hP hD hS gn_lastAt rfl (by unfold vp_in; decide) dX5_init_117 (fun H locs hP hD hS => ?_)
    have hP : va_P G.1 vwCl ((h0, .inr (5, [.ref q5, .ref q8, .ref q13, .ref q18, .ref q23, .ref q28, .ref q33, .ref q39, .ref q43, .int 0])) :: (q5, .inl (G.2 3, 8, .inr (.inr (.inr (.inr (va_up (fun _ => none) (Int32.toNatClampNeg 0) (some q53))))))) :: (T8 ++ bX3 G q53 u55)) H := hP
    have hD : va_D A ((h0, .inr (5, [.ref q5, .ref q8, .ref q13, .ref q18, .ref q23, .ref q28, .ref q33, .ref q39, .ref q43, .int 0])) :: (q5, .inl (G.2 3, 8, .inr (.inr (.inr (.inr (va_up (fun _ => none) (Int32.toNatClampNeg 0) (some q53))))))) :: (T8 ++ bX3 G q53 u55)) := hD
    generalize hT9 : ((T8 ++ bX3 G q53 u55) : va_W) = T9 at hP hD
    refine lv_iinc (v := 1) (lv' := [(1, .int 1), (0, .ref h0)]) hx hb dX5_init_118 hl (k := 0) rfl (by decide) (by decide) rfl (fun ls hl => ?_)
    refine lv_goto (tgt := 99) hx hb dX5_init_121 (by decide) ?_
    refine lv_iload_n hx hb dX5_init_99 rfl (lv_at hl 0 rfl) ?_
    refine lv_bipush (v := 8) hx hb dX5_init_100 (by decide) ?_
    refine lv_icmp_ge (tgt := 124) hx hb dX5_init_102 (by decide) (fun c_ => absurd c_ (by decide)) (fun _ => ?_)
    refine lv_aload_n hx hb dX5_init_105 rfl (lv_at hl 1 rfl) ?_
    refine gn_get (C := RX5) (T := TX5) (N := 10) (ci := 5) (k := 0) X hP rfl inT_5 (by decide) q_179 rfl rfl dX5_init_106 ?_
    refine lv_iload_n hx hb dX5_init_109 rfl (lv_at hl 0 rfl) ?_
    refine gn_new (C := RX3) (T := TX3) (N := 4) (ci := 3) (ty := tyX3) (fs := [.null, .int 0, .int 0, .int 0]) X hA hP hD hS rfl inT_3 tyX3_ok q_54 q_158 q_41 (fun j hj => by
      match j, hj with
      | 0, _ => rfl
      | 1, _ => rfl
      | 2, _ => rfl
      | 3, _ => rfl
      | j + 4, hj => omega) (Nat.le_of_ble_eq_true rfl) (Nat.le_of_ble_eq_true rfl) dX5_init_110 (fun q65 H hP hD hS => ?_)
    refine lv_dup hx hb dX5_init_113 rfl ?_
    refine gn_callN (rest := [.ref q65, .int 1, .ref q5]) X hE hA hP hD hS (cX3 l G q65 _) hE.2.2.2.2.2.2 (q_160) (q_161) (q_41) (by decide +kernel) rfl rfl rfl ⟨Nat.le_of_ble_eq_true rfl, Nat.le_of_ble_eq_true rfl⟩ hl.1 rfl (Nat.le_of_ble_eq_true rfl) ⟨Nat.le_of_ble_eq_true rfl, Nat.le_of_ble_eq_true rfl⟩ dX5_init_114 (fun u67 H locs hP hD hS => ?_)
    have hP : va_P G.1 vwCl ((h0, .inr (5, [.ref q5, .ref q8, .ref q13, .ref q18, .ref q23, .ref q28, .ref q33, .ref q39, .ref q43, .int 0])) :: (q5, .inl (G.2 3, 8, .inr (.inr (.inr (.inr (va_up (fun _ => none) (Int32.toNatClampNeg 0) (some q53))))))) :: (T9 ++ bX3 G q65 u67)) H := hP
    have hD : va_D A ((h0, .inr (5, [.ref q5, .ref q8, .ref q13, .ref q18, .ref q23, .ref q28, .ref q33, .ref q39, .ref q43, .int 0])) :: (q5, .inl (G.2 3, 8, .inr (.inr (.inr (.inr (va_up (fun _ => none) (Int32.toNatClampNeg 0) (some q53))))))) :: (T9 ++ bX3 G q65 u67)) := hD
    refine gn_aast (t := 3) (ci := 3) (qk := List.length T9) X rfl hP hD hS gn_lastAt rfl (by unfold vp_in; decide) dX5_init_117 (fun H locs hP hD hS => ?_)
    have hP : va_P G.1 vwCl ((h0, .inr (5, [.ref q5, .ref q8, .ref q13, .ref q18, .ref q23, .ref q28, .ref q33, .ref q39, .ref q43, .int 0])) :: (q5, .inl (G.2 3, 8, .inr (.inr (.inr (.inr (va_up (va_up (fun _ => none) (Int32.toNatClampNeg 0) (some q53)) (Int32.toNatClampNeg 1) (some q65))))))) :: (T9 ++ bX3 G q65 u67)) H := hP
    have hD : va_D A ((h0, .inr (5, [.ref q5, .ref q8, .ref q13, .ref q18, .ref q23, .ref q28, .ref q33, .ref q39, .ref q43, .int 0])) :: (q5, .inl (G.2 3, 8, .inr (.inr (.inr (.inr (va_up (va_up (fun _ => none) (Int32.toNatClampNeg 0) (some q53)) (Int32.toNatClampNeg 1) (some q65))))))) :: (T9 ++ bX3 G q65 u67)) := hD
    generalize hT10 : ((T9 ++ bX3 G q65 u67) : va_W) = T10 at hP hD
    refine lv_iinc (v := 2) (lv' := [(1, .int 2), (0, .ref h0)]) hx hb dX5_init_118 hl (k := 0) rfl (by decide) (by decide) rfl (fun ls hl => ?_)
    refine lv_goto (tgt := 99) hx hb dX5_init_121 (by decide) ?_
    refine lv_iload_n hx hb dX5_init_99 rfl (lv_at hl 0 rfl) ?_
    refine lv_bipush (v := 8) hx hb dX5_init_100 (by decide) ?_
    refine lv_icmp_ge (tgt := 124) hx hb dX5_init_102 (by decide) (fun c_ => absurd c_ (by decide)) (fun _ => ?_)
    refine lv_aload_n hx hb dX5_init_105 rfl (lv_at hl 1 rfl) ?_
    refine gn_get (C := RX5) (T := TX5) (N := 10) (ci := 5) (k := 0) X hP rfl inT_5 (by decide) q_179 rfl rfl dX5_init_106 ?_
    refine lv_iload_n hx hb dX5_init_109 rfl (lv_at hl 0 rfl) ?_
    refine gn_new (C := RX3) (T := TX3) (N := 4) (ci := 3) (ty := tyX3) (fs := [.null, .int 0, .int 0, .int 0]) X hA hP hD hS rfl inT_3 tyX3_ok q_54 q_158 q_41 (fun j hj => by
      match j, hj with
      | 0, _ => rfl
      | 1, _ => rfl
      | 2, _ => rfl
      | 3, _ => rfl
      | j + 4, hj => omega) (Nat.le_of_ble_eq_true rfl) (Nat.le_of_ble_eq_true rfl) dX5_init_110 (fun q77 H hP hD hS => ?_)
    refine lv_dup hx hb dX5_init_113 rfl ?_
    refine gn_callN (rest := [.ref q77, .int 2, .ref q5]) X hE hA hP hD hS (cX3 l G q77 _) hE.2.2.2.2.2.2 (q_160) (q_161) (q_41) (by decide +kernel) rfl rfl rfl ⟨Nat.le_of_ble_eq_true rfl, Nat.le_of_ble_eq_true rfl⟩ hl.1 rfl (Nat.le_of_ble_eq_true rfl) ⟨Nat.le_of_ble_eq_true rfl, Nat.le_of_ble_eq_true rfl⟩ dX5_init_114 (fun u79 H locs hP hD hS => ?_)
    have hP : va_P G.1 vwCl ((h0, .inr (5, [.ref q5, .ref q8, .ref q13, .ref q18, .ref q23, .ref q28, .ref q33, .ref q39, .ref q43, .int 0])) :: (q5, .inl (G.2 3, 8, .inr (.inr (.inr (.inr (va_up (va_up (fun _ => none) (Int32.toNatClampNeg 0) (some q53)) (Int32.toNatClampNeg 1) (some q65))))))) :: (T10 ++ bX3 G q77 u79)) H := hP
    have hD : va_D A ((h0, .inr (5, [.ref q5, .ref q8, .ref q13, .ref q18, .ref q23, .ref q28, .ref q33, .ref q39, .ref q43, .int 0])) :: (q5, .inl (G.2 3, 8, .inr (.inr (.inr (.inr (va_up (va_up (fun _ => none) (Int32.toNatClampNeg 0) (some q53)) (Int32.toNatClampNeg 1) (some q65))))))) :: (T10 ++ bX3 G q77 u79)) := hD
    refine gn_aast (t := 3) (ci := 3) (qk := List.length T10) X rfl hP hD hS gn_lastAt rfl (by unfold vp_in; decide) dX5_init_117 (fun H locs hP hD hS => ?_)
    have hP : va_P G.1 vwCl ((h0, .inr (5, [.ref q5, .ref q8, .ref q13, .ref q18, .ref q23, .ref q28, .ref q33, .ref q39, .ref q43, .int 0])) :: (q5, .inl (G.2 3, 8, .inr (.inr (.inr (.inr (va_up (va_up (va_up (fun _ => none) (Int32.toNatClampNeg 0) (some q53)) (Int32.toNatClampNeg 1) (some q65)) (Int32.toNatClampNeg 2) (some q77))))))) :: (T10 ++ bX3 G q77 u79)) H := hP
    have hD : va_D A ((h0, .inr (5, [.ref q5, .ref q8, .ref q13, .ref q18, .ref q23, .ref q28, .ref q33, .ref q39, .ref q43, .int 0])) :: (q5, .inl (G.2 3, 8, .inr (.inr (.inr (.inr (va_up (va_up (va_up (fun _ => none) (Int32.toNatClampNeg 0) (some q53)) (Int32.toNatClampNeg 1) (some q65)) (Int32.toNatClampNeg 2) (some q77))))))) :: (T10 ++ bX3 G q77 u79)) := hD
    generalize hT11 : ((T10 ++ bX3 G q77 u79) : va_W) = T11 at hP hD
    refine lv_iinc (v := 3) (lv' := [(1, .int 3), (0, .ref h0)]) hx hb dX5_init_118 hl (k := 0) rfl (by decide) (by decide) rfl (fun ls hl => ?_)
    refine lv_goto (tgt := 99) hx hb dX5_init_121 (by decide) ?_
    refine lv_iload_n hx hb dX5_init_99 rfl (lv_at hl 0 rfl) ?_
    refine lv_bipush (v := 8) hx hb dX5_init_100 (by decide) ?_
    refine lv_icmp_ge (tgt := 124) hx hb dX5_init_102 (by decide) (fun c_ => absurd c_ (by decide)) (fun _ => ?_)
    refine lv_aload_n hx hb dX5_init_105 rfl (lv_at hl 1 rfl) ?_
    refine gn_get (C := RX5) (T := TX5) (N := 10) (ci := 5) (k := 0) X hP rfl inT_5 (by decide) q_179 rfl rfl dX5_init_106 ?_
    refine lv_iload_n hx hb dX5_init_109 rfl (lv_at hl 0 rfl) ?_
    refine gn_new (C := RX3) (T := TX3) (N := 4) (ci := 3) (ty := tyX3) (fs := [.null, .int 0, .int 0, .int 0]) X hA hP hD hS rfl inT_3 tyX3_ok q_54 q_158 q_41 (fun j hj => by
      match j, hj with
      | 0, _ => rfl
      | 1, _ => rfl
      | 2, _ => rfl
      | 3, _ => rfl
      | j + 4, hj => omega) (Nat.le_of_ble_eq_true rfl) (Nat.le_of_ble_eq_true rfl) dX5_init_110 (fun q89 H hP hD hS => ?_)
    refine lv_dup hx hb dX5_init_113 rfl ?_
    refine gn_callN (rest := [.ref q89, .int 3, .ref q5]) X hE hA hP hD hS (cX3 l G q89 _) hE.2.2.2.2.2.2 (q_160) (q_161) (q_41) (by decide +kernel) rfl rfl rfl ⟨Nat.le_of_ble_eq_true rfl, Nat.le_of_ble_eq_true rfl⟩ hl.1 rfl (Nat.le_of_ble_eq_true rfl) ⟨Nat.le_of_ble_eq_true rfl, Nat.le_of_ble_eq_true rfl⟩ dX5_init_114 (fun u91 H locs hP hD hS => ?_)
    have hP : va_P G.1 vwCl ((h0, .inr (5, [.ref q5, .ref q8, .ref q13, .ref q18, .ref q23, .ref q28, .ref q33, .ref q39, .ref q43, .int 0])) :: (q5, .inl (G.2 3, 8, .inr (.inr (.inr (.inr (va_up (va_up (va_up (fun _ => none) (Int32.toNatClampNeg 0) (some q53)) (Int32.toNatClampNeg 1) (some q65)) (Int32.toNatClampNeg 2) (some q77))))))) :: (T11 ++ bX3 G q89 u91)) H := hP
    have hD : va_D A ((h0, .inr (5, [.ref q5, .ref q8, .ref q13, .ref q18, .ref q23, .ref q28, .ref q33, .ref q39, .ref q43, .int 0])) :: (q5, .inl (G.2 3, 8, .inr (.inr (.inr (.inr (va_up (va_up (va_up (fun _ => none) (Int32.toNatClampNeg 0) (some q53)) (Int32.toNatClampNeg 1) (some q65)) (Int32.toNatClampNeg 2) (some q77))))))) :: (T11 ++ bX3 G q89 u91)) := hD
    refine gn_aast (t := 3) (ci := 3) (qk := List.length T11) X rfl hP hD hS gn_lastAt rfl (by unfold vp_in; decide) dX5_init_117 (fun H locs hP hD hS => ?_)
    have hP : va_P G.1 vwCl ((h0, .inr (5, [.ref q5, .ref q8, .ref q13, .ref q18, .ref q23, .ref q28, .ref q33, .ref q39, .ref q43, .int 0])) :: (q5, .inl (G.2 3, 8, .inr (.inr (.inr (.inr (va_up (va_up (va_up (va_up (fun _ => none) (Int32.toNatClampNeg 0) (some q53)) (Int32.toNatClampNeg 1) (some q65)) (Int32.toNatClampNeg 2) (some q77)) (Int32.toNatClampNeg 3) (some q89))))))) :: (T11 ++ bX3 G q89 u91)) H := hP
    have hD : va_D A ((h0, .inr (5, [.ref q5, .ref q8, .ref q13, .ref q18, .ref q23, .ref q28, .ref q33, .ref q39, .ref q43, .int 0])) :: (q5, .inl (G.2 3, 8, .inr (.inr (.inr (.inr (va_up (va_up (va_up (va_up (fun _ => none) (Int32.toNatClampNeg 0) (some q53)) (Int32.toNatClampNeg 1) (some q65)) (Int32.toNatClampNeg 2) (some q77)) (Int32.toNatClampNeg 3) (some q89))))))) :: (T11 ++ bX3 G q89 u91)) := hD
    generalize hT12 : ((T11 ++ bX3 G q89 u91) : va_W) = T12 at hP hD
    refine lv_iinc (v := 4) (lv' := [(1, .int 4), (0, .ref h0)]) hx hb dX5_init_118 hl (k := 0) rfl (by decide) (by decide) rfl (fun ls hl => ?_)
    refine lv_goto (tgt := 99) hx hb dX5_init_121 (by decide) ?_
    refine lv_iload_n hx hb dX5_init_99 rfl (lv_at hl 0 rfl) ?_
    refine lv_bipush (v := 8) hx hb dX5_init_100 (by decide) ?_
    refine lv_icmp_ge (tgt := 124) hx hb dX5_init_102 (by decide) (fun c_ => absurd c_ (by decide)) (fun _ => ?_)
    refine lv_aload_n hx hb dX5_init_105 rfl (lv_at hl 1 rfl) ?_
    refine gn_get (C := RX5) (T := TX5) (N := 10) (ci := 5) (k := 0) X hP rfl inT_5 (by decide) q_179 rfl rfl dX5_init_106 ?_
    refine lv_iload_n hx hb dX5_init_109 rfl (lv_at hl 0 rfl) ?_
    refine gn_new (C := RX3) (T := TX3) (N := 4) (ci := 3) (ty := tyX3) (fs := [.null, .int 0, .int 0, .int 0]) X hA hP hD hS rfl inT_3 tyX3_ok q_54 q_158 q_41 (fun j hj => by
      match j, hj with
      | 0, _ => rfl
      | 1, _ => rfl
      | 2, _ => rfl
      | 3, _ => rfl
      | j + 4, hj => omega) (Nat.le_of_ble_eq_true rfl) (Nat.le_of_ble_eq_true rfl) dX5_init_110 (fun q101 H hP hD hS => ?_)
    refine lv_dup hx hb dX5_init_113 rfl ?_
    refine gn_callN (rest := [.ref q101, .int 4, .ref q5]) X hE hA hP hD hS (cX3 l G q101 _) hE.2.2.2.2.2.2 (q_160) (q_161) (q_41) (by decide +kernel) rfl rfl rfl ⟨Nat.le_of_ble_eq_true rfl, Nat.le_of_ble_eq_true rfl⟩ hl.1 rfl (Nat.le_of_ble_eq_true rfl) ⟨Nat.le_of_ble_eq_true rfl, Nat.le_of_ble_eq_true rfl⟩ dX5_init_114 (fun u103 H locs hP hD hS => ?_)
    have hP : va_P G.1 vwCl ((h0, .inr (5, [.ref q5, .ref q8, .ref q13, .ref q18, .ref q23, .ref q28, .ref q33, .ref q39, .ref q43, .int 0])) :: (q5, .inl (G.2 3, 8, .inr (.inr (.inr (.inr (va_up (va_up (va_up (va_up (fun _ => none) (Int32.toNatClampNeg 0) (some q53)) (Int32.toNatClampNeg 1) (some q65)) (Int32.toNatClampNeg 2) (some q77)) (Int32.toNatClampNeg 3) (some q89))))))) :: (T12 ++ bX3 G q101 u103)) H := hP
    have hD : va_D A ((h0, .inr (5, [.ref q5, .ref q8, .ref q13, .ref q18, .ref q23, .ref q28, .ref q33, .ref q39, .ref q43, .int 0])) :: (q5, .inl (G.2 3, 8, .inr (.inr (.inr (.inr (va_up (va_up (va_up (va_up (fun _ => none) (Int32.toNatClampNeg 0) (some q53)) (Int32.toNatClampNeg 1) (some q65)) (Int32.toNatClampNeg 2) (some q77)) (Int32.toNatClampNeg 3) (some q89))))))) :: (T12 ++ bX3 G q101 u103)) := hD
    refine gn_aast (t := 3) (ci := 3) (qk := List.length T12) X rfl hP hD hS gn_lastAt rfl (by unfold vp_in; decide) dX5_init_117 (fun H locs hP hD hS => ?_)
    have hP : va_P G.1 vwCl ((h0, .inr (5, [.ref q5, .ref q8, .ref q13, .ref q18, .ref q23, .ref q28, .ref q33, .ref q39, .ref q43, .int 0])) :: (q5, .inl (G.2 3, 8, .inr (.inr (.inr (.inr (va_up (va_up (va_up (va_up (va_up (fun _ => none) (Int32.toNatClampNeg 0) (some q53)) (Int32.toNatClampNeg 1) (some q65)) (Int32.toNatClampNeg 2) (some q77)) (Int32.toNatClampNeg 3) (some q89)) (Int32.toNatClampNeg 4) (some q101))))))) :: (T12 ++ bX3 G q101 u103)) H := hP
    have hD : va_D A ((h0, .inr (5, [.ref q5, .ref q8, .ref q13, .ref q18, .ref q23, .ref q28, .ref q33, .ref q39, .ref q43, .int 0])) :: (q5, .inl (G.2 3, 8, .inr (.inr (.inr (.inr (va_up (va_up (va_up (va_up (va_up (fun _ => none) (Int32.toNatClampNeg 0) (some q53)) (Int32.toNatClampNeg 1) (some q65)) (Int32.toNatClampNeg 2) (some q77)) (Int32.toNatClampNeg 3) (some q89)) (Int32.toNatClampNeg 4) (some q101))))))) :: (T12 ++ bX3 G q101 u103)) := hD
    generalize hT13 : ((T12 ++ bX3 G q101 u103) : va_W) = T13 at hP hD
    refine lv_iinc (v := 5) (lv' := [(1, .int 5), (0, .ref h0)]) hx hb dX5_init_118 hl (k := 0) rfl (by decide) (by decide) rfl (fun ls hl => ?_)
    refine lv_goto (tgt := 99) hx hb dX5_init_121 (by decide) ?_
    refine lv_iload_n hx hb dX5_init_99 rfl (lv_at hl 0 rfl) ?_
    refine lv_bipush (v := 8) hx hb dX5_init_100 (by decide) ?_
    refine lv_icmp_ge (tgt := 124) hx hb dX5_init_102 (by decide) (fun c_ => absurd c_ (by decide)) (fun _ => ?_)
    refine lv_aload_n hx hb dX5_init_105 rfl (lv_at hl 1 rfl) ?_
    refine gn_get (C := RX5) (T := TX5) (N := 10) (ci := 5) (k := 0) X hP rfl inT_5 (by decide) q_179 rfl rfl dX5_init_106 ?_
    refine lv_iload_n hx hb dX5_init_109 rfl (lv_at hl 0 rfl) ?_
    refine gn_new (C := RX3) (T := TX3) (N := 4) (ci := 3) (ty := tyX3) (fs := [.null, .int 0, .int 0, .int 0]) X hA hP hD hS rfl inT_3 tyX3_ok q_54 q_158 q_41 (fun j hj => by
      match j, hj with
      | 0, _ => rfl
      | 1, _ => rfl
      | 2, _ => rfl
      | 3, _ => rfl
      | j + 4, hj => omega) (Nat.le_of_ble_eq_true rfl) (Nat.le_of_ble_eq_true rfl) dX5_init_110 (fun q113 H hP hD hS => ?_)
    refine lv_dup hx hb dX5_init_113 rfl ?_
    refine gn_callN (rest := [.ref q113, .int 5, .ref q5]) X hE hA hP hD hS (cX3 l G q113 _) hE.2.2.2.2.2.2 (q_160) (q_161) (q_41) (by decide +kernel) rfl rfl rfl ⟨Nat.le_of_ble_eq_true rfl, Nat.le_of_ble_eq_true rfl⟩ hl.1 rfl (Nat.le_of_ble_eq_true rfl) ⟨Nat.le_of_ble_eq_true rfl, Nat.le_of_ble_eq_true rfl⟩ dX5_init_114 (fun u115 H locs hP hD hS => ?_)
    have hP : va_P G.1 vwCl ((h0, .inr (5, [.ref q5, .ref q8, .ref q13, .ref q18, .ref q23, .ref q28, .ref q33, .ref q39, .ref q43, .int 0])) :: (q5, .inl (G.2 3, 8, .inr (.inr (.inr (.inr (va_up (va_up (va_up (va_up (va_up (fun _ => none) (Int32.toNatClampNeg 0) (some q53)) (Int32.toNatClampNeg 1) (some q65)) (Int32.toNatClampNeg 2) (some q77)) (Int32.toNatClampNeg 3) (some q89)) (Int32.toNatClampNeg 4) (some q101))))))) :: (T13 ++ bX3 G q113 u115)) H := hP
    have hD : va_D A ((h0, .inr (5, [.ref q5, .ref q8, .ref q13, .ref q18, .ref q23, .ref q28, .ref q33, .ref q39, .ref q43, .int 0])) :: (q5, .inl (G.2 3, 8, .inr (.inr (.inr (.inr (va_up (va_up (va_up (va_up (va_up (fun _ => none) (Int32.toNatClampNeg 0) (some q53)) (Int32.toNatClampNeg 1) (some q65)) (Int32.toNatClampNeg 2) (some q77)) (Int32.toNatClampNeg 3) (some q89)) (Int32.toNatClampNeg 4) (some q101))))))) :: (T13 ++ bX3 G q113 u115)) := hD
    refine gn_aast (t := 3) (ci := 3) (qk := List.length T13) X rfl hP hD hS gn_lastAt rfl (by unfold vp_in; decide) dX5_init_117 (fun H locs hP hD hS => ?_)
    have hP : va_P G.1 vwCl ((h0, .inr (5, [.ref q5, .ref q8, .ref q13, .ref q18, .ref q23, .ref q28, .ref q33, .ref q39, .ref q43, .int 0])) :: (q5, .inl (G.2 3, 8, .inr (.inr (.inr (.inr (va_up (va_up (va_up (va_up (va_up (va_up (fun _ => none) (Int32.toNatClampNeg 0) (some q53)) (Int32.toNatClampNeg 1) (some q65)) (Int32.toNatClampNeg 2) (some q77)) (Int32.toNatClampNeg 3) (some q89)) (Int32.toNatClampNeg 4) (some q101)) (Int32.toNatClampNeg 5) (some q113))))))) :: (T13 ++ bX3 G q113 u115)) H := hP
    have hD : va_D A ((h0, .inr (5, [.ref q5, .ref q8, .ref q13, .ref q18, .ref q23, .ref q28, .ref q33, .ref q39, .ref q43, .int 0])) :: (q5, .inl (G.2 3, 8, .inr (.inr (.inr (.inr (va_up (va_up (va_up (va_up (va_up (va_up (fun _ => none) (Int32.toNatClampNeg 0) (some q53)) (Int32.toNatClampNeg 1) (some q65)) (Int32.toNatClampNeg 2) (some q77)) (Int32.toNatClampNeg 3) (some q89)) (Int32.toNatClampNeg 4) (some q101)) (Int32.toNatClampNeg 5) (some q113))))))) :: (T13 ++ bX3 G q113 u115)) := hD
    generalize hT14 : ((T13 ++ bX3 G q113 u115) : va_W) = T14 at hP hD
    refine lv_iinc (v := 6) (lv' := [(1, .int 6), (0, .ref h0)]) hx hb dX5_init_118 hl (k := 0) rfl (by decide) (by decide) rfl (fun ls hl => ?_)
    refine lv_goto (tgt := 99) hx hb dX5_init_121 (by decide) ?_
    refine lv_iload_n hx hb dX5_init_99 rfl (lv_at hl 0 rfl) ?_
    refine lv_bipush (v := 8) hx hb dX5_init_100 (by decide) ?_
    refine lv_icmp_ge (tgt := 124) hx hb dX5_init_102 (by decide) (fun c_ => absurd c_ (by decide)) (fun _ => ?_)
    refine lv_aload_n hx hb dX5_init_105 rfl (lv_at hl 1 rfl) ?_
    refine gn_get (C := RX5) (T := TX5) (N := 10) (ci := 5) (k := 0) X hP rfl inT_5 (by decide) q_179 rfl rfl dX5_init_106 ?_
    refine lv_iload_n hx hb dX5_init_109 rfl (lv_at hl 0 rfl) ?_
    refine gn_new (C := RX3) (T := TX3) (N := 4) (ci := 3) (ty := tyX3) (fs := [.null, .int 0, .int 0, .int 0]) X hA hP hD hS rfl inT_3 tyX3_ok q_54 q_158 q_41 (fun j hj => by
      match j, hj with
      | 0, _ => rfl
      | 1, _ => rfl
      | 2, _ => rfl
      | 3, _ => rfl
      | j + 4, hj => omega) (Nat.le_of_ble_eq_true rfl) (Nat.le_of_ble_eq_true rfl) dX5_init_110 (fun q125 H hP hD hS => ?_)
    refine lv_dup hx hb dX5_init_113 rfl ?_
    refine gn_callN (rest := [.ref q125, .int 6, .ref q5]) X hE hA hP hD hS (cX3 l G q125 _) hE.2.2.2.2.2.2 (q_160) (q_161) (q_41) (by decide +kernel) rfl rfl rfl ⟨Nat.le_of_ble_eq_true rfl, Nat.le_of_ble_eq_true rfl⟩ hl.1 rfl (Nat.le_of_ble_eq_true rfl) ⟨Nat.le_of_ble_eq_true rfl, Nat.le_of_ble_eq_true rfl⟩ dX5_init_114 (fun u127 H locs hP hD hS => ?_)
    have hP : va_P G.1 vwCl ((h0, .inr (5, [.ref q5, .ref q8, .ref q13, .ref q18, .ref q23, .ref q28, .ref q33, .ref q39, .ref q43, .int 0])) :: (q5, .inl (G.2 3, 8, .inr (.inr (.inr (.inr (va_up (va_up (va_up (va_up (va_up (va_up (fun _ => none) (Int32.toNatClampNeg 0) (some q53)) (Int32.toNatClampNeg 1) (some q65)) (Int32.toNatClampNeg 2) (some q77)) (Int32.toNatClampNeg 3) (some q89)) (Int32.toNatClampNeg 4) (some q101)) (Int32.toNatClampNeg 5) (some q113))))))) :: (T14 ++ bX3 G q125 u127)) H := hP
    have hD : va_D A ((h0, .inr (5, [.ref q5, .ref q8, .ref q13, .ref q18, .ref q23, .ref q28, .ref q33, .ref q39, .ref q43, .int 0])) :: (q5, .inl (G.2 3, 8, .inr (.inr (.inr (.inr (va_up (va_up (va_up (va_up (va_up (va_up (fun _ => none) (Int32.toNatClampNeg 0) (some q53)) (Int32.toNatClampNeg 1) (some q65)) (Int32.toNatClampNeg 2) (some q77)) (Int32.toNatClampNeg 3) (some q89)) (Int32.toNatClampNeg 4) (some q101)) (Int32.toNatClampNeg 5) (some q113))))))) :: (T14 ++ bX3 G q125 u127)) := hD
    refine gn_aast (t := 3) (ci := 3) (qk := List.length T14) X rfl hP hD hS gn_lastAt rfl (by unfold vp_in; decide) dX5_init_117 (fun H locs hP hD hS => ?_)
    have hP : va_P G.1 vwCl ((h0, .inr (5, [.ref q5, .ref q8, .ref q13, .ref q18, .ref q23, .ref q28, .ref q33, .ref q39, .ref q43, .int 0])) :: (q5, .inl (G.2 3, 8, .inr (.inr (.inr (.inr (va_up (va_up (va_up (va_up (va_up (va_up (va_up (fun _ => none) (Int32.toNatClampNeg 0) (some q53)) (Int32.toNatClampNeg 1) (some q65)) (Int32.toNatClampNeg 2) (some q77)) (Int32.toNatClampNeg 3) (some q89)) (Int32.toNatClampNeg 4) (some q101)) (Int32.toNatClampNeg 5) (some q113)) (Int32.toNatClampNeg 6) (some q125))))))) :: (T14 ++ bX3 G q125 u127)) H := hP
    have hD : va_D A ((h0, .inr (5, [.ref q5, .ref q8, .ref q13, .ref q18, .ref q23, .ref q28, .ref q33, .ref q39, .ref q43, .int 0])) :: (q5, .inl (G.2 3, 8, .inr (.inr (.inr (.inr (va_up (va_up (va_up (va_up (va_up (va_up (va_up (fun _ => none) (Int32.toNatClampNeg 0) (some q53)) (Int32.toNatClampNeg 1) (some q65)) (Int32.toNatClampNeg 2) (some q77)) (Int32.toNatClampNeg 3) (some q89)) (Int32.toNatClampNeg 4) (some q101)) (Int32.toNatClampNeg 5) (some q113)) (Int32.toNatClampNeg 6) (some q125))))))) :: (T14 ++ bX3 G q125 u127)) := hD
    generalize hT15 : ((T14 ++ bX3 G q125 u127) : va_W) = T15 at hP hD
    refine lv_iinc (v := 7) (lv' := [(1, .int 7), (0, .ref h0)]) hx hb dX5_init_118 hl (k := 0) rfl (by decide) (by decide) rfl (fun ls hl => ?_)
    refine lv_goto (tgt := 99) hx hb dX5_init_121 (by decide) ?_
    refine lv_iload_n hx hb dX5_init_99 rfl (lv_at hl 0 rfl) ?_
    refine lv_bipush (v := 8) hx hb dX5_init_100 (by decide) ?_
    refine lv_icmp_ge (tgt := 124) hx hb dX5_init_102 (by decide) (fun c_ => absurd c_ (by decide)) (fun _ => ?_)
    refine lv_aload_n hx hb dX5_init_105 rfl (lv_at hl 1 rfl) ?_
    refine gn_get (C := RX5) (T := TX5) (N := 10) (ci := 5) (k := 0) X hP rfl inT_5 (by decide) q_179 rfl rfl dX5_init_106 ?_
    refine lv_iload_n hx hb dX5_init_109 rfl (lv_at hl 0 rfl) ?_
    refine gn_new (C := RX3) (T := TX3) (N := 4) (ci := 3) (ty := tyX3) (fs := [.null, .int 0, .int 0, .int 0]) X hA hP hD hS rfl inT_3 tyX3_ok q_54 q_158 q_41 (fun j hj => by
      match j, hj with
      | 0, _ => rfl
      | 1, _ => rfl
      | 2, _ => rfl
      | 3, _ => rfl
      | j + 4, hj => omega) (Nat.le_of_ble_eq_true rfl) (Nat.le_of_ble_eq_true rfl) dX5_init_110 (fun q137 H hP hD hS => ?_)
    refine lv_dup hx hb dX5_init_113 rfl ?_
    refine gn_callN (rest := [.ref q137, .int 7, .ref q5]) X hE hA hP hD hS (cX3 l G q137 _) hE.2.2.2.2.2.2 (q_160) (q_161) (q_41) (by decide +kernel) rfl rfl rfl ⟨Nat.le_of_ble_eq_true rfl, Nat.le_of_ble_eq_true rfl⟩ hl.1 rfl (Nat.le_of_ble_eq_true rfl) ⟨Nat.le_of_ble_eq_true rfl, Nat.le_of_ble_eq_true rfl⟩ dX5_init_114 (fun u139 H locs hP hD hS => ?_)
    have hP : va_P G.1 vwCl ((h0, .inr (5, [.ref q5, .ref q8, .ref q13, .ref q18, .ref q23, .ref q28, .ref q33, .ref q39, .ref q43, .int 0])) :: (q5, .inl (G.2 3, 8, .inr (.inr (.inr (.inr (va_up (va_up (va_up (va_up (va_up (va_up (va_up (fun _ => none) (Int32.toNatClampNeg 0) (some q53)) (Int32.toNatClampNeg 1) (some q65)) (Int32.toNatClampNeg 2) (some q77)) (Int32.toNatClampNeg 3) (some q89)) (Int32.toNatClampNeg 4) (some q101)) (Int32.toNatClampNeg 5) (some q113)) (Int32.toNatClampNeg 6) (some q125))))))) :: (T15 ++ bX3 G q137 u139)) H := hP
    have hD : va_D A ((h0, .inr (5, [.ref q5, .ref q8, .ref q13, .ref q18, .ref q23, .ref q28, .ref q33, .ref q39, .ref q43, .int 0])) :: (q5, .inl (G.2 3, 8, .inr (.inr (.inr (.inr (va_up (va_up (va_up (va_up (va_up (va_up (va_up (fun _ => none) (Int32.toNatClampNeg 0) (some q53)) (Int32.toNatClampNeg 1) (some q65)) (Int32.toNatClampNeg 2) (some q77)) (Int32.toNatClampNeg 3) (some q89)) (Int32.toNatClampNeg 4) (some q101)) (Int32.toNatClampNeg 5) (some q113)) (Int32.toNatClampNeg 6) (some q125))))))) :: (T15 ++ bX3 G q137 u139)) := hD
    refine gn_aast (t := 3) (ci := 3) (qk := List.length T15) X rfl hP hD hS gn_lastAt rfl (by unfold vp_in; decide) dX5_init_117 (fun H locs hP hD hS => ?_)
    have hP : va_P G.1 vwCl ((h0, .inr (5, [.ref q5, .ref q8, .ref q13, .ref q18, .ref q23, .ref q28, .ref q33, .ref q39, .ref q43, .int 0])) :: (q5, .inl (G.2 3, 8, .inr (.inr (.inr (.inr (va_up (va_up (va_up (va_up (va_up (va_up (va_up (va_up (fun _ => none) (Int32.toNatClampNeg 0) (some q53)) (Int32.toNatClampNeg 1) (some q65)) (Int32.toNatClampNeg 2) (some q77)) (Int32.toNatClampNeg 3) (some q89)) (Int32.toNatClampNeg 4) (some q101)) (Int32.toNatClampNeg 5) (some q113)) (Int32.toNatClampNeg 6) (some q125)) (Int32.toNatClampNeg 7) (some q137))))))) :: (T15 ++ bX3 G q137 u139)) H := hP
    have hD : va_D A ((h0, .inr (5, [.ref q5, .ref q8, .ref q13, .ref q18, .ref q23, .ref q28, .ref q33, .ref q39, .ref q43, .int 0])) :: (q5, .inl (G.2 3, 8, .inr (.inr (.inr (.inr (va_up (va_up (va_up (va_up (va_up (va_up (va_up (va_up (fun _ => none) (Int32.toNatClampNeg 0) (some q53)) (Int32.toNatClampNeg 1) (some q65)) (Int32.toNatClampNeg 2) (some q77)) (Int32.toNatClampNeg 3) (some q89)) (Int32.toNatClampNeg 4) (some q101)) (Int32.toNatClampNeg 5) (some q113)) (Int32.toNatClampNeg 6) (some q125)) (Int32.toNatClampNeg 7) (some q137))))))) :: (T15 ++ bX3 G q137 u139)) := hD
    generalize hT16 : ((T15 ++ bX3 G q137 u139) : va_W) = T16 at hP hD
    refine lv_iinc (v := 8) (lv' := [(1, .int 8), (0, .ref h0)]) hx hb dX5_init_118 hl (k := 0) rfl (by decide) (by decide) rfl (fun ls hl => ?_)
    refine lv_goto (tgt := 99) hx hb dX5_init_121 (by decide) ?_
    refine lv_iload_n hx hb dX5_init_99 rfl (lv_at hl 0 rfl) ?_
    refine lv_bipush (v := 8) hx hb dX5_init_100 (by decide) ?_
    refine lv_icmp_ge (tgt := 124) hx hb dX5_init_102 (by decide) (fun _ => ?_) (fun c_ => absurd (by decide) c_)
    have hi : (((h0, .inr (5, [.ref q5, .ref q8, .ref q13, .ref q18, .ref q23, .ref q28, .ref q33, .ref q39, .ref q43, .int 0])) :: (q5, .inl (G.2 3, 8, .inr (.inr (.inr (.inr (va_up (va_up (va_up (va_up (va_up (va_up (va_up (va_up (fun _ => none) (Int32.toNatClampNeg 0) (some q53)) (Int32.toNatClampNeg 1) (some q65)) (Int32.toNatClampNeg 2) (some q77)) (Int32.toNatClampNeg 3) (some q89)) (Int32.toNatClampNeg 4) (some q101)) (Int32.toNatClampNeg 5) (some q113)) (Int32.toNatClampNeg 6) (some q125)) (Int32.toNatClampNeg 7) (some q137))))))) :: T16) : va_W)[1]? = some (q5, .inl (G.2 3, 8, .inr (.inr (.inr (.inr (va_up (va_up (va_up (va_up (va_up (va_up (va_up (va_up (fun _ => none) (Int32.toNatClampNeg 0) (some q53)) (Int32.toNatClampNeg 1) (some q65)) (Int32.toNatClampNeg 2) (some q77)) (Int32.toNatClampNeg 3) (some q89)) (Int32.toNatClampNeg 4) (some q101)) (Int32.toNatClampNeg 5) (some q113)) (Int32.toNatClampNeg 6) (some q125)) (Int32.toNatClampNeg 7) (some q137))))))) := rfl
    have hD := hD.set (e := .inl (G.2 3, 8, .inr (.inr (.inr (.inr (fun k => some (aX h0 (q5 :: q8 :: (u10.getD 0 0) :: (u10.getD 1 0) :: q13 :: (u15.getD 0 0) :: (u15.getD 1 0) :: (u15.getD 2 0) :: (u15.getD 3 0) :: q18 :: (u20.getD 0 0) :: (u20.getD 1 0) :: (u20.getD 2 0) :: q23 :: (u25.getD 0 0) :: (u25.getD 1 0) :: (u25.getD 2 0) :: (u25.getD 3 0) :: (u25.getD 4 0) :: (u25.getD 5 0) :: (u25.getD 6 0) :: (u25.getD 7 0) :: (u25.getD 8 0) :: (u25.getD 9 0) :: (u25.getD 10 0) :: (u25.getD 11 0) :: (u25.getD 12 0) :: (u25.getD 13 0) :: (u25.getD 14 0) :: (u25.getD 15 0) :: (u25.getD 16 0) :: (u25.getD 17 0) :: (u25.getD 18 0) :: (u25.getD 19 0) :: (u25.getD 20 0) :: q28 :: (u30.getD 0 0) :: (u30.getD 1 0) :: (u30.getD 2 0) :: (u30.getD 3 0) :: q33 :: (u35.getD 0 0) :: (u35.getD 1 0) :: (u35.getD 2 0) :: q39 :: q43 :: q53 :: (u55.getD 0 0) :: q65 :: (u67.getD 0 0) :: q77 :: (u79.getD 0 0) :: q89 :: (u91.getD 0 0) :: q101 :: (u103.getD 0 0) :: q113 :: (u115.getD 0 0) :: q125 :: (u127.getD 0 0) :: q137 :: (u139.getD 0 0) :: []) (47 + 2 * k)))))))) hi
    have hP := gn_fixQ (g := (fun k => some (aX h0 (q5 :: q8 :: (u10.getD 0 0) :: (u10.getD 1 0) :: q13 :: (u15.getD 0 0) :: (u15.getD 1 0) :: (u15.getD 2 0) :: (u15.getD 3 0) :: q18 :: (u20.getD 0 0) :: (u20.getD 1 0) :: (u20.getD 2 0) :: q23 :: (u25.getD 0 0) :: (u25.getD 1 0) :: (u25.getD 2 0) :: (u25.getD 3 0) :: (u25.getD 4 0) :: (u25.getD 5 0) :: (u25.getD 6 0) :: (u25.getD 7 0) :: (u25.getD 8 0) :: (u25.getD 9 0) :: (u25.getD 10 0) :: (u25.getD 11 0) :: (u25.getD 12 0) :: (u25.getD 13 0) :: (u25.getD 14 0) :: (u25.getD 15 0) :: (u25.getD 16 0) :: (u25.getD 17 0) :: (u25.getD 18 0) :: (u25.getD 19 0) :: (u25.getD 20 0) :: q28 :: (u30.getD 0 0) :: (u30.getD 1 0) :: (u30.getD 2 0) :: (u30.getD 3 0) :: q33 :: (u35.getD 0 0) :: (u35.getD 1 0) :: (u35.getD 2 0) :: q39 :: q43 :: q53 :: (u55.getD 0 0) :: q65 :: (u67.getD 0 0) :: q77 :: (u79.getD 0 0) :: q89 :: (u91.getD 0 0) :: q101 :: (u103.getD 0 0) :: q113 :: (u115.getD 0 0) :: q125 :: (u127.getD 0 0) :: q137 :: (u139.getD 0 0) :: []) (47 + 2 * k)))) hP hi (fun j hj => by
      match j, hj with
      | 0, _ => rfl
      | 1, _ => rfl
      | 2, _ => rfl
      | 3, _ => rfl
      | 4, _ => rfl
      | 5, _ => rfl
      | 6, _ => rfl
      | 7, _ => rfl
      | j + 8, hj => omega)
    subst hT16
    subst hT15
    subst hT14
    subst hT13
    subst hT12
    subst hT11
    subst hT10
    subst hT9
    subst hT8
    subst hT7
    subst hT6
    subst hT5
    subst hT4
    subst hT3
    subst hT2
    subst hT1
    have hP : va_P G.1 vwCl ((h0, .inr (5, [.ref q5, .ref q8, .ref q13, .ref q18, .ref q23, .ref q28, .ref q33, .ref q39, .ref q43, .int 0])) :: (q5, .inl (G.2 3, 8, .inr (.inr (.inr (.inr (fun k => some (aX h0 (q5 :: q8 :: (u10.getD 0 0) :: (u10.getD 1 0) :: q13 :: (u15.getD 0 0) :: (u15.getD 1 0) :: (u15.getD 2 0) :: (u15.getD 3 0) :: q18 :: (u20.getD 0 0) :: (u20.getD 1 0) :: (u20.getD 2 0) :: q23 :: (u25.getD 0 0) :: (u25.getD 1 0) :: (u25.getD 2 0) :: (u25.getD 3 0) :: (u25.getD 4 0) :: (u25.getD 5 0) :: (u25.getD 6 0) :: (u25.getD 7 0) :: (u25.getD 8 0) :: (u25.getD 9 0) :: (u25.getD 10 0) :: (u25.getD 11 0) :: (u25.getD 12 0) :: (u25.getD 13 0) :: (u25.getD 14 0) :: (u25.getD 15 0) :: (u25.getD 16 0) :: (u25.getD 17 0) :: (u25.getD 18 0) :: (u25.getD 19 0) :: (u25.getD 20 0) :: q28 :: (u30.getD 0 0) :: (u30.getD 1 0) :: (u30.getD 2 0) :: (u30.getD 3 0) :: q33 :: (u35.getD 0 0) :: (u35.getD 1 0) :: (u35.getD 2 0) :: q39 :: q43 :: q53 :: (u55.getD 0 0) :: q65 :: (u67.getD 0 0) :: q77 :: (u79.getD 0 0) :: q89 :: (u91.getD 0 0) :: q101 :: (u103.getD 0 0) :: q113 :: (u115.getD 0 0) :: q125 :: (u127.getD 0 0) :: q137 :: (u139.getD 0 0) :: []) (47 + 2 * k)))))))) :: (q8, .inr (4, [.ref (u10.getD 0 0), .ref (u10.getD 1 0), .int 0, .int 1000])) :: ((u10.getD 0 0), .inl (G.2 0, 10, .inl (fun _ => 0))) :: ((u10.getD 1 0), .inl (G.2 0, 10, .inl (fun _ => 0))) :: (q13, .inr (1, [.ref (u15.getD 0 0), .ref (u15.getD 1 0), .ref (u15.getD 2 0), .ref (u15.getD 3 0), .int 0, .int 0, .int 0])) :: ((u15.getD 0 0), .inl (G.2 0, 64, .inl (fun _ => 0))) :: ((u15.getD 1 0), .inl (G.2 0, 64, .inl (fun _ => 0))) :: ((u15.getD 2 0), .inl (G.2 0, 64, .inl (fun _ => 0))) :: ((u15.getD 3 0), .inl (G.2 0, 64, .inl (fun _ => 0))) :: (q18, .inr (0, [.ref (u20.getD 0 0), .ref (u20.getD 1 0), .ref (u20.getD 2 0), .int 0])) :: ((u20.getD 0 0), .inl (G.2 1, 3904, .inr (.inl (fun _ => 0)))) :: ((u20.getD 1 0), .inl (G.2 1, 64, .inr (.inl (fun _ => 0)))) :: ((u20.getD 2 0), .inl (G.2 1, 305, .inr (.inl (fun _ => 0)))) :: (q23, .inr (2, [.ref (u25.getD 0 0), .int 0, .int 0])) :: ((u25.getD 0 0), .inl (G.2 2, 5, .inr (.inr (.inr (.inr (fun k => some (u25.getD (1 + 4 * k) 0))))))) :: ((u25.getD 1 0), .inr (0, [.ref (u25.getD 2 0), .ref (u25.getD 3 0), .ref (u25.getD 4 0), .int 0])) :: ((u25.getD 2 0), .inl (G.2 1, 3904, .inr (.inl (fun _ => 0)))) :: ((u25.getD 3 0), .inl (G.2 1, 64, .inr (.inl (fun _ => 0)))) :: ((u25.getD 4 0), .inl (G.2 1, 305, .inr (.inl (fun _ => 0)))) :: ((u25.getD 5 0), .inr (0, [.ref (u25.getD 6 0), .ref (u25.getD 7 0), .ref (u25.getD 8 0), .int 0])) :: ((u25.getD 6 0), .inl (G.2 1, 3904, .inr (.inl (fun _ => 0)))) :: ((u25.getD 7 0), .inl (G.2 1, 64, .inr (.inl (fun _ => 0)))) :: ((u25.getD 8 0), .inl (G.2 1, 305, .inr (.inl (fun _ => 0)))) :: ((u25.getD 9 0), .inr (0, [.ref (u25.getD 10 0), .ref (u25.getD 11 0), .ref (u25.getD 12 0), .int 0])) :: ((u25.getD 10 0), .inl (G.2 1, 3904, .inr (.inl (fun _ => 0)))) :: ((u25.getD 11 0), .inl (G.2 1, 64, .inr (.inl (fun _ => 0)))) :: ((u25.getD 12 0), .inl (G.2 1, 305, .inr (.inl (fun _ => 0)))) :: ((u25.getD 13 0), .inr (0, [.ref (u25.getD 14 0), .ref (u25.getD 15 0), .ref (u25.getD 16 0), .int 0])) :: ((u25.getD 14 0), .inl (G.2 1, 3904, .inr (.inl (fun _ => 0)))) :: ((u25.getD 15 0), .inl (G.2 1, 64, .inr (.inl (fun _ => 0)))) :: ((u25.getD 16 0), .inl (G.2 1, 305, .inr (.inl (fun _ => 0)))) :: ((u25.getD 17 0), .inr (0, [.ref (u25.getD 18 0), .ref (u25.getD 19 0), .ref (u25.getD 20 0), .int 0])) :: ((u25.getD 18 0), .inl (G.2 1, 3904, .inr (.inl (fun _ => 0)))) :: ((u25.getD 19 0), .inl (G.2 1, 64, .inr (.inl (fun _ => 0)))) :: ((u25.getD 20 0), .inl (G.2 1, 305, .inr (.inl (fun _ => 0)))) :: (q28, .inr (1, [.ref (u30.getD 0 0), .ref (u30.getD 1 0), .ref (u30.getD 2 0), .ref (u30.getD 3 0), .int 0, .int 0, .int 0])) :: ((u30.getD 0 0), .inl (G.2 0, 64, .inl (fun _ => 0))) :: ((u30.getD 1 0), .inl (G.2 0, 64, .inl (fun _ => 0))) :: ((u30.getD 2 0), .inl (G.2 0, 64, .inl (fun _ => 0))) :: ((u30.getD 3 0), .inl (G.2 0, 64, .inl (fun _ => 0))) :: (q33, .inr (0, [.ref (u35.getD 0 0), .ref (u35.getD 1 0), .ref (u35.getD 2 0), .int 0])) :: ((u35.getD 0 0), .inl (G.2 1, 3904, .inr (.inl (fun _ => 0)))) :: ((u35.getD 1 0), .inl (G.2 1, 64, .inr (.inl (fun _ => 0)))) :: ((u35.getD 2 0), .inl (G.2 1, 305, .inr (.inl (fun _ => 0)))) :: (q39, .inl (G.2 1, 256, .inr (.inl (fun _ => 0)))) :: (q43, .inl (G.2 1, 3904, .inr (.inl (fun _ => 0)))) :: (q53, .inr (3, [.ref (u55.getD 0 0), .int 1, .int 0, .int 0])) :: ((u55.getD 0 0), .inl (G.2 1, 8, .inr (.inl (fun _ => 0)))) :: (q65, .inr (3, [.ref (u67.getD 0 0), .int 1, .int 0, .int 0])) :: ((u67.getD 0 0), .inl (G.2 1, 8, .inr (.inl (fun _ => 0)))) :: (q77, .inr (3, [.ref (u79.getD 0 0), .int 1, .int 0, .int 0])) :: ((u79.getD 0 0), .inl (G.2 1, 8, .inr (.inl (fun _ => 0)))) :: (q89, .inr (3, [.ref (u91.getD 0 0), .int 1, .int 0, .int 0])) :: ((u91.getD 0 0), .inl (G.2 1, 8, .inr (.inl (fun _ => 0)))) :: (q101, .inr (3, [.ref (u103.getD 0 0), .int 1, .int 0, .int 0])) :: ((u103.getD 0 0), .inl (G.2 1, 8, .inr (.inl (fun _ => 0)))) :: (q113, .inr (3, [.ref (u115.getD 0 0), .int 1, .int 0, .int 0])) :: ((u115.getD 0 0), .inl (G.2 1, 8, .inr (.inl (fun _ => 0)))) :: (q125, .inr (3, [.ref (u127.getD 0 0), .int 1, .int 0, .int 0])) :: ((u127.getD 0 0), .inl (G.2 1, 8, .inr (.inl (fun _ => 0)))) :: (q137, .inr (3, [.ref (u139.getD 0 0), .int 1, .int 0, .int 0])) :: ((u139.getD 0 0), .inl (G.2 1, 8, .inr (.inl (fun _ => 0)))) :: []) H := hP
    have hD : va_D A ((h0, .inr (5, [.ref q5, .ref q8, .ref q13, .ref q18, .ref q23, .ref q28, .ref q33, .ref q39, .ref q43, .int 0])) :: (q5, .inl (G.2 3, 8, .inr (.inr (.inr (.inr (fun k => some (aX h0 (q5 :: q8 :: (u10.getD 0 0) :: (u10.getD 1 0) :: q13 :: (u15.getD 0 0) :: (u15.getD 1 0) :: (u15.getD 2 0) :: (u15.getD 3 0) :: q18 :: (u20.getD 0 0) :: (u20.getD 1 0) :: (u20.getD 2 0) :: q23 :: (u25.getD 0 0) :: (u25.getD 1 0) :: (u25.getD 2 0) :: (u25.getD 3 0) :: (u25.getD 4 0) :: (u25.getD 5 0) :: (u25.getD 6 0) :: (u25.getD 7 0) :: (u25.getD 8 0) :: (u25.getD 9 0) :: (u25.getD 10 0) :: (u25.getD 11 0) :: (u25.getD 12 0) :: (u25.getD 13 0) :: (u25.getD 14 0) :: (u25.getD 15 0) :: (u25.getD 16 0) :: (u25.getD 17 0) :: (u25.getD 18 0) :: (u25.getD 19 0) :: (u25.getD 20 0) :: q28 :: (u30.getD 0 0) :: (u30.getD 1 0) :: (u30.getD 2 0) :: (u30.getD 3 0) :: q33 :: (u35.getD 0 0) :: (u35.getD 1 0) :: (u35.getD 2 0) :: q39 :: q43 :: q53 :: (u55.getD 0 0) :: q65 :: (u67.getD 0 0) :: q77 :: (u79.getD 0 0) :: q89 :: (u91.getD 0 0) :: q101 :: (u103.getD 0 0) :: q113 :: (u115.getD 0 0) :: q125 :: (u127.getD 0 0) :: q137 :: (u139.getD 0 0) :: []) (47 + 2 * k)))))))) :: (q8, .inr (4, [.ref (u10.getD 0 0), .ref (u10.getD 1 0), .int 0, .int 1000])) :: ((u10.getD 0 0), .inl (G.2 0, 10, .inl (fun _ => 0))) :: ((u10.getD 1 0), .inl (G.2 0, 10, .inl (fun _ => 0))) :: (q13, .inr (1, [.ref (u15.getD 0 0), .ref (u15.getD 1 0), .ref (u15.getD 2 0), .ref (u15.getD 3 0), .int 0, .int 0, .int 0])) :: ((u15.getD 0 0), .inl (G.2 0, 64, .inl (fun _ => 0))) :: ((u15.getD 1 0), .inl (G.2 0, 64, .inl (fun _ => 0))) :: ((u15.getD 2 0), .inl (G.2 0, 64, .inl (fun _ => 0))) :: ((u15.getD 3 0), .inl (G.2 0, 64, .inl (fun _ => 0))) :: (q18, .inr (0, [.ref (u20.getD 0 0), .ref (u20.getD 1 0), .ref (u20.getD 2 0), .int 0])) :: ((u20.getD 0 0), .inl (G.2 1, 3904, .inr (.inl (fun _ => 0)))) :: ((u20.getD 1 0), .inl (G.2 1, 64, .inr (.inl (fun _ => 0)))) :: ((u20.getD 2 0), .inl (G.2 1, 305, .inr (.inl (fun _ => 0)))) :: (q23, .inr (2, [.ref (u25.getD 0 0), .int 0, .int 0])) :: ((u25.getD 0 0), .inl (G.2 2, 5, .inr (.inr (.inr (.inr (fun k => some (u25.getD (1 + 4 * k) 0))))))) :: ((u25.getD 1 0), .inr (0, [.ref (u25.getD 2 0), .ref (u25.getD 3 0), .ref (u25.getD 4 0), .int 0])) :: ((u25.getD 2 0), .inl (G.2 1, 3904, .inr (.inl (fun _ => 0)))) :: ((u25.getD 3 0), .inl (G.2 1, 64, .inr (.inl (fun _ => 0)))) :: ((u25.getD 4 0), .inl (G.2 1, 305, .inr (.inl (fun _ => 0)))) :: ((u25.getD 5 0), .inr (0, [.ref (u25.getD 6 0), .ref (u25.getD 7 0), .ref (u25.getD 8 0), .int 0])) :: ((u25.getD 6 0), .inl (G.2 1, 3904, .inr (.inl (fun _ => 0)))) :: ((u25.getD 7 0), .inl (G.2 1, 64, .inr (.inl (fun _ => 0)))) :: ((u25.getD 8 0), .inl (G.2 1, 305, .inr (.inl (fun _ => 0)))) :: ((u25.getD 9 0), .inr (0, [.ref (u25.getD 10 0), .ref (u25.getD 11 0), .ref (u25.getD 12 0), .int 0])) :: ((u25.getD 10 0), .inl (G.2 1, 3904, .inr (.inl (fun _ => 0)))) :: ((u25.getD 11 0), .inl (G.2 1, 64, .inr (.inl (fun _ => 0)))) :: ((u25.getD 12 0), .inl (G.2 1, 305, .inr (.inl (fun _ => 0)))) :: ((u25.getD 13 0), .inr (0, [.ref (u25.getD 14 0), .ref (u25.getD 15 0), .ref (u25.getD 16 0), .int 0])) :: ((u25.getD 14 0), .inl (G.2 1, 3904, .inr (.inl (fun _ => 0)))) :: ((u25.getD 15 0), .inl (G.2 1, 64, .inr (.inl (fun _ => 0)))) :: ((u25.getD 16 0), .inl (G.2 1, 305, .inr (.inl (fun _ => 0)))) :: ((u25.getD 17 0), .inr (0, [.ref (u25.getD 18 0), .ref (u25.getD 19 0), .ref (u25.getD 20 0), .int 0])) :: ((u25.getD 18 0), .inl (G.2 1, 3904, .inr (.inl (fun _ => 0)))) :: ((u25.getD 19 0), .inl (G.2 1, 64, .inr (.inl (fun _ => 0)))) :: ((u25.getD 20 0), .inl (G.2 1, 305, .inr (.inl (fun _ => 0)))) :: (q28, .inr (1, [.ref (u30.getD 0 0), .ref (u30.getD 1 0), .ref (u30.getD 2 0), .ref (u30.getD 3 0), .int 0, .int 0, .int 0])) :: ((u30.getD 0 0), .inl (G.2 0, 64, .inl (fun _ => 0))) :: ((u30.getD 1 0), .inl (G.2 0, 64, .inl (fun _ => 0))) :: ((u30.getD 2 0), .inl (G.2 0, 64, .inl (fun _ => 0))) :: ((u30.getD 3 0), .inl (G.2 0, 64, .inl (fun _ => 0))) :: (q33, .inr (0, [.ref (u35.getD 0 0), .ref (u35.getD 1 0), .ref (u35.getD 2 0), .int 0])) :: ((u35.getD 0 0), .inl (G.2 1, 3904, .inr (.inl (fun _ => 0)))) :: ((u35.getD 1 0), .inl (G.2 1, 64, .inr (.inl (fun _ => 0)))) :: ((u35.getD 2 0), .inl (G.2 1, 305, .inr (.inl (fun _ => 0)))) :: (q39, .inl (G.2 1, 256, .inr (.inl (fun _ => 0)))) :: (q43, .inl (G.2 1, 3904, .inr (.inl (fun _ => 0)))) :: (q53, .inr (3, [.ref (u55.getD 0 0), .int 1, .int 0, .int 0])) :: ((u55.getD 0 0), .inl (G.2 1, 8, .inr (.inl (fun _ => 0)))) :: (q65, .inr (3, [.ref (u67.getD 0 0), .int 1, .int 0, .int 0])) :: ((u67.getD 0 0), .inl (G.2 1, 8, .inr (.inl (fun _ => 0)))) :: (q77, .inr (3, [.ref (u79.getD 0 0), .int 1, .int 0, .int 0])) :: ((u79.getD 0 0), .inl (G.2 1, 8, .inr (.inl (fun _ => 0)))) :: (q89, .inr (3, [.ref (u91.getD 0 0), .int 1, .int 0, .int 0])) :: ((u91.getD 0 0), .inl (G.2 1, 8, .inr (.inl (fun _ => 0)))) :: (q101, .inr (3, [.ref (u103.getD 0 0), .int 1, .int 0, .int 0])) :: ((u103.getD 0 0), .inl (G.2 1, 8, .inr (.inl (fun _ => 0)))) :: (q113, .inr (3, [.ref (u115.getD 0 0), .int 1, .int 0, .int 0])) :: ((u115.getD 0 0), .inl (G.2 1, 8, .inr (.inl (fun _ => 0)))) :: (q125, .inr (3, [.ref (u127.getD 0 0), .int 1, .int 0, .int 0])) :: ((u127.getD 0 0), .inl (G.2 1, 8, .inr (.inl (fun _ => 0)))) :: (q137, .inr (3, [.ref (u139.getD 0 0), .int 1, .int 0, .int 0])) :: ((u139.getD 0 0), .inl (G.2 1, 8, .inr (.inl (fun _ => 0)))) :: []) := hD
    have hi2 : (((h0, .inr (5, [.ref q5, .ref q8, .ref q13, .ref q18, .ref q23, .ref q28, .ref q33, .ref q39, .ref q43, .int 0])) :: (q5, .inl (G.2 3, 8, .inr (.inr (.inr (.inr (fun k => some (aX h0 (q5 :: q8 :: (u10.getD 0 0) :: (u10.getD 1 0) :: q13 :: (u15.getD 0 0) :: (u15.getD 1 0) :: (u15.getD 2 0) :: (u15.getD 3 0) :: q18 :: (u20.getD 0 0) :: (u20.getD 1 0) :: (u20.getD 2 0) :: q23 :: (u25.getD 0 0) :: (u25.getD 1 0) :: (u25.getD 2 0) :: (u25.getD 3 0) :: (u25.getD 4 0) :: (u25.getD 5 0) :: (u25.getD 6 0) :: (u25.getD 7 0) :: (u25.getD 8 0) :: (u25.getD 9 0) :: (u25.getD 10 0) :: (u25.getD 11 0) :: (u25.getD 12 0) :: (u25.getD 13 0) :: (u25.getD 14 0) :: (u25.getD 15 0) :: (u25.getD 16 0) :: (u25.getD 17 0) :: (u25.getD 18 0) :: (u25.getD 19 0) :: (u25.getD 20 0) :: q28 :: (u30.getD 0 0) :: (u30.getD 1 0) :: (u30.getD 2 0) :: (u30.getD 3 0) :: q33 :: (u35.getD 0 0) :: (u35.getD 1 0) :: (u35.getD 2 0) :: q39 :: q43 :: q53 :: (u55.getD 0 0) :: q65 :: (u67.getD 0 0) :: q77 :: (u79.getD 0 0) :: q89 :: (u91.getD 0 0) :: q101 :: (u103.getD 0 0) :: q113 :: (u115.getD 0 0) :: q125 :: (u127.getD 0 0) :: q137 :: (u139.getD 0 0) :: []) (47 + 2 * k)))))))) :: (q8, .inr (4, [.ref (u10.getD 0 0), .ref (u10.getD 1 0), .int 0, .int 1000])) :: ((u10.getD 0 0), .inl (G.2 0, 10, .inl (fun _ => 0))) :: ((u10.getD 1 0), .inl (G.2 0, 10, .inl (fun _ => 0))) :: (q13, .inr (1, [.ref (u15.getD 0 0), .ref (u15.getD 1 0), .ref (u15.getD 2 0), .ref (u15.getD 3 0), .int 0, .int 0, .int 0])) :: ((u15.getD 0 0), .inl (G.2 0, 64, .inl (fun _ => 0))) :: ((u15.getD 1 0), .inl (G.2 0, 64, .inl (fun _ => 0))) :: ((u15.getD 2 0), .inl (G.2 0, 64, .inl (fun _ => 0))) :: ((u15.getD 3 0), .inl (G.2 0, 64, .inl (fun _ => 0))) :: (q18, .inr (0, [.ref (u20.getD 0 0), .ref (u20.getD 1 0), .ref (u20.getD 2 0), .int 0])) :: ((u20.getD 0 0), .inl (G.2 1, 3904, .inr (.inl (fun _ => 0)))) :: ((u20.getD 1 0), .inl (G.2 1, 64, .inr (.inl (fun _ => 0)))) :: ((u20.getD 2 0), .inl (G.2 1, 305, .inr (.inl (fun _ => 0)))) :: (q23, .inr (2, [.ref (u25.getD 0 0), .int 0, .int 0])) :: ((u25.getD 0 0), .inl (G.2 2, 5, .inr (.inr (.inr (.inr (fun k => some (u25.getD (1 + 4 * k) 0))))))) :: ((u25.getD 1 0), .inr (0, [.ref (u25.getD 2 0), .ref (u25.getD 3 0), .ref (u25.getD 4 0), .int 0])) :: ((u25.getD 2 0), .inl (G.2 1, 3904, .inr (.inl (fun _ => 0)))) :: ((u25.getD 3 0), .inl (G.2 1, 64, .inr (.inl (fun _ => 0)))) :: ((u25.getD 4 0), .inl (G.2 1, 305, .inr (.inl (fun _ => 0)))) :: ((u25.getD 5 0), .inr (0, [.ref (u25.getD 6 0), .ref (u25.getD 7 0), .ref (u25.getD 8 0), .int 0])) :: ((u25.getD 6 0), .inl (G.2 1, 3904, .inr (.inl (fun _ => 0)))) :: ((u25.getD 7 0), .inl (G.2 1, 64, .inr (.inl (fun _ => 0)))) :: ((u25.getD 8 0), .inl (G.2 1, 305, .inr (.inl (fun _ => 0)))) :: ((u25.getD 9 0), .inr (0, [.ref (u25.getD 10 0), .ref (u25.getD 11 0), .ref (u25.getD 12 0), .int 0])) :: ((u25.getD 10 0), .inl (G.2 1, 3904, .inr (.inl (fun _ => 0)))) :: ((u25.getD 11 0), .inl (G.2 1, 64, .inr (.inl (fun _ => 0)))) :: ((u25.getD 12 0), .inl (G.2 1, 305, .inr (.inl (fun _ => 0)))) :: ((u25.getD 13 0), .inr (0, [.ref (u25.getD 14 0), .ref (u25.getD 15 0), .ref (u25.getD 16 0), .int 0])) :: ((u25.getD 14 0), .inl (G.2 1, 3904, .inr (.inl (fun _ => 0)))) :: ((u25.getD 15 0), .inl (G.2 1, 64, .inr (.inl (fun _ => 0)))) :: ((u25.getD 16 0), .inl (G.2 1, 305, .inr (.inl (fun _ => 0)))) :: ((u25.getD 17 0), .inr (0, [.ref (u25.getD 18 0), .ref (u25.getD 19 0), .ref (u25.getD 20 0), .int 0])) :: ((u25.getD 18 0), .inl (G.2 1, 3904, .inr (.inl (fun _ => 0)))) :: ((u25.getD 19 0), .inl (G.2 1, 64, .inr (.inl (fun _ => 0)))) :: ((u25.getD 20 0), .inl (G.2 1, 305, .inr (.inl (fun _ => 0)))) :: (q28, .inr (1, [.ref (u30.getD 0 0), .ref (u30.getD 1 0), .ref (u30.getD 2 0), .ref (u30.getD 3 0), .int 0, .int 0, .int 0])) :: ((u30.getD 0 0), .inl (G.2 0, 64, .inl (fun _ => 0))) :: ((u30.getD 1 0), .inl (G.2 0, 64, .inl (fun _ => 0))) :: ((u30.getD 2 0), .inl (G.2 0, 64, .inl (fun _ => 0))) :: ((u30.getD 3 0), .inl (G.2 0, 64, .inl (fun _ => 0))) :: (q33, .inr (0, [.ref (u35.getD 0 0), .ref (u35.getD 1 0), .ref (u35.getD 2 0), .int 0])) :: ((u35.getD 0 0), .inl (G.2 1, 3904, .inr (.inl (fun _ => 0)))) :: ((u35.getD 1 0), .inl (G.2 1, 64, .inr (.inl (fun _ => 0)))) :: ((u35.getD 2 0), .inl (G.2 1, 305, .inr (.inl (fun _ => 0)))) :: (q39, .inl (G.2 1, 256, .inr (.inl (fun _ => 0)))) :: (q43, .inl (G.2 1, 3904, .inr (.inl (fun _ => 0)))) :: (q53, .inr (3, [.ref (u55.getD 0 0), .int 1, .int 0, .int 0])) :: ((u55.getD 0 0), .inl (G.2 1, 8, .inr (.inl (fun _ => 0)))) :: (q65, .inr (3, [.ref (u67.getD 0 0), .int 1, .int 0, .int 0])) :: ((u67.getD 0 0), .inl (G.2 1, 8, .inr (.inl (fun _ => 0)))) :: (q77, .inr (3, [.ref (u79.getD 0 0), .int 1, .int 0, .int 0])) :: ((u79.getD 0 0), .inl (G.2 1, 8, .inr (.inl (fun _ => 0)))) :: (q89, .inr (3, [.ref (u91.getD 0 0), .int 1, .int 0, .int 0])) :: ((u91.getD 0 0), .inl (G.2 1, 8, .inr (.inl (fun _ => 0)))) :: (q101, .inr (3, [.ref (u103.getD 0 0), .int 1, .int 0, .int 0])) :: ((u103.getD 0 0), .inl (G.2 1, 8, .inr (.inl (fun _ => 0)))) :: (q113, .inr (3, [.ref (u115.getD 0 0), .int 1, .int 0, .int 0])) :: ((u115.getD 0 0), .inl (G.2 1, 8, .inr (.inl (fun _ => 0)))) :: (q125, .inr (3, [.ref (u127.getD 0 0), .int 1, .int 0, .int 0])) :: ((u127.getD 0 0), .inl (G.2 1, 8, .inr (.inl (fun _ => 0)))) :: (q137, .inr (3, [.ref (u139.getD 0 0), .int 1, .int 0, .int 0])) :: ((u139.getD 0 0), .inl (G.2 1, 8, .inr (.inl (fun _ => 0)))) :: []) : va_W)[15]? = some (u25.getD 0 0, .inl (G.2 2, 5, .inr (.inr (.inr (.inr (fun k => some (u25.getD (1 + 4 * k) 0))))))) := rfl
    have hD := hD.set (e := .inl (G.2 2, 5, .inr (.inr (.inr (.inr (fun k => some (aX h0 (q5 :: q8 :: (u10.getD 0 0) :: (u10.getD 1 0) :: q13 :: (u15.getD 0 0) :: (u15.getD 1 0) :: (u15.getD 2 0) :: (u15.getD 3 0) :: q18 :: (u20.getD 0 0) :: (u20.getD 1 0) :: (u20.getD 2 0) :: q23 :: (u25.getD 0 0) :: (u25.getD 1 0) :: (u25.getD 2 0) :: (u25.getD 3 0) :: (u25.getD 4 0) :: (u25.getD 5 0) :: (u25.getD 6 0) :: (u25.getD 7 0) :: (u25.getD 8 0) :: (u25.getD 9 0) :: (u25.getD 10 0) :: (u25.getD 11 0) :: (u25.getD 12 0) :: (u25.getD 13 0) :: (u25.getD 14 0) :: (u25.getD 15 0) :: (u25.getD 16 0) :: (u25.getD 17 0) :: (u25.getD 18 0) :: (u25.getD 19 0) :: (u25.getD 20 0) :: q28 :: (u30.getD 0 0) :: (u30.getD 1 0) :: (u30.getD 2 0) :: (u30.getD 3 0) :: q33 :: (u35.getD 0 0) :: (u35.getD 1 0) :: (u35.getD 2 0) :: q39 :: q43 :: q53 :: (u55.getD 0 0) :: q65 :: (u67.getD 0 0) :: q77 :: (u79.getD 0 0) :: q89 :: (u91.getD 0 0) :: q101 :: (u103.getD 0 0) :: q113 :: (u115.getD 0 0) :: q125 :: (u127.getD 0 0) :: q137 :: (u139.getD 0 0) :: []) (16 + 4 * k)))))))) hi2
    have hP := gn_fixQ (g := (fun k => some (aX h0 (q5 :: q8 :: (u10.getD 0 0) :: (u10.getD 1 0) :: q13 :: (u15.getD 0 0) :: (u15.getD 1 0) :: (u15.getD 2 0) :: (u15.getD 3 0) :: q18 :: (u20.getD 0 0) :: (u20.getD 1 0) :: (u20.getD 2 0) :: q23 :: (u25.getD 0 0) :: (u25.getD 1 0) :: (u25.getD 2 0) :: (u25.getD 3 0) :: (u25.getD 4 0) :: (u25.getD 5 0) :: (u25.getD 6 0) :: (u25.getD 7 0) :: (u25.getD 8 0) :: (u25.getD 9 0) :: (u25.getD 10 0) :: (u25.getD 11 0) :: (u25.getD 12 0) :: (u25.getD 13 0) :: (u25.getD 14 0) :: (u25.getD 15 0) :: (u25.getD 16 0) :: (u25.getD 17 0) :: (u25.getD 18 0) :: (u25.getD 19 0) :: (u25.getD 20 0) :: q28 :: (u30.getD 0 0) :: (u30.getD 1 0) :: (u30.getD 2 0) :: (u30.getD 3 0) :: q33 :: (u35.getD 0 0) :: (u35.getD 1 0) :: (u35.getD 2 0) :: q39 :: q43 :: q53 :: (u55.getD 0 0) :: q65 :: (u67.getD 0 0) :: q77 :: (u79.getD 0 0) :: q89 :: (u91.getD 0 0) :: q101 :: (u103.getD 0 0) :: q113 :: (u115.getD 0 0) :: q125 :: (u127.getD 0 0) :: q137 :: (u139.getD 0 0) :: []) (16 + 4 * k)))) hP hi2 (fun j hj => by
      match j, hj with
      | 0, _ => rfl
      | 1, _ => rfl
      | 2, _ => rfl
      | 3, _ => rfl
      | 4, _ => rfl
      | j + 5, hj => omega)
    refine gn_vret X (q5 :: q8 :: (u10.getD 0 0) :: (u10.getD 1 0) :: q13 :: (u15.getD 0 0) :: (u15.getD 1 0) :: (u15.getD 2 0) :: (u15.getD 3 0) :: q18 :: (u20.getD 0 0) :: (u20.getD 1 0) :: (u20.getD 2 0) :: q23 :: (u25.getD 0 0) :: (u25.getD 1 0) :: (u25.getD 2 0) :: (u25.getD 3 0) :: (u25.getD 4 0) :: (u25.getD 5 0) :: (u25.getD 6 0) :: (u25.getD 7 0) :: (u25.getD 8 0) :: (u25.getD 9 0) :: (u25.getD 10 0) :: (u25.getD 11 0) :: (u25.getD 12 0) :: (u25.getD 13 0) :: (u25.getD 14 0) :: (u25.getD 15 0) :: (u25.getD 16 0) :: (u25.getD 17 0) :: (u25.getD 18 0) :: (u25.getD 19 0) :: (u25.getD 20 0) :: q28 :: (u30.getD 0 0) :: (u30.getD 1 0) :: (u30.getD 2 0) :: (u30.getD 3 0) :: q33 :: (u35.getD 0 0) :: (u35.getD 1 0) :: (u35.getD 2 0) :: q39 :: q43 :: q53 :: (u55.getD 0 0) :: q65 :: (u67.getD 0 0) :: q77 :: (u79.getD 0 0) :: q89 :: (u91.getD 0 0) :: q101 :: (u103.getD 0 0) :: q113 :: (u115.getD 0 0) :: q125 :: (u127.getD 0 0) :: q137 :: (u139.getD 0 0) :: []) ?_ ?_ hS dX5_init_124
    · show va_P G.1 vwCl (wdX G (aX h0 (q5 :: q8 :: (u10.getD 0 0) :: (u10.getD 1 0) :: q13 :: (u15.getD 0 0) :: (u15.getD 1 0) :: (u15.getD 2 0) :: (u15.getD 3 0) :: q18 :: (u20.getD 0 0) :: (u20.getD 1 0) :: (u20.getD 2 0) :: q23 :: (u25.getD 0 0) :: (u25.getD 1 0) :: (u25.getD 2 0) :: (u25.getD 3 0) :: (u25.getD 4 0) :: (u25.getD 5 0) :: (u25.getD 6 0) :: (u25.getD 7 0) :: (u25.getD 8 0) :: (u25.getD 9 0) :: (u25.getD 10 0) :: (u25.getD 11 0) :: (u25.getD 12 0) :: (u25.getD 13 0) :: (u25.getD 14 0) :: (u25.getD 15 0) :: (u25.getD 16 0) :: (u25.getD 17 0) :: (u25.getD 18 0) :: (u25.getD 19 0) :: (u25.getD 20 0) :: q28 :: (u30.getD 0 0) :: (u30.getD 1 0) :: (u30.getD 2 0) :: (u30.getD 3 0) :: q33 :: (u35.getD 0 0) :: (u35.getD 1 0) :: (u35.getD 2 0) :: q39 :: q43 :: q53 :: (u55.getD 0 0) :: q65 :: (u67.getD 0 0) :: q77 :: (u79.getD 0 0) :: q89 :: (u91.getD 0 0) :: q101 :: (u103.getD 0 0) :: q113 :: (u115.getD 0 0) :: q125 :: (u127.getD 0 0) :: q137 :: (u139.getD 0 0) :: [])) S0X) H
      rw [wdX_S0]
      exact hP
    · show va_D A (wdX G (aX h0 (q5 :: q8 :: (u10.getD 0 0) :: (u10.getD 1 0) :: q13 :: (u15.getD 0 0) :: (u15.getD 1 0) :: (u15.getD 2 0) :: (u15.getD 3 0) :: q18 :: (u20.getD 0 0) :: (u20.getD 1 0) :: (u20.getD 2 0) :: q23 :: (u25.getD 0 0) :: (u25.getD 1 0) :: (u25.getD 2 0) :: (u25.getD 3 0) :: (u25.getD 4 0) :: (u25.getD 5 0) :: (u25.getD 6 0) :: (u25.getD 7 0) :: (u25.getD 8 0) :: (u25.getD 9 0) :: (u25.getD 10 0) :: (u25.getD 11 0) :: (u25.getD 12 0) :: (u25.getD 13 0) :: (u25.getD 14 0) :: (u25.getD 15 0) :: (u25.getD 16 0) :: (u25.getD 17 0) :: (u25.getD 18 0) :: (u25.getD 19 0) :: (u25.getD 20 0) :: q28 :: (u30.getD 0 0) :: (u30.getD 1 0) :: (u30.getD 2 0) :: (u30.getD 3 0) :: q33 :: (u35.getD 0 0) :: (u35.getD 1 0) :: (u35.getD 2 0) :: q39 :: q43 :: q53 :: (u55.getD 0 0) :: q65 :: (u67.getD 0 0) :: q77 :: (u79.getD 0 0) :: q89 :: (u91.getD 0 0) :: q101 :: (u103.getD 0 0) :: q113 :: (u115.getD 0 0) :: q125 :: (u127.getD 0 0) :: q137 :: (u139.getD 0 0) :: [])) S0X)
      rw [wdX_S0]
      exact hD
  exact Y _ _ hP hD hS

def bX0 (G : gG) (h : Nat) (u : List Nat) : va_W := [(h, .inr (0, [.ref (u.getD 0 0), .ref (u.getD 1 0), .ref (u.getD 2 0), .int 0])), ((u.getD 0 0), .inl (G.2 1, 3904, .inr (.inl (fun _ => 0)))), ((u.getD 1 0), .inl (G.2 1, 64, .inr (.inl (fun _ => 0)))), ((u.getD 2 0), .inl (G.2 1, 305, .inr (.inl (fun _ => 0))))]
def bX1 (G : gG) (h : Nat) (u : List Nat) : va_W := [(h, .inr (1, [.ref (u.getD 0 0), .ref (u.getD 1 0), .ref (u.getD 2 0), .ref (u.getD 3 0), .int 0, .int 0, .int 0])), ((u.getD 0 0), .inl (G.2 0, 64, .inl (fun _ => 0))), ((u.getD 1 0), .inl (G.2 0, 64, .inl (fun _ => 0))), ((u.getD 2 0), .inl (G.2 0, 64, .inl (fun _ => 0))), ((u.getD 3 0), .inl (G.2 0, 64, .inl (fun _ => 0)))]
def bX3 (G : gG) (h : Nat) (u : List Nat) : va_W := [(h, .inr (3, [.ref (u.getD 0 0), .int 1, .int 0, .int 0])), ((u.getD 0 0), .inl (G.2 1, 8, .inr (.inl (fun _ => 0))))]
def bX4 (G : gG) (h : Nat) (u : List Nat) : va_W := [(h, .inr (4, [.ref (u.getD 0 0), .ref (u.getD 1 0), .int 0, .int 1000])), ((u.getD 0 0), .inl (G.2 0, 10, .inl (fun _ => 0))), ((u.getD 1 0), .inl (G.2 0, 10, .inl (fun _ => 0)))]
def bX2 (G : gG) (h : Nat) (u : List Nat) : va_W := [(h, .inr (2, [.ref (u.getD 0 0), .int 0, .int 0])), ((u.getD 0 0), .inl (G.2 2, 5, .inr (.inr (.inr (.inr (fun k => some (u.getD (1 + 4 * k) 0))))))), ((u.getD 1 0), .inr (0, [.ref (u.getD 2 0), .ref (u.getD 3 0), .ref (u.getD 4 0), .int 0])), ((u.getD 2 0), .inl (G.2 1, 3904, .inr (.inl (fun _ => 0)))), ((u.getD 3 0), .inl (G.2 1, 64, .inr (.inl (fun _ => 0)))), ((u.getD 4 0), .inl (G.2 1, 305, .inr (.inl (fun _ => 0)))), ((u.getD 5 0), .inr (0, [.ref (u.getD 6 0), .ref (u.getD 7 0), .ref (u.getD 8 0), .int 0])), ((u.getD 6 0), .inl (G.2 1, 3904, .inr (.inl (fun _ => 0)))), ((u.getD 7 0), .inl (G.2 1, 64, .inr (.inl (fun _ => 0)))), ((u.getD 8 0), .inl (G.2 1, 305, .inr (.inl (fun _ => 0)))), ((u.getD 9 0), .inr (0, [.ref (u.getD 10 0), .ref (u.getD 11 0), .ref (u.getD 12 0), .int 0])), ((u.getD 10 0), .inl (G.2 1, 3904, .inr (.inl (fun _ => 0)))), ((u.getD 11 0), .inl (G.2 1, 64, .inr (.inl (fun _ => 0)))), ((u.getD 12 0), .inl (G.2 1, 305, .inr (.inl (fun _ => 0)))), ((u.getD 13 0), .inr (0, [.ref (u.getD 14 0), .ref (u.getD 15 0), .ref (u.getD 16 0), .int 0])), ((u.getD 14 0), .inl (G.2 1, 3904, .inr (.inl (fun _ => 0)))), ((u.getD 15 0), .inl (G.2 1, 64, .inr (.inl (fun _ => 0)))), ((u.getD 16 0), .inl (G.2 1, 305, .inr (.inl (fun _ => 0)))), ((u.getD 17 0), .inr (0, [.ref (u.getD 18 0), .ref (u.getD 19 0), .ref (u.getD 20 0), .int 0])), ((u.getD 18 0), .inl (G.2 1, 3904, .inr (.inl (fun _ => 0)))), ((u.getD 19 0), .inl (G.2 1, 64, .inr (.inl (fun _ => 0)))), ((u.getD 20 0), .inl (G.2 1, 305, .inr (.inl (fun _ => 0))))]
def S0X : gS := (fun o k => if o = 2 ∧ k = 3 then 1000 else if kX o = 13 ∧ k = 1 then 1 else 0, fun _ _ => 0, fun _ _ => 0)
def S0Y : gS := (fun o k => if o = 0 ∧ k = 16 then 1000 else 0, fun o _ => if o = 1 then -9 else 0, fun _ _ => 0)
def aX (h : Nat) (u : List Nat) (i : Nat) : Nat := (h :: u).getD i 0
set_option maxHeartbeats 8000000 in
set_option maxRecDepth 100000 in
theorem wdX_S0 (G : gG) (ad : Nat → Nat) : wdX G ad S0X = ((ad 0, .inr (5, [.ref (ad 1), .ref (ad 2), .ref (ad 5), .ref (ad 10), .ref (ad 14), .ref (ad 36), .ref (ad 41), .ref (ad 45), .ref (ad 46), .int 0])) :: (ad 1, .inl (G.2 3, 8, .inr (.inr (.inr (.inr (fun k => some (ad (47 + 2 * k)))))))) :: (ad 2, .inr (4, [.ref (ad 3), .ref (ad 4), .int 0, .int 1000])) :: (ad 3, .inl (G.2 0, 10, .inl (fun _ => 0))) :: (ad 4, .inl (G.2 0, 10, .inl (fun _ => 0))) :: (ad 5, .inr (1, [.ref (ad 6), .ref (ad 7), .ref (ad 8), .ref (ad 9), .int 0, .int 0, .int 0])) :: (ad 6, .inl (G.2 0, 64, .inl (fun _ => 0))) :: (ad 7, .inl (G.2 0, 64, .inl (fun _ => 0))) :: (ad 8, .inl (G.2 0, 64, .inl (fun _ => 0))) :: (ad 9, .inl (G.2 0, 64, .inl (fun _ => 0))) :: (ad 10, .inr (0, [.ref (ad 11), .ref (ad 12), .ref (ad 13), .int 0])) :: (ad 11, .inl (G.2 1, 3904, .inr (.inl (fun _ => 0)))) :: (ad 12, .inl (G.2 1, 64, .inr (.inl (fun _ => 0)))) :: (ad 13, .inl (G.2 1, 305, .inr (.inl (fun _ => 0)))) :: (ad 14, .inr (2, [.ref (ad 15), .int 0, .int 0])) :: (ad 15, .inl (G.2 2, 5, .inr (.inr (.inr (.inr (fun k => some (ad (16 + 4 * k)))))))) :: (ad 16, .inr (0, [.ref (ad 17), .ref (ad 18), .ref (ad 19), .int 0])) :: (ad 17, .inl (G.2 1, 3904, .inr (.inl (fun _ => 0)))) :: (ad 18, .inl (G.2 1, 64, .inr (.inl (fun _ => 0)))) :: (ad 19, .inl (G.2 1, 305, .inr (.inl (fun _ => 0)))) :: (ad 20, .inr (0, [.ref (ad 21), .ref (ad 22), .ref (ad 23), .int 0])) :: (ad 21, .inl (G.2 1, 3904, .inr (.inl (fun _ => 0)))) :: (ad 22, .inl (G.2 1, 64, .inr (.inl (fun _ => 0)))) :: (ad 23, .inl (G.2 1, 305, .inr (.inl (fun _ => 0)))) :: (ad 24, .inr (0, [.ref (ad 25), .ref (ad 26), .ref (ad 27), .int 0])) :: (ad 25, .inl (G.2 1, 3904, .inr (.inl (fun _ => 0)))) :: (ad 26, .inl (G.2 1, 64, .inr (.inl (fun _ => 0)))) :: (ad 27, .inl (G.2 1, 305, .inr (.inl (fun _ => 0)))) :: (ad 28, .inr (0, [.ref (ad 29), .ref (ad 30), .ref (ad 31), .int 0])) :: (ad 29, .inl (G.2 1, 3904, .inr (.inl (fun _ => 0)))) :: (ad 30, .inl (G.2 1, 64, .inr (.inl (fun _ => 0)))) :: (ad 31, .inl (G.2 1, 305, .inr (.inl (fun _ => 0)))) :: (ad 32, .inr (0, [.ref (ad 33), .ref (ad 34), .ref (ad 35), .int 0])) :: (ad 33, .inl (G.2 1, 3904, .inr (.inl (fun _ => 0)))) :: (ad 34, .inl (G.2 1, 64, .inr (.inl (fun _ => 0)))) :: (ad 35, .inl (G.2 1, 305, .inr (.inl (fun _ => 0)))) :: (ad 36, .inr (1, [.ref (ad 37), .ref (ad 38), .ref (ad 39), .ref (ad 40), .int 0, .int 0, .int 0])) :: (ad 37, .inl (G.2 0, 64, .inl (fun _ => 0))) :: (ad 38, .inl (G.2 0, 64, .inl (fun _ => 0))) :: (ad 39, .inl (G.2 0, 64, .inl (fun _ => 0))) :: (ad 40, .inl (G.2 0, 64, .inl (fun _ => 0))) :: (ad 41, .inr (0, [.ref (ad 42), .ref (ad 43), .ref (ad 44), .int 0])) :: (ad 42, .inl (G.2 1, 3904, .inr (.inl (fun _ => 0)))) :: (ad 43, .inl (G.2 1, 64, .inr (.inl (fun _ => 0)))) :: (ad 44, .inl (G.2 1, 305, .inr (.inl (fun _ => 0)))) :: (ad 45, .inl (G.2 1, 256, .inr (.inl (fun _ => 0)))) :: (ad 46, .inl (G.2 1, 3904, .inr (.inl (fun _ => 0)))) :: (ad 47, .inr (3, [.ref (ad 48), .int 1, .int 0, .int 0])) :: (ad 48, .inl (G.2 1, 8, .inr (.inl (fun _ => 0)))) :: (ad 49, .inr (3, [.ref (ad 50), .int 1, .int 0, .int 0])) :: (ad 50, .inl (G.2 1, 8, .inr (.inl (fun _ => 0)))) :: (ad 51, .inr (3, [.ref (ad 52), .int 1, .int 0, .int 0])) :: (ad 52, .inl (G.2 1, 8, .inr (.inl (fun _ => 0)))) :: (ad 53, .inr (3, [.ref (ad 54), .int 1, .int 0, .int 0])) :: (ad 54, .inl (G.2 1, 8, .inr (.inl (fun _ => 0)))) :: (ad 55, .inr (3, [.ref (ad 56), .int 1, .int 0, .int 0])) :: (ad 56, .inl (G.2 1, 8, .inr (.inl (fun _ => 0)))) :: (ad 57, .inr (3, [.ref (ad 58), .int 1, .int 0, .int 0])) :: (ad 58, .inl (G.2 1, 8, .inr (.inl (fun _ => 0)))) :: (ad 59, .inr (3, [.ref (ad 60), .int 1, .int 0, .int 0])) :: (ad 60, .inl (G.2 1, 8, .inr (.inl (fun _ => 0)))) :: (ad 61, .inr (3, [.ref (ad 62), .int 1, .int 0, .int 0])) :: (ad 62, .inl (G.2 1, 8, .inr (.inl (fun _ => 0)))) :: []) := rfl
set_option maxHeartbeats 8000000 in
set_option maxRecDepth 100000 in
theorem wdY_S0 (G : gG) (ad : Nat → Nat) : wdY G ad S0Y = ((ad 0, .inr (6, [.ref (ad 1), .ref (ad 2), .ref (ad 3), .int 0, .ref (ad 4), .int 0, .int 0, .int 0, .ref (ad 5), .ref (ad 6), .ref (ad 7), .ref (ad 8), .ref (ad 9), .ref (ad 10), .ref (ad 11), .int 0, .int 1000, .int 0, .int 0, .ref (ad 12), .ref (ad 13), .ref (ad 14), .ref (ad 15), .ref (ad 16), .ref (ad 17), .ref (ad 18), .ref (ad 19)])) :: (ad 1, .inl (G.2 0, 8, .inl (fun _ => -9))) :: (ad 2, .inl (G.2 0, 8, .inl (fun _ => 0))) :: (ad 3, .inl (G.2 1, 64, .inr (.inl (fun _ => 0)))) :: (ad 4, .inl (G.2 1, 8, .inr (.inl (fun _ => 0)))) :: (ad 5, .inl (G.2 0, 64, .inl (fun _ => 0))) :: (ad 6, .inl (G.2 0, 64, .inl (fun _ => 0))) :: (ad 7, .inl (G.2 0, 64, .inl (fun _ => 0))) :: (ad 8, .inl (G.2 1, 3904, .inr (.inl (fun _ => 0)))) :: (ad 9, .inl (G.2 1, 305, .inr (.inl (fun _ => 0)))) :: (ad 10, .inl (G.2 0, 10, .inl (fun _ => 0))) :: (ad 11, .inl (G.2 0, 10, .inl (fun _ => 0))) :: (ad 12, .inl (G.2 1, 19520, .inr (.inl (fun _ => 0)))) :: (ad 13, .inl (G.2 1, 1525, .inr (.inl (fun _ => 0)))) :: (ad 14, .inl (G.2 1, 256, .inr (.inl (fun _ => 0)))) :: (ad 15, .inl (G.2 1, 3904, .inr (.inl (fun _ => 0)))) :: (ad 16, .inl (G.2 1, 3904, .inr (.inl (fun _ => 0)))) :: (ad 17, .inl (G.2 0, 64, .inl (fun _ => 0))) :: (ad 18, .inl (G.2 0, 64, .inl (fun _ => 0))) :: (ad 19, .inl (G.2 0, 64, .inl (fun _ => 0))) :: []) := rfl
def rmX0_init : Room := { frames := 1, cells := 3, slots := 4273, locals := 20 }
set_option maxHeartbeats 8000000 in
set_option maxRecDepth 100000 in
theorem cX0 (l : Launch) (G : gG) (h0 sz : Nat) : gIn l yX0_init cX0_init 1 rmX0_init G h0 (.inr (0, [.null, .null, .null, .int 0])) sz (bX0 G h0) 3 4273 := by
  refine gIn_of (by decide) ?_
  intro p e s m below meth c A hA X hnm hE hP hD hS
  have hl := lv_entry ([.ref h0]) (n := 1) (Nat.le_of_ble_eq_true rfl)
  rw [lg_entry_eq]
  generalize (lg_sl ([.ref h0]) ++ List.replicate (1 - (lg_sl ([.ref h0])).length) Slot.unset).toArray = ls at hl ⊢
  have hl : lv_has ls 1 [(0, .ref h0)] := hl
  obtain ⟨hx, hb, hr, hml, hown, hts, hlk, hK⟩ := id X
  have Y : ∀ (H : Heap) (locs : List Loc), va_P G.1 vwCl [(h0, .inr (0, [.null, .null, .null, .int 0]))] H → va_D A [(h0, .inr (0, [.null, .null, .null, .int 0]))] → va_S A s.heap H locs → W p l e rmX0_init s m #[.ref h0] below meth c H locs 0 0 (MQ below (va_Qv (fun _ : Unit => True) (gInAt G A (bX0 G h0)) A) #[.ref h0] s 3 4273 A) (F0 m 0 ls []) := by
    intro H locs hP hD hS
    refine lv_aload_n hx hb dX0_init_0 rfl (lv_at hl 0 rfl) ?_
    refine W.objInit hx hb hown (hts _ q_119) (hts _ q_52) (hts _ q_53) rfl (by rw [hml]; exact hl.1) rfl dX0_init_1 (Nat.le_of_ble_eq_true rfl) (Nat.le_of_ble_eq_true rfl) ?_
    refine W.eq (g2 := F0 m 4 ls []) rfl ?_
    refine lv_aload_n hx hb dX0_init_4 rfl (lv_at hl 0 rfl) ?_
    refine lv_sipush (v := 3904) hx hb dX0_init_5 (by decide) ?_
    refine gn_newJ (N := 3904) X hA hP hD hS q_137 (by decide) (by decide) (Nat.le_of_ble_eq_true rfl) (Nat.le_of_ble_eq_true rfl) (Nat.le_of_ble_eq_true rfl) dX0_init_8 (fun q5 H hP hD hS => ?_)
    have hP : va_P G.1 vwCl ((h0, .inr (0, [.null, .null, .null, .int 0])) :: [(q5, .inl (G.2 1, 3904, .inr (.inl (fun _ => 0))))]) H := hP
    have hD : va_D A ((h0, .inr (0, [.null, .null, .null, .int 0])) :: [(q5, .inl (G.2 1, 3904, .inr (.inl (fun _ => 0))))]) := hD
    refine gn_put (C := RX0) (T := TX0) (ty0 := tyX0) (N := 4) (ci := 0) (k := 0) (ty := tyX0 0) (v := .ref q5) X hnm hP hD hS rfl inT_0 tyX0_ok nmX0 (by decide) q_120 rfl rfl (by decide +kernel) (by first | rfl | decide) (by first | rfl | decide) (by show 0 < 4; decide) dX0_init_10 (fun H locs hP hD hS => ?_)
    have hP : va_P G.1 vwCl ((h0, .inr (0, [.ref q5, .null, .null, .int 0])) :: [(q5, .inl (G.2 1, 3904, .inr (.inl (fun _ => 0))))]) H := hP
    have hD : va_D A ((h0, .inr (0, [.ref q5, .null, .null, .int 0])) :: [(q5, .inl (G.2 1, 3904, .inr (.inl (fun _ => 0))))]) := hD
    refine lv_aload_n hx hb dX0_init_13 rfl (lv_at hl 0 rfl) ?_
    refine lv_bipush (v := 64) hx hb dX0_init_14 (by decide) ?_
    refine gn_newJ (N := 64) X hA hP hD hS q_137 (by decide) (by decide) (Nat.le_of_ble_eq_true rfl) (Nat.le_of_ble_eq_true rfl) (Nat.le_of_ble_eq_true rfl) dX0_init_16 (fun q9 H hP hD hS => ?_)
    have hP : va_P G.1 vwCl ((h0, .inr (0, [.ref q5, .null, .null, .int 0])) :: ([(q5, .inl (G.2 1, 3904, .inr (.inl (fun _ => 0))))] ++ [(q9, .inl (G.2 1, 64, .inr (.inl (fun _ => 0))))])) H := hP
    have hD : va_D A ((h0, .inr (0, [.ref q5, .null, .null, .int 0])) :: ([(q5, .inl (G.2 1, 3904, .inr (.inl (fun _ => 0))))] ++ [(q9, .inl (G.2 1, 64, .inr (.inl (fun _ => 0))))])) := hD
    refine gn_put (C := RX0) (T := TX0) (ty0 := tyX0) (N := 4) (ci := 0) (k := 1) (ty := tyX0 1) (v := .ref q9) X hnm hP hD hS rfl inT_0 tyX0_ok nmX0 (by decide) q_122 rfl rfl (by decide +kernel) (by first | rfl | decide) (by first | rfl | decide) (by show 1 < 4; decide) dX0_init_18 (fun H locs hP hD hS => ?_)
    have hP : va_P G.1 vwCl ((h0, .inr (0, [.ref q5, .ref q9, .null, .int 0])) :: ([(q5, .inl (G.2 1, 3904, .inr (.inl (fun _ => 0))))] ++ [(q9, .inl (G.2 1, 64, .inr (.inl (fun _ => 0))))])) H := hP
    have hD : va_D A ((h0, .inr (0, [.ref q5, .ref q9, .null, .int 0])) :: ([(q5, .inl (G.2 1, 3904, .inr (.inl (fun _ => 0))))] ++ [(q9, .inl (G.2 1, 64, .inr (.inl (fun _ => 0))))])) := hD
    refine lv_aload_n hx hb dX0_init_21 rfl (lv_at hl 0 rfl) ?_
    refine lv_sipush (v := 305) hx hb dX0_init_22 (by decide) ?_
    refine gn_newJ (N := 305) X hA hP hD hS q_137 (by decide) (by decide) (Nat.le_of_ble_eq_true rfl) (Nat.le_of_ble_eq_true rfl) (Nat.le_of_ble_eq_true rfl) dX0_init_25 (fun q13 H hP hD hS => ?_)
    have hP : va_P G.1 vwCl ((h0, .inr (0, [.ref q5, .ref q9, .null, .int 0])) :: (([(q5, .inl (G.2 1, 3904, .inr (.inl (fun _ => 0))))] ++ [(q9, .inl (G.2 1, 64, .inr (.inl (fun _ => 0))))]) ++ [(q13, .inl (G.2 1, 305, .inr (.inl (fun _ => 0))))])) H := hP
    have hD : va_D A ((h0, .inr (0, [.ref q5, .ref q9, .null, .int 0])) :: (([(q5, .inl (G.2 1, 3904, .inr (.inl (fun _ => 0))))] ++ [(q9, .inl (G.2 1, 64, .inr (.inl (fun _ => 0))))]) ++ [(q13, .inl (G.2 1, 305, .inr (.inl (fun _ => 0))))])) := hD
    refine gn_put (C := RX0) (T := TX0) (ty0 := tyX0) (N := 4) (ci := 0) (k := 2) (ty := tyX0 2) (v := .ref q13) X hnm hP hD hS rfl inT_0 tyX0_ok nmX0 (by decide) q_124 rfl rfl (by decide +kernel) (by first | rfl | decide) (by first | rfl | decide) (by show 2 < 4; decide) dX0_init_27 (fun H locs hP hD hS => ?_)
    have hP : va_P G.1 vwCl ((h0, .inr (0, [.ref q5, .ref q9, .ref q13, .int 0])) :: (([(q5, .inl (G.2 1, 3904, .inr (.inl (fun _ => 0))))] ++ [(q9, .inl (G.2 1, 64, .inr (.inl (fun _ => 0))))]) ++ [(q13, .inl (G.2 1, 305, .inr (.inl (fun _ => 0))))])) H := hP
    have hD : va_D A ((h0, .inr (0, [.ref q5, .ref q9, .ref q13, .int 0])) :: (([(q5, .inl (G.2 1, 3904, .inr (.inl (fun _ => 0))))] ++ [(q9, .inl (G.2 1, 64, .inr (.inl (fun _ => 0))))]) ++ [(q13, .inl (G.2 1, 305, .inr (.inl (fun _ => 0))))])) := hD
    exact gn_vret X (q5 :: q9 :: q13 :: []) hP hD hS dX0_init_30
  exact Y _ _ hP hD hS
def rmX1_init : Room := { frames := 1, cells := 4, slots := 256, locals := 20 }
set_option maxHeartbeats 8000000 in
set_option maxRecDepth 100000 in
theorem cX1 (l : Launch) (G : gG) (h0 sz : Nat) : gIn l yX1_init cX1_init 1 rmX1_init G h0 (.inr (1, [.null, .null, .null, .null, .int 0, .int 0, .int 0])) sz (bX1 G h0) 4 256 := by
  refine gIn_of (by decide) ?_
  intro p e s m below meth c A hA X hnm hE hP hD hS
  have hl := lv_entry ([.ref h0]) (n := 1) (Nat.le_of_ble_eq_true rfl)
  rw [lg_entry_eq]
  generalize (lg_sl ([.ref h0]) ++ List.replicate (1 - (lg_sl ([.ref h0])).length) Slot.unset).toArray = ls at hl ⊢
  have hl : lv_has ls 1 [(0, .ref h0)] := hl
  obtain ⟨hx, hb, hr, hml, hown, hts, hlk, hK⟩ := id X
  have Y : ∀ (H : Heap) (locs : List Loc), va_P G.1 vwCl [(h0, .inr (1, [.null, .null, .null, .null, .int 0, .int 0, .int 0]))] H → va_D A [(h0, .inr (1, [.null, .null, .null, .null, .int 0, .int 0, .int 0]))] → va_S A s.heap H locs → W p l e rmX1_init s m #[.ref h0] below meth c H locs 0 0 (MQ below (va_Qv (fun _ : Unit => True) (gInAt G A (bX1 G h0)) A) #[.ref h0] s 4 256 A) (F0 m 0 ls []) := by
    intro H locs hP hD hS
    refine lv_aload_n hx hb dX1_init_0 rfl (lv_at hl 0 rfl) ?_
    refine W.objInit hx hb hown (hts _ q_84) (hts _ q_52) (hts _ q_53) rfl (by rw [hml]; exact hl.1) rfl dX1_init_1 (Nat.le_of_ble_eq_true rfl) (Nat.le_of_ble_eq_true rfl) ?_
    refine W.eq (g2 := F0 m 4 ls []) rfl ?_
    refine lv_aload_n hx hb dX1_init_4 rfl (lv_at hl 0 rfl) ?_
    refine lv_bipush (v := 64) hx hb dX1_init_5 (by decide) ?_
    refine gn_newI (N := 64) X hA hP hD hS q_78 (by decide) (by decide) (Nat.le_of_ble_eq_true rfl) (Nat.le_of_ble_eq_true rfl) (Nat.le_of_ble_eq_true rfl) dX1_init_7 (fun q5 H hP hD hS => ?_)
    have hP : va_P G.1 vwCl ((h0, .inr (1, [.null, .null, .null, .null, .int 0, .int 0, .int 0])) :: [(q5, .inl (G.2 0, 64, .inl (fun _ => 0)))]) H := hP
    have hD : va_D A ((h0, .inr (1, [.null, .null, .null, .null, .int 0, .int 0, .int 0])) :: [(q5, .inl (G.2 0, 64, .inl (fun _ => 0)))]) := hD
    refine gn_put (C := RX1) (T := TX1) (ty0 := tyX1) (N := 7) (ci := 1) (k := 0) (ty := tyX1 0) (v := .ref q5) X hnm hP hD hS rfl inT_1 tyX1_ok nmX1 (by decide) q_85 rfl rfl (by decide +kernel) (by first | rfl | decide) (by first | rfl | decide) (by show 0 < 7; decide) dX1_init_9 (fun H locs hP hD hS => ?_)
    have hP : va_P G.1 vwCl ((h0, .inr (1, [.ref q5, .null, .null, .null, .int 0, .int 0, .int 0])) :: [(q5, .inl (G.2 0, 64, .inl (fun _ => 0)))]) H := hP
    have hD : va_D A ((h0, .inr (1, [.ref q5, .null, .null, .null, .int 0, .int 0, .int 0])) :: [(q5, .inl (G.2 0, 64, .inl (fun _ => 0)))]) := hD
    refine lv_aload_n hx hb dX1_init_12 rfl (lv_at hl 0 rfl) ?_
    refine lv_bipush (v := 64) hx hb dX1_init_13 (by decide) ?_
    refine gn_newI (N := 64) X hA hP hD hS q_78 (by decide) (by decide) (Nat.le_of_ble_eq_true rfl) (Nat.le_of_ble_eq_true rfl) (Nat.le_of_ble_eq_true rfl) dX1_init_15 (fun q9 H hP hD hS => ?_)
    have hP : va_P G.1 vwCl ((h0, .inr (1, [.ref q5, .null, .null, .null, .int 0, .int 0, .int 0])) :: ([(q5, .inl (G.2 0, 64, .inl (fun _ => 0)))] ++ [(q9, .inl (G.2 0, 64, .inl (fun _ => 0)))])) H := hP
    have hD : va_D A ((h0, .inr (1, [.ref q5, .null, .null, .null, .int 0, .int 0, .int 0])) :: ([(q5, .inl (G.2 0, 64, .inl (fun _ => 0)))] ++ [(q9, .inl (G.2 0, 64, .inl (fun _ => 0)))])) := hD
    refine gn_put (C := RX1) (T := TX1) (ty0 := tyX1) (N := 7) (ci := 1) (k := 1) (ty := tyX1 1) (v := .ref q9) X hnm hP hD hS rfl inT_1 tyX1_ok nmX1 (by decide) q_87 rfl rfl (by decide +kernel) (by first | rfl | decide) (by first | rfl | decide) (by show 1 < 7; decide) dX1_init_17 (fun H locs hP hD hS => ?_)
    have hP : va_P G.1 vwCl ((h0, .inr (1, [.ref q5, .ref q9, .null, .null, .int 0, .int 0, .int 0])) :: ([(q5, .inl (G.2 0, 64, .inl (fun _ => 0)))] ++ [(q9, .inl (G.2 0, 64, .inl (fun _ => 0)))])) H := hP
    have hD : va_D A ((h0, .inr (1, [.ref q5, .ref q9, .null, .null, .int 0, .int 0, .int 0])) :: ([(q5, .inl (G.2 0, 64, .inl (fun _ => 0)))] ++ [(q9, .inl (G.2 0, 64, .inl (fun _ => 0)))])) := hD
    refine lv_aload_n hx hb dX1_init_20 rfl (lv_at hl 0 rfl) ?_
    refine lv_bipush (v := 64) hx hb dX1_init_21 (by decide) ?_
    refine gn_newI (N := 64) X hA hP hD hS q_78 (by decide) (by decide) (Nat.le_of_ble_eq_true rfl) (Nat.le_of_ble_eq_true rfl) (Nat.le_of_ble_eq_true rfl) dX1_init_23 (fun q13 H hP hD hS => ?_)
    have hP : va_P G.1 vwCl ((h0, .inr (1, [.ref q5, .ref q9, .null, .null, .int 0, .int 0, .int 0])) :: (([(q5, .inl (G.2 0, 64, .inl (fun _ => 0)))] ++ [(q9, .inl (G.2 0, 64, .inl (fun _ => 0)))]) ++ [(q13, .inl (G.2 0, 64, .inl (fun _ => 0)))])) H := hP
    have hD : va_D A ((h0, .inr (1, [.ref q5, .ref q9, .null, .null, .int 0, .int 0, .int 0])) :: (([(q5, .inl (G.2 0, 64, .inl (fun _ => 0)))] ++ [(q9, .inl (G.2 0, 64, .inl (fun _ => 0)))]) ++ [(q13, .inl (G.2 0, 64, .inl (fun _ => 0)))])) := hD
    refine gn_put (C := RX1) (T := TX1) (ty0 := tyX1) (N := 7) (ci := 1) (k := 2) (ty := tyX1 2) (v := .ref q13) X hnm hP hD hS rfl inT_1 tyX1_ok nmX1 (by decide) q_89 rfl rfl (by decide +kernel) (by first | rfl | decide) (by first | rfl | decide) (by show 2 < 7; decide) dX1_init_25 (fun H locs hP hD hS => ?_)
    have hP : va_P G.1 vwCl ((h0, .inr (1, [.ref q5, .ref q9, .ref q13, .null, .int 0, .int 0, .int 0])) :: (([(q5, .inl (G.2 0, 64, .inl (fun _ => 0)))] ++ [(q9, .inl (G.2 0, 64, .inl (fun _ => 0)))]) ++ [(q13, .inl (G.2 0, 64, .inl (fun _ => 0)))])) H := hP
    have hD : va_D A ((h0, .inr (1, [.ref q5, .ref q9, .ref q13, .null, .int 0, .int 0, .int 0])) :: (([(q5, .inl (G.2 0, 64, .inl (fun _ => 0)))] ++ [(q9, .inl (G.2 0, 64, .inl (fun _ => 0)))]) ++ [(q13, .inl (G.2 0, 64, .inl (fun _ => 0)))])) := hD
    refine lv_aload_n hx hb dX1_init_28 rfl (lv_at hl 0 rfl) ?_
    refine lv_bipush (v := 64) hx hb dX1_init_29 (by decide) ?_
    refine gn_newI (N := 64) X hA hP hD hS q_78 (by decide) (by decide) (Nat.le_of_ble_eq_true rfl) (Nat.le_of_ble_eq_true rfl) (Nat.le_of_ble_eq_true rfl) dX1_init_31 (fun q17 H hP hD hS => ?_)
    have hP : va_P G.1 vwCl ((h0, .inr (1, [.ref q5, .ref q9, .ref q13, .null, .int 0, .int 0, .int 0])) :: ((([(q5, .inl (G.2 0, 64, .inl (fun _ => 0)))] ++ [(q9, .inl (G.2 0, 64, .inl (fun _ => 0)))]) ++ [(q13, .inl (G.2 0, 64, .inl (fun _ => 0)))]) ++ [(q17, .inl (G.2 0, 64, .inl (fun _ => 0)))])) H := hP
    have hD : va_D A ((h0, .inr (1, [.ref q5, .ref q9, .ref q13, .null, .int 0, .int 0, .int 0])) :: ((([(q5, .inl (G.2 0, 64, .inl (fun _ => 0)))] ++ [(q9, .inl (G.2 0, 64, .inl (fun _ => 0)))]) ++ [(q13, .inl (G.2 0, 64, .inl (fun _ => 0)))]) ++ [(q17, .inl (G.2 0, 64, .inl (fun _ => 0)))])) := hD
    refine gn_put (C := RX1) (T := TX1) (ty0 := tyX1) (N := 7) (ci := 1) (k := 3) (ty := tyX1 3) (v := .ref q17) X hnm hP hD hS rfl inT_1 tyX1_ok nmX1 (by decide) q_91 rfl rfl (by decide +kernel) (by first | rfl | decide) (by first | rfl | decide) (by show 3 < 7; decide) dX1_init_33 (fun H locs hP hD hS => ?_)
    have hP : va_P G.1 vwCl ((h0, .inr (1, [.ref q5, .ref q9, .ref q13, .ref q17, .int 0, .int 0, .int 0])) :: ((([(q5, .inl (G.2 0, 64, .inl (fun _ => 0)))] ++ [(q9, .inl (G.2 0, 64, .inl (fun _ => 0)))]) ++ [(q13, .inl (G.2 0, 64, .inl (fun _ => 0)))]) ++ [(q17, .inl (G.2 0, 64, .inl (fun _ => 0)))])) H := hP
    have hD : va_D A ((h0, .inr (1, [.ref q5, .ref q9, .ref q13, .ref q17, .int 0, .int 0, .int 0])) :: ((([(q5, .inl (G.2 0, 64, .inl (fun _ => 0)))] ++ [(q9, .inl (G.2 0, 64, .inl (fun _ => 0)))]) ++ [(q13, .inl (G.2 0, 64, .inl (fun _ => 0)))]) ++ [(q17, .inl (G.2 0, 64, .inl (fun _ => 0)))])) := hD
    exact gn_vret X (q5 :: q9 :: q13 :: q17 :: []) hP hD hS dX1_init_36
  exact Y _ _ hP hD hS
def rmX3_init : Room := { frames := 1, cells := 1, slots := 8, locals := 20 }
set_option maxHeartbeats 8000000 in
set_option maxRecDepth 100000 in
theorem cX3 (l : Launch) (G : gG) (h0 sz : Nat) : gIn l yX3_init cX3_init 1 rmX3_init G h0 (.inr (3, [.null, .int 0, .int 0, .int 0])) sz (bX3 G h0) 1 8 := by
  refine gIn_of (by decide) ?_
  intro p e s m below meth c A hA X hnm hE hP hD hS
  have hl := lv_entry ([.ref h0]) (n := 1) (Nat.le_of_ble_eq_true rfl)
  rw [lg_entry_eq]
  generalize (lg_sl ([.ref h0]) ++ List.replicate (1 - (lg_sl ([.ref h0])).length) Slot.unset).toArray = ls at hl ⊢
  have hl : lv_has ls 1 [(0, .ref h0)] := hl
  obtain ⟨hx, hb, hr, hml, hown, hts, hlk, hK⟩ := id X
  have Y : ∀ (H : Heap) (locs : List Loc), va_P G.1 vwCl [(h0, .inr (3, [.null, .int 0, .int 0, .int 0]))] H → va_D A [(h0, .inr (3, [.null, .int 0, .int 0, .int 0]))] → va_S A s.heap H locs → W p l e rmX3_init s m #[.ref h0] below meth c H locs 0 0 (MQ below (va_Qv (fun _ : Unit => True) (gInAt G A (bX3 G h0)) A) #[.ref h0] s 1 8 A) (F0 m 0 ls []) := by
    intro H locs hP hD hS
    refine lv_aload_n hx hb dX3_init_0 rfl (lv_at hl 0 rfl) ?_
    refine W.objInit hx hb hown (hts _ q_162) (hts _ q_52) (hts _ q_53) rfl (by rw [hml]; exact hl.1) rfl dX3_init_1 (Nat.le_of_ble_eq_true rfl) (Nat.le_of_ble_eq_true rfl) ?_
    refine W.eq (g2 := F0 m 4 ls []) rfl ?_
    refine lv_aload_n hx hb dX3_init_4 rfl (lv_at hl 0 rfl) ?_
    refine lv_bipush (v := 8) hx hb dX3_init_5 (by decide) ?_
    refine gn_newJ (N := 8) X hA hP hD hS q_137 (by decide) (by decide) (Nat.le_of_ble_eq_true rfl) (Nat.le_of_ble_eq_true rfl) (Nat.le_of_ble_eq_true rfl) dX3_init_7 (fun q5 H hP hD hS => ?_)
    have hP : va_P G.1 vwCl ((h0, .inr (3, [.null, .int 0, .int 0, .int 0])) :: [(q5, .inl (G.2 1, 8, .inr (.inl (fun _ => 0))))]) H := hP
    have hD : va_D A ((h0, .inr (3, [.null, .int 0, .int 0, .int 0])) :: [(q5, .inl (G.2 1, 8, .inr (.inl (fun _ => 0))))]) := hD
    refine gn_put (C := RX3) (T := TX3) (ty0 := tyX3) (N := 4) (ci := 3) (k := 0) (ty := tyX3 0) (v := .ref q5) X hnm hP hD hS rfl inT_3 tyX3_ok nmX3 (by decide) q_163 rfl rfl (by decide +kernel) (by first | rfl | decide) (by first | rfl | decide) (by show 0 < 4; decide) dX3_init_9 (fun H locs hP hD hS => ?_)
    have hP : va_P G.1 vwCl ((h0, .inr (3, [.ref q5, .int 0, .int 0, .int 0])) :: [(q5, .inl (G.2 1, 8, .inr (.inl (fun _ => 0))))]) H := hP
    have hD : va_D A ((h0, .inr (3, [.ref q5, .int 0, .int 0, .int 0])) :: [(q5, .inl (G.2 1, 8, .inr (.inl (fun _ => 0))))]) := hD
    refine lv_aload_n hx hb dX3_init_12 rfl (lv_at hl 0 rfl) ?_
    refine lv_iconst (v := 1) hx hb dX3_init_13 (by decide) ?_
    refine gn_put (C := RX3) (T := TX3) (ty0 := tyX3) (N := 4) (ci := 3) (k := 1) (ty := tyX3 1) (v := .int 1) X hnm hP hD hS rfl inT_3 tyX3_ok nmX3 (by decide) q_165 rfl rfl (by decide +kernel) (by first | rfl | decide) (by first | rfl | decide) (by show 1 < 4; decide) dX3_init_14 (fun H locs hP hD hS => ?_)
    have hP : va_P G.1 vwCl ((h0, .inr (3, [.ref q5, .int 1, .int 0, .int 0])) :: [(q5, .inl (G.2 1, 8, .inr (.inl (fun _ => 0))))]) H := hP
    have hD : va_D A ((h0, .inr (3, [.ref q5, .int 1, .int 0, .int 0])) :: [(q5, .inl (G.2 1, 8, .inr (.inl (fun _ => 0))))]) := hD
    exact gn_vret X (q5 :: []) hP hD hS dX3_init_17
  exact Y _ _ hP hD hS
def rmX4_init : Room := { frames := 1, cells := 2, slots := 20, locals := 20 }
set_option maxHeartbeats 8000000 in
set_option maxRecDepth 100000 in
theorem cX4 (l : Launch) (G : gG) (h0 sz : Nat) : gIn l yX4_init cX4_init 1 rmX4_init G h0 (.inr (4, [.null, .null, .int 0, .int 0])) sz (bX4 G h0) 2 20 := by
  refine gIn_of (by decide) ?_
  intro p e s m below meth c A hA X hnm hE hP hD hS
  have hl := lv_entry ([.ref h0]) (n := 1) (Nat.le_of_ble_eq_true rfl)
  rw [lg_entry_eq]
  generalize (lg_sl ([.ref h0]) ++ List.replicate (1 - (lg_sl ([.ref h0])).length) Slot.unset).toArray = ls at hl ⊢
  have hl : lv_has ls 1 [(0, .ref h0)] := hl
  obtain ⟨hx, hb, hr, hml, hown, hts, hlk, hK⟩ := id X
  have Y : ∀ (H : Heap) (locs : List Loc), va_P G.1 vwCl [(h0, .inr (4, [.null, .null, .int 0, .int 0]))] H → va_D A [(h0, .inr (4, [.null, .null, .int 0, .int 0]))] → va_S A s.heap H locs → W p l e rmX4_init s m #[.ref h0] below meth c H locs 0 0 (MQ below (va_Qv (fun _ : Unit => True) (gInAt G A (bX4 G h0)) A) #[.ref h0] s 2 20 A) (F0 m 0 ls []) := by
    intro H locs hP hD hS
    refine lv_aload_n hx hb dX4_init_0 rfl (lv_at hl 0 rfl) ?_
    refine W.objInit hx hb hown (hts _ q_61) (hts _ q_52) (hts _ q_53) rfl (by rw [hml]; exact hl.1) rfl dX4_init_1 (Nat.le_of_ble_eq_true rfl) (Nat.le_of_ble_eq_true rfl) ?_
    refine W.eq (g2 := F0 m 4 ls []) rfl ?_
    refine lv_aload_n hx hb dX4_init_4 rfl (lv_at hl 0 rfl) ?_
    refine lv_bipush (v := 10) hx hb dX4_init_5 (by decide) ?_
    refine gn_newI (N := 10) X hA hP hD hS q_78 (by decide) (by decide) (Nat.le_of_ble_eq_true rfl) (Nat.le_of_ble_eq_true rfl) (Nat.le_of_ble_eq_true rfl) dX4_init_7 (fun q5 H hP hD hS => ?_)
    have hP : va_P G.1 vwCl ((h0, .inr (4, [.null, .null, .int 0, .int 0])) :: [(q5, .inl (G.2 0, 10, .inl (fun _ => 0)))]) H := hP
    have hD : va_D A ((h0, .inr (4, [.null, .null, .int 0, .int 0])) :: [(q5, .inl (G.2 0, 10, .inl (fun _ => 0)))]) := hD
    refine gn_put (C := RX4) (T := TX4) (ty0 := tyX4) (N := 4) (ci := 4) (k := 0) (ty := tyX4 0) (v := .ref q5) X hnm hP hD hS rfl inT_4 tyX4_ok nmX4 (by decide) q_62 rfl rfl (by decide +kernel) (by first | rfl | decide) (by first | rfl | decide) (by show 0 < 4; decide) dX4_init_9 (fun H locs hP hD hS => ?_)
    have hP : va_P G.1 vwCl ((h0, .inr (4, [.ref q5, .null, .int 0, .int 0])) :: [(q5, .inl (G.2 0, 10, .inl (fun _ => 0)))]) H := hP
    have hD : va_D A ((h0, .inr (4, [.ref q5, .null, .int 0, .int 0])) :: [(q5, .inl (G.2 0, 10, .inl (fun _ => 0)))]) := hD
    refine lv_aload_n hx hb dX4_init_12 rfl (lv_at hl 0 rfl) ?_
    refine lv_bipush (v := 10) hx hb dX4_init_13 (by decide) ?_
    refine gn_newI (N := 10) X hA hP hD hS q_78 (by decide) (by decide) (Nat.le_of_ble_eq_true rfl) (Nat.le_of_ble_eq_true rfl) (Nat.le_of_ble_eq_true rfl) dX4_init_15 (fun q9 H hP hD hS => ?_)
    have hP : va_P G.1 vwCl ((h0, .inr (4, [.ref q5, .null, .int 0, .int 0])) :: ([(q5, .inl (G.2 0, 10, .inl (fun _ => 0)))] ++ [(q9, .inl (G.2 0, 10, .inl (fun _ => 0)))])) H := hP
    have hD : va_D A ((h0, .inr (4, [.ref q5, .null, .int 0, .int 0])) :: ([(q5, .inl (G.2 0, 10, .inl (fun _ => 0)))] ++ [(q9, .inl (G.2 0, 10, .inl (fun _ => 0)))])) := hD
    refine gn_put (C := RX4) (T := TX4) (ty0 := tyX4) (N := 4) (ci := 4) (k := 1) (ty := tyX4 1) (v := .ref q9) X hnm hP hD hS rfl inT_4 tyX4_ok nmX4 (by decide) q_64 rfl rfl (by decide +kernel) (by first | rfl | decide) (by first | rfl | decide) (by show 1 < 4; decide) dX4_init_17 (fun H locs hP hD hS => ?_)
    have hP : va_P G.1 vwCl ((h0, .inr (4, [.ref q5, .ref q9, .int 0, .int 0])) :: ([(q5, .inl (G.2 0, 10, .inl (fun _ => 0)))] ++ [(q9, .inl (G.2 0, 10, .inl (fun _ => 0)))])) H := hP
    have hD : va_D A ((h0, .inr (4, [.ref q5, .ref q9, .int 0, .int 0])) :: ([(q5, .inl (G.2 0, 10, .inl (fun _ => 0)))] ++ [(q9, .inl (G.2 0, 10, .inl (fun _ => 0)))])) := hD
    refine lv_aload_n hx hb dX4_init_20 rfl (lv_at hl 0 rfl) ?_
    refine lv_sipush (v := 1000) hx hb dX4_init_21 (by decide) ?_
    refine gn_put (C := RX4) (T := TX4) (ty0 := tyX4) (N := 4) (ci := 4) (k := 3) (ty := tyX4 3) (v := .int 1000) X hnm hP hD hS rfl inT_4 tyX4_ok nmX4 (by decide) q_67 rfl rfl (by decide +kernel) (by first | rfl | decide) (by first | rfl | decide) (by show 3 < 4; decide) dX4_init_24 (fun H locs hP hD hS => ?_)
    have hP : va_P G.1 vwCl ((h0, .inr (4, [.ref q5, .ref q9, .int 0, .int 1000])) :: ([(q5, .inl (G.2 0, 10, .inl (fun _ => 0)))] ++ [(q9, .inl (G.2 0, 10, .inl (fun _ => 0)))])) H := hP
    have hD : va_D A ((h0, .inr (4, [.ref q5, .ref q9, .int 0, .int 1000])) :: ([(q5, .inl (G.2 0, 10, .inl (fun _ => 0)))] ++ [(q9, .inl (G.2 0, 10, .inl (fun _ => 0)))])) := hD
    exact gn_vret X (q5 :: q9 :: []) hP hD hS dX4_init_27
  exact Y _ _ hP hD hS
def rmX2_init : Room := { frames := 2, cells := 21, slots := 21390, locals := 40 }
set_option maxHeartbeats 8000000 in
set_option maxRecDepth 100000 in
theorem cX2 (l : Launch) (G : gG) (h0 sz : Nat) : gIn l yX2_init cX2_init 2 rmX2_init G h0 (.inr (2, [.null, .int 0, .int 0])) sz (bX2 G h0) 21 21390 := by
  refine gIn_of (by decide) ?_
  intro p e s m below meth c A hA X hnm hE hP hD hS
  have hl := lv_entry ([.ref h0]) (n := 2) (Nat.le_of_ble_eq_true rfl)
  rw [lg_entry_eq]
  generalize (lg_sl ([.ref h0]) ++ List.replicate (2 - (lg_sl ([.ref h0])).length) Slot.unset).toArray = ls at hl ⊢
  have hl : lv_has ls 2 [(0, .ref h0)] := hl
  obtain ⟨hx, hb, hr, hml, hown, hts, hlk, hK⟩ := id X
  have Y : ∀ (H : Heap) (locs : List Loc), va_P G.1 vwCl [(h0, .inr (2, [.null, .int 0, .int 0]))] H → va_D A [(h0, .inr (2, [.null, .int 0, .int 0]))] → va_S A s.heap H locs → W p l e rmX2_init s m #[.ref h0] below meth c H locs 0 0 (MQ below (va_Qv (fun _ : Unit => True) (gInAt G A (bX2 G h0)) A) #[.ref h0] s 21 21390 A) (F0 m 0 ls []) := by
    intro H locs hP hD hS
    refine lv_aload_n hx hb dX2_init_0 rfl (lv_at hl 0 rfl) ?_
    refine W.objInit hx hb hown (hts _ q_143) (hts _ q_52) (hts _ q_53) rfl (by rw [hml]; exact hl.1) rfl dX2_init_1 (Nat.le_of_ble_eq_true rfl) (Nat.le_of_ble_eq_true rfl) ?_
    refine W.eq (g2 := F0 m 4 ls []) rfl ?_
    refine lv_aload_n hx hb dX2_init_4 rfl (lv_at hl 0 rfl) ?_
    refine lv_iconst (v := 5) hx hb dX2_init_5 (by decide) ?_
    refine gn_newQ (t := 2) (N := 5) X hA hP hD hS rfl q_144 hE.2.1 (by decide) (by decide) (Nat.le_of_ble_eq_true rfl) (Nat.le_of_ble_eq_true rfl) (Nat.le_of_ble_eq_true rfl) dX2_init_6 (fun q5 H hP hD hS => ?_)
    have hP : va_P G.1 vwCl ((h0, .inr (2, [.null, .int 0, .int 0])) :: (q5, .inl (G.2 2, 5, .inr (.inr (.inr (.inr (fun _ => none)))))) :: []) H := hP
    have hD : va_D A ((h0, .inr (2, [.null, .int 0, .int 0])) :: (q5, .inl (G.2 2, 5, .inr (.inr (.inr (.inr (fun _ => none)))))) :: []) := hD
    refine gn_put (C := RX2) (T := TX2) (ty0 := tyX2) (N := 3) (ci := 2) (k := 0) (ty := tyX2 0) (v := .ref q5) X hnm hP hD hS rfl inT_2 tyX2_ok nmX2 (by decide) q_147 rfl rfl (by decide +kernel) (by first | rfl | decide) (by first | rfl | decide) (by show 0 < 3; decide) dX2_init_9 (fun H locs hP hD hS => ?_)
    have hP : va_P G.1 vwCl ((h0, .inr (2, [.ref q5, .int 0, .int 0])) :: (q5, .inl (G.2 2, 5, .inr (.inr (.inr (.inr (fun _ => none)))))) :: []) H := hP
    have hD : va_D A ((h0, .inr (2, [.ref q5, .int 0, .int 0])) :: (q5, .inl (G.2 2, 5, .inr (.inr (.inr (.inr (fun _ => none)))))) :: []) := hD
    refine lv_iconst (v := 0) hx hb dX2_init_12 (by decide) ?_
    refine lv_istore_n (lv' := [(1, .int 0), (0, .ref h0)]) hx hb dX2_init_13 rfl hl (by decide) rfl (fun ls hl => ?_)
    refine lv_iload_n hx hb dX2_init_14 rfl (lv_at hl 0 rfl) ?_
    refine lv_iconst (v := 5) hx hb dX2_init_15 (by decide) ?_
    refine lv_icmp_ge (tgt := 38) hx hb dX2_init_16 (by decide) (fun c_ => absurd c_ (by decide)) (fun _ => ?_)
    refine lv_aload_n hx hb dX2_init_19 rfl (lv_at hl 1 rfl) ?_
    refine gn_get (C := RX2) (T := TX2) (N := 3) (ci := 2) (k := 0) X hP rfl inT_2 (by decide) q_147 rfl rfl dX2_init_20 ?_
    refine lv_iload_n hx hb dX2_init_23 rfl (lv_at hl 0 rfl) ?_
    refine gn_new (C := RX0) (T := TX0) (N := 4) (ci := 0) (ty := tyX0) (fs := [.null, .null, .null, .int 0]) X hA hP hD hS rfl inT_0 tyX0_ok q_144 q_115 q_39 (fun j hj => by
      match j, hj with
      | 0, _ => rfl
      | 1, _ => rfl
      | 2, _ => rfl
      | 3, _ => rfl
      | j + 4, hj => omega) (Nat.le_of_ble_eq_true rfl) (Nat.le_of_ble_eq_true rfl) dX2_init_24 (fun q15 H hP hD hS => ?_)
    refine lv_dup hx hb dX2_init_27 rfl ?_
    refine gn_callN (rest := [.ref q15, .int 0, .ref q5]) X hE hA hP hD hS (cX0 l G q15 _) hE.2.2.2.2.2.1 (q_117) (q_118) (q_39) (by decide +kernel) rfl rfl rfl ⟨Nat.le_of_ble_eq_true rfl, Nat.le_of_ble_eq_true rfl⟩ hl.1 rfl (Nat.le_of_ble_eq_true rfl) ⟨Nat.le_of_ble_eq_true rfl, Nat.le_of_ble_eq_true rfl⟩ dX2_init_28 (fun u17 H locs hP hD hS => ?_)
    have hP : va_P G.1 vwCl ((h0, .inr (2, [.ref q5, .int 0, .int 0])) :: (q5, .inl (G.2 2, 5, .inr (.inr (.inr (.inr (fun _ => none)))))) :: bX0 G q15 u17) H := hP
    have hD : va_D A ((h0, .inr (2, [.ref q5, .int 0, .int 0])) :: (q5, .inl (G.2 2, 5, .inr (.inr (.inr (.inr (fun _ => none)))))) :: bX0 G q15 u17) := hD
    refine gn_aast (t := 2) (ci := 0) (qk := 0) X rfl hP hD hS rfl rfl (by unfold vp_in; decide) dX2_init_31 (fun H locs hP hD hS => ?_)
    have hP : va_P G.1 vwCl ((h0, .inr (2, [.ref q5, .int 0, .int 0])) :: (q5, .inl (G.2 2, 5, .inr (.inr (.inr (.inr (va_up (fun _ => none) (Int32.toNatClampNeg 0) (some q15))))))) :: bX0 G q15 u17) H := hP
    have hD : va_D A ((h0, .inr (2, [.ref q5, .int 0, .int 0])) :: (q5, .inl (G.2 2, 5, .inr (.inr (.inr (.inr (va_up (fun _ => none) (Int32.toNatClampNeg 0) (some q15))))))) :: bX0 G q15 u17) := hD
    generalize hT1 : (bX0 G q15 u17 : va_W) = T1 at hP hD
    refine lv_iinc (v := 1) (lv' := [(1, .int 1), (0, .ref h0)]) hx hb dX2_init_32 hl (k := 0) rfl (by decide) (by decide) rfl (fun ls hl => ?_)
    refine lv_goto (tgt := 14) hx hb dX2_init_35 (by decide) ?_
    refine lv_iload_n hx hb dX2_init_14 rfl (lv_at hl 0 rfl) ?_
    refine lv_iconst (v := 5) hx hb dX2_init_15 (by decide) ?_
    refine lv_icmp_ge (tgt := 38) hx hb dX2_init_16 (by decide) (fun c_ => absurd c_ (by decide)) (fun _ => ?_)
    refine lv_aload_n hx hb dX2_init_19 rfl (lv_at hl 1 rfl) ?_
    refine gn_get (C := RX2) (T := TX2) (N := 3) (ci := 2) (k := 0) X hP rfl inT_2 (by decide) q_147 rfl rfl dX2_init_20 ?_
    refine lv_iload_n hx hb dX2_init_23 rfl (lv_at hl 0 rfl) ?_
    refine gn_new (C := RX0) (T := TX0) (N := 4) (ci := 0) (ty := tyX0) (fs := [.null, .null, .null, .int 0]) X hA hP hD hS rfl inT_0 tyX0_ok q_144 q_115 q_39 (fun j hj => by
      match j, hj with
      | 0, _ => rfl
      | 1, _ => rfl
      | 2, _ => rfl
      | 3, _ => rfl
      | j + 4, hj => omega) (Nat.le_of_ble_eq_true rfl) (Nat.le_of_ble_eq_true rfl) dX2_init_24 (fun q27 H hP hD hS => ?_)
    refine lv_dup hx hb dX2_init_27 rfl ?_
    refine gn_callN (rest := [.ref q27, .int 1, .ref q5]) X hE hA hP hD hS (cX0 l G q27 _) hE.2.2.2.2.2.1 (q_117) (q_118) (q_39) (by decide +kernel) rfl rfl rfl ⟨Nat.le_of_ble_eq_true rfl, Nat.le_of_ble_eq_true rfl⟩ hl.1 rfl (Nat.le_of_ble_eq_true rfl) ⟨Nat.le_of_ble_eq_true rfl, Nat.le_of_ble_eq_true rfl⟩ dX2_init_28 (fun u29 H locs hP hD hS => ?_)
    have hP : va_P G.1 vwCl ((h0, .inr (2, [.ref q5, .int 0, .int 0])) :: (q5, .inl (G.2 2, 5, .inr (.inr (.inr (.inr (va_up (fun _ => none) (Int32.toNatClampNeg 0) (some q15))))))) :: (T1 ++ bX0 G q27 u29)) H := hP
    have hD : va_D A ((h0, .inr (2, [.ref q5, .int 0, .int 0])) :: (q5, .inl (G.2 2, 5, .inr (.inr (.inr (.inr (va_up (fun _ => none) (Int32.toNatClampNeg 0) (some q15))))))) :: (T1 ++ bX0 G q27 u29)) := hD
    refine gn_aast (t := 2) (ci := 0) (qk := List.length T1) X rfl hP hD hS gn_lastAt rfl (by unfold vp_in; decide) dX2_init_31 (fun H locs hP hD hS => ?_)
    have hP : va_P G.1 vwCl ((h0, .inr (2, [.ref q5, .int 0, .int 0])) :: (q5, .inl (G.2 2, 5, .inr (.inr (.inr (.inr (va_up (va_up (fun _ => none) (Int32.toNatClampNeg 0) (some q15)) (Int32.toNatClampNeg 1) (some q27))))))) :: (T1 ++ bX0 G q27 u29)) H := hP
    have hD : va_D A ((h0, .inr (2, [.ref q5, .int 0, .int 0])) :: (q5, .inl (G.2 2, 5, .inr (.inr (.inr (.inr (va_up (va_up (fun _ => none) (Int32.toNatClampNeg 0) (some q15)) (Int32.toNatClampNeg 1) (some q27))))))) :: (T1 ++ bX0 G q27 u29)) := hD
    generalize hT2 : ((T1 ++ bX0 G q27 u29) : va_W) = T2 at hP hD
    refine lv_iinc (v := 2) (lv' := [(1, .int 2), (0, .ref h0)]) hx hb dX2_init_32 hl (k := 0) rfl (by decide) (by decide) rfl (fun ls hl => ?_)
    refine lv_goto (tgt := 14) hx hb dX2_init_35 (by decide) ?_
    refine lv_iload_n hx hb dX2_init_14 rfl (lv_at hl 0 rfl) ?_
    refine lv_iconst (v := 5) hx hb dX2_init_15 (by decide) ?_
    refine lv_icmp_ge (tgt := 38) hx hb dX2_init_16 (by decide) (fun c_ => absurd c_ (by decide)) (fun _ => ?_)
    refine lv_aload_n hx hb dX2_init_19 rfl (lv_at hl 1 rfl) ?_
    refine gn_get (C := RX2) (T := TX2) (N := 3) (ci := 2) (k := 0) X hP rfl inT_2 (by decide) q_147 rfl rfl dX2_init_20 ?_
    refine lv_iload_n hx hb dX2_init_23 rfl (lv_at hl 0 rfl) ?_
    refine gn_new (C := RX0) (T := TX0) (N := 4) (ci := 0) (ty := tyX0) (fs := [.null, .null, .null, .int 0]) X hA hP hD hS rfl inT_0 tyX0_ok q_144 q_115 q_39 (fun j hj => by
      match j, hj with
      | 0, _ => rfl
      | 1, _ => rfl
      | 2, _ => rfl
      | 3, _ => rfl
      | j + 4, hj => omega) (Nat.le_of_ble_eq_true rfl) (Nat.le_of_ble_eq_true rfl) dX2_init_24 (fun q39 H hP hD hS => ?_)
    refine lv_dup hx hb dX2_init_27 rfl ?_
    refine gn_callN (rest := [.ref q39, .int 2, .ref q5]) X hE hA hP hD hS (cX0 l G q39 _) hE.2.2.2.2.2.1 (q_117) (q_118) (q_39) (by decide +kernel) rfl rfl rfl ⟨Nat.le_of_ble_eq_true rfl, Nat.le_of_ble_eq_true rfl⟩ hl.1 rfl (Nat.le_of_ble_eq_true rfl) ⟨Nat.le_of_ble_eq_true rfl, Nat.le_of_ble_eq_true rfl⟩ dX2_init_28 (fun u41 H locs hP hD hS => ?_)
    have hP : va_P G.1 vwCl ((h0, .inr (2, [.ref q5, .int 0, .int 0])) :: (q5, .inl (G.2 2, 5, .inr (.inr (.inr (.inr (va_up (va_up (fun _ => none) (Int32.toNatClampNeg 0) (some q15)) (Int32.toNatClampNeg 1) (some q27))))))) :: (T2 ++ bX0 G q39 u41)) H := hP
    have hD : va_D A ((h0, .inr (2, [.ref q5, .int 0, .int 0])) :: (q5, .inl (G.2 2, 5, .inr (.inr (.inr (.inr (va_up (va_up (fun _ => none) (Int32.toNatClampNeg 0) (some q15)) (Int32.toNatClampNeg 1) (some q27))))))) :: (T2 ++ bX0 G q39 u41)) := hD
    refine gn_aast (t := 2) (ci := 0) (qk := List.length T2) X rfl hP hD hS gn_lastAt rfl (by unfold vp_in; decide) dX2_init_31 (fun H locs hP hD hS => ?_)
    have hP : va_P G.1 vwCl ((h0, .inr (2, [.ref q5, .int 0, .int 0])) :: (q5, .inl (G.2 2, 5, .inr (.inr (.inr (.inr (va_up (va_up (va_up (fun _ => none) (Int32.toNatClampNeg 0) (some q15)) (Int32.toNatClampNeg 1) (some q27)) (Int32.toNatClampNeg 2) (some q39))))))) :: (T2 ++ bX0 G q39 u41)) H := hP
    have hD : va_D A ((h0, .inr (2, [.ref q5, .int 0, .int 0])) :: (q5, .inl (G.2 2, 5, .inr (.inr (.inr (.inr (va_up (va_up (va_up (fun _ => none) (Int32.toNatClampNeg 0) (some q15)) (Int32.toNatClampNeg 1) (some q27)) (Int32.toNatClampNeg 2) (some q39))))))) :: (T2 ++ bX0 G q39 u41)) := hD
    generalize hT3 : ((T2 ++ bX0 G q39 u41) : va_W) = T3 at hP hD
    refine lv_iinc (v := 3) (lv' := [(1, .int 3), (0, .ref h0)]) hx hb dX2_init_32 hl (k := 0) rfl (by decide) (by decide) rfl (fun ls hl => ?_)
    refine lv_goto (tgt := 14) hx hb dX2_init_35 (by decide) ?_
    refine lv_iload_n hx hb dX2_init_14 rfl (lv_at hl 0 rfl) ?_
    refine lv_iconst (v := 5) hx hb dX2_init_15 (by decide) ?_
    refine lv_icmp_ge (tgt := 38) hx hb dX2_init_16 (by decide) (fun c_ => absurd c_ (by decide)) (fun _ => ?_)
    refine lv_aload_n hx hb dX2_init_19 rfl (lv_at hl 1 rfl) ?_
    refine gn_get (C := RX2) (T := TX2) (N := 3) (ci := 2) (k := 0) X hP rfl inT_2 (by decide) q_147 rfl rfl dX2_init_20 ?_
    refine lv_iload_n hx hb dX2_init_23 rfl (lv_at hl 0 rfl) ?_
    refine gn_new (C := RX0) (T := TX0) (N := 4) (ci := 0) (ty := tyX0) (fs := [.null, .null, .null, .int 0]) X hA hP hD hS rfl inT_0 tyX0_ok q_144 q_115 q_39 (fun j hj => by
      match j, hj with
      | 0, _ => rfl
      | 1, _ => rfl
      | 2, _ => rfl
      | 3, _ => rfl
      | j + 4, hj => omega) (Nat.le_of_ble_eq_true rfl) (Nat.le_of_ble_eq_true rfl) dX2_init_24 (fun q51 H hP hD hS => ?_)
    refine lv_dup hx hb dX2_init_27 rfl ?_
    refine gn_callN (rest := [.ref q51, .int 3, .ref q5]) X hE hA hP hD hS (cX0 l G q51 _) hE.2.2.2.2.2.1 (q_117) (q_118) (q_39) (by decide +kernel) rfl rfl rfl ⟨Nat.le_of_ble_eq_true rfl, Nat.le_of_ble_eq_true rfl⟩ hl.1 rfl (Nat.le_of_ble_eq_true rfl) ⟨Nat.le_of_ble_eq_true rfl, Nat.le_of_ble_eq_true rfl⟩ dX2_init_28 (fun u53 H locs hP hD hS => ?_)
    have hP : va_P G.1 vwCl ((h0, .inr (2, [.ref q5, .int 0, .int 0])) :: (q5, .inl (G.2 2, 5, .inr (.inr (.inr (.inr (va_up (va_up (va_up (fun _ => none) (Int32.toNatClampNeg 0) (some q15)) (Int32.toNatClampNeg 1) (some q27)) (Int32.toNatClampNeg 2) (some q39))))))) :: (T3 ++ bX0 G q51 u53)) H := hP
    have hD : va_D A ((h0, .inr (2, [.ref q5, .int 0, .int 0])) :: (q5, .inl (G.2 2, 5, .inr (.inr (.inr (.inr (va_up (va_up (va_up (fun _ => none) (Int32.toNatClampNeg 0) (some q15)) (Int32.toNatClampNeg 1) (some q27)) (Int32.toNatClampNeg 2) (some q39))))))) :: (T3 ++ bX0 G q51 u53)) := hD
    refine gn_aast (t := 2) (ci := 0) (qk := List.length T3) X rfl hP hD hS gn_lastAt rfl (by unfold vp_in; decide) dX2_init_31 (fun H locs hP hD hS => ?_)
    have hP : va_P G.1 vwCl ((h0, .inr (2, [.ref q5, .int 0, .int 0])) :: (q5, .inl (G.2 2, 5, .inr (.inr (.inr (.inr (va_up (va_up (va_up (va_up (fun _ => none) (Int32.toNatClampNeg 0) (some q15)) (Int32.toNatClampNeg 1) (some q27)) (Int32.toNatClampNeg 2) (some q39)) (Int32.toNatClampNeg 3) (some q51))))))) :: (T3 ++ bX0 G q51 u53)) H := hP
    have hD : va_D A ((h0, .inr (2, [.ref q5, .int 0, .int 0])) :: (q5, .inl (G.2 2, 5, .inr (.inr (.inr (.inr (va_up (va_up (va_up (va_up (fun _ => none) (Int32.toNatClampNeg 0) (some q15)) (Int32.toNatClampNeg 1) (some q27)) (Int32.toNatClampNeg 2) (some q39)) (Int32.toNatClampNeg 3) (some q51))))))) :: (T3 ++ bX0 G q51 u53)) := hD
    generalize hT4 : ((T3 ++ bX0 G q51 u53) : va_W) = T4 at hP hD
    refine lv_iinc (v := 4) (lv' := [(1, .int 4), (0, .ref h0)]) hx hb dX2_init_32 hl (k := 0) rfl (by decide) (by decide) rfl (fun ls hl => ?_)
    refine lv_goto (tgt := 14) hx hb dX2_init_35 (by decide) ?_
    refine lv_iload_n hx hb dX2_init_14 rfl (lv_at hl 0 rfl) ?_
    refine lv_iconst (v := 5) hx hb dX2_init_15 (by decide) ?_
    refine lv_icmp_ge (tgt := 38) hx hb dX2_init_16 (by decide) (fun c_ => absurd c_ (by decide)) (fun _ => ?_)
    refine lv_aload_n hx hb dX2_init_19 rfl (lv_at hl 1 rfl) ?_
    refine gn_get (C := RX2) (T := TX2) (N := 3) (ci := 2) (k := 0) X hP rfl inT_2 (by decide) q_147 rfl rfl dX2_init_20 ?_
    refine lv_iload_n hx hb dX2_init_23 rfl (lv_at hl 0 rfl) ?_
    refine gn_new (C := RX0) (T := TX0) (N := 4) (ci := 0) (ty := tyX0) (fs := [.null, .null, .null, .int 0]) X hA hP hD hS rfl inT_0 tyX0_ok q_144 q_115 q_39 (fun j hj => by
      match j, hj with
      | 0, _ => rfl
      | 1, _ => rfl
      | 2, _ => rfl
      | 3, _ => rfl
      | j + 4, hj => omega) (Nat.le_of_ble_eq_true rfl) (Nat.le_of_ble_eq_true rfl) dX2_init_24 (fun q63 H hP hD hS => ?_)
    refine lv_dup hx hb dX2_init_27 rfl ?_
    refine gn_callN (rest := [.ref q63, .int 4, .ref q5]) X hE hA hP hD hS (cX0 l G q63 _) hE.2.2.2.2.2.1 (q_117) (q_118) (q_39) (by decide +kernel) rfl rfl rfl ⟨Nat.le_of_ble_eq_true rfl, Nat.le_of_ble_eq_true rfl⟩ hl.1 rfl (Nat.le_of_ble_eq_true rfl) ⟨Nat.le_of_ble_eq_true rfl, Nat.le_of_ble_eq_true rfl⟩ dX2_init_28 (fun u65 H locs hP hD hS => ?_)
    have hP : va_P G.1 vwCl ((h0, .inr (2, [.ref q5, .int 0, .int 0])) :: (q5, .inl (G.2 2, 5, .inr (.inr (.inr (.inr (va_up (va_up (va_up (va_up (fun _ => none) (Int32.toNatClampNeg 0) (some q15)) (Int32.toNatClampNeg 1) (some q27)) (Int32.toNatClampNeg 2) (some q39)) (Int32.toNatClampNeg 3) (some q51))))))) :: (T4 ++ bX0 G q63 u65)) H := hP
    have hD : va_D A ((h0, .inr (2, [.ref q5, .int 0, .int 0])) :: (q5, .inl (G.2 2, 5, .inr (.inr (.inr (.inr (va_up (va_up (va_up (va_up (fun _ => none) (Int32.toNatClampNeg 0) (some q15)) (Int32.toNatClampNeg 1) (some q27)) (Int32.toNatClampNeg 2) (some q39)) (Int32.toNatClampNeg 3) (some q51))))))) :: (T4 ++ bX0 G q63 u65)) := hD
    refine gn_aast (t := 2) (ci := 0) (qk := List.length T4) X rfl hP hD hS gn_lastAt rfl (by unfold vp_in; decide) dX2_init_31 (fun H locs hP hD hS => ?_)
    have hP : va_P G.1 vwCl ((h0, .inr (2, [.ref q5, .int 0, .int 0])) :: (q5, .inl (G.2 2, 5, .inr (.inr (.inr (.inr (va_up (va_up (va_up (va_up (va_up (fun _ => none) (Int32.toNatClampNeg 0) (some q15)) (Int32.toNatClampNeg 1) (some q27)) (Int32.toNatClampNeg 2) (some q39)) (Int32.toNatClampNeg 3) (some q51)) (Int32.toNatClampNeg 4) (some q63))))))) :: (T4 ++ bX0 G q63 u65)) H := hP
    have hD : va_D A ((h0, .inr (2, [.ref q5, .int 0, .int 0])) :: (q5, .inl (G.2 2, 5, .inr (.inr (.inr (.inr (va_up (va_up (va_up (va_up (va_up (fun _ => none) (Int32.toNatClampNeg 0) (some q15)) (Int32.toNatClampNeg 1) (some q27)) (Int32.toNatClampNeg 2) (some q39)) (Int32.toNatClampNeg 3) (some q51)) (Int32.toNatClampNeg 4) (some q63))))))) :: (T4 ++ bX0 G q63 u65)) := hD
    generalize hT5 : ((T4 ++ bX0 G q63 u65) : va_W) = T5 at hP hD
    refine lv_iinc (v := 5) (lv' := [(1, .int 5), (0, .ref h0)]) hx hb dX2_init_32 hl (k := 0) rfl (by decide) (by decide) rfl (fun ls hl => ?_)
    refine lv_goto (tgt := 14) hx hb dX2_init_35 (by decide) ?_
    refine lv_iload_n hx hb dX2_init_14 rfl (lv_at hl 0 rfl) ?_
    refine lv_iconst (v := 5) hx hb dX2_init_15 (by decide) ?_
    refine lv_icmp_ge (tgt := 38) hx hb dX2_init_16 (by decide) (fun _ => ?_) (fun c_ => absurd (by decide) c_)
    have hi : (((h0, .inr (2, [.ref q5, .int 0, .int 0])) :: (q5, .inl (G.2 2, 5, .inr (.inr (.inr (.inr (va_up (va_up (va_up (va_up (va_up (fun _ => none) (Int32.toNatClampNeg 0) (some q15)) (Int32.toNatClampNeg 1) (some q27)) (Int32.toNatClampNeg 2) (some q39)) (Int32.toNatClampNeg 3) (some q51)) (Int32.toNatClampNeg 4) (some q63))))))) :: T5) : va_W)[1]? = some (q5, .inl (G.2 2, 5, .inr (.inr (.inr (.inr (va_up (va_up (va_up (va_up (va_up (fun _ => none) (Int32.toNatClampNeg 0) (some q15)) (Int32.toNatClampNeg 1) (some q27)) (Int32.toNatClampNeg 2) (some q39)) (Int32.toNatClampNeg 3) (some q51)) (Int32.toNatClampNeg 4) (some q63))))))) := rfl
    have hD := hD.set (e := .inl (G.2 2, 5, .inr (.inr (.inr (.inr (fun k => some (List.getD (q5 :: q15 :: (u17.getD 0 0) :: (u17.getD 1 0) :: (u17.getD 2 0) :: q27 :: (u29.getD 0 0) :: (u29.getD 1 0) :: (u29.getD 2 0) :: q39 :: (u41.getD 0 0) :: (u41.getD 1 0) :: (u41.getD 2 0) :: q51 :: (u53.getD 0 0) :: (u53.getD 1 0) :: (u53.getD 2 0) :: q63 :: (u65.getD 0 0) :: (u65.getD 1 0) :: (u65.getD 2 0) :: []) (1 + 4 * k) 0))))))) hi
    have hP := gn_fixQ (g := (fun k => some (List.getD (q5 :: q15 :: (u17.getD 0 0) :: (u17.getD 1 0) :: (u17.getD 2 0) :: q27 :: (u29.getD 0 0) :: (u29.getD 1 0) :: (u29.getD 2 0) :: q39 :: (u41.getD 0 0) :: (u41.getD 1 0) :: (u41.getD 2 0) :: q51 :: (u53.getD 0 0) :: (u53.getD 1 0) :: (u53.getD 2 0) :: q63 :: (u65.getD 0 0) :: (u65.getD 1 0) :: (u65.getD 2 0) :: []) (1 + 4 * k) 0))) hP hi (fun j hj => by
      match j, hj with
      | 0, _ => rfl
      | 1, _ => rfl
      | 2, _ => rfl
      | 3, _ => rfl
      | 4, _ => rfl
      | j + 5, hj => omega)
    subst hT5
    subst hT4
    subst hT3
    subst hT2
    subst hT1
    exact gn_vret X (q5 :: q15 :: (u17.getD 0 0) :: (u17.getD 1 0) :: (u17.getD 2 0) :: q27 :: (u29.getD 0 0) :: (u29.getD 1 0) :: (u29.getD 2 0) :: q39 :: (u41.getD 0 0) :: (u41.getD 1 0) :: (u41.getD 2 0) :: q51 :: (u53.getD 0 0) :: (u53.getD 1 0) :: (u53.getD 2 0) :: q63 :: (u65.getD 0 0) :: (u65.getD 1 0) :: (u65.getD 2 0) :: []) hP hD hS dX2_init_38
  exact Y _ _ hP hD hS

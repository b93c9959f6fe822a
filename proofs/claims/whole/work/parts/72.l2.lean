/-! ground -/
theorem z_clear (o : Nat) (S : gS) : ∃ S', fX0_clear o S = some ((), S') ∧ gOff [o, o + 1, o + 2, o + 3] S S' ∧ gI S' o 3 = 0 ∧ (∀ k, k < 3904 → gJ S' (o + 1) k = 0) ∧ (∀ k, k < 64 → gJ S' (o + 2) k = 0) ∧ (∀ k, k < 305 → gJ S' (o + 3) k = 0) := by
  obtain ⟨A, hA⟩ : ∃ A, A = gI_up S o 3 0 := ⟨_, rfl⟩
  obtain ⟨B, hB⟩ : ∃ B, B = gJ_row A (o + 1) (fun k => if k < 3904 then 0 else gJ A (o + 1) k) := ⟨_, rfl⟩
  obtain ⟨C, hC⟩ : ∃ C, C = gJ_row B (o + 2) (fun k => if k < 64 then 0 else gJ B (o + 2) k) := ⟨_, rfl⟩
  refine ⟨gJ_row C (o + 3) (fun k => if k < 305 then 0 else gJ C (o + 3) k), ?_, ?_, ?_, ?_, ?_, ?_⟩
  · unfold fX0_clear
    rw [z_let, ← hA]
    have k1 := z_fill (o + 1) 3904 (by omega) A 0
    have k2 := z_fill (o + 2) 64 (by omega) B 0
    have k3 := z_fill (o + 3) 305 (by omega) C 0
    rw [← hB] at k1
    rw [← hC] at k2
    exact z_b k1 (z_b k2 (z_b k3 rfl))
  all_goals (rw [hC, hB, hA])
  · exact gOff_tr (gOff_tr (gOff_tr (gOff_I (by simp)) (gOff_rJ (by simp))) (gOff_rJ (by simp))) (gOff_rJ (by simp))
  · simp only [z_IrJ]
    rw [z_Is]
  · intro k hk
    rw [z_JrJ, if_neg (by omega), z_JrJ, if_neg (by omega), z_JrJ, if_pos rfl, if_pos hk]
  · intro k hk
    rw [z_JrJ, if_neg (by omega), z_JrJ, if_pos rfl, if_pos hk]
  · intro k hk
    rw [z_JrJ, if_pos rfl, if_pos hk]
theorem z_g75 (S : gS) (v1 v2 : Int32) : fX6_ground_75 gx_fuel S v1 v2 0 = fX6_ground_100 gx_fuel (gJ_row S 9 (fun i => if i < 305 then 0 else gJ S 9 i)) v1 v2 0 0 := by
  have key := z_lp (E := fun r : gS => fX6_ground_100 gx_fuel r v1 v2 0 0) 305 (fun f k t => fX6_ground_75 f t v1 v2 (nI k)) (fun k t => t = gJ_row S 9 (fun i => if i < k then 0 else gJ S 9 i)) (fun r => r = gJ_row S 9 (fun i => if i < 305 then 0 else gJ S 9 i)) (by
    intro f k t hk hp
    rcases Nat.lt_or_ge k 305 with h1 | h1
    · refine Or.inr ⟨h1, gJ_up t 9 k 0, ?_, ?_⟩
      · show fX6_ground_75L (fX6_ground_75 f) t v1 v2 (nI k) = _
        unfold fX6_ground_75L
        refine z_f (z_nle (a := 305) h1 (by omega)) (z_c rfl h1 (by omega) ?_)
        rw [z_let, z_let, z_cl (by omega), z_inc]
      · rw [hp, z_uprow]
        exact z_rowcg _ _ (fun x => by
          by_cases h2 : x = k
          · rw [if_pos h2, if_pos (by omega)]
          · rw [if_neg h2]
            by_cases h3 : x < k
            · rw [if_pos h3, if_pos (by omega)]
            · rw [if_neg h3, if_neg (by omega)])
    · refine Or.inl ⟨t, ?_, by rw [hp, show k = 305 by omega]⟩
      show fX6_ground_75L (fX6_ground_75 f) t v1 v2 (nI k) = _
      unfold fX6_ground_75L
      exact z_t (z_len (a := 305) h1 (by omega)) rfl) 305 gx_fuel 0 S (by omega) (by have := z_fuelB; omega) (by omega) (by
        rw [z_rowcg S 9 (r2 := gJ S 9) (fun k => by rw [if_neg (by omega)]), z_rowself])
  obtain ⟨r, h1, h2⟩ := key
  rw [h2] at h1
  exact h1
theorem z_g53 (S : gS) (v1 v2 : Int32) : fX6_ground_53 gx_fuel S v1 v2 0 = fX6_ground_75 gx_fuel (gJ_row S 8 (fun i => if i < 3904 then 0 else gJ S 8 i)) v1 v2 0 := by
  have key := z_lp (E := fun r : gS => fX6_ground_75 gx_fuel r v1 v2 0) 3904 (fun f k t => fX6_ground_53 f t v1 v2 (nI k)) (fun k t => t = gJ_row S 8 (fun i => if i < k then 0 else gJ S 8 i)) (fun r => r = gJ_row S 8 (fun i => if i < 3904 then 0 else gJ S 8 i)) (by
    intro f k t hk hp
    rcases Nat.lt_or_ge k 3904 with h1 | h1
    · refine Or.inr ⟨h1, gJ_up t 8 k 0, ?_, ?_⟩
      · show fX6_ground_53L (fX6_ground_53 f) t v1 v2 (nI k) = _
        unfold fX6_ground_53L
        refine z_f (z_nle (a := 3904) h1 (by omega)) (z_c rfl h1 (by omega) ?_)
        rw [z_let, z_let, z_cl (by omega), z_inc]
      · rw [hp, z_uprow]
        exact z_rowcg _ _ (fun x => by
          by_cases h2 : x = k
          · rw [if_pos h2, if_pos (by omega)]
          · rw [if_neg h2]
            by_cases h3 : x < k
            · rw [if_pos h3, if_pos (by omega)]
            · rw [if_neg h3, if_neg (by omega)])
    · refine Or.inl ⟨t, ?_, by rw [hp, show k = 3904 by omega]⟩
      show fX6_ground_53L (fX6_ground_53 f) t v1 v2 (nI k) = _
      unfold fX6_ground_53L
      exact z_t (z_len (a := 3904) h1 (by omega)) rfl) 3904 gx_fuel 0 S (by omega) (by have := z_fuelB; omega) (by omega) (by
        rw [z_rowcg S 8 (r2 := gJ S 8) (fun k => by rw [if_neg (by omega)]), z_rowself])
  obtain ⟨r, h1, h2⟩ := key
  rw [h2] at h1
  exact h1
/-- no ice at all -/
theorem z_none {n w h : Nat} {kd : Nat → Int32} {gr th tl ic su : Nat → Int64} (h1 : ∀ k, k < 3904 → gr k = 0) (h2 : ∀ k, k < 64 → th k = 0) (h3 : ∀ k, k < 305 → tl k = 0) (h4 : ∀ k, k < 3904 → ic k = 0) (h5 : ∀ k, k < 305 → su k = 0) : zIce n w h kd 0 gr th tl ic su (fun _ _ => 0) (fun _ => 0) := by
  have e : ∀ m, gsum (fun _ => 0) m = 0 := fun m => gsum_0 (fun _ _ => rfl)
  refine ⟨⟨fun c hc => ⟨fun k hk => ?_, ?_⟩, fun k hk => ?_, fun i a b => h3 i b⟩, ⟨fun c k hc hk => ?_, fun i hi => h5 i (by omega), fun i a b => h5 i b⟩, fun _ _ _ => rfl, fun _ _ _ => rfl, fun _ _ _ _ _ _ => rfl, ?_⟩
  · have := hc.1
    rw [h1 _ (by omega)]; rfl
  · rw [h2 _ hc.1]
    show (0 : Int64) = lN (gsum (fun _ => 0) 61)
    rw [e]; rfl
  · rw [h3 _ (by omega)]
    show (0 : Int64) = lN (gsum (fun _ => 0) 64)
    rw [e]; rfl
  · rw [h4 _ (by omega)]; rfl
  · show gsum (fun _ => gsum (fun _ => 0) 61) 64 ≤ _
    rw [e 61, e]
    omega
theorem z_side (v : Int32) : (∃ m, 2 ≤ m ∧ m ≤ 8 ∧ v = nI m ∧ (∀ S, fX5_isSide S v = some (1, S)) ∧ ∀ S, fX6_in S v.toInt64 2 8 = some (1, S)) ∨ ((∀ S, fX5_isSide S v = some (0, S)) ∧ ∀ S, fX6_in S v.toInt64 2 8 = some (0, S)) := by
  have w2 : (2 : Int64) = Int32.toInt64 2 := by decide
  have w8 : (8 : Int64) = Int32.toInt64 8 := by decide
  by_cases h1 : v < 2
  · refine Or.inr ⟨fun S => z_t h1 rfl, fun S => ?_⟩
    rw [w2, w8]
    exact z_inF S (Or.inl h1)
  · by_cases h2 : (8 : Int32) < v
    · refine Or.inr ⟨fun S => z_f h1 (z_t h2 rfl), fun S => ?_⟩
      rw [w2, w8]
      exact z_inF S (Or.inr h2)
    · have h3 := h1
      have h4 := h2
      rw [Int32.lt_iff_toInt_lt] at h3 h4
      have e2 : (2 : Int32).toInt = 2 := rfl
      have e8 : (8 : Int32).toInt = 8 := rfl
      rw [e2] at h3
      rw [e8] at h4
      have hv : ¬ v < 0 := by
        rw [Int32.lt_iff_toInt_lt]
        have e0 : (0 : Int32).toInt = 0 := rfl
        rw [e0]
        omega
      obtain ⟨m, hm, rfl⟩ := nI_of hv
      rw [nI_toInt (by omega)] at h3 h4
      refine Or.inl ⟨m, by omega, by omega, rfl, fun S => z_f h1 (z_f h2 rfl), fun S => ?_⟩
      rw [w2, w8]
      exact z_inT S h1 h2
theorem z_groundR {n w h k : Nat} {Sx Sy B T U V Y0 Y : gS} (hR : gR n Sx Sy) (hw2 : 2 ≤ w) (hw : w ≤ 8) (hh2 : 2 ≤ h) (hh : h ≤ 8)
    (hB : gOff [5] Sx B) (hBA : ∀ i, 5 ≤ i → i ≤ 9 → gA B i = gA Sx i) (hPX : zPX w h B Sy 64 T) (hU : gOff [10, 10 + 1, 10 + 2, 10 + 3] T U) (u3 : gI U 10 3 = 0) (u1 : ∀ k, k < 3904 → gJ U (10 + 1) k = 0) (u2 : ∀ k, k < 64 → gJ U (10 + 2) k = 0) (u4 : ∀ k, k < 305 → gJ U (10 + 3) k = 0) (hV : V = gI_up U 14 2 0)
    (hY0 : Y0 = gJ_row (gJ_row (gI_up (gI_up (gI_up (gI_up Sy 0 5 (nI w)) 0 6 (nI h)) 0 7 0) 0 17 0) 8 (fun i => if i < 3904 then 0 else gJ (gI_up (gI_up (gI_up (gI_up Sy 0 5 (nI w)) 0 6 (nI h)) 0 7 0) 0 17 0) 8 i)) 9 (fun i => if i < 305 then 0 else gJ (gJ_row (gI_up (gI_up (gI_up (gI_up Sy 0 5 (nI w)) 0 6 (nI h)) 0 7 0) 0 17 0) 8 (fun i => if i < 3904 then 0 else gJ (gI_up (gI_up (gI_up (gI_up Sy 0 5 (nI w)) 0 6 (nI h)) 0 7 0) 0 17 0) 8 i)) 9 i))
    (hPY : zPY w h Y0 Sy 64 (Y, k)) : gR (n + 1) V Y ∧ fX1_cliffs 5 V = some (nI k, V) := by
  obtain ⟨r1, r2, w0, h0, y0, kp, rp, g, s, hL, b2, b3, b4, b5, b6, b7, b8, b9, b10, b11, b12, b13⟩ := hR
  obtain ⟨l1, l2, l3, l4, l5, l6, l7, l8⟩ := hL
  obtain ⟨p1, p2, p3, p4, p5⟩ := hPX
  obtain ⟨q1, q2, q3, q4, q5⟩ := hPY
  dsimp only at q1 q2 q3 q4 q5
  -- the frames
  have xo : gOff [5, 6, 7, 8, 9, 10, 11, 12, 13] Sx U := gOff_tr (gOff_mo hB (fun i hi => by simp at hi ⊢; omega)) (gOff_tr (gOff_mo p5 (fun i hi => by simp at hi ⊢; omega)) (gOff_mo hU (fun i hi => by simp at hi ⊢; omega)))
  have xv : gOff [5, 6, 7, 8, 9, 10, 11, 12, 13, 14] Sx V := by
    rw [hV]
    exact gOff_tr (gOff_mo xo (fun i hi => by simp at hi ⊢; omega)) (gOff_I (by simp))
  have y0A : gA Y0 = gA Sy := by rw [hY0]; rfl
  have y0J : ∀ o, o ≠ 8 → o ≠ 9 → gJ Y0 o = gJ Sy o := fun o a b => by
    rw [hY0, z_JrJ, if_neg b, z_JrJ, if_neg a]
    rfl
  have y8 : ∀ i, i < 3904 → gJ Y 8 i = 0 := fun i hi => by
    rw [(q5 8 (by simp)).2.2, hY0, z_JrJ, if_neg (by omega), z_JrJ, if_pos rfl, if_pos hi]
  have y9 : ∀ i, i < 305 → gJ Y 9 i = 0 := fun i hi => by
    rw [(q5 9 (by simp)).2.2, hY0, z_JrJ, if_pos rfl, if_pos hi]
  have yA : ∀ o, o ≠ 5 → o ≠ 6 → o ≠ 7 → gA Y o = gA Sy o := fun o a b c => by
    rw [(q5 o (by simp; omega)).2.1, y0A]
  have yJ : ∀ o, 10 ≤ o ∨ o < 5 → gJ Y o = gJ Sy o := fun o a => by
    rw [(q5 o (by simp; omega)).2.2, y0J o (by omega) (by omega)]
  have yI : ∀ j, j ≠ 5 → j ≠ 6 → j ≠ 7 → j ≠ 17 → gI Y 0 j = gI Sy 0 j := fun j a b c d => by
    rw [(q5 0 (by simp)).1, hY0, z_IrJ, z_IrJ, z_Ik _ _ _ d, z_Ik _ _ _ c, z_Ik _ _ _ b, z_Ik _ _ _ a]
  have yI5 : gI Y 0 5 = nI w := by
    rw [(q5 0 (by simp)).1, hY0, z_IrJ, z_IrJ, z_Ik _ _ _ (by omega), z_Ik _ _ _ (by omega), z_Ik _ _ _ (by omega), z_Is]
  have yI6 : gI Y 0 6 = nI h := by
    rw [(q5 0 (by simp)).1, hY0, z_IrJ, z_IrJ, z_Ik _ _ _ (by omega), z_Ik _ _ _ (by omega), z_Is]
  have yI7 : gI Y 0 7 = nI 0 := by
    rw [(q5 0 (by simp)).1, hY0, z_IrJ, z_IrJ, z_Ik _ _ _ (by omega), z_Is]
    rfl
  have yI17 : gI Y 0 17 = nI 0 := by
    rw [(q5 0 (by simp)).1, hY0, z_IrJ, z_IrJ, z_Is]
    rfl
  have vo : ∀ o, o ≠ 14 → gI V o = gI U o ∧ gA V o = gA U o ∧ gJ V o = gJ U o := fun o a => by
    rw [hV]
    exact ⟨z_Io _ _ _ a, rfl, rfl⟩
  have vl : ∀ o, o < 10 → gI V o = gI T o ∧ gA V o = gA T o := fun o a => by
    have z := hU o (by simp; omega)
    exact ⟨(vo o (by omega)).1.trans z.1, (vo o (by omega)).2.1.trans z.2.1⟩
  have kdE : ∀ i, i < 64 → zKd w h Sy i = gA Y 5 i := fun i hi => by
    rw [zPt_end q2 hi, y0A]
    rfl
  have hLY := zLst_cg kdE (Nat.le_refl 64) p1
  have sameE : ∀ i, i < 64 → gA V 7 i = gA Y 5 i ∧ gA V 8 i = gA Y 6 i ∧ gA V 6 i = gA Y 7 i := fun i hi => by
    obtain ⟨m1, m2, m3, -⟩ := l6 i hi
    rw [(vl 7 (by omega)).2, (vl 8 (by omega)).2, (vl 6 (by omega)).2, zPt_end p2 hi, zPt_end p3 hi, zPt_end p4 hi, zPt_end q2 hi, zPt_end q3 hi, zPt_end q4 hi, y0A, hBA 7 (by omega) (by omega), hBA 8 (by omega) (by omega), hBA 6 (by omega) (by omega), m1, m2, m3]
    exact ⟨rfl, rfl, rfl⟩
  have sx : ∀ lo hi, (hi < 5 ∨ 15 ≤ lo) → zSame lo hi Sx V := fun lo hi hl o a b => xv o (by simp; omega)
  refine ⟨⟨zStr_fr (by rw [(xv 0 (by simp)).1]) (sx _ _ (by omega)) (yA _ (by omega) (by omega) (by omega)) (yA _ (by omega) (by omega) (by omega)) (yJ _ (by omega)) (yI _ (by omega) (by omega) (by omega) (by omega)) r1, zTold_fr (sx _ _ (by omega)) (yA _ (by omega) (by omega) (by omega)) (yA _ (by omega) (by omega) (by omega)) (yI _ (by omega) (by omega) (by omega) (by omega)) (yI _ (by omega) (by omega) (by omega) (by omega)) r2, w, h, 0, 0, rp, fun _ _ => 0, fun _ => 0, ⟨?_, ?_, yI5, yI6, Or.inr ⟨hw2, hw, hh2, hh⟩, fun i hi => ?_, ?_, fun i hi ho => ?_⟩, by omega, by omega, by omega, b5, ?_, yI7, ?_, ?_, ?_, yI17, ?_, fun j hj => absurd hj (by omega)⟩, ?_⟩
  · rw [(vl 5 (by omega)).1]; exact p1.1
  · rw [(vl 5 (by omega)).1]; exact p1.2.1
  · obtain ⟨z1, z2, z3⟩ := sameE i hi
    refine ⟨z1, z2, z3, ?_, ?_⟩
    · rw [zPt_end q4 hi, y0A]
      by_cases e : zpl w h i = true
      · rw [if_pos e]; exact zGl_in Sy i
      · rw [if_neg e]; exact (l6 i hi).2.2.2.1
    · rw [zPt_end q3 hi, y0A]
      by_cases e : zpl w h i = true
      · rw [if_pos e]; exact ⟨0, by omega, rfl⟩
      · rw [if_neg e]; exact (l6 i hi).2.2.2.2
  · rw [(vl 5 (by omega)).1]; exact hLY.2.2.1
  · rw [(vl 9 (by omega)).2]; exact hLY.2.2.2 i hi ho
  · rw [(vo 10 (by omega)).1, u3]; rfl
  · rw [hV, z_Ik _ _ _ (by omega), (xo 14 (by simp)).1]; exact b8
  · rw [yI _ (by omega) (by omega) (by omega) (by omega)]; exact b9
  · rw [hV, z_Is]; rfl
  · rw [(vo 11 (by omega)).2.2, (vo 12 (by omega)).2.2, (vo 13 (by omega)).2.2]
    exact z_none u1 u2 u4 y8 y9
  · unfold fX1_cliffs
    rw [(vl 5 (by omega)).1, p1.1, p1.2.1, p1.2.2.1, z_mul, ← zpl_cnt w (by omega) h (by omega), ← q1, z_sub (by omega)]
    congr 3
    omega
theorem z_ground {n : Nat} {Sx Sy : gS} (hn : n < 512) (h : gR n Sx Sy) (a1 : Int32) (a2 : Int32) : ∃ (r : Int32) (Sx' Sy' : gS), fX5_ground Sx a1 a2 = some (r, Sx') ∧ fX6_ground Sy a1 a2 = some (r, Sy') ∧ gR (n + 1) Sx' Sy' := by
  rcases z_side a1 with ⟨w, hw2, hw, rfl, sX, sY⟩ | ⟨sX, sY⟩
  · rcases z_side a2 with ⟨hh, hh2, hh8, rfl, tX, tY⟩ | ⟨tX, tY⟩
    · have oB : gOff [5] Sx (gI_up (gI_up (gI_up Sx 5 5 (nI w)) 5 6 (nI hh)) 5 4 0) := gOff_tr (gOff_tr (gOff_I (by simp)) (gOff_I (by simp))) (gOff_I (by simp))
      obtain ⟨f, T, k1, k2⟩ := z_grX (w := w) (h := hh) (B := gI_up (gI_up (gI_up Sx 5 5 (nI w)) 5 6 (nI hh)) 5 4 0) h.1 (fun o ho => ⟨(oB o (by simp; omega)).1, rfl⟩) hw hh8 ⟨⟨by rw [z_Ik _ _ _ (by omega), z_Ik _ _ _ (by omega), z_Is], by rw [z_Ik _ _ _ (by omega), z_Is], by rw [z_Is]; rfl, fun i hi => absurd hi (by omega)⟩, zPt_0, zPt_0, zPt_0, gOff_rf⟩
      obtain ⟨U, c1, c2, c3, c4, c5, c6⟩ := z_clear 10 T
      obtain ⟨g, Y, k, y1, y2⟩ := z_grY (w := w) (h := hh) (Sy := Sy) (B := gJ_row (gJ_row (gI_up (gI_up (gI_up (gI_up Sy 0 5 (nI w)) 0 6 (nI hh)) 0 7 0) 0 17 0) 8 (fun i => if i < 3904 then 0 else gJ (gI_up (gI_up (gI_up (gI_up Sy 0 5 (nI w)) 0 6 (nI hh)) 0 7 0) 0 17 0) 8 i)) 9 (fun i => if i < 305 then 0 else gJ (gJ_row (gI_up (gI_up (gI_up (gI_up Sy 0 5 (nI w)) 0 6 (nI hh)) 0 7 0) 0 17 0) 8 (fun i => if i < 3904 then 0 else gJ (gI_up (gI_up (gI_up (gI_up Sy 0 5 (nI w)) 0 6 (nI hh)) 0 7 0) 0 17 0) 8 i)) 9 i)) h.1 ⟨rfl, rfl, by rw [z_JrJ, if_neg (by omega), z_JrJ, if_neg (by omega)]; rfl⟩ hw hh8
      obtain ⟨r1, r2⟩ := z_groundR h hw2 hw hh2 hh8 oB (fun i _ _ => rfl) k2 c2 c3 c4 c5 c6 rfl rfl y2
      refine ⟨nI k, _, _, z_b (sX _) (z_f (by decide) (z_b (tX _) (z_f (by decide) (z_b (a := ()) (S := gI_up (gI_up (gI_up Sx 5 5 (nI w)) 5 6 (nI hh)) 5 4 0) rfl (k1.trans ?_))))), z_b (sY _) (z_f (by decide) (z_b (tY _) (z_f (by decide) ?_))), r1⟩
      · show fX5_ground_28L (fX5_ground_28 f) T (nI w) (nI hh) (nI hh) = _
        unfold fX5_ground_28L
        exact z_t (z_len (Nat.le_refl _) (by omega)) (z_b c1 (z_b (a := ()) (S := gI_up U 14 2 0) rfl (z_b r2 rfl)))
      · rw [z_let, z_let, z_let, z_let, z_g53, z_g75]
        refine y1.trans ?_
        show fX6_ground_100L (fX6_ground_100 g) Y (nI w) (nI hh) (nI k) (nI hh) = _
        unfold fX6_ground_100L
        exact z_t (z_len (Nat.le_refl _) (by omega)) rfl
    · exact ⟨-2, _, _, z_b (sX _) (z_f (by decide) (z_b (tX _) (z_t rfl rfl))), z_b (sY _) (z_f (by decide) (z_b (tY _) (z_t rfl rfl))), z_skip hn h⟩
  · exact ⟨-2, _, _, z_b (sX _) (z_t rfl rfl), z_b (sY _) (z_t rfl rfl), z_skip hn h⟩

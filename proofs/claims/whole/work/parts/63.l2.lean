/-! laying ice down; what a cell gives -/
theorem z_rd {n : Nat} {Sx Sy : gS} (h : gR n Sx Sy) : ∃ w hh y g s, zRd w hh Sx Sy ∧ w ≤ 8 ∧ hh ≤ 8 ∧ y ≤ 60 ∧ gI Sx 10 3 = nI y ∧ gI Sy 0 7 = nI y ∧ zX (zOp w hh (gA Sy 5)) Sx (g, s) ∧ zY Sy (g, s) ∧ zJn (1000000 * n + 6400000 * y) (zOp w hh (gA Sy 5)) y (g, s) := by
  obtain ⟨-, r2, w, hh, y, kp, rp, g, s, hL, h2, h3, hkp, h5, h6, h7, h8, h9, h10, h11, hI, -⟩ := h
  have hw := hL.2.2.2.2.1
  exact ⟨w, hh, y, g, s, ⟨hL, r2⟩, by omega, by omega, h2, h6, h7, hI.1, hI.2.1, zJn_in.2 hI.2.2⟩
theorem z_iceR {n c v : Nat} {Sx Sy : gS} (hR : gR n Sx Sy) (hc : c < 64) (hv : v ≤ 1000000) (h0 : gI Sy 0 7 = nI 0) (ho : ∀ w h, zLand w h Sx Sy → zOp w h (gA Sy 5) c) :
    ∃ t, gR (n + 1) (gJ_up (zLayS 10 Sx c 0 (lN v)) 13 244 (gJ (zLayS 10 Sx c 0 (lN v)) 13 244 + lN v)) (gI_up (gJ_up (gJ_up Sy 8 (61 * c) (gJ Sy 8 (61 * c) + lN v)) 9 244 (gJ (gJ_up Sy 8 (61 * c) (gJ Sy 8 (61 * c) + lN v)) 9 244 + lN v)) 0 17 0) ∧
      gJ (gJ_up (zLayS 10 Sx c 0 (lN v)) 13 244 (gJ (zLayS 10 Sx c 0 (lN v)) 13 244 + lN v)) 12 c = t ∧ fX6_thick (gI_up (gJ_up (gJ_up Sy 8 (61 * c) (gJ Sy 8 (61 * c) + lN v)) 9 244 (gJ (gJ_up Sy 8 (61 * c) (gJ Sy 8 (61 * c) + lN v)) 9 244 + lN v)) 0 17 0) (nI c) = some (t, gI_up (gJ_up (gJ_up Sy 8 (61 * c) (gJ Sy 8 (61 * c) + lN v)) 9 244 (gJ (gJ_up Sy 8 (61 * c) (gJ Sy 8 (61 * c) + lN v)) 9 244 + lN v)) 0 17 0) := by
  obtain ⟨r1, r2, w, hh, y, kp, rp, g, s, hL, h2, h3, hkp, h5, h6, h7, h8, h9, h10, h11, hI, h13⟩ := hR
  have ey : y = 0 := by
    rw [h7, z_eqN (by omega) (by omega)] at h0
    exact h0
  subst ey
  have ek : kp = 0 := by omega
  subst ek
  have hop := ho w hh hL
  have hX : zX (zOp w hh (gA Sy 5)) Sx (g, s) := hI.1
  have hY : zY Sy (g, s) := hI.2.1
  have hr : gJ Sy 8 (61 * c) = lN (g c 0) := hY.1 c 0 hc (by omega)
  have a1 := zX_lay (k := 0) (x := g c 0 + v) (v := lN v) hX hc (by omega) (lN_add _ _).symm hop
  have a2 := zX_sum (i := 244) (v := lN v) a1 (by omega) (by omega)
  have b1 := zY_set (c := c) (k := 0) (x := g c 0 + v) (v := gJ Sy 8 (61 * c) + lN v) hY (by omega) (by rw [hr, lN_add])
  have b2 := zY_sum (i := 244) (v := lN v) b1 (by omega) (by omega)
  rw [Nat.add_zero] at b2
  have j1 := zJn_s (i := 244) (v := lN v) (zJn_set (k := 0) (x := g c 0 + v) (M := 1000000 * n + 6400000 * 0 + v) ((zJn_in (n := n) (G := (g, s))).2 hI.2.2) hc (Or.inl hop) (Nat.le_refl 0) (by omega) (by show 1000000 * n + 6400000 * 0 + (g c 0 + v) ≤ 1000000 * n + 6400000 * 0 + v + g c 0; omega)) ⟨4, 0, by omega, Nat.le_refl 0⟩ (by omega)
  have oX : gOff [11, 12, 13] Sx (gJ_up (zLayS 10 Sx c 0 (lN v)) 13 244 (gJ (zLayS 10 Sx c 0 (lN v)) 13 244 + lN v)) := gOff_tr (zLayS_off 10 Sx c 0 _ (fun i hi => by simp; omega)) (gOff_J (by simp))
  generalize gJ_up (zLayS 10 Sx c 0 (lN v)) 13 244 (gJ (zLayS 10 Sx c 0 (lN v)) 13 244 + lN v) = X at *
  have oY : gOff [8, 9] Sy (gJ_up (gJ_up Sy 8 (61 * c) (gJ Sy 8 (61 * c) + lN v)) 9 244 (gJ (gJ_up Sy 8 (61 * c) (gJ Sy 8 (61 * c) + lN v)) 9 244 + lN v)) := gOff_tr (gOff_J (by simp)) (gOff_J (by simp))
  generalize gJ_up (gJ_up Sy 8 (61 * c) (gJ Sy 8 (61 * c) + lN v)) 9 244 (gJ (gJ_up Sy 8 (61 * c) (gJ Sy 8 (61 * c) + lN v)) 9 244 + lN v) = Y at *
  have yI : ∀ k, k ≠ 17 → gI (gI_up Y 0 17 0) 0 k = gI Sy 0 k := fun k a => (z_Ik _ _ _ a).trans (by rw [(oY 0 (by simp)).1])
  have yA : ∀ o, o ≠ 8 → o ≠ 9 → gA (gI_up Y 0 17 0) o = gA Sy o := fun o a b => (oY o (by simp; omega)).2.1
  have yJ : ∀ o, o ≠ 8 → o ≠ 9 → gJ (gI_up Y 0 17 0) o = gJ Sy o := fun o a b => (oY o (by simp; omega)).2.2
  have xS : ∀ lo hi, hi ≤ 10 ∨ 14 ≤ lo → zSame lo hi Sx X := fun lo hi hl o a b => oX o (by simp; omega)
  refine ⟨lN (gsum (gset g c 0 (g c 0 + v) c) 61), ⟨zStr_fr (by rw [(oX 0 (by simp)).1]) (xS _ _ (by omega)) (yA _ (by omega) (by omega)) (yA _ (by omega) (by omega)) (yJ _ (by omega) (by omega)) (yI _ (by omega)) r1, zTold_fr (xS _ _ (by omega)) (yA _ (by omega) (by omega)) (yA _ (by omega) (by omega)) (yI _ (by omega)) (yI _ (by omega)) r2, w, hh, 0, 0, rp, gset g c 0 (g c 0 + v), sadd s 244 (lN v), zLand_fr (xS _ _ (by omega)) (yA _ (by omega) (by omega)) (yA _ (by omega) (by omega)) (yA _ (by omega) (by omega)) (yI _ (by omega)) (yI _ (by omega)) hL, by omega, by omega, by omega, h5, by rw [(oX 10 (by simp)).1]; exact h6, (yI 7 (by omega)).trans h7, by rw [(oX 14 (by simp)).1]; exact h8, (yI 18 (by omega)).trans h9, by rw [(oX 14 (by simp)).1]; exact h10, z_Is _ _ _ _, ⟨?_, ?_, ?_⟩, fun j hj => absurd hj (by omega)⟩, ?_, ?_⟩
  · rw [yA 5 (by omega) (by omega)]
    exact a2
  · exact b2
  · rw [yA 5 (by omega) (by omega)]
    exact zJn_in.1 (zJn_mo j1 (by omega) (Nat.le_refl _))
  · exact (a2.1 c hop).2
  · exact z_thick hc (fun k hk => b2.1 c k hc hk)
theorem z_ice {n : Nat} {Sx Sy : gS} (hn : n < 512) (h : gR n Sx Sy) (a1 : Int32) (a2 : Int32) (a3 : Int32) : ∃ (r : Int64) (Sx' Sy' : gS), fX5_ice Sx a1 a2 a3 = some (r, Sx') ∧ fX6_ice Sy a1 a2 a3 = some (r, Sy') ∧ gR (n + 1) Sx' Sy' := by
  obtain ⟨w, hh, y, g, s, HR, hw, hh8, hy, hx, hyy, hX, hY, hJ⟩ := z_rd h
  have hL := HR.1
  rcases z_place hL a1 a2 with ⟨x, z, hx1, hz1, -, -, rfl, rfl, pX, pY⟩ | ⟨pX, pY⟩
  · obtain ⟨hc, c1, c2⟩ := z_xy hx1 hz1 hw hh8
    have hcc := zRd_kd HR hc
    rcases z_rng a3 (b := 1000000) rfl (by omega) with ⟨v, hv, rfl, k1, k2, k3, k4⟩ | ⟨hb, k4⟩
    · have k4' : fX6_in Sy (nI v).toInt64 0 1000000 = some (1, Sy) := by rw [z_w6]; exact k4 Sy
      have k2' : nI v ≤ 1000000 := k2
      have preX : ∀ R, (if gA Sy 5 (8 * z + x) = 4 then some (-3, Sx) else if nI y = 0 then (gx_bind (fX0_arrive 10 Sx (nI (8 * z + x)) 0 (nI v).toInt64) fun r72 S72 => gx_chk (nI (8 * z + x)) 64 <| some ((gJ S72 12 (8 * z + x)), S72)) else some (-3, Sx)) = R → fX5_ice Sx (nI x) (nI z) (nI v) = R := fun R hR => by
        unfold fX5_ice
        refine z_b pX (z_f (z_nm1 (by omega)) (z_f k1 (z_t k2' (z_c rfl hc (by omega) ?_))))
        rw [z_cl (by omega), hcc, hx]
        exact hR
      have preY : ∀ R, (if gA Sy 5 (8 * z + x) = 4 then some (-3, Sy) else if nI y = 0 then (gx_chk (61 * nI (8 * z + x)) 3904 <| gx_chk (61 * nI (8 * z + x)) 3904 <| gx_let (gJ_up Sy 8 (61 * nI (8 * z + x)).toNatClampNeg ((gJ Sy 8 (61 * nI (8 * z + x)).toNatClampNeg) + (nI v).toInt64)) fun S73 => gx_chk 244 305 <| gx_chk 244 305 <| gx_let (gJ_up S73 9 (Int32.toNatClampNeg 244) ((gJ S73 9 (Int32.toNatClampNeg 244)) + (nI v).toInt64)) fun S86 => gx_let (gI_up S86 0 17 0) fun S89 => gx_bind (fX6_thick S89 (nI (8 * z + x))) fun r95 S95 => some (r95, S95)) else some (-3, Sy)) = R → fX6_ice Sy (nI x) (nI z) (nI v) = R := fun R hR => by
        unfold fX6_ice
        refine z_b pY (z_f (by decide) (z_b k4' (z_f (by decide) ?_)))
        rw [z_let, z_yplace Sy]
        refine z_c rfl hc (by omega) ?_
        rw [z_cl (n := 8 * z + x) (by omega), hyy]
        exact hR
      by_cases h4 : gA Sy 5 (8 * z + x) = 4
      · exact ⟨-3, Sx, Sy, preX _ (z_t h4 rfl), preY _ (z_t h4 rfl), z_skip hn h⟩
      · by_cases h0 : nI y = 0
        · obtain ⟨t, t1, t2, t3⟩ := z_iceR (v := v) h hc hv (hyy.trans h0) (fun w' h' hL' => by
            refine ⟨hc, ?_, ?_, h4⟩
            · have : w' = w := by
                have e1 := hL'.1; have e2 := hL.1
                rw [e1] at e2
                have := hL'.2.2.2.2.1
                rwa [z_eqN (by omega) (by omega)] at e2
              omega
            · have : h' = hh := by
                have e1 := hL'.2.1; have e2 := hL.2.1
                rw [e1] at e2
                have := hL'.2.2.2.2.1
                rwa [z_eqN (by omega) (by omega)] at e2
              omega)
          refine ⟨t, _, _, preX _ (z_f h4 (z_t h0 ?_)), preY _ (z_f h4 (z_t h0 ?_)), t1⟩
          · rw [z_wide (by omega)]
            refine z_b (z_arrive 10 Sx (k := 0) _ hc (by omega)) (z_c rfl hc (by omega) ?_)
            exact congrArg some (Prod.ext t2 rfl)
          · have e61 : (61 : Int32) * nI (8 * z + x) = nI (61 * (8 * z + x)) := by rw [z_lit 61, z_mul]
            rw [e61, z_wide (by omega)]
            refine z_c rfl (by omega) (by omega) (z_c rfl (by omega) (by omega) ?_)
            rw [z_let, z_cl (by omega)]
            refine z_c (n := 244) rfl (by omega) (by omega) (z_c (n := 244) rfl (by omega) (by omega) ?_)
            rw [show Int32.toNatClampNeg 244 = 244 from rfl, z_let, z_let]
            exact z_b t3 rfl
        · exact ⟨-3, Sx, Sy, preX _ (z_f h4 (z_f h0 rfl)), preY _ (z_f h4 (z_f h0 rfl)), z_skip hn h⟩
    · have k4' : fX6_in Sy a3.toInt64 0 1000000 = some (0, Sy) := by rw [z_w6]; exact k4 Sy
      refine ⟨-2, _, _, z_b pX (z_f (z_nm1 (by omega)) ?_), z_b pY (z_f (by decide) (z_b k4' (z_t rfl rfl))), z_skip hn h⟩
      rcases hb with hb | ⟨hb1, hb2, hb3⟩
      · exact z_t hb rfl
      · exact z_f hb1 (z_f hb2 rfl)
  · exact ⟨-1, _, _, z_b pX (z_t rfl rfl), z_b pY (z_t rfl rfl), z_skip hn h⟩
theorem z_gives {n : Nat} {Sx Sy : gS} (hn : n < 512) (h : gR n Sx Sy) (a1 : Int32) (a2 : Int32) (a3 : Int32) : ∃ (r : Int64) (Sx' Sy' : gS), fX5_gives Sx a1 a2 a3 = some (r, Sx') ∧ fX6_gives Sy a1 a2 a3 = some (r, Sy') ∧ gR (n + 1) Sx' Sy' := by
  obtain ⟨w, hh, y, g, s, HR, hw, hh8, hy, hx, hyy, hX, hY, hJ⟩ := z_rd h
  rcases z_place HR.1 a1 a2 with ⟨x, z, hx1, hz1, -, -, rfl, rfl, pX, pY⟩ | ⟨pX, pY⟩
  · obtain ⟨hc, c1, c2⟩ := z_xy hx1 hz1 hw hh8
    have hcc := zRd_kd HR hc
    rcases z_ix a3 (n := 4) (by omega) with ⟨sd, hsd, rfl⟩ | hb
    · have hi : fX6_in Sy (nI sd).toInt64 0 3 = some (1, Sy) := z_inT0 Sy (a := sd) (b := 3) (by omega) (by omega)
      by_cases h4 : gA Sy 5 (8 * z + x) = 4
      · refine ⟨-3, Sx, Sy, z_b pX (z_f (z_nm1 (by omega)) (z_f (z_nneg (by omega)) (z_t (z_ltn (b := 4) hsd (by omega)) (z_c rfl hc (by omega) (z_t (by rw [z_cl (by omega), hcc]; exact h4) rfl))))), z_b pY (z_f (by decide) (z_b hi (z_f (by decide) ?_))), z_skip hn h⟩
        rw [z_yplace Sy]
        exact z_c rfl hc (by omega) (z_t (by rw [z_cl (by omega)]; exact h4) rfl)
      · have ho : zOp w hh (gA Sy 5) (8 * z + x) := ⟨hc, by omega, by omega, h4⟩
        refine ⟨zGive w hh Sy g (8 * z + x) sd, Sx, Sy, z_b pX (z_f (z_nm1 (by omega)) (z_f (z_nneg (by omega)) (z_t (z_ltn (b := 4) hsd (by omega)) (z_c rfl hc (by omega) (z_f (by rw [z_cl (by omega), hcc]; exact h4) (z_b (z_giftX HR hX ho hsd) rfl)))))), z_b pY (z_f (by decide) (z_b hi (z_f (by decide) ?_))), z_skip hn h⟩
        rw [z_yplace Sy]
        exact z_c rfl hc (by omega) (z_f (by rw [z_cl (by omega)]; exact h4) (z_b (z_giftY HR hY hJ (by omega) ho hsd) rfl))
    · refine ⟨-2, _, _, z_b pX (z_f (z_nm1 (by omega)) ?_), z_b pY (z_f (by decide) (z_b (z_inF0 Sy (a := 4) (b := 3) rfl (by omega) hb) (z_t rfl rfl))), z_skip hn h⟩
      by_cases h1 : a3 < 0
      · exact z_t h1 rfl
      · refine z_f h1 (z_f ?_ rfl)
        have := hb.resolve_left h1
        rw [Int32.le_iff_toInt_le] at this
        rw [Int32.lt_iff_toInt_lt]
        have e : (4 : Int32).toInt = (nI 4).toInt := rfl
        omega
  · exact ⟨-1, _, _, z_b pX (z_t rfl rfl), z_b pY (z_t rfl rfl), z_skip hn h⟩

/-! turn -/
theorem zKt_cg {w h w2 h2 i : Nat} {s t : Nat → Nat} {a b : Nat → Int32} (hb : zBij w h w2 h2 s t) (hab : ∀ i, i < 64 → a i = b i) (hi : i < 64) : zKt w2 h2 s a i = zKt w2 h2 s b i := by
  unfold zKt
  by_cases e : zpl w2 h2 i = true
  · rw [if_pos e, if_pos e, hab _ (zBij_s hb e).1]
  · rw [if_neg e, if_neg e, hab i hi]
theorem zKt_p {w2 h2 i : Nat} {s : Nat → Nat} {a : Nat → Int32} {P : Int32 → Prop} (h : ∀ i, i < 64 → P (a i)) (hs : ∀ c, zpl w2 h2 c = true → s c < 64) (hi : i < 64) : P (zKt w2 h2 s a i) := by
  unfold zKt
  by_cases e : zpl w2 h2 i = true
  · rw [if_pos e]; exact h _ (hs i e)
  · rw [if_neg e]; exact h i hi
theorem z_turnC {n w h w2 h2 : Nat} {v : Int32} {s t : Nat → Nat} {Sx Sy : gS} (hR : gR n Sx Sy) (hL : zLand w h Sx Sy) (hb : zBij w h w2 h2 s t) (hw2 : 2 ≤ w2) (hh2 : 2 ≤ h2)
    (hvX : (v = 0 ∧ ∀ x y, x < w2 → y < h2 → w2 - 1 - x < w ∧ y < h ∧ s (8 * y + x) = 8 * y + (w2 - 1 - x)) ∨ (¬ v = 0 ∧ ∀ x y, x < w2 → y < h2 → y < w ∧ w2 - 1 - x < h ∧ s (8 * y + x) = 8 * (w2 - 1 - x) + y))
    (hvY : (v = 0 ∧ ∀ x y, x < w → y < h → t (8 * y + x) = 8 * y + w - 1 - x) ∨ (¬ v = 0 ∧ ∀ x y, x < w → y < h → t (8 * y + x) = 8 * x + h - 1 - y))
    (hx1 : ∀ S, gI S 36 5 = nI w → gI S 36 6 = nI h → fX5_turnCells S v = fX5_turnCells_46 S v (nI w2) (nI h2))
    (hy1 : ∀ S f, gI S 0 5 = nI w → gI S 0 6 = nI h → fX6_turn_75 (f + 1) S v (nI 3904) = fX6_turn_146 gx_fuel (gI_up (gI_up S 0 5 (nI w2)) 0 6 (nI h2)) v (nI w) (nI h) 0) :
    ∃ (r : Int32) (Sx' Sy' : gS), (gx_bind (fX1_becomeCellsOf 36 5 Sx) fun _ S33 => gx_bind (fX0_become 41 10 S33) fun _ S44 => fX5_turn_58 S44 v) = some (r, Sx') ∧ fX6_turn_25 gx_fuel Sy v 0 = some (r, Sy') ∧ gR (n + 1) Sx' Sy' := by
  obtain ⟨r1, r2, w0, h0, y, kp, rp, g, sm, hL0, b2, b3, b4, b5, b6, b7, b8, b9, b10, b11, b12, b13⟩ := hR
  obtain ⟨rfl, rfl⟩ := z_wh hL hL0 rfl
  obtain ⟨l1, l2, l3, l4, l5, l6, l7, l8⟩ := hL
  have hs64 : ∀ c, zpl w2 h2 c = true → s c < 64 := fun c hc => (zBij_s hb hc).1
  -- the class
  obtain ⟨A, a1, a2, a3, a4, a5, a6, a7⟩ := z_cells Sx
  obtain ⟨I, i1, i2, i3, i4, i5, i6, i7⟩ := z_become 41 10 A (by omega)
  obtain ⟨B, hB⟩ : ∃ B, B = gI_up (gI_up (gI_up I 5 5 (nI w2)) 5 6 (nI h2)) 5 4 0 := ⟨_, rfl⟩
  have oA : gOff [36, 37, 38, 39, 41, 42, 43, 44] Sx I := gOff_tr (gOff_mo a2 (fun i hi => by simp at hi ⊢; omega)) (gOff_mo i2 (fun i hi => by simp at hi ⊢; omega))
  have oBI : gOff [5] I B := by
    rw [hB]
    exact gOff_tr (gOff_tr (gOff_I (by simp)) (gOff_I (by simp))) (gOff_I (by simp))
  have oB : gOff [5, 36, 37, 38, 39, 41, 42, 43, 44] Sx B := gOff_tr (gOff_mo oA (fun i hi => by simp at hi ⊢; omega)) (gOff_mo oBI (fun i hi => by simp at hi ⊢; omega))
  have I36 : gI I 36 5 = nI w0 ∧ gI I 36 6 = nI h0 := by
    rw [(i2 36 (by simp)).1, a3, a4]
    exact ⟨l1, l2⟩
  have B36 : gI B 36 = gI I 36 := (oBI 36 (by simp)).1
  have BA : ∀ o, gA B o = gA I o := fun o => by rw [hB]; rfl
  have BJ : ∀ o, gJ B o = gJ I o := fun o => by rw [hB]; rfl
  have bA : ∀ o, 5 ≤ o → o ≤ 9 → gA B o = gA Sx o := fun o p q => (BA o).trans (oA o (by simp; omega)).2.1
  have e37 : ∀ k, k < 64 → gA B 37 k = gA B 6 k := fun k hk => by
    rw [bA 6 (by omega) (by omega), BA 37, (i2 37 (by simp)).2.1]
    exact a5 k hk
  have e38 : ∀ k, k < 64 → gA B 38 k = gA B 7 k := fun k hk => by
    rw [bA 7 (by omega) (by omega), BA 38, (i2 38 (by simp)).2.1]
    exact a6 k hk
  have e39 : ∀ k, k < 64 → gA B 39 k = gA B 8 k := fun k hk => by
    rw [bA 8 (by omega) (by omega), BA 39, (i2 39 (by simp)).2.1]
    exact a7 k hk
  have e42 : ∀ k, k < 3904 → gJ B 42 k = gJ Sx 11 k := fun k hk => by
    rw [BJ 42]
    refine (i5 k hk).trans ?_
    rw [(a2 (10 + 1) (by simp)).2.2]
  have e43 : ∀ k, k < 64 → gJ B 43 k = gJ Sx 12 k := fun k hk => by
    rw [BJ 43]
    refine (i6 k hk).trans ?_
    rw [(a2 (10 + 2) (by simp)).2.2]
  obtain ⟨T, t1, p1, p2, p3, p4, p5, p6⟩ := z_tnX (B := B) hb (by rw [B36]; exact I36.1) (by rw [B36]; exact I36.2) e37 e38 e39 hvX ⟨⟨by rw [hB, z_Ik _ _ _ (by omega), z_Ik _ _ _ (by omega), z_Is], by rw [hB, z_Ik _ _ _ (by omega), z_Is], by rw [hB, z_Is]; rfl, fun i hi => absurd hi (by omega)⟩, zPt_0, zPt_0, zPt_0, fun i hi => absurd hi (by omega), gOff_rf⟩
  obtain ⟨V, hV⟩ : ∃ V, V = gI_up T 14 2 0 := ⟨_, rfl⟩
  have xT : gOff [5, 6, 7, 8, 9, 11, 12, 36, 37, 38, 39, 41, 42, 43, 44] Sx T := gOff_tr (gOff_mo oB (fun i hi => by simp at hi ⊢; omega)) (gOff_mo p6 (fun i hi => by simp at hi ⊢; omega))
  have vo : ∀ o, o ≠ 14 → gI V o = gI T o ∧ gA V o = gA T o ∧ gJ V o = gJ T o := fun o a => by
    rw [hV]
    exact ⟨z_Io _ _ _ a, rfl, rfl⟩
  have xV : gOff [5, 6, 7, 8, 9, 11, 12, 14, 36, 37, 38, 39, 41, 42, 43, 44] Sx V := by
    rw [hV]
    exact gOff_tr (gOff_mo xT (fun i hi => by simp at hi ⊢; omega)) (gOff_I (by simp))
  -- the reference
  obtain ⟨C, c1, c2, c3⟩ := z_tn25 Sy v
  obtain ⟨D, f, d1, d2, d3⟩ := z_tn75 C v
  obtain ⟨E, hE⟩ : ∃ E, E = gI_up (gI_up D 0 5 (nI w2)) 0 6 (nI h2) := ⟨_, rfl⟩
  have oD : gOff [8, 15, 17, 18, 19] Sy D := gOff_tr (gOff_mo c2 (fun i hi => by simp at hi ⊢; omega)) (gOff_mo d2 (fun i hi => by simp at hi ⊢; omega))
  have EA : ∀ o, gA E o = gA D o := fun o => by rw [hE]; rfl
  have EJ : ∀ o, gJ E o = gJ D o := fun o => by rw [hE]; rfl
  have eA : ∀ o, o < 8 → gA E o = gA Sy o := fun o a => (EA o).trans (oD o (by simp; omega)).2.1
  have e17 : ∀ k, k < 64 → gA E 17 k = gA E 5 k ∧ gA E 18 k = gA E 6 k ∧ gA E 19 k = gA E 7 k := fun k hk => by
    rw [eA 5 (by omega), eA 6 (by omega), eA 7 (by omega), EA 17, EA 18, EA 19, (d2 17 (by simp)).2.1, (d2 18 (by simp)).2.1, (d2 19 (by simp)).2.1]
    exact c3 k hk
  have e15 : ∀ k, k < 3904 → gJ E 15 k = gJ Sy 8 k := fun k hk => by
    rw [EJ 15, (d3 k hk).1, (c2 8 (by simp)).2.2]
  obtain ⟨F, f2, f1, q1, q2, q3, q4, q5⟩ := z_tnY (B := E) hb e17 (fun k hk => by rw [EJ 8]; exact (d3 k hk).2) hvY
  obtain ⟨Y, hY⟩ : ∃ Y, Y = gI_up F 0 17 0 := ⟨_, rfl⟩
  have FI : gI F 0 = gI E 0 := (q5 0 (by simp)).1
  have yA : gA Y = gA F := by rw [hY]; rfl
  have yJ : gJ Y = gJ F := by rw [hY]; rfl
  have yAo : ∀ o, o ≠ 5 → o ≠ 6 → o ≠ 7 → o < 15 → o ≠ 8 → gA Y o = gA Sy o := fun o a b c d e => by
    rw [yA, (q5 o (by simp; omega)).2.1, EA o, (oD o (by simp; omega)).2.1]
  have yJo : ∀ o, o ≠ 5 → o ≠ 6 → o ≠ 7 → o < 15 → o ≠ 8 → gJ Y o = gJ Sy o := fun o a b c d e => by
    rw [yJ, (q5 o (by simp; omega)).2.2, EJ o, (oD o (by simp; omega)).2.2]
  have yI : ∀ j, j ≠ 5 → j ≠ 6 → j ≠ 17 → gI Y 0 j = gI Sy 0 j := fun j a b c => by
    rw [hY, z_Ik _ _ _ c, FI, hE, z_Ik _ _ _ b, z_Ik _ _ _ a, (oD 0 (by simp)).1]
  have yI5 : gI Y 0 5 = nI w2 := by
    rw [hY, z_Ik _ _ _ (by omega), FI, hE, z_Ik _ _ _ (by omega), z_Is]
  have yI6 : gI Y 0 6 = nI h2 := by
    rw [hY, z_Ik _ _ _ (by omega), FI, hE, z_Is]
  -- the rows, on both sides
  have y5 : ∀ i, i < 64 → gA Y 5 i = zKt w2 h2 s (gA Sy 5) i := fun i hi => by
    rw [yA, zQt_end hb q1 hi, eA 5 (by omega)]
  have y6 : ∀ i, i < 64 → gA Y 6 i = zKt w2 h2 s (gA Sy 6) i := fun i hi => by
    rw [yA, zQt_end hb q2 hi, eA 6 (by omega)]
  have y7 : ∀ i, i < 64 → gA Y 7 i = zKt w2 h2 s (gA Sy 7) i := fun i hi => by
    rw [yA, zQt_end hb q3 hi, eA 7 (by omega)]
  have kdE : ∀ i, i < 64 → zKt w2 h2 s (gA B 7) i = gA Y 5 i := fun i hi => by
    rw [y5 i hi, bA 7 (by omega) (by omega)]
    exact zKt_cg hb (fun j hj => (l6 j hj).1) hi
  have hLY := zLst_cg kdE (Nat.le_refl 64) p1
  have sx : ∀ lo hi, (hi < 5 ∨ 45 ≤ lo) → zSame lo hi Sx V := fun lo hi hl o a b => xV o (by simp; omega)
  refine ⟨nI w2, V, Y, z_b a1 (z_b i1 ?_), c1.trans (d1.trans ((hy1 D f (by rw [(oD 0 (by simp)).1]; exact l3) (by rw [(oD 0 (by simp)).1]; exact l4)).trans ?_)), zStr_fr (by rw [(xV 0 (by simp)).1]) (sx _ _ (by omega)) (yAo _ (by omega) (by omega) (by omega) (by omega) (by omega)) (yAo _ (by omega) (by omega) (by omega) (by omega) (by omega)) (yJo _ (by omega) (by omega) (by omega) (by omega) (by omega)) (yI _ (by omega) (by omega) (by omega)) r1, zTold_fr (sx _ _ (by omega)) (yAo _ (by omega) (by omega) (by omega) (by omega) (by omega)) (yAo _ (by omega) (by omega) (by omega) (by omega) (by omega)) (yI _ (by omega) (by omega) (by omega)) (yI _ (by omega) (by omega) (by omega)) r2, w2, h2, y, 0, rp, zTg w2 h2 s g, sm, ⟨?_, ?_, yI5, yI6, Or.inr ⟨hw2, hb.2.2.1, hh2, hb.2.2.2.1⟩, fun i hi => ⟨?_, ?_, ?_, ?_, ?_⟩, ?_, fun i hi ho => ?_⟩, b2, by omega, by omega, b5, ?_, ?_, ?_, ?_, ?_, ?_, ?_, fun j hj => absurd hj (by omega)⟩
  · unfold fX5_turn_58
    refine z_b (a := ()) (S := T) ?_ (z_b (a := ()) (S := V) (by rw [hV]; rfl) ?_)
    · rw [hx1 I I36.1 I36.2]
      unfold fX5_turnCells_46
      refine z_b (a := ()) (S := B) (by rw [hB]; rfl) t1
    · rw [(vo 5 (by omega)).1, p1.1]
  · rw [← hE, f1]
    show fX6_turn_146L (fX6_turn_146 f2) F v (nI w0) (nI h0) (nI h0) = _
    unfold fX6_turn_146L
    refine z_t (z_len (Nat.le_refl _) (by have := hb.2.1; omega)) ?_
    rw [z_let, ← hY, yI5]
  · rw [(vo 5 (by omega)).1]; exact p1.1
  · rw [(vo 5 (by omega)).1]; exact p1.2.1
  · rw [(vo 7 (by omega)).2.1, ← kdE i hi]
    exact zPt_end p2 hi
  · rw [(vo 8 (by omega)).2.1, y6 i hi]
    refine (zPt_end p3 hi).trans ?_
    rw [bA 8 (by omega) (by omega)]
    exact zKt_cg hb (fun j hj => (l6 j hj).2.1) hi
  · rw [(vo 6 (by omega)).2.1, y7 i hi]
    refine (zPt_end p4 hi).trans ?_
    rw [bA 6 (by omega) (by omega)]
    exact zKt_cg hb (fun j hj => (l6 j hj).2.2.1) hi
  · rw [y7 i hi]
    exact zKt_p (P := fun x => ∃ v : Nat, v ≤ 9999 ∧ x = nI v) (fun j hj => (l6 j hj).2.2.2.1) hs64 hi
  · rw [y6 i hi]
    exact zKt_p (P := fun x => ∃ v : Nat, v ≤ 100 ∧ x = nI v) (fun j hj => (l6 j hj).2.2.2.2) hs64 hi
  · rw [(vo 5 (by omega)).1]; exact hLY.2.2.1
  · rw [(vo 9 (by omega)).2.1]; exact hLY.2.2.2 i hi ho
  · rw [(xV 10 (by simp)).1]; exact b6
  · rw [yI _ (by omega) (by omega) (by omega)]; exact b7
  · rw [hV, z_Ik _ _ _ (by omega), (xT 14 (by simp)).1]; exact b8
  · rw [yI _ (by omega) (by omega) (by omega)]; exact b9
  · rw [hV, z_Is]; rfl
  · rw [hY, z_Is]; rfl
  · refine zTg_ice hb (fun c hc => ?_) (zIce_mo (Nat.le_succ n) b12) (fun c hc => ?_) (xV 13 (by simp)).2.2 (fun c k hc hk => ?_) (yJo 9 (by omega) (by omega) (by omega) (by omega) (by omega))
    · rw [y5 c (zpl_lt hb.2.2.2.1 hc)]
      exact if_pos hc
    · obtain ⟨z1, z2⟩ := p5 c (zpl_lt hb.2.2.2.1 hc) hc
      have := hs64 c hc
      rw [(vo 11 (by omega)).2.2, (vo 12 (by omega)).2.2]
      exact ⟨fun k hk => (z1 k hk).trans (e42 _ (by omega)), z2.trans (e43 _ this)⟩
    · rw [yJ, q4 c k hc hk]
      by_cases e : zpl w2 h2 c = true
      · have := hs64 c e
        rw [if_pos ⟨e, this⟩, if_pos e, e15 _ (by omega)]
      · rw [if_neg (fun z => e z.1), if_neg e]
theorem z_turn {n : Nat} {Sx Sy : gS} (hn : n < 512) (h : gR n Sx Sy) (a1 : Int32) : ∃ (r : Int32) (Sx' Sy' : gS), fX5_turn Sx a1 = some (r, Sx') ∧ fX6_turn Sy a1 = some (r, Sy') ∧ gR (n + 1) Sx' Sy' := by
  obtain ⟨w, hh, hL⟩ := z_cond h
  rcases z_rng a1 (b := 1) rfl (by omega) with ⟨q, hq, rfl, k1, k2, k3, k4⟩ | ⟨hb, k4⟩
  · rcases z_lies hL with ⟨-, l1, l2⟩ | ⟨h0, l1, l2⟩
    · exact ⟨-3, Sx, Sy, z_f k1 (z_t k2 (z_b l1 (z_t rfl rfl))), z_b (k4 _) (z_f (by decide) (z_t l2 rfl)), z_skip hn h⟩
    · have hwh := hL.2.2.2.2.1
      have hw2 : 2 ≤ w := by omega
      have hw : w ≤ 8 := by omega
      have hh2 : 2 ≤ hh := by omega
      have hh8 : hh ≤ 8 := by omega
      rcases (show q = 0 ∨ q = 1 by omega) with rfl | rfl
      · obtain ⟨r, Sx', Sy', x1, x2, x3⟩ := z_turnC (v := nI 0) h hL (zBij_0 hw hh8) hw2 hh2
          (Or.inl ⟨rfl, fun x y hx hy => by
            unfold zS0
            omega⟩)
          (Or.inl ⟨rfl, fun x y hx hy => by
            unfold zS0
            omega⟩)
          (fun S s1 s2 => by
            unfold fX5_turnCells fX5_turnCells_25
            rw [s1, s2]
            exact z_t rfl (z_t rfl rfl))
          (fun S f s1 s2 => by
            show fX6_turn_75L (fX6_turn_75 f) S (nI 0) (nI 3904) = _
            unfold fX6_turn_75L fX6_turn_127 fX6_turn_140
            rw [s1, s2]
            refine z_t (z_len (a := 3904) (Nat.le_refl _) (by omega)) ?_
            rw [z_let, z_let]
            refine z_t rfl ?_
            rw [z_let]
            refine z_t rfl ?_
            rw [z_let])
        exact ⟨r, Sx', Sy', z_f k1 (z_t k2 (z_b l1 (z_f (by decide) ((show _ = _ from rfl).trans x1)))), z_b (k4 _) (z_f (by decide) (z_f l2 x2)), x3⟩
      · obtain ⟨r, Sx', Sy', x1, x2, x3⟩ := z_turnC (v := nI 1) h hL (zBij_1 hw hh8) hh2 hw2
          (Or.inr ⟨by decide, fun x y hx hy => by
            unfold zS1q
            omega⟩)
          (Or.inr ⟨by decide, fun x y hx hy => by
            unfold zT1q
            omega⟩)
          (fun S s1 s2 => by
            unfold fX5_turnCells fX5_turnCells_25
            rw [s1, s2]
            exact z_f (by decide) (z_f (by decide) rfl))
          (fun S f s1 s2 => by
            show fX6_turn_75L (fX6_turn_75 f) S (nI 1) (nI 3904) = _
            unfold fX6_turn_75L fX6_turn_127 fX6_turn_140
            rw [s1, s2]
            refine z_t (z_len (a := 3904) (Nat.le_refl _) (by omega)) ?_
            rw [z_let, z_let]
            refine z_f (by decide) ?_
            rw [z_let]
            refine z_f (by decide) ?_
            rw [z_let])
        exact ⟨r, Sx', Sy', z_f k1 (z_t k2 (z_b l1 (z_f (by decide) ((show _ = _ from rfl).trans x1)))), z_b (k4 _) (z_f (by decide) (z_f l2 x2)), x3⟩
  · refine ⟨-2, _, _, ?_, z_b (k4 _) (z_t rfl rfl), z_skip hn h⟩
    rcases hb with hb | ⟨hb1, hb2, hb3⟩
    · exact z_t hb rfl
    · exact z_f hb1 (z_f hb2 rfl)

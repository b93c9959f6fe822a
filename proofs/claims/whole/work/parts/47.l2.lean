theorem z_Ar (S : gS) (o k : Nat) (v : Int32) : gA (gA_up S o k v) o = fun j => if j = k then v else gA S o j := by funext j; simp [z_AA]
theorem z_Ao (S : gS) {o p : Nat} (k : Nat) (v : Int32) (h : p ≠ o) : gA (gA_up S o k v) p = gA S p := by funext j; simp [z_AA, h]
theorem z_Jr (S : gS) (o k : Nat) (v : Int64) : gJ (gJ_up S o k v) o = fun j => if j = k then v else gJ S o j := by funext j; simp [z_JJ]
theorem z_Jo (S : gS) {o p : Nat} (k : Nat) (v : Int64) (h : p ≠ o) : gJ (gJ_up S o k v) p = gJ S p := by funext j; simp [z_JJ, h]
theorem z_Io (S : gS) {o p : Nat} (k : Nat) (v : Int32) (h : p ≠ o) : gI (gI_up S o k v) p = gI S p := by funext j; simp [z_II, h]
theorem z_Ik (S : gS) (o : Nat) {k j : Nat} (v : Int32) (h : j ≠ k) : gI (gI_up S o k v) o j = gI S o j := by rw [z_II, if_neg (by omega)]
theorem z_Is (S : gS) (o k : Nat) (v : Int32) : gI (gI_up S o k v) o k = v := by rw [z_II, if_pos ⟨rfl, rfl⟩]
theorem z_nm1 {c : Nat} (h : c < 2147483648) : ¬ nI c = -1 := by
  have := z_eqNeg (a := c) (b := 1) h (by omega) (by omega)
  intro e
  exact this ▸ e
theorem z_nm9 {c : Nat} (h : c < 2147483648) : ¬ nI c = -9 := by
  have := z_eqNeg (a := c) (b := 9) h (by omega) (by omega)
  intro e
  exact this ▸ e
theorem z_xy {x y w h : Nat} (hx : x < w) (hy : y < h) (hw : w ≤ 8) (hh : h ≤ 8) : 8 * y + x < 64 ∧ (8 * y + x) % 8 = x ∧ (8 * y + x) / 8 = y := by omega
theorem z_op_up {w h : Nat} {kd : Nat → Int32} {c : Nat} {v : Int32} (h1 : kd c ≠ 4) (h2 : v ≠ 4) : zOp w h (fun j => if j = c then v else kd j) = zOp w h kd := by
  funext j
  unfold zOp
  by_cases e : j = c
  · subst e; simp [h1, h2]
  · simp [e]
theorem z_opB_up {w h : Nat} {kd : Nat → Int32} {c : Nat} {v : Int32} (h1 : kd c ≠ 4) (h2 : v ≠ 4) : zopB w h (fun j => if j = c then v else kd j) = zopB w h kd := by
  funext j
  unfold zopB
  by_cases e : j = c
  · subst e; simp [h1, h2]
  · simp [e]
theorem z_yplace (S : gS) (x y : Nat) : (8 : Int32) * nI y + nI x = nI (8 * y + x) := by rw [z_lit 8, z_mul, z_add]
theorem z_ne4 {k : Nat} (h : k ≤ 3) : nI k ≠ 4 := by
  rw [z_lit 4, Ne, z_eqN (by omega) (by omega)]
  omega
theorem z_kindR {n : Nat} {Sx Sy : gS} (hR : gR n Sx Sy) {c k q : Nat} (hc : c < 64) (hk : k ≤ 3) (hq : q ≤ 100) (h4 : gA Sy 5 c ≠ 4) : gR (n + 1) (gI_up (gA_up (gA_up Sx 7 c (nI k)) 8 c (nI q)) 14 2 0) (gI_up (gA_up (gA_up Sy 5 c (nI k)) 6 c (nI q)) 0 17 0) := by
  obtain ⟨r1, r2, w, h, y, kp, rp, g, s, hL, h2, h3, hkp, h5, h6, h7, h8, h9, h10, h11, h12, h13⟩ := hR
  have hop := z_op_up (w := w) (h := h) (kd := gA Sy 5) (c := c) h4 (z_ne4 hk)
  have hopB := z_opB_up (w := w) (h := h) (kd := gA Sy 5) (c := c) h4 (z_ne4 hk)
  have yA : ∀ o, o ≠ 5 → o ≠ 6 → gA (gI_up (gA_up (gA_up Sy 5 c (nI k)) 6 c (nI q)) 0 17 0) o = gA Sy o := fun o a b => by rw [z_AI, z_Ao _ _ _ b, z_Ao _ _ _ a]
  have y5 : gA (gI_up (gA_up (gA_up Sy 5 c (nI k)) 6 c (nI q)) 0 17 0) 5 = fun j => if j = c then nI k else gA Sy 5 j := by rw [z_AI, z_Ao _ _ _ (by omega), z_Ar]
  have y6 : gA (gI_up (gA_up (gA_up Sy 5 c (nI k)) 6 c (nI q)) 0 17 0) 6 = fun j => if j = c then nI q else gA Sy 6 j := by rw [z_AI, z_Ar, z_Ao _ _ _ (by omega)]
  have yI : ∀ j, j ≠ 17 → gI (gI_up (gA_up (gA_up Sy 5 c (nI k)) 6 c (nI q)) 0 17 0) 0 j = gI Sy 0 j := fun j a => z_Ik _ _ _ a
  have x7 : gA (gI_up (gA_up (gA_up Sx 7 c (nI k)) 8 c (nI q)) 14 2 0) 7 = fun j => if j = c then nI k else gA Sx 7 j := by rw [z_AI, z_Ao _ _ _ (by omega), z_Ar]
  have x8 : gA (gI_up (gA_up (gA_up Sx 7 c (nI k)) 8 c (nI q)) 14 2 0) 8 = fun j => if j = c then nI q else gA Sx 8 j := by rw [z_AI, z_Ar, z_Ao _ _ _ (by omega)]
  have xA : ∀ o, o ≠ 7 → o ≠ 8 → gA (gI_up (gA_up (gA_up Sx 7 c (nI k)) 8 c (nI q)) 14 2 0) o = gA Sx o := fun o a b => by rw [z_AI, z_Ao _ _ _ b, z_Ao _ _ _ a]
  have xI : ∀ o, o ≠ 14 → gI (gI_up (gA_up (gA_up Sx 7 c (nI k)) 8 c (nI q)) 14 2 0) o = gI Sx o := fun o a => z_Io _ _ _ a
  have xs : ∀ lo hi, (hi ≤ 6 ∨ 15 ≤ lo) → zSame lo hi Sx (gI_up (gA_up (gA_up Sx 7 c (nI k)) 8 c (nI q)) 14 2 0) := fun lo hi hl o a b => ⟨xI o (by omega), xA o (by omega) (by omega), rfl⟩
  obtain ⟨l1, l2, l3, l4, l5, l6, l7, l8⟩ := hL
  refine ⟨zStr_fr (by rw [xI _ (by omega)]) (xs _ _ (by omega)) (yA _ (by omega) (by omega)) (yA _ (by omega) (by omega)) rfl (yI _ (by omega)) r1, zTold_fr (xs _ _ (by omega)) (yA _ (by omega) (by omega)) (yA _ (by omega) (by omega)) (yI _ (by omega)) (yI _ (by omega)) r2, w, h, y, 0, rp, g, s, ⟨?_, ?_, ?_, ?_, l5, fun j hj => ?_, ?_, fun j hj hz => ?_⟩, h2, by omega, by omega, h5, ?_, ?_, ?_, ?_, ?_, ?_, ?_, fun j hj => absurd hj (by omega)⟩
  · rw [xI _ (by omega)]; exact l1
  · rw [xI _ (by omega)]; exact l2
  · rw [yI _ (by omega)]; exact l3
  · rw [yI _ (by omega)]; exact l4
  · obtain ⟨m1, m2, m3, m4, m5⟩ := l6 j hj
    rw [x7, y5, x8, y6, xA 6 (by omega) (by omega), yA 7 (by omega) (by omega)]
    refine ⟨?_, ?_, m3, m4, ?_⟩
    · show (if j = c then _ else _) = (if j = c then _ else _)
      rw [m1]
    · show (if j = c then _ else _) = (if j = c then _ else _)
      rw [m2]
    · show ∃ v, v ≤ 100 ∧ (if j = c then _ else _) = _
      by_cases e : j = c
      · exact ⟨q, hq, if_pos e⟩
      · rw [if_neg e]; exact m5
  · rw [xI _ (by omega), y5, hopB]; exact l7
  · rw [y5, hopB, xA 9 (by omega) (by omega)]
    rw [y5, hop] at hz
    exact l8 j hj hz
  · rw [xI _ (by omega)]; exact h6
  · rw [yI _ (by omega)]; exact h7
  · rw [z_Ik _ _ _ (by omega)]; exact h8
  · rw [yI _ (by omega)]; exact h9
  · exact z_Is _ _ _ _
  · exact z_Is _ _ _ _
  · have := zIce_mo (Nat.le_succ n) h12
    unfold zIce at this ⊢
    rw [y5, hop]
    exact this
theorem z_cond {n : Nat} {Sx Sy : gS} (hR : gR n Sx Sy) : ∃ w h, zLand w h Sx Sy := by
  obtain ⟨-, -, w, h, y, kp, rp, g, s, hL, -⟩ := hR
  exact ⟨w, h, hL⟩
theorem z_kind46X {Sx : gS} {c k q : Nat} {v4 : Int32} (hc : c < 64) (hv : nI q = if nI k = 0 then 0 else v4) (h4 : gA Sx 7 c ≠ 4) : fX5_kind_46 Sx (nI k) v4 (nI c) = some (gA Sx 7 c, gI_up (gA_up (gA_up Sx 7 c (nI k)) 8 c (nI q)) 14 2 0) := by
  unfold fX5_kind_46
  refine z_c rfl hc (by omega) (z_f (by rw [z_cl (by omega)]; exact h4) (z_c rfl hc (by omega) ?_))
  rw [z_let]
  refine z_c rfl hc (by omega) ?_
  rw [z_let, z_cl (by omega), hv]
  by_cases h0 : nI k = 0
  · rw [if_pos h0, if_pos h0]
    refine z_c rfl hc (by omega) ?_
    rw [z_let, z_cl (by omega)]
    rfl
  · rw [if_neg h0, if_neg h0]
    refine z_c rfl hc (by omega) ?_
    rw [z_let, z_cl (by omega)]
    rfl
theorem z_kind43Y {Sy : gS} {x y k q : Nat} {v4 : Int32} (hc : 8 * y + x < 64) (hv : nI q = if nI k = 0 then 0 else v4) (h4 : gA Sy 5 (8 * y + x) ≠ 4) : fX6_kind_43 Sy (nI x) (nI y) (nI k) v4 = some (gA Sy 5 (8 * y + x), gI_up (gA_up (gA_up Sy 5 (8 * y + x) (nI k)) 6 (8 * y + x) (nI q)) 0 17 0) := by
  unfold fX6_kind_43
  rw [z_let, z_yplace Sy]
  refine z_c rfl hc (by omega) (z_f (by rw [z_cl (by omega)]; exact h4) (z_c rfl hc (by omega) ?_))
  rw [z_let]
  refine z_c rfl hc (by omega) ?_
  rw [z_let, z_cl (by omega), hv]
  by_cases h0 : nI k = 0
  · rw [if_pos h0, if_pos h0]
    refine z_c rfl hc (by omega) ?_
    rw [z_let, z_cl (by omega)]
    rfl
  · rw [if_neg h0, if_neg h0]
    refine z_c rfl hc (by omega) ?_
    rw [z_let, z_cl (by omega)]
    rfl
theorem z_kind {n : Nat} {Sx Sy : gS} (hn : n < 512) (h : gR n Sx Sy) (a1 : Int32) (a2 : Int32) (a3 : Int32) (a4 : Int32) : ∃ (r : Int32) (Sx' Sy' : gS), fX5_kind Sx a1 a2 a3 a4 = some (r, Sx') ∧ fX6_kind Sy a1 a2 a3 a4 = some (r, Sy') ∧ gR (n + 1) Sx' Sy' := by
  obtain ⟨w, hh, hL⟩ := z_cond h
  rcases z_place hL a1 a2 with ⟨x, y, hx, hy, hw, hh8, rfl, rfl, pX, pY⟩ | ⟨pX, pY⟩
  · obtain ⟨hc, -, -⟩ := z_xy hx hy hw hh8
    have hcc := (hL.2.2.2.2.2.1 (8 * y + x) hc).1
    rcases z_rng a3 (b := 3) rfl (by omega) with ⟨k, hk, rfl, k1, k2, k3, k4⟩ | ⟨hb, k4⟩
    · by_cases h4 : gA Sy 5 (8 * y + x) = 4
      · have hX : ∀ v4, fX5_kind_46 Sx (nI k) v4 (nI (8 * y + x)) = some (-3, Sx) := fun v4 => z_c rfl hc (by omega) (z_t (by rw [z_cl (by omega), hcc]; exact h4) rfl)
        have hY : ∀ v4, fX6_kind_43 Sy (nI x) (nI y) (nI k) v4 = some (-3, Sy) := fun v4 => by
          unfold fX6_kind_43
          rw [z_let, z_yplace Sy]
          exact z_c rfl hc (by omega) (z_t (by rw [z_cl (by omega)]; exact h4) rfl)
        by_cases h0 : nI k = 0
        · exact ⟨_, _, _, z_b pX (z_f (z_nm1 (by omega)) (z_f k1 (z_t k2 (z_t h0 (hX _))))), z_b pY (z_f (by decide) (z_b (k4 _) (z_f (by decide) (z_t h0 (hY _))))), z_skip hn h⟩
        · rcases z_rng a4 (b := 100) rfl (by omega) with ⟨q, hq, rfl, q1, q2, q3, q4⟩ | ⟨hb, q4⟩
          · refine ⟨_, _, _, z_b pX (z_f (z_nm1 (by omega)) (z_f k1 (z_t k2 (z_f h0 (z_b (a := 1) (S := Sx) (z_f q1 (z_f q3 rfl)) (z_f (by decide) (hX _))))))), z_b pY (z_f (by decide) (z_b (k4 _) (z_f (by decide) (z_f h0 (z_b (q4 _) (z_f (by decide) (hY _))))))), z_skip hn h⟩
          · have e : fX5_isHundredths Sx a4 = some (0, Sx) := by
              rcases hb with hb | ⟨hb1, hb2, hb3⟩
              · exact z_t hb rfl
              · exact z_f hb1 (z_t hb3 rfl)
            exact ⟨-2, _, _, z_b pX (z_f (z_nm1 (by omega)) (z_f k1 (z_t k2 (z_f h0 (z_b e (z_t rfl rfl)))))), z_b pY (z_f (by decide) (z_b (k4 _) (z_f (by decide) (z_f h0 (z_b (q4 _) (z_t rfl rfl)))))), z_skip hn h⟩
      · by_cases h0 : nI k = 0
        · exact ⟨gA Sy 5 (8 * y + x), _, _, z_b pX (z_f (z_nm1 (by omega)) (z_f k1 (z_t k2 (z_t h0 ((z_kind46X hc (q := 0) (by rw [if_pos h0]; rfl) (by rw [hcc]; exact h4)).trans (by rw [hcc])))))), z_b pY (z_f (by decide) (z_b (k4 _) (z_f (by decide) (z_t h0 (z_kind43Y hc (q := 0) (by rw [if_pos h0]; rfl) h4))))), z_kindR h hc hk (by omega) h4⟩
        · rcases z_rng a4 (b := 100) rfl (by omega) with ⟨q, hq, rfl, q1, q2, q3, q4⟩ | ⟨hb, q4⟩
          · exact ⟨gA Sy 5 (8 * y + x), _, _, z_b pX (z_f (z_nm1 (by omega)) (z_f k1 (z_t k2 (z_f h0 (z_b (a := 1) (S := Sx) (z_f q1 (z_f q3 rfl)) (z_f (by decide) ((z_kind46X hc (q := q) (by rw [if_neg h0]) (by rw [hcc]; exact h4)).trans (by rw [hcc])))))))), z_b pY (z_f (by decide) (z_b (k4 _) (z_f (by decide) (z_f h0 (z_b (q4 _) (z_f (by decide) (z_kind43Y hc (q := q) (by rw [if_neg h0]) h4))))))), z_kindR h hc hk hq h4⟩
          · have e : fX5_isHundredths Sx a4 = some (0, Sx) := by
              rcases hb with hb | ⟨hb1, hb2, hb3⟩
              · exact z_t hb rfl
              · exact z_f hb1 (z_t hb3 rfl)
            exact ⟨-2, _, _, z_b pX (z_f (z_nm1 (by omega)) (z_f k1 (z_t k2 (z_f h0 (z_b e (z_t rfl rfl)))))), z_b pY (z_f (by decide) (z_b (k4 _) (z_f (by decide) (z_f h0 (z_b (q4 _) (z_t rfl rfl)))))), z_skip hn h⟩
    · refine ⟨-2, _, _, z_b pX (z_f (z_nm1 (by omega)) ?_), z_b pY (z_f (by decide) (z_b (k4 _) (z_t rfl rfl))), z_skip hn h⟩
      rcases hb with hb | ⟨hb1, hb2, hb3⟩
      · exact z_t hb rfl
      · exact z_f hb1 (z_f hb2 rfl)
  · exact ⟨-1, _, _, z_b pX (z_t rfl rfl), z_b pY (z_t rfl rfl), z_skip hn h⟩

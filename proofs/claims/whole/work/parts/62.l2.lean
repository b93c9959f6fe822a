/-! the calls that let years pass -/
theorem z_yr {n : Nat} {Sx Sy : gS} (h : gR n Sx Sy) : ∃ y, y ≤ 60 ∧ gI Sx 10 3 = nI y ∧ gI Sy 0 7 = nI y := by
  obtain ⟨-, -, w, hh, y, kp, rp, g, s, hL, h2, h3, hkp, h5, h6, h7, -⟩ := h
  exact ⟨y, h2, h6, h7⟩
theorem z_refX {S : gS} {w y t : Nat} (hw : w ≤ 8) (h5 : gI S 5 5 = nI w) (hy : y ≤ 60) (hyr : gI S 10 3 = nI y) (ht : 1 ≤ t) (ht2 : t ≤ 60) : fX5_refusalOfYears S (nI t) = some (if w = 0 then -3 else if y + t ≤ 60 then 0 else -4, S) := by
  unfold fX5_refusalOfYears
  refine z_f (z_nlt (b := 1) ht (by omega)) (z_t (z_len (b := 60) ht2 (by omega)) ?_)
  by_cases h0 : w = 0
  · rw [if_pos h0]
    refine z_b (a := 0) (S := S) (z_t ?_ rfl) (z_t rfl rfl)
    rw [h5, h0]
    decide
  · rw [if_neg h0]
    refine z_b (a := 1) (S := S) (z_f ?_ rfl) (z_f (by decide) ?_)
    · rw [h5]
      exact z_nle (a := w) (b := 0) (by omega) (by omega)
    · rw [hyr, z_add]
      by_cases h1 : y + t ≤ 60
      · rw [if_pos h1]
        exact z_t (z_len (b := 60) h1 (by omega)) rfl
      · rw [if_neg h1]
        exact z_f (z_nle (b := 60) (by omega) (by omega)) rfl
/-- the number of years asked for -/
theorem z_ask (v : Int32) : (∃ t, 1 ≤ t ∧ t ≤ 60 ∧ v = nI t ∧ ∀ S, fX6_in S v.toInt64 1 60 = some (1, S)) ∨ ((∀ S, fX5_refusalOfYears S v = some (-2, S)) ∧ ∀ S, fX6_in S v.toInt64 1 60 = some (0, S)) := by
  by_cases h1 : v < 1
  · exact Or.inr ⟨fun S => z_t h1 rfl, fun S => z_inF S (b := 60) (Or.inl h1)⟩
  · by_cases h2 : v ≤ 60
    · have h0 : ¬ v < 0 := by
        rw [Int32.lt_iff_toInt_lt] at h1 ⊢
        have e1 : (1 : Int32).toInt = 1 := rfl
        have e0 : (0 : Int32).toInt = 0 := rfl
        omega
      obtain ⟨t, ht, rfl⟩ := nI_of h0
      have e1 : ¬ nI t < nI 1 := h1
      have e2 : nI t ≤ nI 60 := h2
      rw [z_ltN (by omega) (by omega)] at e1
      rw [z_leN (by omega) (by omega)] at e2
      exact Or.inl ⟨t, by omega, e2, rfl, fun S => z_inT S (a := 1) (b := 60) h1 (z_nlt (b := t) (a := 60) e2 (by omega))⟩
    · have h3 : (60 : Int32) < v := by
        rw [Int32.le_iff_toInt_le] at h2
        rw [Int32.lt_iff_toInt_lt]
        omega
      exact Or.inr ⟨fun S => z_f h1 (z_f h2 rfl), fun S => z_inF S (a := 1) (b := 60) (Or.inr h3)⟩
theorem z_yearsL {n t : Nat} (hn : n < 512) : ∀ (m f1 f2 j y : Nat) (Sx Sy : gS), m < f1 → m < f2 → j + m = t → t ≤ 60 → gR n Sx Sy → gI Sx 10 3 = nI y → y + m ≤ 60 →
    ∃ (r : Int32) (Sx' Sy' : gS), fX5_years_14 f1 Sx (nI t) (nI j) = some (r, Sx') ∧ fX6_years_41 f2 Sy (nI t) (nI j) = some (r, Sy') ∧ gR n Sx' Sy' := by
  intro m
  induction m with
  | zero =>
    intro f1 f2 j y Sx Sy h1 h2 hj ht hR hy hym
    obtain ⟨f1, rfl⟩ : ∃ g, f1 = g + 1 := ⟨f1 - 1, by omega⟩
    obtain ⟨f2, rfl⟩ : ∃ g, f2 = g + 1 := ⟨f2 - 1, by omega⟩
    obtain ⟨z, z1, z2, z3⟩ := z_yr hR
    refine ⟨nI z, Sx, Sy, ?_, ?_, hR⟩
    · show fX5_years_14L (fX5_years_14 f1) Sx (nI t) (nI j) = _
      unfold fX5_years_14L
      exact z_t (z_len (by omega) (by omega)) (by rw [z2])
    · show fX6_years_41L (fX6_years_41 f2) Sy (nI t) (nI j) = _
      unfold fX6_years_41L
      exact z_t (z_len (by omega) (by omega)) (by rw [z3])
  | succ m ih =>
    intro f1 f2 j y Sx Sy h1 h2 hj ht hR hy hym
    obtain ⟨f1, rfl⟩ : ∃ g, f1 = g + 1 := ⟨f1 - 1, by omega⟩
    obtain ⟨f2, rfl⟩ : ∃ g, f2 = g + 1 := ⟨f2 - 1, by omega⟩
    obtain ⟨Tx, Ty, k1, k2, k3, k4, -, -⟩ := z_year hn hR hy (by omega)
    obtain ⟨r, Sx', Sy', q1, q2, q3⟩ := ih f1 f2 (j + 1) (y + 1) Tx Ty (by omega) (by omega) (by omega) ht k3 k4 (by omega)
    refine ⟨r, Sx', Sy', ?_, ?_, q3⟩
    · show fX5_years_14L (fX5_years_14 f1) Sx (nI t) (nI j) = _
      unfold fX5_years_14L
      refine z_f (z_nle (by omega) (by omega)) (z_b k1 ?_)
      rw [z_let, z_inc]
      exact q1
    · show fX6_years_41L (fX6_years_41 f2) Sy (nI t) (nI j) = _
      unfold fX6_years_41L
      refine z_f (z_nle (by omega) (by omega)) (z_b k2 ?_)
      rw [z_let, z_inc]
      exact q2
theorem z_years {n : Nat} {Sx Sy : gS} (hn : n < 512) (h : gR n Sx Sy) (a1 : Int32) : ∃ (r : Int32) (Sx' Sy' : gS), fX5_years Sx a1 = some (r, Sx') ∧ fX6_years Sy a1 = some (r, Sy') ∧ gR (n + 1) Sx' Sy' := by
  obtain ⟨w, hh, hL⟩ := z_cond h
  obtain ⟨y, y1, y2, y3⟩ := z_yr h
  have hw : w ≤ 8 := by have := hL.2.2.2.2.1; omega
  rcases z_ask a1 with ⟨t, t1, t2, rfl, t3⟩ | ⟨q1, q2⟩
  · have eX := z_refX hw hL.1 y1 y2 t1 t2
    by_cases h0 : w = 0
    · rw [if_pos h0] at eX
      refine ⟨-3, Sx, Sy, z_b eX (z_f (by decide) rfl), z_b (t3 _) (z_f (by decide) (z_t ?_ rfl)), z_skip hn h⟩
      rw [hL.2.2.1, h0]; rfl
    · rw [if_neg h0] at eX
      have ne : ¬ gI Sy 0 5 = 0 := by
        rw [hL.2.2.1, show (0 : Int32) = nI 0 from rfl, z_eqN (by omega) (by omega)]
        exact h0
      by_cases h1 : y + t ≤ 60
      · rw [if_pos h1] at eX
        obtain ⟨r, Sx', Sy', k1, k2, k3⟩ := z_yearsL hn t gx_fuel gx_fuel 0 y Sx Sy (by have := z_fuelB; omega) (by have := z_fuelB; omega) (by omega) t2 h y2 h1
        refine ⟨r, Sx', Sy', z_b eX (z_t rfl k1), z_b (t3 _) (z_f (by decide) (z_f ne (z_t ?_ k2))), z_skip hn k3⟩
        rw [y3, z_add]
        exact z_len (b := 60) h1 (by omega)
      · rw [if_neg h1] at eX
        refine ⟨-4, Sx, Sy, z_b eX (z_f (by decide) rfl), z_b (t3 _) (z_f (by decide) (z_f ne (z_f ?_ rfl))), z_skip hn h⟩
        rw [y3, z_add]
        exact z_nle (b := 60) (by omega) (by omega)
  · exact ⟨-2, Sx, Sy, z_b (q1 _) (z_f (by decide) rfl), z_b (q2 _) (z_t rfl rfl), z_skip hn h⟩
/-! a year taken back -/
theorem z_back70 {S : gS} {q : Nat} (hq : q < 5) (h1 : gI S 0 18 = nI q) : fX6_back_70 gx_fuel S 0 = some (gI S 0 7 - 1, gI_up (gJ_row S 9 (fun i => if i < 305 then gJ S 13 (305 * q + i) else gJ S 9 i)) 0 7 (gI S 0 7 - 1)) := by
  have key := z_lp (E := fun r : Int32 × gS => some r) 305 (fun f j (t : gS) => fX6_back_70 f t (nI j)) (fun j t => t = gJ_row S 9 (fun i => if i < j then gJ S 13 (305 * q + i) else gJ S 9 i))
    (fun r => r = (gI S 0 7 - 1, gI_up (gJ_row S 9 (fun i => if i < 305 then gJ S 13 (305 * q + i) else gJ S 9 i)) 0 7 (gI S 0 7 - 1))) (by
      intro f j t hj hp
      rcases Nat.lt_or_ge j 305 with hj | hj
      · refine Or.inr ⟨hj, gJ_up t 9 j (gJ S 13 (305 * q + j)), ?_, ?_⟩
        · show fX6_back_70L (fX6_back_70 f) t (nI j) = _
          unfold fX6_back_70L
          have e : (305 : Int32) * nI q + nI j = nI (305 * q + j) := by rw [z_lit 305, z_mul, z_add]
          have e2 : gI t 0 18 = nI q := by rw [hp]; exact h1
          refine z_f (z_nle (a := 305) hj (by omega)) ?_
          rw [e2, e]
          refine z_c rfl (by omega) (by omega) (z_c rfl hj (by omega) ?_)
          rw [z_let, z_let, z_cl (by omega), z_cl (by omega), z_inc, show gJ t 13 = gJ S 13 by rw [hp, z_JrJ, if_neg (by omega)]]
        · rw [hp, z_uprow]
          exact z_rowcg _ _ (fun k => by
            by_cases h2 : k = j
            · rw [if_pos h2, if_pos (by omega), h2]
            · rw [if_neg h2]
              by_cases h3 : k < j
              · rw [if_pos h3, if_pos (by omega)]
              · rw [if_neg h3, if_neg (by omega)])
      · have e : j = 305 := by omega
        subst e
        refine Or.inl ⟨_, ?_, rfl⟩
        show fX6_back_70L (fX6_back_70 f) t (nI 305) = _
        unfold fX6_back_70L
        refine z_t (z_len (a := 305) (b := 305) (by omega) (by omega)) ?_
        rw [z_let, hp, z_Is]
        rfl)
    305 gx_fuel 0 S (by omega) (by have := z_fuelB; omega) (by omega) (by
        rw [z_rowcg S 9 (r2 := gJ S 9) (fun k => by rw [if_neg (by omega)]), z_rowself])
  obtain ⟨r, k1, k2⟩ := key
  rw [k2] at k1
  exact k1
theorem z_back34 {S : gS} {q : Nat} (hq : q < 5) (h1 : gI S 0 18 = nI q) : fX6_back_34 gx_fuel S 0 = fX6_back_70 gx_fuel (gJ_row S 8 (fun i => if i < 3904 then gJ S 12 (3904 * q + i) else gJ S 8 i)) 0 := by
  have key := z_lp (E := fun r : gS => fX6_back_70 gx_fuel r 0) 3904 (fun f j (t : gS) => fX6_back_34 f t (nI j)) (fun j t => t = gJ_row S 8 (fun i => if i < j then gJ S 12 (3904 * q + i) else gJ S 8 i))
    (fun r => r = gJ_row S 8 (fun i => if i < 3904 then gJ S 12 (3904 * q + i) else gJ S 8 i)) (by
      intro f j t hj hp
      rcases Nat.lt_or_ge j 3904 with hj | hj
      · refine Or.inr ⟨hj, gJ_up t 8 j (gJ S 12 (3904 * q + j)), ?_, ?_⟩
        · show fX6_back_34L (fX6_back_34 f) t (nI j) = _
          unfold fX6_back_34L
          have e : (3904 : Int32) * nI q + nI j = nI (3904 * q + j) := by rw [z_lit 3904, z_mul, z_add]
          have e2 : gI t 0 18 = nI q := by rw [hp]; exact h1
          refine z_f (z_nle (a := 3904) hj (by omega)) ?_
          rw [e2, e]
          refine z_c rfl (by omega) (by omega) (z_c rfl hj (by omega) ?_)
          rw [z_let, z_let, z_cl (by omega), z_cl (by omega), z_inc, show gJ t 12 = gJ S 12 by rw [hp, z_JrJ, if_neg (by omega)]]
        · rw [hp, z_uprow]
          exact z_rowcg _ _ (fun k => by
            by_cases h2 : k = j
            · rw [if_pos h2, if_pos (by omega), h2]
            · rw [if_neg h2]
              by_cases h3 : k < j
              · rw [if_pos h3, if_pos (by omega)]
              · rw [if_neg h3, if_neg (by omega)])
      · refine Or.inl ⟨t, ?_, by rw [hp, show j = 3904 by omega]⟩
        show fX6_back_34L (fX6_back_34 f) t (nI j) = _
        unfold fX6_back_34L
        exact z_t (z_len (a := 3904) (b := j) (by omega) (by omega)) rfl)
    3904 gx_fuel 0 S (by omega) (by have := z_fuelB; omega) (by omega) (by
        rw [z_rowcg S 8 (r2 := gJ S 8) (fun k => by rw [if_neg (by omega)]), z_rowself])
  obtain ⟨r, k1, k2⟩ := key
  rw [k2] at k1
  exact k1
theorem z_back {n : Nat} {Sx Sy : gS} (hn : n < 512) (h : gR n Sx Sy) : ∃ (r : Int32) (Sx' Sy' : gS), fX5_back Sx = some (r, Sx') ∧ fX6_back Sy = some (r, Sy') ∧ gR (n + 1) Sx' Sy' := by
  obtain ⟨r1, r2, w, hh, y, kp, rp, g, s, hL, h2, h3, hkp, h5, h6, h7, h8, h9, h10, h11, hI, h13⟩ := id h
  rcases Nat.eq_zero_or_pos kp with hz | hz
  · subst hz
    exact ⟨-3, Sx, Sy, z_t h10 rfl, z_t h11 rfl, z_skip hn h⟩
  · have hne : ¬ nI kp = 0 := by
      rw [show (0 : Int32) = nI 0 from rfl, z_eqN (by omega) (by omega)]; omega
    have e1 : gI Sx 14 1 + 5 - 1 - (gI Sx 14 1 + 5 - 1) / 5 * 5 = nI ((rp + 4) % 5) := by
      have : gI Sx 14 1 + 5 - 1 = nI (rp + 4) := by
        rw [h8, z_lit 5, z_add, z_lit 1, z_sub (by omega)]
        congr 1
      rw [this, z_m5 (by omega)]
    have e2 : gI Sy 0 18 + 4 - (gI Sy 0 18 + 4) / 5 * 5 = nI ((rp + 4) % 5) := by
      rw [h9, z_lit 4, z_add, z_m5 (by omega)]
    have e3 : nI kp - 1 = nI (kp - 1) := z_sub (a := kp) (b := 1) (by omega)
    have e4 : nI y - 1 = nI (y - 1) := z_sub (a := y) (b := 1) (by omega)
    obtain ⟨g0, s0, q1, q2⟩ := h13 0 hz
    rw [show (rp + 4 - 0) % 5 = (rp + 4) % 5 by omega, show y - 1 - 0 = y - 1 by omega] at q1 q2
    have hq5 : (rp + 4) % 5 < 5 := Nat.mod_lt _ (by omega)
    obtain ⟨q, hq⟩ : ∃ q, (rp + 4) % 5 = q := ⟨_, rfl⟩
    have hring : ∀ j, (q + 4 - j) % 5 = (rp + 4 - (j + 1)) % 5 ∨ 4 ≤ j := fun j => by omega
    rw [hq] at q1 q2 hq5 e1 e2
    -- the class
    obtain ⟨T, b1, b2, b3, b4, b5, b6, b7⟩ := z_become 10 (16 + 4 * q) (gI_up Sx 14 1 (nI q)) (by omega)
    have t14 : gI T 14 = gI (gI_up Sx 14 1 (nI q)) 14 := (b2 14 (by simp)).1
    have tF : ∀ o, o ≠ 14 → (o < 10 ∨ 13 < o) → gI (gI_up T 14 2 (nI (kp - 1))) o = gI Sx o ∧ gA (gI_up T 14 2 (nI (kp - 1))) o = gA Sx o ∧ gJ (gI_up T 14 2 (nI (kp - 1))) o = gJ Sx o := fun o a b => by
      have := b2 o (by simp; omega)
      exact ⟨(z_Io _ _ _ a).trans (this.1.trans (z_Io _ _ _ a)), this.2.1, this.2.2⟩
    have X : fX5_back Sx = some (nI (y - 1), gI_up T 14 2 (nI (kp - 1))) := by
      unfold fX5_back
      refine z_f (by rw [h10]; exact hne) ?_
      have : fX2_restore 10 Sx = some ((), gI_up T 14 2 (nI (kp - 1))) := by
        unfold fX2_restore
        rw [z_let, e1]
        refine z_c (z_Is _ _ _ _) hq5 (by omega) ?_
        rw [z_let, z_Is, z_cl (by omega)]
        refine z_b b1 ?_
        rw [z_let, t14, z_Ik _ _ _ (by omega), h10, e3]
      refine z_b this ?_
      rw [z_Io _ _ _ (by omega), b3, z_Io _ _ _ (by omega), q1]
    -- the reference
    obtain ⟨W, hW⟩ : ∃ W, W = gI_up (gI_up Sy 0 17 (nI (kp - 1))) 0 18 (nI q) := ⟨_, rfl⟩
    have w18 : gI W 0 18 = nI q := by rw [hW]; exact z_Is _ _ _ _
    have w17 : gI W 0 17 = nI (kp - 1) := by rw [hW, z_Ik _ _ _ (by omega), z_Is]
    have wI : ∀ k, k ≠ 17 → k ≠ 18 → gI W 0 k = gI Sy 0 k := fun k a b => by rw [hW, z_Ik _ _ _ b, z_Ik _ _ _ a]
    have w7 : gI W 0 7 = nI y := by rw [wI 7 (by omega) (by omega), h7]
    have wA : gA W = gA Sy := by rw [hW]; rfl
    have wJ : gJ W = gJ Sy := by rw [hW]; rfl
    have Y : fX6_back Sy = some (nI (y - 1), gI_up (gJ_row (gJ_row W 8 (fun i => if i < 3904 then gJ W 12 (3904 * q + i) else gJ W 8 i)) 9 (fun i => if i < 305 then gJ (gJ_row W 8 (fun i => if i < 3904 then gJ W 12 (3904 * q + i) else gJ W 8 i)) 13 (305 * q + i) else gJ (gJ_row W 8 (fun i => if i < 3904 then gJ W 12 (3904 * q + i) else gJ W 8 i)) 9 i)) 0 7 (nI (y - 1))) := by
      unfold fX6_back
      refine z_f (by rw [h11]; exact hne) ?_
      rw [z_let, z_let, h11, e3, z_Ik _ _ _ (by omega), e2, ← hW, z_back34 hq5 w18]
      refine (z_back70 hq5 (show gI (gJ_row W 8 (fun i => if i < 3904 then gJ W 12 (3904 * q + i) else gJ W 8 i)) 0 18 = nI q from w18)).trans ?_
      rw [show gI (gJ_row W 8 (fun i => if i < 3904 then gJ W 12 (3904 * q + i) else gJ W 8 i)) 0 7 = nI y from w7, e4]
    refine ⟨nI (y - 1), _, _, X, Y, ?_⟩
    generalize hV : gI_up (gJ_row (gJ_row W 8 (fun i => if i < 3904 then gJ W 12 (3904 * q + i) else gJ W 8 i)) 9 (fun i => if i < 305 then gJ (gJ_row W 8 (fun i => if i < 3904 then gJ W 12 (3904 * q + i) else gJ W 8 i)) 13 (305 * q + i) else gJ (gJ_row W 8 (fun i => if i < 3904 then gJ W 12 (3904 * q + i) else gJ W 8 i)) 9 i)) 0 7 (nI (y - 1)) = V
    have vA : gA V = gA Sy := by rw [← hV, ← wA]; rfl
    have vI : ∀ k, k ≠ 7 → k ≠ 17 → k ≠ 18 → gI V 0 k = gI Sy 0 k := fun k a b d => by
      rw [← hV, z_Ik _ _ _ a]
      exact wI k b d
    have vJ : ∀ o, o ≠ 8 → o ≠ 9 → gJ V o = gJ Sy o := fun o a b => by
      rw [← hV]
      show gJ (gJ_row (gJ_row W 8 _) 9 _) o = _
      rw [z_JrJ, if_neg b, z_JrJ, if_neg a, wJ]
    have v8 : ∀ k, k < 3904 → gJ V 8 k = gJ Sy 12 (3904 * q + k) := fun k hk => by
      rw [← hV]
      show gJ (gJ_row (gJ_row W 8 _) 9 _) 8 k = _
      rw [z_JrJ, if_neg (by omega), z_JrJ, if_pos rfl, if_pos hk, wJ]
    have v9 : ∀ k, k < 305 → gJ V 9 k = gJ Sy 13 (305 * q + k) := fun k hk => by
      rw [← hV]
      show gJ (gJ_row (gJ_row W 8 _) 9 _) 9 k = _
      rw [z_JrJ, if_pos rfl, if_pos hk, z_JrJ, if_neg (by omega), wJ]
    refine ⟨?_, ?_, w, hh, y - 1, kp - 1, q, g0, s0, ?_, by omega, by omega, by omega, hq5, ?_, ?_, ?_, ?_, ?_, ?_, ?_, fun j hj => ?_⟩
    · exact zStr_fr (by rw [(tF 0 (by omega) (by omega)).1]) (fun o a b => tF o (by omega) (by omega)) (by rw [vA]) (by rw [vA]) (vJ _ (by omega) (by omega)) (vI _ (by omega) (by omega) (by omega)) r1
    · exact zTold_fr (fun o a b => tF o (by omega) (by omega)) (by rw [vA]) (by rw [vA]) (vI _ (by omega) (by omega) (by omega)) (vI _ (by omega) (by omega) (by omega)) r2
    · exact zLand_fr (fun o a b => tF o (by omega) (by omega)) (by rw [vA]) (by rw [vA]) (by rw [vA]) (vI _ (by omega) (by omega) (by omega)) (vI _ (by omega) (by omega) (by omega)) hL
    · rw [z_Io _ _ _ (by omega), b3, z_Io _ _ _ (by omega), q1]
    · rw [← hV, z_Is]
    · rw [z_Ik _ _ _ (by omega), t14, z_Is]
    · rw [← hV, z_Ik _ _ _ (by omega)]; exact w18
    · rw [z_Is]
    · rw [← hV, z_Ik _ _ _ (by omega)]; exact w17
    · rw [vA]
      have q3 := zIce_mo (Nat.le_succ n) q2
      refine zIce_pw (fun k hk => ?_) (fun k hk => ?_) (fun k hk => ?_) v8 v9 q3
      · have := b5 k hk
        rw [show 16 + 4 * q + 1 = 17 + 4 * q by omega] at this
        exact this
      · have := b6 k hk
        rw [show 16 + 4 * q + 2 = 18 + 4 * q by omega] at this
        exact this
      · have := b7 k hk
        rw [show 16 + 4 * q + 3 = 19 + 4 * q by omega] at this
        exact this
    · have hr := zRing_fr (m := n + 1) (Sx' := gI_up T 14 2 (nI (kp - 1))) (Sy' := V) (Nat.le_succ n) (fun o a b => tF o (by omega) (by omega)) (by rw [vA]) (vJ _ (by omega) (by omega)) (vJ _ (by omega) (by omega)) (h13 (j + 1) (by omega))
      unfold zRing at hr ⊢
      rw [show (q + 4 - j) % 5 = (rp + 4 - (j + 1)) % 5 from (hring j).resolve_right (by omega), show y - 1 - 1 - j = y - 1 - (j + 1) by omega]
      exact hr

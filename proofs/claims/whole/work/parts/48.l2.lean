/-- what is held counts as what is asked for -/
def zAs (k v : Int32) : Prop := k = v ∨ v = 0 ∨ (v = 2 ∧ k = 3) ∨ (v = 1 ∧ k = 4)
theorem z_asX_t (S : gS) {k v : Int32} (h : zAs k v) : fX5_countsAs S k v = some (1, S) := by
  unfold fX5_countsAs
  by_cases h1 : k = v
  · exact z_t h1 rfl
  · refine z_f h1 ?_
    by_cases h2 : v = 0
    · exact z_t h2 rfl
    · refine z_f h2 ?_
      rcases h with h | h | ⟨a, b⟩ | ⟨a, b⟩
      · exact absurd h h1
      · exact absurd h h2
      · exact z_t a (z_t b rfl)
      · refine z_f (by rw [a]; decide) ?_
        exact z_t a (z_t b rfl)
theorem z_asX_f (S : gS) {k v : Int32} (h : ¬ zAs k v) : fX5_countsAs S k v = some (0, S) := by
  unfold fX5_countsAs
  have h1 : ¬ k = v := fun e => h (Or.inl e)
  have h2 : ¬ v = 0 := fun e => h (Or.inr (Or.inl e))
  refine z_f h1 (z_f h2 ?_)
  have e19 : fX5_countsAs_19 S k v = some (0, S) := by
    unfold fX5_countsAs_19
    by_cases h4 : v = 1
    · exact z_t h4 (z_f (fun e => h (Or.inr (Or.inr (Or.inr ⟨h4, e⟩)))) rfl)
    · exact z_f h4 rfl
  by_cases h3 : v = 2
  · exact z_t h3 (z_f (fun e => h (Or.inr (Or.inr (Or.inl ⟨h3, e⟩)))) e19)
  · exact z_f h3 e19
theorem z_asY {S : gS} {k v : Int32} {T : Option (Int32 × gS)} {A B : Option (Int32 × gS)} (hA : zAs k v → A = T) (hB : ¬ zAs k v → B = T) :
    (if v = 0 then A else if v = k then A else if v = 2 then (if k = 3 then A else (if v = 1 then (if k = 4 then A else B) else B)) else (if v = 1 then (if k = 4 then A else B) else B)) = T := by
  by_cases h1 : v = 0
  · exact z_t h1 (hA (Or.inr (Or.inl h1)))
  · refine z_f h1 ?_
    by_cases h2 : v = k
    · exact z_t h2 (hA (Or.inl h2.symm))
    · refine z_f h2 ?_
      by_cases h3 : v = 2
      · refine z_t h3 ?_
        by_cases h4 : k = 3
        · exact z_t h4 (hA (Or.inr (Or.inr (Or.inl ⟨h3, h4⟩))))
        · refine z_f h4 ?_
          have h5 : ¬ v = 1 := by rw [h3]; decide
          refine z_f h5 (hB (fun e => ?_))
          rcases e with e | e | ⟨a, b⟩ | ⟨a, b⟩
          · exact h2 e.symm
          · exact h1 e
          · exact h4 b
          · exact h5 a
      · refine z_f h3 ?_
        by_cases h5 : v = 1
        · refine z_t h5 ?_
          by_cases h6 : k = 4
          · exact z_t h6 (hA (Or.inr (Or.inr (Or.inr ⟨h5, h6⟩))))
          · refine z_f h6 (hB (fun e => ?_))
            rcases e with e | e | ⟨a, b⟩ | ⟨a, b⟩
            · exact h2 e.symm
            · exact h1 e
            · exact h3 a
            · exact h6 b
        · refine z_f h5 (hB (fun e => ?_))
          rcases e with e | e | ⟨a, b⟩ | ⟨a, b⟩
          · exact h2 e.symm
          · exact h1 e
          · exact h3 a
          · exact h5 a
theorem z_taken {n : Nat} {Sx Sy : gS} (hn : n < 512) (h : gR n Sx Sy) (a1 : Int32) (a2 : Int32) (a3 : Int32) (a4 : Int32) : ∃ (r : Int32) (Sx' Sy' : gS), fX5_taken Sx a1 a2 a3 a4 = some (r, Sx') ∧ fX6_taken Sy a1 a2 a3 a4 = some (r, Sy') ∧ gR (n + 1) Sx' Sy' := by
  obtain ⟨w, hh, hL⟩ := z_cond h
  rcases z_place hL a1 a2 with ⟨x, y, hx, hy, hw, hh8, rfl, rfl, pX, pY⟩ | ⟨pX, pY⟩
  · obtain ⟨hc, -, -⟩ := z_xy hx hy hw hh8
    obtain ⟨hcc, hcd, -⟩ := hL.2.2.2.2.2.1 (8 * y + x) hc
    rcases z_rng a3 (b := 4) rfl (by omega) with ⟨k, hk, rfl, k1, k2, k3, k4⟩ | ⟨hb, k4⟩
    · rcases z_rng a4 (b := 1) rfl (by omega) with ⟨q, hq, rfl, q1, q2, q3, q4⟩ | ⟨hb, q4⟩
      · by_cases ha : zAs (gA Sy 5 (8 * y + x)) (nI k)
        · refine ⟨if nI q = 0 then gA Sy 5 (8 * y + x) else gA Sy 6 (8 * y + x), Sx, Sy, z_b pX (z_f (z_nm1 (by omega)) (z_f k1 (z_f k3 (z_f q1 (z_t q2 (z_c rfl hc (by omega) (z_b (z_asX_t _ (by rw [z_cl (by omega), hcc]; exact ha)) (z_f (by decide) ?_)))))))), z_b pY (z_f (by decide) (z_b (k4 _) (z_f (by decide) (z_b (q4 _) (z_f (by decide) ?_))))), z_skip hn h⟩
          · by_cases h0 : nI q = 0
            · rw [if_pos h0, if_pos h0]
              exact z_c rfl hc (by omega) (by rw [z_cl (by omega), hcc])
            · rw [if_neg h0, if_neg h0]
              exact z_c rfl hc (by omega) (by rw [z_cl (by omega), hcd])
          · rw [z_let, z_yplace Sy]
            refine z_c rfl hc (by omega) ?_
            rw [z_let, z_cl (by omega)]
            refine z_asY (S := Sy) (fun _ => ?_) (fun e => absurd ha e)
            show fX6_taken_91 Sy (nI q) (nI (8 * y + x)) (gA Sy 5 (8 * y + x)) 1 = _
            refine z_f (by decide) ?_
            by_cases h0 : nI q = 0
            · rw [if_pos h0, if_pos h0]
            · rw [if_neg h0, if_neg h0]
              exact z_c rfl hc (by omega) (by rw [z_cl (by omega)])
        · refine ⟨-10 - 3, _, _, z_b pX (z_f (z_nm1 (by omega)) (z_f k1 (z_f k3 (z_f q1 (z_t q2 (z_c rfl hc (by omega) (z_b (z_asX_f _ (by rw [z_cl (by omega), hcc]; exact ha)) (z_t rfl (z_b (z_failX _ _) rfl))))))))), z_b pY (z_f (by decide) (z_b (k4 _) (z_f (by decide) (z_b (q4 _) (z_f (by decide) ?_))))), z_fail h⟩
          rw [z_let, z_yplace Sy]
          refine z_c rfl hc (by omega) ?_
          rw [z_let, z_cl (by omega)]
          refine z_asY (S := Sy) (fun e => absurd e ha) (fun _ => ?_)
          show fX6_taken_91 Sy (nI q) (nI (8 * y + x)) (gA Sy 5 (8 * y + x)) 0 = _
          exact z_t rfl (z_b (z_failY _ _) rfl)
      · refine ⟨-2, _, _, z_b pX (z_f (z_nm1 (by omega)) (z_f k1 (z_f k3 ?_))), z_b pY (z_f (by decide) (z_b (k4 _) (z_f (by decide) (z_b (q4 _) (z_t rfl rfl))))), z_skip hn h⟩
        rcases hb with hb | ⟨hb1, hb2, hb3⟩
        · exact z_t hb rfl
        · exact z_f hb1 (z_f hb2 rfl)
    · refine ⟨-2, _, _, z_b pX (z_f (z_nm1 (by omega)) ?_), z_b pY (z_f (by decide) (z_b (k4 _) (z_t rfl rfl))), z_skip hn h⟩
      rcases hb with hb | ⟨hb1, hb2, hb3⟩
      · exact z_t hb rfl
      · exact z_f hb1 (z_t hb3 rfl)
  · exact ⟨-1, _, _, z_b pX (z_t rfl rfl), z_b pY (z_t rfl rfl), z_skip hn h⟩
theorem z_toldR {n : Nat} {Sx Sy Sx' Sy' : gS} (hR : gR n Sx Sy) (hx : ∀ o, ¬ (2 ≤ o ∧ o ≤ 4) → gI Sx' o = gI Sx o ∧ gA Sx' o = gA Sx o ∧ gJ Sx' o = gJ Sx o)
    (hyI : ∀ k, k ≠ 15 → k ≠ 16 → gI Sy' 0 k = gI Sy 0 k) (hyA : ∀ o, o ≠ 10 → o ≠ 11 → gA Sy' o = gA Sy o) (hyJ : gJ Sy' = gJ Sy) (hz : zTold Sx' Sy') : gR (n + 1) Sx' Sy' := by
  obtain ⟨r1, r2, r3⟩ := hR
  have sx : ∀ lo hi, 5 ≤ lo → zSame lo hi Sx Sx' := fun lo hi hl o a b => hx o (by omega)
  exact ⟨zStr_fr (by rw [(hx 0 (by omega)).1]) (sx _ _ (by omega)) (hyA _ (by omega) (by omega)) (hyA _ (by omega) (by omega)) (by rw [hyJ]) (hyI _ (by omega) (by omega)) r1, hz, zMain_fr (Nat.le_succ n) (sx _ _ (by omega)) ⟨hyA _ (by omega) (by omega), hyA _ (by omega) (by omega), hyA _ (by omega) (by omega), by rw [hyJ], by rw [hyJ], by rw [hyJ], by rw [hyJ], hyI _ (by omega) (by omega), hyI _ (by omega) (by omega), hyI _ (by omega) (by omega), hyI _ (by omega) (by omega), hyI _ (by omega) (by omega)⟩ r3⟩
theorem z_tell {n : Nat} {Sx Sy : gS} (hn : n < 512) (h : gR n Sx Sy) (a1 : Int32) (a2 : Int32) (a3 : Int32) : ∃ (r : Int32) (Sx' Sy' : gS), fX5_tell Sx a1 a2 a3 = some (r, Sx') ∧ fX6_tell Sy a1 a2 a3 = some (r, Sy') ∧ gR (n + 1) Sx' Sy' := by
  obtain ⟨t1, t2, t3⟩ := h.2.1
  rcases z_ix a2 (n := 10) (by omega) with ⟨b, hb, rfl⟩ | hb
  · have i1 := z_inT0 Sy (a := b) (b := 9) (by omega) (by omega)
    have g0 : ¬ (10 : Int32) ≤ nI b := z_nle (a := 10) hb (by omega)
    rcases z_rng a3 (b := 100000) rfl (by omega) with ⟨v, hv, rfl, k1, k2, k3, k4⟩ | ⟨hq, k4⟩
    · obtain ⟨⟨u, hu, u1, u2⟩, ⟨u', hu', u1', u2'⟩⟩ := t3 b hb
      by_cases h0 : a1 = 0
      · refine ⟨gA Sy 10 b, gA_up Sx 3 b (nI v), gA_up Sy 10 b (nI v), z_f (z_nneg (by omega)) (z_f g0 (z_f k1 (z_t k2 (z_t h0 (z_c rfl hb (by omega) ?_))))), z_b i1 (z_f (by decide) (z_b (k4 _) (z_f (by decide) (z_t h0 (z_c rfl hb (by omega) ?_))))), z_toldR h (fun o ho => ⟨rfl, ?_, rfl⟩) (fun k _ _ => rfl) (fun o ho _ => ?_) rfl ⟨t1, t2, fun j hj => ⟨?_, ?_⟩⟩⟩
        · rw [z_let]
          refine z_c rfl hb (by omega) ?_
          rw [z_let, z_cl (by omega), u1, u2]
        · refine z_t h0 (z_c rfl hb (by omega) ?_)
          rw [z_let, z_cl (by omega)]
        · exact z_Ao _ _ _ (by omega)
        · exact z_Ao _ _ _ (by omega)
        · rw [z_Ar, z_Ar]
          by_cases e : j = b
          · exact ⟨v, hv, if_pos e, if_pos e⟩
          · simp only [if_neg e]; exact (t3 j hj).1
        · rw [z_Ao _ _ _ (by omega), z_Ao _ _ _ (by omega)]; exact (t3 j hj).2
      · refine ⟨gA Sy 11 b, gA_up Sx 4 b (nI v), gA_up Sy 11 b (nI v), z_f (z_nneg (by omega)) (z_f g0 (z_f k1 (z_t k2 (z_f h0 (z_c rfl hb (by omega) ?_))))), z_b i1 (z_f (by decide) (z_b (k4 _) (z_f (by decide) (z_f h0 (z_c rfl hb (by omega) ?_))))), z_toldR h (fun o ho => ⟨rfl, ?_, rfl⟩) (fun k _ _ => rfl) (fun o _ ho => ?_) rfl ⟨t1, t2, fun j hj => ⟨?_, ?_⟩⟩⟩
        · rw [z_let]
          refine z_c rfl hb (by omega) ?_
          rw [z_let, z_cl (by omega), u1', u2']
        · refine z_f h0 (z_c rfl hb (by omega) ?_)
          rw [z_let, z_cl (by omega)]
        · exact z_Ao _ _ _ (by omega)
        · exact z_Ao _ _ _ (by omega)
        · rw [z_Ao _ _ _ (by omega), z_Ao _ _ _ (by omega)]; exact (t3 j hj).1
        · rw [z_Ar, z_Ar]
          by_cases e : j = b
          · exact ⟨v, hv, if_pos e, if_pos e⟩
          · simp only [if_neg e]; exact (t3 j hj).2
    · refine ⟨-2, _, _, z_f (z_nneg (by omega)) (z_f g0 ?_), z_b i1 (z_f (by decide) (z_b (k4 _) (z_t rfl rfl))), z_skip hn h⟩
      rcases hq with hb | ⟨hb1, hb2, hb3⟩
      · exact z_t hb rfl
      · exact z_f hb1 (z_f hb2 rfl)
  · refine ⟨-2, _, _, ?_, z_b (z_inF0 Sy (a := 10) (b := 9) rfl (by omega) hb) (z_t rfl rfl), z_skip hn h⟩
    by_cases h1 : a2 < 0
    · exact z_t h1 rfl
    · exact z_f h1 (z_t (hb.resolve_left h1) rfl)
theorem z_w6 : (1000000 : Int64) = Int32.toInt64 1000000 := by decide
theorem z_w5 : (100000 : Int64) = Int32.toInt64 100000 := by decide
theorem z_rule {n : Nat} {Sx Sy : gS} (hn : n < 512) (h : gR n Sx Sy) (a1 : Int32) (a2 : Int32) : ∃ (r : Int32) (Sx' Sy' : gS), fX5_rule Sx a1 a2 = some (r, Sx') ∧ fX6_rule Sy a1 a2 = some (r, Sy') ∧ gR (n + 1) Sx' Sy' := by
  obtain ⟨t1, t2, t3⟩ := h.2.1
  rcases z_rng a1 (b := 100) rfl (by omega) with ⟨q, hq, rfl, q1, q2, q3, q4⟩ | ⟨hb, q4⟩
  · have e : fX5_isHundredths Sx (nI q) = some (1, Sx) := z_f q1 (z_f q3 rfl)
    by_cases h1 : a2 < 1
    · exact ⟨-2, _, _, z_b e (z_f (by decide) (z_t h1 rfl)), z_b (q4 _) (z_f (by decide) (z_b (by rw [z_w6]; exact z_inF Sy (b := 1000000) (Or.inl h1)) (z_t rfl rfl))), z_skip hn h⟩
    · by_cases h2 : a2 ≤ 1000000
      · have h3 : ¬ (1000000 : Int32) < a2 := by rw [Int32.lt_iff_toInt_lt]; rw [Int32.le_iff_toInt_le] at h2; omega
        refine ⟨gI Sy 0 16, gI_up (gI_up Sx 2 2 (nI q)) 2 3 a2, gI_up (gI_up Sy 0 15 (nI q)) 0 16 a2, z_b e (z_f (by decide) (z_f h1 (z_t h2 ?_))), z_b (q4 _) (z_f (by decide) (z_b (by rw [z_w6]; exact z_inT Sy (a := 1) (b := 1000000) h1 h3) (z_f (by decide) rfl))), z_toldR h (fun o ho => ⟨?_, rfl, rfl⟩) (fun k a b => ?_) (fun o _ _ => rfl) rfl ⟨?_, ?_, t3⟩⟩
        · rw [z_let, t2]; rfl
        · rw [z_Io _ _ _ (by omega), z_Io _ _ _ (by omega)]
        · rw [z_Ik _ _ _ b, z_Ik _ _ _ a]
        · rw [z_Ik _ _ _ (by omega), z_Is, z_Ik _ _ _ (by omega), z_Is]
        · rw [z_Is, z_Is]
      · have h3 : (1000000 : Int32) < a2 := by rw [Int32.lt_iff_toInt_lt]; rw [Int32.le_iff_toInt_le] at h2; omega
        exact ⟨-2, _, _, z_b e (z_f (by decide) (z_f h1 (z_f h2 rfl))), z_b (q4 _) (z_f (by decide) (z_b (by rw [z_w6]; exact z_inF Sy (a := 1) (b := 1000000) (Or.inr h3)) (z_t rfl rfl))), z_skip hn h⟩
  · have e : fX5_isHundredths Sx a1 = some (0, Sx) := by
      rcases hb with hb | ⟨hb1, hb2, hb3⟩
      · exact z_t hb rfl
      · exact z_f hb1 (z_t hb3 rfl)
    exact ⟨-2, _, _, z_b e (z_t rfl rfl), z_b (q4 _) (z_t rfl rfl), z_skip hn h⟩
/-! what is counted -/
theorem zcnt_cg {p q : Nat → Bool} {n : Nat} (h : ∀ c, c < n → p c = q c) : zcnt p n = zcnt q n := by
  induction n with
  | zero => rfl
  | succ n ih => unfold zcnt; rw [ih (fun c hc => h c (by omega)), h n (by omega)]
theorem zcnt_split (p q : Nat → Bool) (n : Nat) : zcnt (fun c => p c && !q c) n + zcnt (fun c => p c && q c) n = zcnt p n := by
  induction n with
  | zero => rfl
  | succ n ih =>
    unfold zcnt
    cases hp : p n <;> cases hq : q n <;> simp <;> omega
def zpl (w h : Nat) (c : Nat) : Bool := decide (c % 8 < w ∧ c / 8 < h)
theorem zpl_cnt : ∀ w, w < 9 → ∀ h, h < 9 → zcnt (zpl w h) 64 = w * h := by decide +kernel
theorem z_cellY {S : gS} {w h : Nat} (h5 : gI S 0 5 = nI w) (h6 : gI S 0 6 = nI h) (hw : w ≤ 8) (hh : h ≤ 8) {c : Nat} (hc : c < 64) : fX6_isPlace S (nI c - nI c / 8 * 8) (nI c / 8) = some (if zpl w h c then 1 else 0, S) := by
  have e1 : nI c / 8 = nI (c / 8) := z_div (b := 8) (by omega) (by omega) (by omega)
  have e2 : nI c - nI c / 8 * 8 = nI (c % 8) := by
    rw [e1, z_lit 8, z_mul, z_sub (by omega)]
    congr 1
    omega
  rw [e2, e1]
  unfold zpl
  by_cases hp : c % 8 < w ∧ c / 8 < h
  · rw [if_pos (by rw [decide_eq_true_iff]; exact hp)]
    exact z_plY_t h5 h6 hp.1 hp.2 hw hh
  · rw [if_neg (by rw [decide_eq_true_iff]; exact hp)]
    by_cases h1 : c % 8 < w
    · exact z_plY_f2 h5 h6 hw hh (Or.inr (z_len (by omega) (by omega)))
    · exact z_plY_f1 h5 hw (Or.inr (z_len (by omega) (by omega)))
theorem z_cliffs {w h : Nat} {kd : Nat → Int32} (hw : w ≤ 8) (hh : h ≤ 8) : zcnt (zopB w h kd) 64 + zcnt (fun c => zpl w h c && decide (kd c = 4)) 64 = w * h := by
  rw [← zpl_cnt w (by omega) h (by omega), ← zcnt_split (zpl w h) (fun c => decide (kd c = 4)) 64]
  congr 1
  refine zcnt_cg (fun c hc => ?_)
  unfold zopB zpl
  by_cases h1 : c % 8 < w <;> by_cases h2 : c / 8 < h <;> by_cases h3 : kd c = 4 <;> simp [hc, h1, h2, h3]
theorem z_count71 {S : gS} {w h : Nat} (h5 : gI S 0 5 = nI w) (h6 : gI S 0 6 = nI h) (hw : w ≤ 8) (hh : h ≤ 8) : fX6_count_71 gx_fuel S 0 0 = some (nI (zcnt (fun c => zpl w h c && decide (gA S 5 c = 4)) 64), S) := by
  have key := z_loop 64 (fun f j (t : Int32) => fX6_count_71 f S t (nI j)) (fun j t => t = nI (zcnt (fun c => zpl w h c && decide (gA S 5 c = 4)) j)) (fun r => r = (nI (zcnt (fun c => zpl w h c && decide (gA S 5 c = 4)) 64), S)) (by
    intro f j t hj hp
    rcases Nat.lt_or_ge j 64 with h1 | h1
    · refine Or.inr ⟨h1, nI (zcnt (fun c => zpl w h c && decide (gA S 5 c = 4)) (j + 1)), ?_, rfl⟩
      show fX6_count_71L (fX6_count_71 f) S t (nI j) = _
      unfold fX6_count_71L
      refine z_f (z_nle (a := 64) (b := j) (by omega) (by omega)) (z_b (z_cellY h5 h6 hw hh h1) ?_)
      rw [hp]
      by_cases h2 : zpl w h j = true
      · rw [if_pos h2]
        refine z_f (by decide) (z_c rfl h1 (by omega) ?_)
        rw [z_cl (by omega)]
        by_cases h3 : gA S 5 j = 4
        · refine z_t h3 ?_
          show fX6_count_71 f S (nI _ + 1) (nI j + 1) = _
          rw [z_inc, z_inc]
          simp [zcnt, h2, h3]
        · refine z_f h3 ?_
          show fX6_count_71 f S (nI _ + nI 0) (nI j + 1) = _
          rw [z_inc, z_add]
          simp [zcnt, h2, h3]
      · rw [if_neg h2]
        refine z_t rfl ?_
        show fX6_count_71 f S (nI _ + nI 0) (nI j + 1) = _
        rw [z_inc, z_add]
        simp [zcnt, h2]
    · refine Or.inl ⟨(t, S), ?_, by rw [hp, show j = 64 by omega]⟩
      show fX6_count_71L (fX6_count_71 f) S t (nI j) = _
      exact z_t (z_len (a := 64) (b := j) (by omega) (by omega)) rfl) 64 gx_fuel 0 0 (by omega) (by have := z_fuelB; omega) (by omega) rfl
  obtain ⟨r, h1, h2⟩ := key
  rw [h2] at h1
  exact h1
theorem z_count6 {Sx Sy : gS} (h : zStr Sx Sy) : ∃ r, fX5_stripsThere Sx = some (r, Sx) ∧ fX6_count_120 gx_fuel Sy 0 0 = some (r, Sy) := by
  have key : ∀ m, m ≤ 8 → ∀ (f1 f2 : Nat) (t : Int32), m < f1 → m < f2 → ∃ r, fX5_stripsThere_4 f1 Sx t (nI (8 - m)) = some (r, Sx) ∧ fX6_count_120 f2 Sy t (nI (8 - m)) = some (r, Sy) := by
    intro m
    induction m with
    | zero =>
      intro hm f1 f2 t h1 h2
      obtain ⟨f1, rfl⟩ : ∃ g, f1 = g + 1 := ⟨f1 - 1, by omega⟩
      obtain ⟨f2, rfl⟩ : ∃ g, f2 = g + 1 := ⟨f2 - 1, by omega⟩
      refine ⟨t, ?_, ?_⟩
      · show fX5_stripsThere_4L (fX5_stripsThere_4 f1) Sx t (nI 8) = _
        unfold fX5_stripsThere_4L
        exact z_t (z_len (a := 8) (b := 8) (by omega) (by omega)) rfl
      · show fX6_count_120L (fX6_count_120 f2) Sy t (nI 8) = _
        unfold fX6_count_120L
        exact z_t (z_len (a := 8) (b := 8) (by omega) (by omega)) rfl
    | succ m ih =>
      intro hm f1 f2 t h1 h2
      obtain ⟨f1, rfl⟩ : ∃ g, f1 = g + 1 := ⟨f1 - 1, by omega⟩
      obtain ⟨f2, rfl⟩ : ∃ g, f2 = g + 1 := ⟨f2 - 1, by omega⟩
      have hs : 8 - (m + 1) < 8 := by omega
      have e : nI (8 - (m + 1)) + 1 = nI (8 - m) := by rw [z_inc]; congr 1; omega
      rcases (h.2 _ hs).1 with ⟨k1, k2⟩ | ⟨k1, k2, a, ha, k3⟩
      · obtain ⟨r, g1, g2⟩ := ih (by omega) f1 f2 t (by omega) (by omega)
        refine ⟨r, z_f (z_nle (a := 8) (by omega) (by omega)) (z_c rfl hs (by omega) ?_), z_f (z_nle (a := 8) (by omega) (by omega)) (z_c rfl hs (by omega) ?_)⟩
        · rw [z_let, z_cl (by omega)]
          refine z_f (by rw [k1]; decide) ?_
          show fX5_stripsThere_4 f1 Sx t (nI (8 - (m + 1)) + 1) = _
          rw [e]; exact g1
        · refine z_t (by rw [z_cl (by omega)]; exact k2) ?_
          show fX6_count_120 f2 Sy (t + 0) (nI (8 - (m + 1)) + 1) = _
          rw [e, Int32.add_zero]; exact g2
      · obtain ⟨r, g1, g2⟩ := ih (by omega) f1 f2 (t + 1) (by omega) (by omega)
        refine ⟨r, z_f (z_nle (a := 8) (by omega) (by omega)) (z_c rfl hs (by omega) ?_), z_f (z_nle (a := 8) (by omega) (by omega)) (z_c rfl hs (by omega) ?_)⟩
        · rw [z_let, z_cl (by omega)]
          refine z_t k1 ?_
          rw [z_let]
          show fX5_stripsThere_4 f1 Sx (t + 1) (nI (8 - (m + 1)) + 1) = _
          rw [e]; exact g1
        · refine z_f (by rw [z_cl (by omega), k3]; exact z_nm9 (by omega)) ?_
          show fX6_count_120 f2 Sy (t + 1) (nI (8 - (m + 1)) + 1) = _
          rw [e]; exact g2
  exact key 8 (by omega) gx_fuel gx_fuel 0 (by have := z_fuelB; omega) (by have := z_fuelB; omega)
theorem z_count {n : Nat} {Sx Sy : gS} (hn : n < 512) (h : gR n Sx Sy) (a1 : Int32) : ∃ (r : Int32) (Sx' Sy' : gS), fX5_count Sx a1 = some (r, Sx') ∧ fX6_count Sy a1 = some (r, Sy') ∧ gR (n + 1) Sx' Sy' := by
  obtain ⟨-, -, w, hh, y, kp, rp, g, s, hL, h2, h3, hkp, h5, h6, h7, h8, h9, h10, h11, -⟩ := id h
  obtain ⟨l1, l2, l3, l4, l5, l6, l7, l8⟩ := hL
  by_cases e0 : a1 = 0
  · exact ⟨nI w, _, _, z_t e0 (by rw [l1]), z_t e0 (by rw [l3]), z_skip hn h⟩
  by_cases e1 : a1 = 1
  · exact ⟨nI hh, _, _, z_f e0 (z_t e1 (by rw [l2])), z_f e0 (z_t e1 (by rw [l4])), z_skip hn h⟩
  by_cases e2 : a1 = 2
  · exact ⟨nI y, _, _, z_f e0 (z_f e1 (z_t e2 (by rw [h6]))), z_f e0 (z_f e1 (z_t e2 (by rw [h7]))), z_skip hn h⟩
  by_cases e3 : a1 = 3
  · exact ⟨nI kp, _, _, z_f e0 (z_f e1 (z_f e2 (z_t e3 (by rw [h10])))), z_f e0 (z_f e1 (z_f e2 (z_t e3 (by rw [h11])))), z_skip hn h⟩
  by_cases e4 : a1 = 4
  · exact ⟨gI Sy 0 3, _, _, z_f e0 (z_f e1 (z_f e2 (z_f e3 (z_t e4 (by rw [h.1.1]))))), z_f e0 (z_f e1 (z_f e2 (z_f e3 (z_t e4 rfl)))), z_skip hn h⟩
  by_cases e5 : a1 = 5
  · have hw : w ≤ 8 := by omega
    have hh8 : hh ≤ 8 := by omega
    have q := z_cliffs (kd := gA Sy 5) hw hh8
    have eX : fX1_cliffs 5 Sx = some (nI (zcnt (fun c => zpl w hh c && decide (gA Sy 5 c = 4)) 64), Sx) := by
      unfold fX1_cliffs
      rw [l1, l2, l7, z_mul, z_sub (by omega)]
      congr 3
      omega
    exact ⟨_, _, _, z_f e0 (z_f e1 (z_f e2 (z_f e3 (z_f e4 (z_t e5 (z_b eX rfl)))))), z_f e0 (z_f e1 (z_f e2 (z_f e3 (z_f e4 (z_t e5 (z_count71 l3 l4 hw hh8)))))), z_skip hn h⟩
  by_cases e6 : a1 = 6
  · obtain ⟨r, q1, q2⟩ := z_count6 h.1
    exact ⟨r, _, _, z_f e0 (z_f e1 (z_f e2 (z_f e3 (z_f e4 (z_f e5 (z_t e6 (z_b q1 rfl))))))), z_f e0 (z_f e1 (z_f e2 (z_f e3 (z_f e4 (z_f e5 (z_t e6 q2)))))), z_skip hn h⟩
  · exact ⟨-2, _, _, z_f e0 (z_f e1 (z_f e2 (z_f e3 (z_f e4 (z_f e5 (z_f e6 rfl)))))), z_f e0 (z_f e1 (z_f e2 (z_f e3 (z_f e4 (z_f e5 (z_f e6 rfl)))))), z_skip hn h⟩

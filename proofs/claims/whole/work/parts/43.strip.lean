theorem z_neg_le {v : Int32} {b : Nat} (hb : b < 2147483648) (h : v < 0) : v ≤ nI b := by
  rw [Int32.lt_iff_toInt_lt] at h
  rw [Int32.le_iff_toInt_le, nI_toInt (by omega)]
  have : (0 : Int32).toInt = 0 := rfl
  omega
theorem z_neg_n {v : Int32} (h : v < 0) : ¬ 0 ≤ v := by
  rw [Int32.lt_iff_toInt_lt] at h
  rw [Int32.le_iff_toInt_le]
  omega
theorem z_big_n {v : Int32} {a b : Nat} (hb : b < a) (ha : a < 2147483648) (h : nI a ≤ v) : ¬ v ≤ nI b := by
  rw [Int32.le_iff_toInt_le, nI_toInt (by omega)] at h ⊢
  omega
theorem z_big_ge {v : Int32} {a b : Nat} (hb : b ≤ a) (ha : a < 2147483648) (h : nI a ≤ v) : nI b ≤ v := by
  rw [Int32.le_iff_toInt_le, nI_toInt (by omega)] at h ⊢
  omega
theorem z_big_gt {v : Int32} {a b : Nat} (hb : b < a) (ha : a < 2147483648) (h : nI a ≤ v) : nI b < v := by
  rw [Int32.le_iff_toInt_le, nI_toInt (by omega)] at h
  rw [Int32.lt_iff_toInt_lt, nI_toInt (by omega)]
  omega
theorem z_0le {n : Nat} (h : n < 2147483648) : (0 : Int32) ≤ nI n := nI_pos' (by omega)
theorem z_len {a b : Nat} (ha : a ≤ b) (hb : b < 2147483648) : nI a ≤ nI b := by rw [z_leN (by omega) (by omega)]; exact ha
theorem z_nle {a b : Nat} (ha : b < a) (hb : a < 2147483648) : ¬ nI a ≤ nI b := by rw [z_leN (by omega) (by omega)]; omega
theorem z_ltn {a b : Nat} (ha : a < b) (hb : b < 2147483648) : nI a < nI b := by rw [z_ltN (by omega) (by omega)]; exact ha
theorem z_nlt {a b : Nat} (ha : b ≤ a) (hb : a < 2147483648) : ¬ nI a < nI b := by rw [z_ltN (by omega) (by omega)]; omega
theorem z_nneg {n : Nat} (h : n < 2147483648) : ¬ nI n < 0 := nI_pos (by omega)
theorem z_strR {n s : Nat} {Sx Sy Sx' Sy' : gS} (hR : gR n Sx Sy) (hs : s < 8) (hx : ∀ o, o ≠ 47 + 2 * s → o ≠ 48 + 2 * s → gI Sx' o = gI Sx o ∧ gA Sx' o = gA Sx o ∧ gJ Sx' o = gJ Sx o) (hyI : gI Sy' = gI Sy) (hyA : ∀ o, o ≠ 1 → o ≠ 2 → gA Sy' o = gA Sy o) (hyJ : ∀ o, o ≠ 3 → o ≠ 4 → gJ Sy' o = gJ Sy o)
    (h1 : ∀ i, i ≠ s → gA Sy' 1 i = gA Sy 1 i ∧ gA Sy' 2 i = gA Sy 2 i) (h3 : ∀ i k, i ≠ s → i < 8 → k < 8 → gJ Sy' 3 (8 * i + k) = gJ Sy 3 (8 * i + k)) (hz : zS1 Sx' Sy' s) : gR (n + 1) Sx' Sy' := by
  obtain ⟨r1, r2, r3⟩ := hR
  have sx : ∀ lo hi, hi ≤ 46 → zSame lo hi Sx Sx' := fun lo hi hl o a b => hx o (by omega) (by omega)
  refine ⟨⟨?_, fun i hi => ?_⟩, zTold_fr (sx _ _ (by omega)) (hyA _ (by omega) (by omega)) (hyA _ (by omega) (by omega)) (by rw [hyI]) (by rw [hyI]) r2, zMain_fr (Nat.le_succ n) (sx _ _ (by omega)) ⟨hyA _ (by omega) (by omega), hyA _ (by omega) (by omega), hyA _ (by omega) (by omega), hyJ _ (by omega) (by omega), hyJ _ (by omega) (by omega), hyJ _ (by omega) (by omega), hyJ _ (by omega) (by omega), by rw [hyI], by rw [hyI], by rw [hyI], by rw [hyI], by rw [hyI]⟩ r3⟩
  · rw [(hx 0 (by omega) (by omega)).1, hyI]; exact r1.1
  · by_cases e : i = s
    · subst e; exact hz
    · obtain ⟨a1, a2, a3⟩ := r1.2 i hi
      have x1 := (hx (47 + 2 * i) (by omega) (by omega)).1
      have x2 := (hx (48 + 2 * i) (by omega) (by omega)).2.2
      refine ⟨?_, ?_, fun k hk => ?_⟩
      · rw [x1, (h1 i e).1]; exact a1
      · rw [x1, (h1 i e).2]; exact a2
      · rw [x2, h3 i k e hi hk]; exact a3 k hk
theorem z_begin (o : Nat) (S : gS) (v1 v2 : Int32) : fX3_begin o S v1 v2 = some ((), gJ_row (gI_up (gI_up (gI_up S o 1 0) o 2 v1) o 3 v2) (o + 1) (fun k => if k < 8 then 0 else gJ S (o + 1) k)) := by
  unfold fX3_begin
  rw [z_let, z_let, z_let]
  exact z_b (z_fill (o + 1) 8 (by omega) _ 0) rfl
theorem z_up3 (S : gS) (o k : Nat) (r : Nat → Int64) (v : Int64) : gJ (gJ_up (gJ_row S o r) o k v) o = fun j => if j = k then v else r j := by
  rw [z_uprow, z_JrJ, if_pos rfl]
theorem z_strip57 (S : gS) {s m : Nat} (hs : s < 8) : fX6_strip_57 gx_fuel S (nI s) (nI m) 0 = some (nI m, gJ_row S 3 (fun i => if 8 * s ≤ i ∧ i < 8 * s + 8 then 0 else gJ S 3 i)) := by
  have key := z_loop 8 (fun f j t => fX6_strip_57 f t (nI s) (nI m) (nI j)) (fun j t => t = gJ_row S 3 (fun i => if 8 * s ≤ i ∧ i < 8 * s + j then 0 else gJ S 3 i)) (fun r => r = (nI m, gJ_row S 3 (fun i => if 8 * s ≤ i ∧ i < 8 * s + 8 then 0 else gJ S 3 i))) (by
    intro f j t hj hp
    rcases Nat.lt_or_ge j 8 with h | h
    · refine Or.inr ⟨h, gJ_up t 3 (8 * s + j) 0, ?_, ?_⟩
      · show fX6_strip_57L (fX6_strip_57 f) t (nI s) (nI m) (nI j) = _
        unfold fX6_strip_57L
        have e : (8 : Int32) * nI s + nI j = nI (8 * s + j) := by rw [z_lit 8, z_mul, z_add]
        rw [if_neg (by rw [z_lit 8]; exact z_nle h (by omega)), e, z_chk (by omega) (by omega), z_let, z_let, z_cl (by omega), z_inc]
      · rw [hp, z_uprow]
        exact z_rowcg _ _ (fun k => by
          by_cases h1 : k = 8 * s + j
          · rw [if_pos h1, if_pos (by omega)]
          · rw [if_neg h1]
            by_cases h2 : 8 * s ≤ k ∧ k < 8 * s + j
            · rw [if_pos h2, if_pos (by omega)]
            · rw [if_neg h2, if_neg (by omega)])
    · refine Or.inl ⟨(nI m, t), ?_, by rw [hp, show j = 8 by omega]⟩
      have e : j = 8 := by omega
      subst e
      show fX6_strip_57L (fX6_strip_57 f) t (nI s) (nI m) (nI 8) = _
      unfold fX6_strip_57L
      rw [if_pos (by rw [z_lit 8]; exact z_len (by omega) (by omega))]) 8 gx_fuel 0 S (by omega) (by have := z_fuelB; omega) (by omega) (by
        rw [z_rowcg S 3 (r2 := gJ S 3) (fun k => by rw [if_neg (by omega)]), z_rowself])
  obtain ⟨r, h1, h2⟩ := key
  rw [h2] at h1
  exact h1
theorem z_strip {n : Nat} {Sx Sy : gS} (hn : n < 512) (h : gR n Sx Sy) (a1 : Int32) (a2 : Int32) (a3 : Int32) : ∃ (r : Int32) (Sx' Sy' : gS), fX5_strip Sx a1 a2 a3 = some (r, Sx') ∧ fX6_strip Sy a1 a2 a3 = some (r, Sy') ∧ gR (n + 1) Sx' Sy' := by
  rcases z_ix a1 (n := 8) (by omega) with ⟨s, hs, rfl⟩ | hb
  · rcases z_ix a2 (n := 3) (by omega) with ⟨t, ht, rfl⟩ | hb
    · rcases z_ix a3 (n := 9) (by omega) with ⟨m, hm, rfl⟩ | hb
      · refine ⟨nI m, gJ_row (gI_up (gI_up (gI_up Sx (47 + 2 * s) 1 0) (47 + 2 * s) 2 (nI t)) (47 + 2 * s) 3 (nI m)) (48 + 2 * s) (fun k => if k < 8 then 0 else gJ Sx (48 + 2 * s) k), gJ_row (gA_up (gA_up Sy 1 s (nI t)) 2 s (nI m)) 3 (fun i => if 8 * s ≤ i ∧ i < 8 * s + 8 then 0 else gJ Sy 3 i), z_b (z_strX_t _ hs) (z_f (by decide) (z_b (z_laneX_t _ ht) (z_f (by decide) (z_t (z_len (b := 8) (by omega) (by omega)) (z_t (z_0le (by omega)) (z_c rfl hs (by omega) ?_)))))), z_b (z_strY_t _ hs) (z_f (by decide) (z_b (z_inT0 _ (a := t) (b := 2) (by omega) (by omega)) (z_f (by decide) (z_t (z_len (b := 8) (by omega) (by omega)) (z_t (z_0le (by omega)) (z_c rfl hs (by omega) ?_)))))), ?_⟩
        · rw [z_let, z_cl (by omega)]
          refine z_b (z_begin _ _ _ _) ?_
          rw [show 47 + 2 * s + 1 = 48 + 2 * s by omega]
        · rw [z_let, z_cl (by omega)]
          refine z_c rfl hs (by omega) ?_
          rw [z_let]
          exact z_strip57 _ hs
        · refine z_strR h hs (fun o h1 h2 => ⟨?_, rfl, ?_⟩) rfl (fun o h1 h2 => ?_) (fun o h1 h2 => ?_) (fun i hi => ⟨?_, ?_⟩) (fun i k hi hi8 hk => ?_) ⟨Or.inr ⟨?_, ?_, t, by omega, ?_⟩, ⟨m, by omega, ?_, ?_⟩, fun k hk => ?_⟩
          · funext j; simp only [z_IrJ, z_II]; rw [if_neg (by omega), if_neg (by omega), if_neg (by omega)]
          · rw [z_JrJ, if_neg h2]; rfl
          · simp only [z_ArJ]; funext j; rw [z_AA, z_AA, if_neg (by omega), if_neg (by omega)]
          · rw [z_JrJ, if_neg h1]; rfl
          · simp only [z_ArJ]; rw [z_AA, z_AA, if_neg (by omega), if_neg (by omega)]
          · simp only [z_ArJ]; rw [z_AA, z_AA, if_neg (by omega), if_neg (by omega)]
          · rw [z_JrJ, if_pos rfl, if_neg (by omega)]
          · simp [z_IrJ, z_II, z_ArJ, z_AA]
          · simp [z_IrJ, z_II, z_ArJ, z_AA]
          · simp [z_IrJ, z_II, z_ArJ, z_AA]
          · simp [z_IrJ, z_II, z_ArJ, z_AA]
          · simp [z_IrJ, z_II, z_ArJ, z_AA]
          · rw [z_JrJ, z_JrJ, if_pos rfl, if_pos rfl, if_pos hk, if_pos (by omega)]
      · rcases hb with hb | hb
        · exact ⟨_, _, _, z_b (z_strX_t _ hs) (z_f (by decide) (z_b (z_laneX_t _ ht) (z_f (by decide) (z_t (z_neg_le (b := 8) (by omega) hb) (z_f (z_neg_n hb) (z_b (z_failX _ _) rfl)))))), z_b (z_strY_t _ hs) (z_f (by decide) (z_b (z_inT0 _ (a := t) (b := 2) (by omega) (by omega)) (z_f (by decide) (z_t (z_neg_le (b := 8) (by omega) hb) (z_f (z_neg_n hb) (z_b (z_failY _ _) rfl)))))), z_fail h⟩
        · exact ⟨_, _, _, z_b (z_strX_t _ hs) (z_f (by decide) (z_b (z_laneX_t _ ht) (z_f (by decide) (z_f (z_big_n (a := 9) (b := 8) (by omega) (by omega) hb) rfl)))), z_b (z_strY_t _ hs) (z_f (by decide) (z_b (z_inT0 _ (a := t) (b := 2) (by omega) (by omega)) (z_f (by decide) (z_f (z_big_n (a := 9) (b := 8) (by omega) (by omega) hb) rfl)))), z_skip hn h⟩
    · exact ⟨_, _, _, z_b (z_strX_t _ hs) (z_f (by decide) (z_b (z_laneX_f _ hb) (z_t rfl rfl))), z_b (z_strY_t _ hs) (z_f (by decide) (z_b (z_inF0 _ (a := 3) (b := 2) rfl (by omega) hb) (z_t rfl rfl))), z_skip hn h⟩
  · exact ⟨_, _, _, z_b (z_strX_f _ hb) (z_t rfl rfl), z_b (z_strY_f _ hb) (z_t rfl rfl), z_skip hn h⟩

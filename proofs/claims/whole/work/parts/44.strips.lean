theorem z_tear {n : Nat} {Sx Sy : gS} (hn : n < 512) (h : gR n Sx Sy) (a1 : Int32) : ∃ (r : Int32) (Sx' Sy' : gS), fX5_tear Sx a1 = some (r, Sx') ∧ fX6_tear Sy a1 = some (r, Sy') ∧ gR (n + 1) Sx' Sy' := by
  rcases z_ix a1 (n := 8) (by omega) with ⟨s, hs, rfl⟩ | hb
  · have hz := h.1.2 s hs
    have hR : gR (n + 1) (gI_up Sx (47 + 2 * s) 1 1) (gA_up Sy 1 s (-9)) := by
      refine z_strR h hs (fun o h1 h2 => ⟨?_, rfl, rfl⟩) rfl (fun o h1 h2 => ?_) (fun o h1 h2 => rfl) (fun i hi => ⟨?_, ?_⟩) (fun i k hi hi8 hk => rfl) ⟨Or.inl ⟨?_, ?_⟩, ?_, fun k hk => ?_⟩
      · funext j; rw [z_II, if_neg (by omega)]
      · funext j; rw [z_AA, if_neg (by omega)]
      · rw [z_AA, if_neg (by omega)]
      · rw [z_AA, if_neg (by omega)]
      · simp [z_II]
      · simp [z_AA]
      · obtain ⟨m, h1, h2, h3⟩ := hz.2.1
        exact ⟨m, h1, by simp [z_II, h2], by simp [z_AA, h3]⟩
      · exact hz.2.2 k hk
    rcases hz.1 with ⟨h1, h2⟩ | ⟨h1, h2, a, ha, h3⟩
    · refine ⟨1, _, _, z_b (z_strX_t _ hs) (z_f (by decide) (z_c rfl hs (by omega) ?_)), z_b (z_strY_t _ hs) (z_f (by decide) (z_c rfl hs (by omega) (z_t (by rw [z_cl (by omega)]; exact h2) (z_c rfl hs (by omega) ?_)))), hR⟩
      · rw [z_let, z_cl (by omega), z_let, h1]
        refine z_c rfl hs (by omega) ?_
        rw [z_let]
        exact z_b rfl (z_f (by decide) rfl)
      · rw [z_let, z_cl (by omega)]
    · refine ⟨0, _, _, z_b (z_strX_t _ hs) (z_f (by decide) (z_c rfl hs (by omega) ?_)), z_b (z_strY_t _ hs) (z_f (by decide) (z_c rfl hs (by omega) (z_f (by rw [z_cl (by omega), h3, z_lit 9, z_eqNeg (by omega) (by omega) (by omega)]; exact id) (z_c rfl hs (by omega) ?_)))), hR⟩
      · rw [z_let, z_cl (by omega), z_let, h1]
        refine z_c rfl hs (by omega) ?_
        rw [z_let]
        exact z_b rfl (z_t (by decide) rfl)
      · rw [z_let, z_cl (by omega)]
  · exact ⟨_, _, _, z_b (z_strX_f _ hb) (z_t rfl rfl), z_b (z_strY_f _ hb) (z_t rfl rfl), z_skip hn h⟩
theorem z_has_t (o : Nat) (S : gS) {m i : Nat} (hm : gI S o 3 = nI m) (hm8 : m ≤ 8) (hi : i < m) : fX3_has o S (nI i) = some (1, S) := by
  unfold fX3_has
  exact z_f (z_nneg (by omega)) (z_f (by rw [hm]; exact z_nle hi (by omega)) rfl)
theorem z_has_f (o : Nat) (S : gS) {m : Nat} {v : Int32} (hm : gI S o 3 = nI m) (hv : v < 0 ∨ nI m ≤ v) : fX3_has o S v = some (0, S) := by
  unfold fX3_has fX3_has_16
  by_cases h1 : v < 0
  · exact z_t h1 rfl
  · exact z_f h1 (z_t (by rw [hm]; exact hv.resolve_left h1) rfl)
theorem z_hasY_t (S : gS) {m i : Nat} (hm8 : m ≤ 8) (hi : i < m) : fX6_in S (nI i).toInt64 (Int32.toInt64 0) (Int32.toInt64 (nI m - 1)) = some (1, S) := by
  rw [show nI m - 1 = nI (m - 1) from z_sub (b := 1) (by omega)]
  exact z_inT0 S (by omega) (by omega)
theorem z_hasY_f (S : gS) {m : Nat} {v : Int32} (hm8 : m ≤ 8) (hv : v < 0 ∨ nI m ≤ v) : fX6_in S v.toInt64 (Int32.toInt64 0) (Int32.toInt64 (nI m - 1)) = some (0, S) := by
  apply z_inF
  rcases hv with hv | hv
  · exact Or.inl hv
  · by_cases h0 : v < 0
    · exact Or.inl h0
    · right
      have e : (nI m - 1 : Int32).toInt = (m : Int) - 1 := pk_sub_toInt (a := m) (b := 1) (by omega) (by omega)
      rw [Int32.le_iff_toInt_le, nI_toInt (by omega)] at hv
      rw [Int32.lt_iff_toInt_lt, e]
      omega
/-- a number cut to its lane -/
def z_cutv (t : Nat) (v : Int64) : Int64 := if t = 0 then Int32.toInt64 (Int16.toInt32 (Int32.toInt16 (Int64.toInt32 v))) else if t = 1 then Int32.toInt64 (Int64.toInt32 v) else v
theorem z_store (o : Nat) (S : gS) {i t : Nat} (hi : i < 8) (ht : t ≤ 2) (hl : gI S o 2 = nI t) (v : Int64) : fX3_store o S (nI i) v = some ((), gJ_up S (o + 1) i (z_cutv t v)) := by
  unfold fX3_store z_cutv
  rw [hl]
  rcases (show t = 0 ∨ t = 1 ∨ t = 2 by omega) with rfl | rfl | rfl
  · refine z_t rfl (z_c rfl hi (by omega) ?_)
    rw [z_let, z_cl (by omega)]; rfl
  · refine z_f (by decide) (z_t rfl (z_c rfl hi (by omega) ?_))
    rw [z_let, z_cl (by omega)]; rfl
  · refine z_f (by decide) (z_f (by decide) (z_c rfl hi (by omega) ?_))
    rw [z_let, z_cl (by omega)]; rfl
theorem z_cutY (S : gS) {t : Nat} (ht : t ≤ 2) (v : Int64) : fX6_cut S (nI t) v = some (z_cutv t v, S) := by
  unfold fX6_cut z_cutv
  rcases (show t = 0 ∨ t = 1 ∨ t = 2 by omega) with rfl | rfl | rfl
  · exact z_t rfl rfl
  · exact z_f (by decide) (z_t rfl rfl)
  · exact z_f (by decide) (z_f (by decide) rfl)
theorem z_ixm (v : Int32) {m : Nat} (hm : m ≤ 8) : (∃ j, j < m ∧ v = nI j) ∨ (v < 0 ∨ nI m ≤ v) := z_ix v (by omega)
theorem z_n9 {a : Nat} (ha : a ≤ 2) : ¬ nI a = -9 := by rw [z_lit 9, z_eqNeg (by omega) (by omega) (by omega)]; exact id
theorem z_put {n : Nat} {Sx Sy : gS} (hn : n < 512) (h : gR n Sx Sy) (a1 : Int32) (a2 : Int32) (a3 : Int64) : ∃ (r : Int32) (Sx' Sy' : gS), fX5_put Sx a1 a2 a3 = some (r, Sx') ∧ fX6_put Sy a1 a2 a3 = some (r, Sy') ∧ gR (n + 1) Sx' Sy' := by
  rcases z_ix a1 (n := 8) (by omega) with ⟨s, hs, rfl⟩ | hb
  · have hz := h.1.2 s hs
    obtain ⟨hl, ⟨m, hm, hm1, hm2⟩, hj⟩ := hz
    rcases hl with ⟨h1, h2⟩ | ⟨h1, h2, a, ha, h3⟩
    · refine ⟨_, _, _, z_b (z_strX_t _ hs) (z_f (by decide) (z_c rfl hs (by omega) ?_)), z_b (z_strY_t _ hs) (z_f (by decide) (z_c rfl hs (by omega) (z_t (by rw [z_cl (by omega)]; exact h2) (z_b (z_failY _ _) rfl)))), z_fail h⟩
      rw [z_let, z_cl (by omega)]
      exact z_f (by rw [h1]; decide) (z_b (z_failX _ _) rfl)
    · rcases z_ixm a2 hm with ⟨i, hi, rfl⟩ | hb
      · refine ⟨1, gJ_up Sx (48 + 2 * s) i (z_cutv a a3), gJ_up Sy 3 (8 * s + i) (z_cutv a a3), z_b (z_strX_t _ hs) (z_f (by decide) (z_c rfl hs (by omega) ?_)), z_b (z_strY_t _ hs) (z_f (by decide) (z_c rfl hs (by omega) (z_f (by rw [z_cl (by omega), h3]; exact z_n9 ha) (z_c rfl hs (by omega) ?_)))), ?_⟩
        · rw [z_let, z_cl (by omega)]
          refine z_t h1 (z_b (z_has_t _ _ hm1 hm hi) (z_f (by decide) (z_b (z_store _ _ (by omega) ha (h2.trans h3) a3) ?_)))
          rw [show 47 + 2 * s + 1 = 48 + 2 * s by omega]
        · rw [z_cl (by omega), hm2]
          refine z_b (z_hasY_t _ hm hi) (z_f (by decide) (z_c rfl hs (by omega) ?_))
          rw [h3]
          refine z_b (z_cutY _ ha a3) (z_c (n := 8 * s + i) (by rw [z_lit 8, z_mul, z_add]) (by omega) (by omega) ?_)
          rw [z_let, z_lit 8, z_mul, z_add, z_cl (by omega)]
        · refine z_strR h hs (fun o g1 g2 => ⟨rfl, rfl, ?_⟩) rfl (fun o g1 g2 => rfl) (fun o g1 g2 => ?_) (fun i hi => ⟨rfl, rfl⟩) (fun i' k hi' hi8 hk => ?_) ⟨Or.inr ⟨h1, h2, a, ha, h3⟩, ⟨m, hm, hm1, hm2⟩, fun k hk => ?_⟩
          · funext j; rw [z_JJ, if_neg (by omega)]
          · funext j; rw [z_JJ, if_neg (by omega)]
          · rw [z_JJ, if_neg (by omega)]
          · rw [z_JJ, z_JJ]
            by_cases e : k = i
            · rw [if_pos ⟨rfl, e⟩, if_pos ⟨rfl, by omega⟩]
            · rw [if_neg (by omega), if_neg (by omega)]; exact hj k hk
      · refine ⟨-10 - 2, _, _, z_b (z_strX_t _ hs) (z_f (by decide) (z_c rfl hs (by omega) ?_)), z_b (z_strY_t _ hs) (z_f (by decide) (z_c rfl hs (by omega) (z_f (by rw [z_cl (by omega), h3]; exact z_n9 ha) (z_c rfl hs (by omega) ?_)))), z_fail h⟩
        · rw [z_let, z_cl (by omega)]
          exact z_t h1 (z_b (z_has_f _ _ hm1 hb) (z_t rfl (z_b (z_failX _ _) rfl)))
        · rw [z_cl (by omega), hm2]
          exact z_b (z_hasY_f _ hm hb) (z_t rfl (z_b (z_failY _ _) rfl))
  · exact ⟨_, _, _, z_b (z_strX_f _ hb) (z_t rfl rfl), z_b (z_strY_f _ hb) (z_t rfl rfl), z_skip hn h⟩
theorem z_at {n : Nat} {Sx Sy : gS} (hn : n < 512) (h : gR n Sx Sy) (a1 : Int32) (a2 : Int32) (a3 : Int32) : ∃ (r : Int64) (Sx' Sy' : gS), fX5_at Sx a1 a2 a3 = some (r, Sx') ∧ fX6_at Sy a1 a2 a3 = some (r, Sy') ∧ gR (n + 1) Sx' Sy' := by
  rcases z_ix a1 (n := 8) (by omega) with ⟨s, hs, rfl⟩ | hb
  · rcases z_ix a2 (n := 3) (by omega) with ⟨t, ht, rfl⟩ | hb
    · have hz := h.1.2 s hs
      obtain ⟨hl, ⟨m, hm, hm1, hm2⟩, hj⟩ := hz
      rcases hl with ⟨h1, h2⟩ | ⟨h1, h2, a, ha, h3⟩
      · refine ⟨_, _, _, z_b (z_strX_t _ hs) (z_f (by decide) (z_b (z_laneX_t _ ht) (z_f (by decide) (z_c rfl hs (by omega) ?_)))), z_b (z_strY_t _ hs) (z_f (by decide) (z_b (z_inT0 _ (a := t) (b := 2) (by omega) (by omega)) (z_f (by decide) (z_c rfl hs (by omega) (z_t (by rw [z_cl (by omega)]; exact h2) (z_b (z_failY _ _) rfl)))))), z_fail h⟩
        rw [z_let, z_cl (by omega)]
        exact z_f (by rw [h1]; decide) (z_b (z_failX _ _) rfl)
      · by_cases hta : a = t
        · subst hta
          rcases z_ixm a3 hm with ⟨i, hi, rfl⟩ | hb
          · refine ⟨gJ Sy 3 (8 * s + i), Sx, Sy, z_b (z_strX_t _ hs) (z_f (by decide) (z_b (z_laneX_t _ ht) (z_f (by decide) (z_c rfl hs (by omega) ?_)))), z_b (z_strY_t _ hs) (z_f (by decide) (z_b (z_inT0 _ (a := a) (b := 2) (by omega) (by omega)) (z_f (by decide) (z_c rfl hs (by omega) (z_f (by rw [z_cl (by omega), h3]; exact z_n9 ha) (z_c rfl hs (by omega) (z_t (by rw [z_cl (by omega)]; exact h3) (z_c rfl hs (by omega) ?_)))))))), z_skip hn h⟩
            · rw [z_let, z_cl (by omega)]
              refine z_t h1 (z_t (h2.trans h3) (z_b (z_has_t _ _ hm1 hm hi) (z_f (by decide) (z_c rfl (by omega) (by omega) ?_))))
              rw [z_cl (by omega), show 47 + 2 * s + 1 = 48 + 2 * s by omega, hj i (by omega)]
            · rw [z_cl (by omega), hm2]
              refine z_b (z_hasY_t _ hm hi) (z_f (by decide) (z_c (n := 8 * s + i) (by rw [z_lit 8, z_mul, z_add]) (by omega) (by omega) ?_))
              rw [z_lit 8, z_mul, z_add, z_cl (by omega)]
          · refine ⟨Int32.toInt64 (-10 - 2), _, _, z_b (z_strX_t _ hs) (z_f (by decide) (z_b (z_laneX_t _ ht) (z_f (by decide) (z_c rfl hs (by omega) ?_)))), z_b (z_strY_t _ hs) (z_f (by decide) (z_b (z_inT0 _ (a := a) (b := 2) (by omega) (by omega)) (z_f (by decide) (z_c rfl hs (by omega) (z_f (by rw [z_cl (by omega), h3]; exact z_n9 ha) (z_c rfl hs (by omega) (z_t (by rw [z_cl (by omega)]; exact h3) (z_c rfl hs (by omega) ?_)))))))), z_fail h⟩
            · rw [z_let, z_cl (by omega)]
              exact z_t h1 (z_t (h2.trans h3) (z_b (z_has_f _ _ hm1 hb) (z_t rfl (z_b (z_failX _ _) rfl))))
            · rw [z_cl (by omega), hm2]
              exact z_b (z_hasY_f _ hm hb) (z_t rfl (z_b (z_failY _ _) rfl))
        · refine ⟨_, _, _, z_b (z_strX_t _ hs) (z_f (by decide) (z_b (z_laneX_t _ ht) (z_f (by decide) (z_c rfl hs (by omega) ?_)))), z_b (z_strY_t _ hs) (z_f (by decide) (z_b (z_inT0 _ (a := t) (b := 2) (by omega) (by omega)) (z_f (by decide) (z_c rfl hs (by omega) (z_f (by rw [z_cl (by omega), h3]; exact z_n9 ha) (z_c rfl hs (by omega) (z_f (by rw [z_cl (by omega), h3, z_eqN (by omega) (by omega)]; exact hta) (z_b (z_failY _ _) rfl)))))))), z_fail h⟩
          rw [z_let, z_cl (by omega)]
          exact z_t h1 (z_f (by rw [h2, h3, z_eqN (by omega) (by omega)]; exact hta) (z_b (z_failX _ _) rfl))
    · exact ⟨_, _, _, z_b (z_strX_t _ hs) (z_f (by decide) (z_b (z_laneX_f _ hb) (z_t rfl rfl))), z_b (z_strY_t _ hs) (z_f (by decide) (z_b (z_inF0 _ (a := 3) (b := 2) rfl (by omega) hb) (z_t rfl rfl))), z_skip hn h⟩
  · exact ⟨_, _, _, z_b (z_strX_f _ hb) (z_t rfl rfl), z_b (z_strY_f _ hb) (z_t rfl rfl), z_skip hn h⟩

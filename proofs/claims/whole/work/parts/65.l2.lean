/-! sums -/
def zIs (f : Nat → Int64) : Nat → Int64
  | 0 => 0
  | n + 1 => zIs f n + f n
theorem zIs_hi (f : Nat → Int64) (y : Nat) : ∀ d, (∀ k, y < k → k < y + 1 + d → f k = 0) → zIs f (y + 1 + d) = zIs f (y + 1)
  | 0, _ => rfl
  | d + 1, h => by
    show zIs f (y + 1 + d) + f (y + 1 + d) = _
    rw [h _ (by omega) (by omega), Int64.add_zero, zIs_hi f y d (fun k a b => h k a (by omega))]
theorem z_tallyX {S : gS} {y q : Nat} (hq : q ≤ 4) (hy : y ≤ 60) (hyr : gI S 10 3 = nI y) : fX0_tallyOfAll 10 S (nI q) = some (zIs (fun k => gJ S 13 (61 * q + k)) (y + 1), S) := by
  have key := z_loop (y + 1) (fun F j (t : Int64) => fX0_tallyOfAll_5 10 F S (nI q) t (nI j)) (fun j t => t = zIs (fun k => gJ S 13 (61 * q + k)) j) (fun r => r = (zIs (fun k => gJ S 13 (61 * q + k)) (y + 1), S)) (by
    intro F j t hj hp
    rcases Nat.lt_or_ge j (y + 1) with h1 | h1
    · refine Or.inr ⟨h1, zIs (fun k => gJ S 13 (61 * q + k)) (j + 1), ?_, rfl⟩
      show fX0_tallyOfAll_5L 10 (fX0_tallyOfAll_5 10 F) S (nI q) t (nI j) = _
      unfold fX0_tallyOfAll_5L
      rw [hyr, z_m61]
      refine z_f (z_nlt (by omega) (by omega)) (z_c rfl (by omega) (by omega) ?_)
      rw [z_let, z_let, z_cl (by omega), z_inc, hp]
      rfl
    · refine Or.inl ⟨(t, S), ?_, by rw [hp, show j = y + 1 by omega]⟩
      show fX0_tallyOfAll_5L 10 (fX0_tallyOfAll_5 10 F) S (nI q) t (nI j) = _
      unfold fX0_tallyOfAll_5L
      exact z_t (by rw [hyr]; exact z_ltn (by omega) (by omega)) rfl) (y + 1) gx_fuel 0 0 (by omega) (by have := z_fuelB; omega) (by omega) rfl
  obtain ⟨r, h1, h2⟩ := key
  rw [h2] at h1
  exact h1
theorem z_sum69 {w h n y q k : Nat} {Sx Sy : gS} {G : zG} (K50 : gS → Int32 → Int32 → Int64 → Int32 → Option (Int64 × gS)) (H : zRd w h Sx Sy) (hX : zX (zOp w h (gA Sy 5)) Sx G) (hY : zY Sy G) (hJ : zJn n (zOp w h (gA Sy 5)) y G) (hq : q ≤ 4) (hk : k < 61) (v2 : Int32) (acc : Int64) :
    fX6_sum_69 K50 Sy (nI q) v2 acc (nI k) = K50 Sy (nI q) v2 (acc + gJ Sx 13 (61 * q + k)) (nI (k + 1)) := by
  unfold fX6_sum_69
  rw [z_61m]
  refine z_c rfl (by omega) (by omega) ?_
  rw [z_let, z_cl (by omega)]
  rcases Nat.eq_zero_or_pos q with hq0 | hq0
  · subst hq0
    have key := z_lp (E := fun r : Int64 => K50 Sy (nI 0) v2 r (nI (k + 1))) 64 (fun F j (t : Int64) => fX6_sum_87 K50 F Sy (nI 0) v2 t (nI k) (nI j)) (fun j t => t = acc + lN (gsum (fun c => G.1 c k) j)) (fun r => r = acc + lN (gsum (fun c => G.1 c k) 64)) (by
      intro F j t hj hp
      rcases Nat.lt_or_ge j 64 with h1 | h1
      · refine Or.inr ⟨h1, acc + lN (gsum (fun c => G.1 c k) (j + 1)), ?_, rfl⟩
        show fX6_sum_87L K50 (fX6_sum_87 K50 F) Sy (nI 0) v2 t (nI k) (nI j) = _
        unfold fX6_sum_87L
        refine z_f (z_nle (a := 64) h1 (by omega)) (z_t rfl (z_b (z_isIce H.1 h1) ?_))
        cases hb : zopB w h (gA Sy 5) j with
        | false =>
          refine z_t rfl ?_
          show fX6_sum_87 K50 F Sy (nI 0) v2 (t + 0) (nI k) (nI j + 1) = _
          rw [z_inc, Int64.add_zero, hp]
          show _ = fX6_sum_87 K50 F Sy (nI 0) v2 (acc + lN (gsum (fun c => G.1 c k) j + G.1 j k)) (nI k) (nI (j + 1))
          rw [hJ.1 j k (fun e => by rw [zopB_iff.2 e] at hb; exact absurd hb (by simp))]
          rfl
        | true =>
          refine z_f (by decide) ?_
          rw [z_61m]
          refine z_c rfl (by omega) (by omega) ?_
          show fX6_sum_87 K50 F Sy (nI 0) v2 (t + gJ Sy 8 (nI (61 * j + k)).toNatClampNeg) (nI k) (nI j + 1) = _
          rw [z_cl (by omega), hY.1 j k h1 hk, z_inc, hp, Int64.add_assoc, lN_add]
          rfl
      · refine Or.inl ⟨t, ?_, by rw [hp, show j = 64 by omega]⟩
        show fX6_sum_87L K50 (fX6_sum_87 K50 F) Sy (nI 0) v2 t (nI k) (nI j) = _
        unfold fX6_sum_87L
        refine z_t (z_len (a := 64) h1 (by omega)) ?_
        show K50 Sy (nI 0) v2 t (nI k + 1) = _
        rw [z_inc]) 64 gx_fuel 0 acc (by omega) (by have := z_fuelB; omega) (by omega) (by
          show acc = acc + lN 0
          rw [show lN 0 = 0 from rfl, Int64.add_zero])
    obtain ⟨r, e1, e2⟩ := key
    rw [hY.2.1 _ (by omega), Int64.add_zero]
    rw [e2] at e1
    refine Eq.trans e1 ?_
    rw [show 61 * 0 + k = k by omega, hX.2.1 k hk]
  · have e : gx_fuel = 99999 + 1 := rfl
    rw [e]
    show fX6_sum_87L K50 (fX6_sum_87 K50 99999) Sy (nI q) v2 (acc + gJ Sy 9 (61 * q + k)) (nI k) (nI 0) = _
    unfold fX6_sum_87L
    refine z_f (z_nle (a := 64) (b := 0) (by omega) (by omega)) (z_f (by rw [show (0 : Int32) = nI 0 from rfl, z_eqN (by omega) (by omega)]; omega) ?_)
    show K50 Sy (nI q) v2 (acc + gJ Sy 9 (61 * q + k)) (nI k + 1) = _
    rw [z_inc, hY.2.2 _ (by omega) (by omega), hX.2.2 _ (by omega) (by omega)]
theorem z_sumT {w h n y q k : Nat} {Sx Sy : gS} {G : zG} (hX : zX (zOp w h (gA Sy 5)) Sx G) (hJ : zJn n (zOp w h (gA Sy 5)) y G) (hq : q ≤ 4) (hk : k < 61) (hk2 : y < k) : gJ Sx 13 (61 * q + k) = 0 := by
  rcases Nat.eq_zero_or_pos q with hq0 | hq0
  · subst hq0
    rw [show 61 * 0 + k = k by omega, hX.2.1 k hk, gsum_0 (fun c _ => hJ.2.1 c k hk2)]
    rfl
  · rw [hX.2.2 _ (by omega) (by omega), hJ.2.2.1 q k hq0 hq hk2 hk]
theorem z_sumA {w h n y q : Nat} {Sx Sy : gS} {G : zG} (H : zRd w h Sx Sy) (hX : zX (zOp w h (gA Sy 5)) Sx G) (hY : zY Sy G) (hJ : zJn n (zOp w h (gA Sy 5)) y G) (hq : q ≤ 4) (hy : y ≤ 60) :
    fX6_sum_50 gx_fuel Sy (nI q) (-9) 0 0 = some (zIs (fun k => gJ Sx 13 (61 * q + k)) (y + 1), Sy) := by
  have key := z_loop 61 (fun F j (t : Int64) => fX6_sum_50 F Sy (nI q) (-9) t (nI j)) (fun j t => t = zIs (fun k => gJ Sx 13 (61 * q + k)) j) (fun r => r = (zIs (fun k => gJ Sx 13 (61 * q + k)) 61, Sy)) (by
    intro F j t hj hp
    rcases Nat.lt_or_ge j 61 with h1 | h1
    · refine Or.inr ⟨h1, zIs (fun k => gJ Sx 13 (61 * q + k)) (j + 1), ?_, rfl⟩
      show fX6_sum_50L (fX6_sum_50 F) Sy (nI q) (-9) t (nI j) = _
      unfold fX6_sum_50L
      refine z_f (z_nle (a := 61) h1 (by omega)) (z_t rfl ?_)
      rw [z_sum69 _ H hX hY hJ hq h1, hp]
      rfl
    · refine Or.inl ⟨(t, Sy), ?_, by rw [hp, show j = 61 by omega]⟩
      show fX6_sum_50L (fX6_sum_50 F) Sy (nI q) (-9) t (nI j) = _
      unfold fX6_sum_50L
      exact z_t (z_len (a := 61) h1 (by omega)) rfl) 61 gx_fuel 0 0 (by omega) (by have := z_fuelB; omega) (by omega) rfl
  obtain ⟨r, h1, h2⟩ := key
  rw [h2] at h1
  have e2 := zIs_hi (fun k => gJ Sx 13 (61 * q + k)) y (60 - y) (fun k a b => z_sumT hX hJ hq (by omega) a)
  rw [show y + 1 + (60 - y) = 61 by omega] at e2
  rw [← e2]
  exact h1
theorem z_sumO {w h n y q b : Nat} {Sx Sy : gS} {G : zG} (H : zRd w h Sx Sy) (hX : zX (zOp w h (gA Sy 5)) Sx G) (hY : zY Sy G) (hJ : zJn n (zOp w h (gA Sy 5)) y G) (hq : q ≤ 4) (hb : b ≤ 60) :
    fX6_sum_50 gx_fuel Sy (nI q) (nI b) 0 0 = some (gJ Sx 13 (61 * q + b), Sy) := by
  have key := z_loop 61 (fun F j (t : Int64) => fX6_sum_50 F Sy (nI q) (nI b) t (nI j)) (fun j t => t = if b < j then gJ Sx 13 (61 * q + b) else 0) (fun r => r = (gJ Sx 13 (61 * q + b), Sy)) (by
    intro F j t hj hp
    rcases Nat.lt_or_ge j 61 with h1 | h1
    · refine Or.inr ⟨h1, if b < j + 1 then gJ Sx 13 (61 * q + b) else 0, ?_, rfl⟩
      show fX6_sum_50L (fX6_sum_50 F) Sy (nI q) (nI b) t (nI j) = _
      unfold fX6_sum_50L
      refine z_f (z_nle (a := 61) h1 (by omega)) (z_f (z_nm9 (by omega)) ?_)
      by_cases e : j = b
      · subst e
        refine z_t rfl ?_
        rw [z_sum69 _ H hX hY hJ hq h1, hp, if_neg (Nat.lt_irrefl j), if_pos (by omega), Int64.zero_add]
      · refine z_f (by rw [z_eqN (by omega) (by omega)]; exact e) ?_
        show fX6_sum_50 F Sy (nI q) (nI b) t (nI j + 1) = _
        rw [z_inc, hp]
        by_cases e2 : b < j
        · rw [if_pos e2, if_pos (by omega)]
        · rw [if_neg e2, if_neg (by omega)]
    · refine Or.inl ⟨(t, Sy), ?_, by rw [hp, if_pos (by omega)]⟩
      show fX6_sum_50L (fX6_sum_50 F) Sy (nI q) (nI b) t (nI j) = _
      unfold fX6_sum_50L
      exact z_t (z_len (a := 61) h1 (by omega)) rfl) 61 gx_fuel 0 0 (by omega) (by have := z_fuelB; omega) (by omega) (by rw [if_neg (by omega)])
  obtain ⟨r, h1, h2⟩ := key
  rw [h2] at h1
  exact h1
theorem z_lies {w h : Nat} {Sx Sy : gS} (H : zLand w h Sx Sy) : (w = 0 ∧ fX1_lies 5 Sx = some (0, Sx) ∧ gI Sy 0 5 = 0) ∨ (0 < w ∧ fX1_lies 5 Sx = some (1, Sx) ∧ ¬ gI Sy 0 5 = 0) := by
  have hw : w ≤ 8 := by have := H.2.2.2.2.1; omega
  rcases Nat.eq_zero_or_pos w with h0 | h0
  · subst h0
    exact Or.inl ⟨rfl, z_t (by rw [H.1]; decide) rfl, H.2.2.1⟩
  · refine Or.inr ⟨h0, z_f (by rw [H.1]; exact z_nle (a := w) (b := 0) h0 (by omega)) rfl, ?_⟩
    rw [H.2.2.1, show (0 : Int32) = nI 0 from rfl, z_eqN (by omega) (by omega)]
    omega
theorem z_sum {n : Nat} {Sx Sy : gS} (hn : n < 512) (h : gR n Sx Sy) (a1 : Int32) (a2 : Int32) : ∃ (r : Int64) (Sx' Sy' : gS), fX5_sum Sx a1 a2 = some (r, Sx') ∧ fX6_sum Sy a1 a2 = some (r, Sy') ∧ gR (n + 1) Sx' Sy' := by
  obtain ⟨w, hh, y, g, s, HR, hw, hh8, hy, hx, hyy, hX, hY, hJ⟩ := z_rd h
  rcases z_rng a1 (b := 4) rfl (by omega) with ⟨q, hq, rfl, k1, k2, k3, k4⟩ | ⟨hb, k4⟩
  · have hl := z_lies HR.1
    by_cases h9 : a2 = -9
    · subst h9
      rcases hl with ⟨-, l1, l2⟩ | ⟨-, l1, l2⟩
      · exact ⟨-3, Sx, Sy, z_f k1 (z_t k2 (z_t rfl (z_b l1 (z_t rfl rfl)))), z_b (k4 _) (z_f (by decide) (z_t rfl (z_t l2 rfl))), z_skip hn h⟩
      · exact ⟨zIs (fun k => gJ Sx 13 (61 * q + k)) (y + 1), Sx, Sy, z_f k1 (z_t k2 (z_t rfl (z_b l1 (z_f (by decide) (z_t rfl (z_b (z_tallyX hq hy hx) rfl)))))), z_b (k4 _) (z_f (by decide) (z_t rfl (z_f l2 (z_sumA HR hX hY hJ hq hy)))), z_skip hn h⟩
    · rcases z_rng a2 (b := 60) rfl (by omega) with ⟨b, hb, rfl, j1, j2, j3, j4⟩ | ⟨hb, j4⟩
      · rcases hl with ⟨-, l1, l2⟩ | ⟨-, l1, l2⟩
        · exact ⟨-3, Sx, Sy, z_f k1 (z_t k2 (z_f h9 (z_f j1 (z_t j2 (z_b l1 (z_t rfl rfl)))))), z_b (k4 _) (z_f (by decide) (z_f h9 (z_b (j4 _) (z_f (by decide) (z_t l2 rfl))))), z_skip hn h⟩
        · refine ⟨gJ Sx 13 (61 * q + b), Sx, Sy, z_f k1 (z_t k2 (z_f h9 (z_f j1 (z_t j2 (z_b l1 (z_f (by decide) (z_f h9 ?_))))))), z_b (k4 _) (z_f (by decide) (z_f h9 (z_b (j4 _) (z_f (by decide) (z_f l2 (z_sumO HR hX hY hJ hq hb)))))), z_skip hn h⟩
          rw [z_m61]
          refine z_c rfl (by omega) (by omega) ?_
          rw [z_cl (by omega)]
      · refine ⟨-2, Sx, Sy, z_f k1 (z_t k2 (z_f h9 ?_)), z_b (k4 _) (z_f (by decide) (z_f h9 (z_b (j4 _) (z_t rfl rfl)))), z_skip hn h⟩
        rcases hb with hb | ⟨hb1, hb2, hb3⟩
        · exact z_t hb rfl
        · exact z_f hb1 (z_f hb2 rfl)
  · refine ⟨-2, _, _, ?_, z_b (k4 _) (z_t rfl rfl), z_skip hn h⟩
    rcases hb with hb | ⟨hb1, hb2, hb3⟩
    · exact z_t hb rfl
    · exact z_f hb1 (z_f hb2 rfl)

/-! strips -/
theorem z_inc (j : Nat) : nI j + 1 = nI (j + 1) := (nI_succ j).symm
theorem z_uprow (S : gS) (o k : Nat) (r : Nat → Int64) (v : Int64) : gJ_up (gJ_row S o r) o k v = gJ_row S o (fun j => if j = k then v else r j) := by
  unfold gJ_up gJ_row
  congr 2
  funext i j
  by_cases hi : i = o
  · subst hi; simp [gup, grow]
  · simp [gup, grow, hi]
theorem z_rowself (S : gS) (o : Nat) : gJ_row S o (gJ S o) = S := by
  unfold gJ_row
  obtain ⟨a, b, c⟩ := S
  congr 2
  funext i
  by_cases hi : i = o
  · subst hi; simp [grow, gJ]
  · simp [grow, hi]
theorem z_rowcg (S : gS) (o : Nat) {r r2 : Nat → Int64} (h : ∀ j, r j = r2 j) : gJ_row S o r = gJ_row S o r2 := by
  rw [show r = r2 from funext h]
theorem z_fill (a n : Nat) (hn : n ≤ 90000) (S : gS) (v : Int64) : fJ7_fill_d0a16 a n S v = some ((), gJ_row S a (fun k => if k < n then v else gJ S a k)) := by
  unfold fJ7_fill_d0a16
  rw [z_let]
  have key := z_loop n (fun f j s => fJ7_fill_d0a16_6 a n f s v (nI j) (nI n)) (fun j s => s = gJ_row S a (fun k => if k < j then v else gJ S a k)) (fun r => r = ((), gJ_row S a (fun k => if k < n then v else gJ S a k))) (by
    intro f j s hj hp
    rcases Nat.lt_or_ge j n with h | h
    · refine Or.inr ⟨h, gJ_up s a j v, ?_, ?_⟩
      · show fJ7_fill_d0a16_6L a n (fJ7_fill_d0a16_6 a n f) s v (nI j) (nI n) = _
        unfold fJ7_fill_d0a16_6L
        rw [if_neg (by rw [z_leN (by omega) (by omega)]; omega), z_chk h (by omega), z_let, z_let, z_cl (by omega), z_inc]
      · rw [hp, z_uprow]
        exact z_rowcg _ _ (fun k => by
          by_cases h1 : k = j
          · rw [if_pos h1, if_pos (by omega)]
          · rw [if_neg h1]
            by_cases h2 : k < j
            · rw [if_pos h2, if_pos (by omega)]
            · rw [if_neg h2, if_neg (by omega)])
    · refine Or.inl ⟨((), s), ?_, by rw [hp]; rw [show j = n by omega]⟩
      have e : j = n := by omega
      subst e
      show fJ7_fill_d0a16_6L a j (fJ7_fill_d0a16_6 a j f) s v (nI j) (nI j) = _
      unfold fJ7_fill_d0a16_6L
      rw [if_pos (by rw [z_leN (by omega) (by omega)]; omega)]) n gx_fuel 0 S (by omega) (by have := z_fuelB; omega) (by omega) (by
        rw [z_rowcg S a (r2 := gJ S a) (fun k => by rw [if_neg (by omega)]), z_rowself])
  obtain ⟨r, h1, h2⟩ := key
  rw [h2] at h1
  exact h1
theorem z_strX_t (S : gS) {s : Nat} (h : s < 8) : fX5_isStrip S (nI s) = some (1, S) := by
  unfold fX5_isStrip
  rw [if_neg (by rw [z_lt0 (by omega)]; exact id), if_neg (by rw [z_lit 8, z_leN (by omega) (by omega)]; omega)]
theorem z_strX_f (S : gS) {v : Int32} (h : v < 0 ∨ nI 8 ≤ v) : fX5_isStrip S v = some (0, S) := by
  unfold fX5_isStrip fX5_isStrip_14
  by_cases h1 : v < 0
  · rw [if_pos h1]
  · rw [if_neg h1]
    have h2 : (8 : Int32) ≤ v := h.resolve_left h1
    rw [if_pos h2]
theorem z_lt_of (v : Int32) {a b : Nat} (hb : b + 1 = a) (ha : a < 2147483648) (h : v < 0 ∨ nI a ≤ v) : v < nI 0 ∨ nI b < v := by
  rcases h with h | h
  · exact Or.inl h
  · refine Or.inr ?_
    rw [Int32.le_iff_toInt_le, nI_toInt (by omega)] at h
    rw [Int32.lt_iff_toInt_lt, nI_toInt (by omega)]
    omega
theorem z_inT0 (S : gS) {a b : Nat} (ha : a ≤ b) (hb : b < 2147483648) : fX6_in S (nI a).toInt64 (Int32.toInt64 0) (Int32.toInt64 (nI b)) = some (1, S) :=
  z_inT S (by rw [z_lt0 (by omega)]; exact id) (by rw [z_ltN (by omega) (by omega)]; omega)
theorem z_inF0 (S : gS) {v : Int32} {a b : Nat} (hb : b + 1 = a) (ha : a < 2147483648) (h : v < 0 ∨ nI a ≤ v) : fX6_in S v.toInt64 (Int32.toInt64 0) (Int32.toInt64 (nI b)) = some (0, S) := z_inF S (z_lt_of v hb ha h)
theorem z_strY_t (S : gS) {s : Nat} (h : s < 8) : fX6_isStrip S (nI s) = some (1, S) := by
  exact z_b (z_inT0 S (a := s) (b := 7) (by omega) (by omega)) rfl
theorem z_strY_f (S : gS) {v : Int32} (h : v < 0 ∨ nI 8 ≤ v) : fX6_isStrip S v = some (0, S) := by
  exact z_b (z_inF0 S (v := v) (a := 8) (b := 7) rfl (by omega) h) rfl
theorem z_laneX_t (S : gS) {s : Nat} (h : s < 3) : fX5_isLane S (nI s) = some (1, S) := by
  unfold fX5_isLane
  rw [if_neg (by rw [z_lt0 (by omega)]; exact id), if_neg (by rw [z_lit 2, z_ltN (by omega) (by omega)]; omega)]
theorem z_laneX_f (S : gS) {v : Int32} (h : v < 0 ∨ nI 3 ≤ v) : fX5_isLane S v = some (0, S) := by
  unfold fX5_isLane fX5_isLane_13
  by_cases h1 : v < 0
  · rw [if_pos h1]
  · rw [if_neg h1]
    have h2 : (2 : Int32) < v := (z_lt_of v (a := 3) (b := 2) rfl (by omega) h).resolve_left h1
    rw [if_pos h2]
theorem z_wk (s : Nat) : (nI s).toNatClampNeg = s ∨ True := Or.inr trivial
/-- both sides count a failure -/
theorem z_failX (S : gS) (v : Int32) : fX5_fail S v = some (-10 - v, gI_up S 0 9 (gI S 0 9 + 1)) := rfl
theorem z_failY (S : gS) (v : Int32) : fX6_failed S v = some (-10 - v, gI_up S 0 3 (gI S 0 3 + 1)) := rfl
theorem z_fail {n : Nat} {Sx Sy : gS} (hR : gR n Sx Sy) : gR (n + 1) (gI_up Sx 0 9 (gI Sx 0 9 + 1)) (gI_up Sy 0 3 (gI Sy 0 3 + 1)) := by
  obtain ⟨h1, h2, h3⟩ := hR
  have sx : ∀ lo hi, 1 ≤ lo → zSame lo hi Sx (gI_up Sx 0 9 (gI Sx 0 9 + 1)) := fun lo hi hlo o a b => ⟨by funext j; rw [z_II, if_neg (by omega)], rfl, rfl⟩
  have sy : ∀ k, k ≠ 3 → gI (gI_up Sy 0 3 (gI Sy 0 3 + 1)) 0 k = gI Sy 0 k := fun k hk => by rw [z_II, if_neg (by omega)]
  refine ⟨⟨?_, fun s hs => ?_⟩, zTold_fr (sx _ _ (by omega)) rfl rfl (sy _ (by omega)) (sy _ (by omega)) h2, zMain_fr (Nat.le_succ n) (sx _ _ (by omega)) ⟨rfl, rfl, rfl, rfl, rfl, rfl, rfl, sy _ (by omega), sy _ (by omega), sy _ (by omega), sy _ (by omega), sy _ (by omega)⟩ h3⟩
  · rw [z_II, z_II, if_pos ⟨rfl, rfl⟩, if_pos ⟨rfl, rfl⟩, h1.1]
  · have h := h1.2 s hs
    unfold zS1 at h ⊢
    simp only [z_II, z_AI, z_JI]
    rw [if_neg (by omega), if_neg (by omega), if_neg (by omega)]
    exact h

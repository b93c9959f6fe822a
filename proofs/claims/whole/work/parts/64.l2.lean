/-! layers -/
def zLc (f : Nat → Nat) : Nat → Nat
  | 0 => 0
  | k + 1 => zLc f k + if f k = 0 then 0 else 1
theorem zLc_le (f : Nat → Nat) : ∀ k, zLc f k ≤ k
  | 0 => Nat.le_refl 0
  | k + 1 => by
    have := zLc_le f k
    unfold zLc
    split <;> omega
theorem zLc_hi (f : Nat → Nat) (y : Nat) (h : ∀ k, y < k → f k = 0) : ∀ d, zLc f (y + 1 + d) = zLc f (y + 1)
  | 0 => rfl
  | d + 1 => by
    show zLc f (y + 1 + d) + (if f (y + 1 + d) = 0 then 0 else 1) = _
    rw [if_pos (h _ (by omega)), zLc_hi f y h d]
    rfl
def zLy (f : Nat → Nat) : Nat → Nat → Option Nat
  | 0, _ => none
  | k + 1, i => if f k = 0 then zLy f k i else if i = 0 then some k else zLy f k (i - 1)
theorem zLy_hi (f : Nat → Nat) (y : Nat) (h : ∀ k, y < k → f k = 0) (i : Nat) : ∀ d, zLy f (y + 1 + d) i = zLy f (y + 1) i
  | 0 => rfl
  | d + 1 => by
    show (if f (y + 1 + d) = 0 then zLy f (y + 1 + d) i else _) = _
    rw [if_pos (h _ (by omega)), zLy_hi f y h i d]
theorem zLy_lt (f : Nat → Nat) {j : Nat} : ∀ k i, zLy f k i = some j → j < k
  | 0, i, h => absurd h (by simp [zLy])
  | k + 1, i, h => by
    unfold zLy at h
    split at h
    · have := zLy_lt f k i h; omega
    · split at h
      · injection h with h; omega
      · have := zLy_lt f k (i - 1) h; omega
def zOr : Option Nat → Int32
  | none => -9
  | some k => nI k
theorem z_le0 {a : Nat} (h : a < 9223372036854775808) : (lN a ≤ 0) = (a = 0) := by
  rw [show (0 : Int64) = lN 0 from rfl, z_leL h (by omega)]
  exact propext ⟨fun q => by omega, fun q => by omega⟩
theorem z_lcX {S : gS} {c y : Nat} {f : Nat → Nat} (hc : c < 64) (hy : y ≤ 60) (hyr : gI S 10 3 = nI y) (hr : ∀ k, k < 61 → gJ S 11 (61 * c + k) = lN (f k)) (hb : ∀ k, k < 61 → f k < 9223372036854775808) : fX0_layerCount 10 S (nI c) = some (nI (zLc f (y + 1)), S) := by
  have key := z_loop (y + 1) (fun F j (t : Int32) => fX0_layerCount_4 10 F S (nI c) t (nI j)) (fun j t => t = nI (zLc f j)) (fun r => r = (nI (zLc f (y + 1)), S)) (by
    intro F j t hj hp
    rcases Nat.lt_or_ge j (y + 1) with h1 | h1
    · refine Or.inr ⟨h1, nI (zLc f (j + 1)), ?_, rfl⟩
      show fX0_layerCount_4L 10 (fX0_layerCount_4 10 F) S (nI c) t (nI j) = _
      unfold fX0_layerCount_4L
      rw [hyr, z_m61]
      refine z_f (z_nlt (by omega) (by omega)) (z_c rfl (by omega) (by omega) ?_)
      rw [z_cl (by omega), hr j (by omega)]
      by_cases h2 : f j = 0
      · refine z_t (by rw [z_le0 (hb j (by omega))]; exact h2) ?_
        show fX0_layerCount_4 10 F S (nI c) t (nI j + 1) = _
        rw [z_inc, hp]
        show _ = fX0_layerCount_4 10 F S (nI c) (nI (zLc f j + if f j = 0 then 0 else 1)) (nI (j + 1))
        rw [if_pos h2]
        rfl
      · refine z_f (by rw [z_le0 (hb j (by omega))]; exact h2) ?_
        rw [z_let]
        show fX0_layerCount_4 10 F S (nI c) (t + 1) (nI j + 1) = _
        rw [z_inc, hp, z_inc]
        show _ = fX0_layerCount_4 10 F S (nI c) (nI (zLc f j + if f j = 0 then 0 else 1)) (nI (j + 1))
        rw [if_neg h2]
    · refine Or.inl ⟨(t, S), ?_, by rw [hp, show j = y + 1 by omega]⟩
      show fX0_layerCount_4L 10 (fX0_layerCount_4 10 F) S (nI c) t (nI j) = _
      unfold fX0_layerCount_4L
      exact z_t (by rw [hyr]; exact z_ltn (by omega) (by omega)) rfl) (y + 1) gx_fuel 0 0 (by omega) (by have := z_fuelB; omega) (by omega) rfl
  obtain ⟨r, h1, h2⟩ := key
  rw [h2] at h1
  exact h1
theorem z_lcY {S : gS} {c : Nat} {f : Nat → Nat} (hc : c < 64) (hr : ∀ k, k < 61 → gJ S 8 (61 * c + k) = lN (f k)) (hb : ∀ k, k < 61 → f k < 9223372036854775808) : fX6_layers S (nI c) = some (nI (zLc f 61), S) := by
  have key := z_loop 61 (fun F j (t : Int32) => fX6_layers_4 F S (nI c) t (nI j)) (fun j t => t = nI (zLc f j)) (fun r => r = (nI (zLc f 61), S)) (by
    intro F j t hj hp
    rcases Nat.lt_or_ge j 61 with h1 | h1
    · refine Or.inr ⟨h1, nI (zLc f (j + 1)), ?_, rfl⟩
      show fX6_layers_4L (fX6_layers_4 F) S (nI c) t (nI j) = _
      unfold fX6_layers_4L
      rw [z_61m]
      refine z_f (z_nle (a := 61) h1 (by omega)) (z_c rfl (by omega) (by omega) ?_)
      rw [z_cl (by omega), hr j (by omega)]
      by_cases h2 : f j = 0
      · refine z_t (by rw [z_le0 (hb j (by omega))]; exact h2) ?_
        show fX6_layers_4 F S (nI c) (t + 0) (nI j + 1) = _
        rw [z_inc, hp, Int32.add_zero]
        show _ = fX6_layers_4 F S (nI c) (nI (zLc f j + if f j = 0 then 0 else 1)) (nI (j + 1))
        rw [if_pos h2]
        rfl
      · refine z_f (by rw [z_le0 (hb j (by omega))]; exact h2) ?_
        show fX6_layers_4 F S (nI c) (t + 1) (nI j + 1) = _
        rw [z_inc, hp, z_inc]
        show _ = fX6_layers_4 F S (nI c) (nI (zLc f j + if f j = 0 then 0 else 1)) (nI (j + 1))
        rw [if_neg h2]
    · refine Or.inl ⟨(t, S), ?_, by rw [hp, show j = 61 by omega]⟩
      show fX6_layers_4L (fX6_layers_4 F) S (nI c) t (nI j) = _
      unfold fX6_layers_4L
      exact z_t (z_len (a := 61) (by omega) (by omega)) rfl) 61 gx_fuel 0 0 (by omega) (by have := z_fuelB; omega) (by omega) rfl
  obtain ⟨r, h1, h2⟩ := key
  rw [h2] at h1
  exact h1
theorem z_lyX {S : gS} {c b : Nat} {f : Nat → Nat} (hc : c < 64) (hb2 : b < 2147483648) (hr : ∀ k, k < 61 → gJ S 11 (61 * c + k) = lN (f k)) (hb : ∀ k, k < 61 → f k < 9223372036854775808) : ∀ (m F a : Nat), m < F → m ≤ 61 → a ≤ b → fX0_layerYear_8 10 F S (nI c) (nI b) (nI a) (zD m) = some (zOr (zLy f m (b - a)), S)
  | 0, F, a, hF, hm, ha => by
    obtain ⟨F, rfl⟩ : ∃ g, F = g + 1 := ⟨F - 1, by omega⟩
    show fX0_layerYear_8L 10 (fX0_layerYear_8 10 F) S (nI c) (nI b) (nI a) (zD 0) = _
    unfold fX0_layerYear_8L
    exact z_t zD_0 rfl
  | m + 1, F, a, hF, hm, ha => by
    obtain ⟨F, rfl⟩ : ∃ g, F = g + 1 := ⟨F - 1, by omega⟩
    show fX0_layerYear_8L 10 (fX0_layerYear_8 10 F) S (nI c) (nI b) (nI a) (zD (m + 1)) = _
    unfold fX0_layerYear_8L
    refine z_f (zD_lt (by omega)) ?_
    rw [zD_s, z_m61]
    refine z_c rfl (by omega) (by omega) ?_
    rw [z_cl (by omega), hr m (by omega)]
    by_cases h2 : f m = 0
    · refine z_t (by rw [z_le0 (hb m (by omega))]; exact h2) ?_
      show fX0_layerYear_8 10 F S (nI c) (nI b) (nI a) (nI m + -1) = _
      rw [zD_n, z_lyX hc hb2 hr hb m F a (by omega) (by omega) ha]
      unfold zLy
      rw [if_pos h2]
      cases m <;> rfl
    · refine z_f (by rw [z_le0 (hb m (by omega))]; exact h2) ?_
      by_cases h3 : a = b
      · subst h3
        refine z_t rfl ?_
        show _ = some (zOr (if f m = 0 then zLy f m (a - a) else if a - a = 0 then some m else zLy f m (a - a - 1)), S)
        rw [if_neg h2, if_pos (by omega)]
        rfl
      · refine z_f (by rw [z_eqN (by omega) (by omega)]; exact h3) ?_
        rw [z_let, z_inc]
        show fX0_layerYear_8 10 F S (nI c) (nI b) (nI (a + 1)) (nI m + -1) = _
        rw [zD_n, z_lyX hc hb2 hr hb m F (a + 1) (by omega) (by omega) (by omega)]
        show _ = some (zOr (if f m = 0 then zLy f m (b - a) else if b - a = 0 then some m else zLy f m (b - a - 1)), S)
        rw [if_neg h2, if_neg (by omega), show b - (a + 1) = b - a - 1 by omega]
theorem z_lyXn {S : gS} {c : Nat} {v : Int32} (hc : c < 64) (hv : v < 0) : ∀ (m F a : Nat), m < F → m ≤ 61 → a + m < 1000 → fX0_layerYear_8 10 F S (nI c) v (nI a) (zD m) = some (-9, S)
  | 0, F, a, hF, hm, ha => by
    obtain ⟨F, rfl⟩ : ∃ g, F = g + 1 := ⟨F - 1, by omega⟩
    show fX0_layerYear_8L 10 (fX0_layerYear_8 10 F) S (nI c) v (nI a) (zD 0) = _
    unfold fX0_layerYear_8L
    exact z_t zD_0 rfl
  | m + 1, F, a, hF, hm, ha => by
    obtain ⟨F, rfl⟩ : ∃ g, F = g + 1 := ⟨F - 1, by omega⟩
    show fX0_layerYear_8L 10 (fX0_layerYear_8 10 F) S (nI c) v (nI a) (zD (m + 1)) = _
    unfold fX0_layerYear_8L
    refine z_f (zD_lt (by omega)) ?_
    rw [zD_s, z_m61]
    refine z_c rfl (by omega) (by omega) ?_
    by_cases h2 : gJ S (10 + 1) (nI (61 * c + m)).toNatClampNeg ≤ 0
    · refine z_t h2 ?_
      show fX0_layerYear_8 10 F S (nI c) v (nI a) (nI m + -1) = _
      rw [zD_n]
      exact z_lyXn hc hv m F a (by omega) (by omega) (by omega)
    · refine z_f h2 (z_f (fun e => ?_) ?_)
      · rw [← e] at hv
        exact z_nneg (by omega) hv
      · rw [z_let, z_inc]
        show fX0_layerYear_8 10 F S (nI c) v (nI (a + 1)) (nI m + -1) = _
        rw [zD_n]
        exact z_lyXn hc hv m F (a + 1) (by omega) (by omega) (by omega)
theorem z_lyY {S : gS} {c : Nat} {v : Int32} {f : Nat → Nat} (hc : c < 64) (hv : ¬ v < 0) (hr : ∀ k, k < 61 → gJ S 8 (61 * c + k) = lN (f k)) (hb : ∀ k, k < 61 → f k < 9223372036854775808) : ∀ (m F i : Nat), m < F → m ≤ 61 → i < 2147483648 → fX6_layerOf_6 F S (nI c) v (nI i) (zD m) = some (zOr (zLy f m i), S)
  | 0, F, i, hF, hm, hi => by
    obtain ⟨F, rfl⟩ : ∃ g, F = g + 1 := ⟨F - 1, by omega⟩
    show fX6_layerOf_6L (fX6_layerOf_6 F) S (nI c) v (nI i) (zD 0) = _
    unfold fX6_layerOf_6L
    exact z_t zD_0 rfl
  | m + 1, F, i, hF, hm, hi => by
    obtain ⟨F, rfl⟩ : ∃ g, F = g + 1 := ⟨F - 1, by omega⟩
    show fX6_layerOf_6L (fX6_layerOf_6 F) S (nI c) v (nI i) (zD (m + 1)) = _
    unfold fX6_layerOf_6L
    refine z_f (zD_lt (by omega)) (z_f hv ?_)
    rw [zD_s, z_61m]
    refine z_c rfl (by omega) (by omega) ?_
    rw [z_cl (by omega), hr m (by omega)]
    by_cases h2 : f m = 0
    · refine z_t (by rw [z_le0 (hb m (by omega))]; exact h2) ?_
      show fX6_layerOf_6 F S (nI c) v (nI i) (nI m + -1) = _
      rw [zD_n, z_lyY hc hv hr hb m F i (by omega) (by omega) hi]
      show _ = some (zOr (if f m = 0 then zLy f m i else if i = 0 then some m else zLy f m (i - 1)), S)
      rw [if_pos h2]
    · refine z_f (by rw [z_le0 (hb m (by omega))]; exact h2) ?_
      show (if nI i = 0 then some (nI m, S) else fX6_layerOf_6 F S (nI c) v (nI i + -1) (nI m + -1)) = some (zOr (if f m = 0 then zLy f m i else if i = 0 then some m else zLy f m (i - 1)), S)
      by_cases h3 : i = 0
      · subst h3
        refine z_t rfl ?_
        rw [if_neg h2, if_pos rfl]
        rfl
      · refine z_f (by rw [show (0 : Int32) = nI 0 from rfl, z_eqN (by omega) (by omega)]; exact h3) ?_
        rw [(z_dn1 (show 1 ≤ i by omega)).1, zD_n, z_lyY hc hv hr hb m F (i - 1) (by omega) (by omega) (by omega), if_neg h2, if_neg h3]
/-- both sides find the same layer -/
theorem z_layEq {n y c : Nat} {op : Nat → Prop} {Sx Sy : gS} {G : zG} (hX : zX op Sx G) (hY : zY Sy G) (hJ : zJn n op y G) (hn : n ≤ 2000000000) (hc : c < 64) (ho : op c) (hy : y ≤ 60) (hyr : gI Sx 10 3 = nI y) (v : Int32) :
    ∃ r, fX0_layerYear 10 Sx (nI c) v = some (zOr r, Sx) ∧ fX6_layerOf Sy (nI c) v = some (zOr r, Sy) ∧ ∀ k, r = some k → k ≤ y := by
  have hbd : ∀ k, k < 61 → G.1 c k < 9223372036854775808 := fun k hk => by have := zJn_g hJ hc hk; omega
  by_cases hv : v < 0
  · refine ⟨none, ?_, ?_, fun k e => absurd e (by simp)⟩
    · unfold fX0_layerYear
      rw [z_let, hyr, ← zD_s y]
      exact z_lyXn hc hv (y + 1) gx_fuel 0 (by have := z_fuelB; omega) (by omega) (by omega)
    · have e : gx_fuel = 99999 + 1 := rfl
      unfold fX6_layerOf
      rw [e]
      show fX6_layerOf_6L (fX6_layerOf_6 99999) Sy (nI c) v v (nI 60) = _
      unfold fX6_layerOf_6L
      exact z_f (z_nneg (by omega)) (z_t hv rfl)
  · obtain ⟨b, hb, rfl⟩ := nI_of hv
    refine ⟨zLy (G.1 c) (y + 1) b, ?_, ?_, fun k e => by have := zLy_lt _ _ _ e; omega⟩
    · unfold fX0_layerYear
      rw [z_let, hyr, ← zD_s y]
      exact z_lyX hc hb (fun k hk => zX_g hX ho hk) hbd (y + 1) gx_fuel 0 (by have := z_fuelB; omega) (by omega) (by omega)
    · unfold fX6_layerOf
      have e : (60 : Int32) = zD 61 := rfl
      have e2 := zLy_hi (G.1 c) y (fun k hk => hJ.2.1 c k hk) b (60 - y)
      rw [show y + 1 + (60 - y) = 61 by omega] at e2
      rw [e, z_lyY hc hv (fun k hk => hY.1 c k hc hk) hbd 61 gx_fuel b (by have := z_fuelB; omega) (by omega) (by omega), e2]
theorem z_lcEq {n y c : Nat} {op : Nat → Prop} {Sx Sy : gS} {G : zG} (hX : zX op Sx G) (hY : zY Sy G) (hJ : zJn n op y G) (hn : n ≤ 2000000000) (hc : c < 64) (ho : op c) (hy : y ≤ 60) (hyr : gI Sx 10 3 = nI y) :
    ∃ r, fX0_layerCount 10 Sx (nI c) = some (r, Sx) ∧ fX6_layers Sy (nI c) = some (r, Sy) := by
  have hbd : ∀ k, k < 61 → G.1 c k < 9223372036854775808 := fun k hk => by have := zJn_g hJ hc hk; omega
  have e2 := zLc_hi (G.1 c) y (fun k hk => hJ.2.1 c k hk) (60 - y)
  rw [show y + 1 + (60 - y) = 61 by omega] at e2
  refine ⟨_, z_lcX hc hy hyr (fun k hk => zX_g hX ho hk) hbd, ?_⟩
  rw [z_lcY hc (fun k hk => hY.1 c k hc hk) hbd, e2]
theorem z_cell {n : Nat} {Sx Sy : gS} (hn : n < 512) (h : gR n Sx Sy) (a1 : Int32) (a2 : Int32) (a3 : Int32) : ∃ (r : Int64) (Sx' Sy' : gS), fX5_cell Sx a1 a2 a3 = some (r, Sx') ∧ fX6_cell Sy a1 a2 a3 = some (r, Sy') ∧ gR (n + 1) Sx' Sy' := by
  obtain ⟨w, hh, y, g, s, HR, hw, hh8, hy, hx, hyy, hX, hY, hJ⟩ := z_rd h
  rcases z_place HR.1 a1 a2 with ⟨x, z, hx1, hz1, -, -, rfl, rfl, pX, pY⟩ | ⟨pX, pY⟩
  · obtain ⟨hc, c1, c2⟩ := z_xy hx1 hz1 hw hh8
    have hcc := zRd_kd HR hc
    rcases z_rng a3 (b := 6) rfl (by omega) with ⟨v, hv, rfl, k1, k2, k3, k4⟩ | ⟨hb, k4⟩
    · by_cases h4 : gA Sy 5 (8 * z + x) = 4
      · refine ⟨-3, Sx, Sy, z_b pX (z_f (z_nm1 (by omega)) (z_f k1 (z_t k2 (z_c rfl hc (by omega) (z_t (by rw [z_cl (by omega), hcc]; exact h4) rfl))))), z_b pY (z_f (by decide) (z_b (k4 _) (z_f (by decide) ?_))), z_skip hn h⟩
        rw [z_let, z_yplace Sy]
        exact z_c rfl hc (by omega) (z_t (by rw [z_cl (by omega)]; exact h4) rfl)
      · have ho : zOp w hh (gA Sy 5) (8 * z + x) := ⟨hc, by omega, by omega, h4⟩
        have l1 := zRd_lev HR hc
        have t1 := (hX.1 _ ho).2
        have t2 := z_thick hc (fun k hk => hY.1 _ k hc hk)
        obtain ⟨m, m1, m2⟩ := z_lcEq hX hY hJ (by omega) hc ho hy hx
        obtain ⟨r0, q1, q2, -⟩ := z_layEq hX hY hJ (by omega) hc ho hy hx 0
        obtain ⟨r9, u1, u2, -⟩ := z_layEq hX hY hJ (by omega) hc ho hy hx (m - 1)
        have preX : ∀ R, (if nI v = 0 then some ((gA Sx 6 (8 * z + x)).toInt64, Sx) else if nI v = 1 then some (gJ Sx 12 (8 * z + x), Sx) else if nI v = 2 then (gx_bind (fX5_surface Sx (nI (8 * z + x))) fun r118 S118 => some (r118, S118)) else
            if nI v = 3 then (gx_bind (fX0_layerCount 10 Sx (nI (8 * z + x))) fun r128 S128 => some (r128.toInt64, S128)) else if nI v = 4 then (gx_bind (fX0_layerYear 10 Sx (nI (8 * z + x)) 0) fun r140 S140 => some (r140.toInt64, S140)) else
            if nI v = 5 then (gx_bind (fX0_layerCount 10 Sx (nI (8 * z + x))) fun r157 S157 => gx_bind (fX0_layerYear 10 S157 (nI (8 * z + x)) (r157 - 1)) fun r162 S162 => some (r162.toInt64, S162)) else
            gx_bind (fX1_band 5 Sx (nI (8 * z + x))) fun r173 S173 => some (r173.toInt64, S173)) = R → fX5_cell Sx (nI x) (nI z) (nI v) = R := fun R hR => by
          refine z_b pX (z_f (z_nm1 (by omega)) (z_f k1 (z_t k2 (z_c rfl hc (by omega) (z_f (by rw [z_cl (by omega), hcc]; exact h4) ?_)))))
          rw [← hR]
          refine z_if (z_c rfl hc (by omega) (by rw [z_cl (by omega)])) (z_if (z_c rfl hc (by omega) (by rw [z_cl (by omega)])) rfl)
        have preY : ∀ R, (if nI v = 0 then some ((gA Sy 7 (8 * z + x)).toInt64, Sy) else if nI v = 1 then (gx_bind (fX6_thick Sy (nI (8 * z + x))) fun r104 S104 => some (r104, S104)) else if nI v = 2 then (gx_bind (fX6_thick Sy (nI (8 * z + x))) fun r119 S119 => some ((gA Sy 7 (8 * z + x)).toInt64 + r119, S119)) else
            if nI v = 3 then (gx_bind (fX6_layers Sy (nI (8 * z + x))) fun r127 S127 => some (r127.toInt64, S127)) else if nI v = 4 then (gx_bind (fX6_layerOf Sy (nI (8 * z + x)) 0) fun r136 S136 => some (r136.toInt64, S136)) else
            if nI v = 5 then (gx_bind (fX6_layers Sy (nI (8 * z + x))) fun r147 S147 => gx_bind (fX6_layerOf S147 (nI (8 * z + x)) (r147 - 1)) fun r152 S152 => some (r152.toInt64, S152)) else
            some ((gA Sy 7 (8 * z + x) / 1000).toInt64, Sy)) = R → fX6_cell Sy (nI x) (nI z) (nI v) = R := fun R hR => by
          refine z_b pY (z_f (by decide) (z_b (k4 _) (z_f (by decide) ?_)))
          rw [z_let, z_yplace Sy]
          refine z_c rfl hc (by omega) (z_f (by rw [z_cl (by omega)]; exact h4) ?_)
          rw [← hR]
          refine z_if (z_c rfl hc (by omega) (by rw [z_cl (by omega)])) (z_if rfl (z_if (z_c rfl hc (by omega) (by rw [z_cl (by omega)])) (z_if rfl (z_if rfl (z_if rfl (z_c rfl hc (by omega) (by rw [z_cl (by omega)])))))))
        by_cases e0 : nI v = 0
        · exact ⟨(gA Sy 7 (8 * z + x)).toInt64, Sx, Sy, preX _ (z_t e0 (by rw [l1.2.1, l1.1])), preY _ (z_t e0 rfl), z_skip hn h⟩
        by_cases e1 : nI v = 1
        · exact ⟨lN (gsum (g (8 * z + x)) 61), Sx, Sy, preX _ (z_f e0 (z_t e1 (by rw [t1]))), preY _ (z_f e0 (z_t e1 (z_b t2 rfl))), z_skip hn h⟩
        by_cases e2 : nI v = 2
        · refine ⟨(gA Sy 7 (8 * z + x)).toInt64 + lN (gsum (g (8 * z + x)) 61), Sx, Sy, preX _ (z_f e0 (z_f e1 (z_t e2 (z_b (z_c rfl hc (by omega) (z_c rfl hc (by omega) ?_)) rfl)))), preY _ (z_f e0 (z_f e1 (z_t e2 (z_b t2 rfl)))), z_skip hn h⟩
          rw [z_cl (by omega), t1, l1.2.1, l1.1]
        by_cases e3 : nI v = 3
        · exact ⟨m.toInt64, Sx, Sy, preX _ (z_f e0 (z_f e1 (z_f e2 (z_t e3 (z_b m1 rfl))))), preY _ (z_f e0 (z_f e1 (z_f e2 (z_t e3 (z_b m2 rfl))))), z_skip hn h⟩
        by_cases e4 : nI v = 4
        · exact ⟨(zOr r0).toInt64, Sx, Sy, preX _ (z_f e0 (z_f e1 (z_f e2 (z_f e3 (z_t e4 (z_b q1 rfl)))))), preY _ (z_f e0 (z_f e1 (z_f e2 (z_f e3 (z_t e4 (z_b q2 rfl)))))), z_skip hn h⟩
        by_cases e5 : nI v = 5
        · exact ⟨(zOr r9).toInt64, Sx, Sy, preX _ (z_f e0 (z_f e1 (z_f e2 (z_f e3 (z_f e4 (z_t e5 (z_b m1 (z_b u1 rfl)))))))), preY _ (z_f e0 (z_f e1 (z_f e2 (z_f e3 (z_f e4 (z_t e5 (z_b m2 (z_b u2 rfl)))))))), z_skip hn h⟩
        · refine ⟨(gA Sy 7 (8 * z + x) / 1000).toInt64, Sx, Sy, preX _ (z_f e0 (z_f e1 (z_f e2 (z_f e3 (z_f e4 (z_f e5 (z_b (z_c rfl hc (by omega) ?_) rfl))))))), preY _ (z_f e0 (z_f e1 (z_f e2 (z_f e3 (z_f e4 (z_f e5 rfl)))))), z_skip hn h⟩
          rw [z_cl (by omega), l1.2.1, l1.1]
    · refine ⟨-2, _, _, z_b pX (z_f (z_nm1 (by omega)) ?_), z_b pY (z_f (by decide) (z_b (k4 _) (z_t rfl rfl))), z_skip hn h⟩
      rcases hb with hb | ⟨hb1, hb2, hb3⟩
      · exact z_t hb rfl
      · exact z_f hb1 (z_f hb2 rfl)
  · exact ⟨-1, _, _, z_b pX (z_t rfl rfl), z_b pY (z_t rfl rfl), z_skip hn h⟩
theorem z_layer {n : Nat} {Sx Sy : gS} (hn : n < 512) (h : gR n Sx Sy) (a1 : Int32) (a2 : Int32) (a3 : Int32) (a4 : Int32) : ∃ (r : Int64) (Sx' Sy' : gS), fX5_layer Sx a1 a2 a3 a4 = some (r, Sx') ∧ fX6_layer Sy a1 a2 a3 a4 = some (r, Sy') ∧ gR (n + 1) Sx' Sy' := by
  obtain ⟨w, hh, y, g, s, HR, hw, hh8, hy, hx, hyy, hX, hY, hJ⟩ := z_rd h
  rcases z_place HR.1 a1 a2 with ⟨x, z, hx1, hz1, -, -, rfl, rfl, pX, pY⟩ | ⟨pX, pY⟩
  · obtain ⟨hc, c1, c2⟩ := z_xy hx1 hz1 hw hh8
    have hcc := zRd_kd HR hc
    rcases z_rng a4 (b := 1) rfl (by omega) with ⟨v, hv, rfl, k1, k2, k3, k4⟩ | ⟨hb, k4⟩
    · by_cases h4 : gA Sy 5 (8 * z + x) = 4
      · refine ⟨-3, Sx, Sy, z_b pX (z_f (z_nm1 (by omega)) (z_f k1 (z_t k2 (z_c rfl hc (by omega) (z_t (by rw [z_cl (by omega), hcc]; exact h4) rfl))))), z_b pY (z_f (by decide) (z_b (k4 _) (z_f (by decide) ?_))), z_skip hn h⟩
        rw [z_let, z_yplace Sy]
        exact z_c rfl hc (by omega) (z_t (by rw [z_cl (by omega)]; exact h4) rfl)
      · have ho : zOp w hh (gA Sy 5) (8 * z + x) := ⟨hc, by omega, by omega, h4⟩
        obtain ⟨r, q1, q2, q3⟩ := z_layEq hX hY hJ (by omega) hc ho hy hx a3
        have preX : ∀ R, (if zOr r = -9 then some ((zOr r).toInt64, Sx) else if nI v = 0 then some ((zOr r).toInt64, Sx) else gx_chk ((nI (8 * z + x) * 61) + zOr r) 3904 <| some (gJ Sx 11 ((nI (8 * z + x) * 61) + zOr r).toNatClampNeg, Sx)) = R → fX5_layer Sx (nI x) (nI z) a3 (nI v) = R := fun R hR => by
          refine z_b pX (z_f (z_nm1 (by omega)) (z_f k1 (z_t k2 (z_c rfl hc (by omega) (z_f (by rw [z_cl (by omega), hcc]; exact h4) (z_b q1 hR))))))
        have preY : ∀ R, (if zOr r = -9 then some (-9, Sy) else if nI v = 0 then some ((zOr r).toInt64, Sy) else gx_chk ((61 * nI (8 * z + x)) + zOr r) 3904 <| some (gJ Sy 8 ((61 * nI (8 * z + x)) + zOr r).toNatClampNeg, Sy)) = R → fX6_layer Sy (nI x) (nI z) a3 (nI v) = R := fun R hR => by
          refine z_b pY (z_f (by decide) (z_b (k4 _) (z_f (by decide) ?_)))
          rw [z_let, z_yplace Sy]
          exact z_c rfl hc (by omega) (z_f (by rw [z_cl (by omega)]; exact h4) (z_b q2 hR))
        cases r with
        | none => exact ⟨-9, Sx, Sy, preX _ (z_t rfl rfl), preY _ (z_t rfl rfl), z_skip hn h⟩
        | some k =>
          have hk := q3 k rfl
          have hne : ¬ zOr (some k) = -9 := z_nm9 (by omega)
          by_cases e0 : nI v = 0
          · exact ⟨(nI k).toInt64, Sx, Sy, preX _ (z_f hne (z_t e0 rfl)), preY _ (z_f hne (z_t e0 rfl)), z_skip hn h⟩
          · refine ⟨lN (g (8 * z + x) k), Sx, Sy, preX _ (z_f hne (z_f e0 ?_)), preY _ (z_f hne (z_f e0 ?_)), z_skip hn h⟩
            · show gx_chk (nI (8 * z + x) * 61 + nI k) 3904 (some (gJ Sx 11 (nI (8 * z + x) * 61 + nI k).toNatClampNeg, Sx)) = _
              rw [z_m61]
              refine z_c rfl (by omega) (by omega) ?_
              rw [z_cl (by omega), zX_g hX ho (by omega)]
            · show gx_chk (61 * nI (8 * z + x) + nI k) 3904 (some (gJ Sy 8 (61 * nI (8 * z + x) + nI k).toNatClampNeg, Sy)) = _
              rw [z_61m]
              refine z_c rfl (by omega) (by omega) ?_
              rw [z_cl (by omega), hY.1 _ k hc (by omega)]
    · refine ⟨-2, _, _, z_b pX (z_f (z_nm1 (by omega)) ?_), z_b pY (z_f (by decide) (z_b (k4 _) (z_t rfl rfl))), z_skip hn h⟩
      rcases hb with hb | ⟨hb1, hb2, hb3⟩
      · exact z_t hb rfl
      · exact z_f hb1 (z_f hb2 rfl)
  · exact ⟨-1, _, _, z_b pX (z_t rfl rfl), z_b pY (z_t rfl rfl), z_skip hn h⟩

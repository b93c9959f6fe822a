/-! the years that can be taken back -/
theorem z_m5 {r : Nat} (h : r < 1000) : nI r - nI r / 5 * 5 = nI (r % 5) := by
  rw [z_lit 5, z_div (by omega) (by omega) (by omega), z_mul, z_sub (by omega)]
  congr 1
  omega
theorem z_keepX {S : gS} {rp kp : Nat} (hrp : rp < 5) (hkp : kp ≤ 5) (h1 : gI S 14 1 = nI rp) (h2 : gI S 14 2 = nI kp) :
    ∃ S', fX2_keep 10 S = some ((), S') ∧ gOff [14, 16 + 4 * rp, 16 + 4 * rp + 1, 16 + 4 * rp + 2, 16 + 4 * rp + 3] S S' ∧ gI S' 14 1 = nI ((rp + 1) % 5) ∧ gI S' 14 2 = nI (min (kp + 1) 5) ∧ gI S' (16 + 4 * rp) 3 = gI S 10 3 ∧
      (∀ k, k < 3904 → gJ S' (17 + 4 * rp) k = gJ S 11 k) ∧ (∀ k, k < 64 → gJ S' (18 + 4 * rp) k = gJ S 12 k) ∧ (∀ k, k < 305 → gJ S' (19 + 4 * rp) k = gJ S 13 k) := by
  obtain ⟨T, b1, b2, b3, b4, b5, b6, b7⟩ := z_become (16 + 4 * rp) 10 S (by omega)
  have t1 : gI T 14 = gI S 14 := (b2 14 (by simp; omega)).1
  have e1 : (gI T 14 1 + 1) - (gI T 14 1 + 1) / 5 * 5 = nI ((rp + 1) % 5) := by rw [t1, h1, z_inc, z_m5 (by omega)]
  have pre : ∀ R, (if 5 ≤ gI (gI_up T 14 1 (nI ((rp + 1) % 5))) 14 2 then some ((), gI_up T 14 1 (nI ((rp + 1) % 5))) else gx_let (gI_up (gI_up T 14 1 (nI ((rp + 1) % 5))) 14 2 ((gI (gI_up T 14 1 (nI ((rp + 1) % 5))) 14 2) + 1)) fun S40 => some ((), S40)) = R → fX2_keep 10 S = R := fun R hR => by
    unfold fX2_keep
    refine z_c h1 hrp (by omega) ?_
    rw [z_let, h1, z_cl (by omega)]
    refine z_b b1 ?_
    rw [z_let, e1]
    exact hR
  have e2 : gI (gI_up T 14 1 (nI ((rp + 1) % 5))) 14 2 = nI kp := by rw [z_Ik _ _ _ (by omega), t1, h2]
  rw [e2] at pre
  by_cases hk : 5 ≤ kp
  · refine ⟨gI_up T 14 1 (nI ((rp + 1) % 5)), pre _ (z_t (z_len (a := 5) hk (by omega)) rfl), gOff_tr (gOff_mo b2 (fun i hi => by simp at hi ⊢; omega)) (gOff_I (by simp)), z_Is _ _ _ _, ?_, ?_, fun k hk => ?_, fun k hk => ?_, fun k hk => ?_⟩
    · rw [e2]; congr 1; omega
    · rw [z_Io _ _ _ (by omega)]; exact b3
    · have := b5 k hk
      rw [show 16 + 4 * rp + 1 = 17 + 4 * rp by omega] at this
      exact this
    · have := b6 k hk
      rw [show 16 + 4 * rp + 2 = 18 + 4 * rp by omega] at this
      exact this
    · have := b7 k hk
      rw [show 16 + 4 * rp + 3 = 19 + 4 * rp by omega] at this
      exact this
  · refine ⟨gI_up (gI_up T 14 1 (nI ((rp + 1) % 5))) 14 2 (nI (kp + 1)), pre _ (z_f (z_nle (a := 5) (by omega) (by omega)) (by rw [z_let, z_inc])), gOff_tr (gOff_tr (gOff_mo b2 (fun i hi => by simp at hi ⊢; omega)) (gOff_I (by simp))) (gOff_I (by simp)), ?_, ?_, ?_, fun k hk => ?_, fun k hk => ?_, fun k hk => ?_⟩
    · rw [z_Ik _ _ _ (by omega), z_Is]
    · rw [z_Is]; congr 1; omega
    · rw [z_Io _ _ _ (by omega), z_Io _ _ _ (by omega)]; exact b3
    · have := b5 k hk
      rw [show 16 + 4 * rp + 1 = 17 + 4 * rp by omega] at this
      exact this
    · have := b6 k hk
      rw [show 16 + 4 * rp + 2 = 18 + 4 * rp by omega] at this
      exact this
    · have := b7 k hk
      rw [show 16 + 4 * rp + 3 = 19 + 4 * rp by omega] at this
      exact this
theorem z_keepY38 {S : gS} {rp kp : Nat} (hrp : rp < 5) (hkp : kp ≤ 5) (h1 : gI S 0 18 = nI rp) (h2 : gI S 0 17 = nI kp) :
    ∃ S', fX6_keep_38 gx_fuel S 0 = some ((), S') ∧ gOff [0, 13] S S' ∧ (∀ k, k ≠ 17 → k ≠ 18 → gI S' 0 k = gI S 0 k) ∧ gI S' 0 18 = nI ((rp + 1) % 5) ∧ gI S' 0 17 = nI (min (kp + 1) 5) ∧ gJ S' 13 = (fun i => if 305 * rp ≤ i ∧ i < 305 * rp + 305 then gJ S 9 (i - 305 * rp) else gJ S 13 i) := by
  have key := z_lp (E := fun r : Unit × gS => some r) 305 (fun f j (t : gS) => fX6_keep_38 f t (nI j))
    (fun j t => t = gJ_row S 13 (fun i => if 305 * rp ≤ i ∧ i < 305 * rp + j then gJ S 9 (i - 305 * rp) else gJ S 13 i))
    (fun r => gOff [0, 13] S r.2 ∧ (∀ k, k ≠ 17 → k ≠ 18 → gI r.2 0 k = gI S 0 k) ∧ gI r.2 0 18 = nI ((rp + 1) % 5) ∧ gI r.2 0 17 = nI (min (kp + 1) 5) ∧ gJ r.2 13 = (fun i => if 305 * rp ≤ i ∧ i < 305 * rp + 305 then gJ S 9 (i - 305 * rp) else gJ S 13 i)) (by
      intro f j t hj hp
      rcases Nat.lt_or_ge j 305 with hj | hj
      · refine Or.inr ⟨hj, gJ_up t 13 (305 * rp + j) (gJ S 9 j), ?_, ?_⟩
        · show fX6_keep_38L (fX6_keep_38 f) t (nI j) = _
          unfold fX6_keep_38L
          have e : (305 : Int32) * nI rp + nI j = nI (305 * rp + j) := by rw [z_lit 305, z_mul, z_add]
          have e2 : gI t 0 18 = nI rp := by rw [hp]; exact h1
          refine z_f (z_nle (a := 305) hj (by omega)) (z_c rfl hj (by omega) ?_)
          rw [e2, e]
          refine z_c rfl (by omega) (by omega) ?_
          rw [z_let, z_let, z_cl (by omega), z_cl (by omega), z_inc, show gJ t 9 = gJ S 9 by rw [hp, z_JrJ, if_neg (by omega)]]
        · rw [hp, z_uprow]
          exact z_rowcg _ _ (fun k => by
            by_cases h2 : k = 305 * rp + j
            · rw [if_pos h2, if_pos (by omega), h2]
              congr 1
              omega
            · rw [if_neg h2]
              by_cases h3 : 305 * rp ≤ k ∧ k < 305 * rp + j
              · rw [if_pos h3, if_pos (by omega)]
              · rw [if_neg h3, if_neg (by omega)])
      · have e : j = 305 := by omega
        subst e
        have g1 : gI t 0 18 = nI rp := by rw [hp]; exact h1
        have g2 : gI t 0 17 = nI kp := by rw [hp]; exact h2
        have g3 : ∀ k, gI t 0 k = gI S 0 k := fun k => by rw [hp]; rfl
        have o1 : gOff [0, 13] S t := by rw [hp]; exact gOff_rJ (by simp)
        have e1 : (gI t 0 18 + 1) - (gI t 0 18 + 1) / 5 * 5 = nI ((rp + 1) % 5) := by rw [g1, z_inc, z_m5 (by omega)]
        have e2 : gI (gI_up t 0 18 (nI ((rp + 1) % 5))) 0 17 = nI kp := by rw [z_Ik _ _ _ (by omega), g2]
        have hrow : gJ t 13 = (fun i => if 305 * rp ≤ i ∧ i < 305 * rp + 305 then gJ S 9 (i - 305 * rp) else gJ S 13 i) := by rw [hp, z_JrJ, if_pos rfl]
        have pre : ∀ R, (if 5 ≤ nI kp then (gx_let (gI_up (gI_up t 0 18 (nI ((rp + 1) % 5))) 0 17 5) fun S103 => some ((), S103)) else gx_let (gI_up (gI_up t 0 18 (nI ((rp + 1) % 5))) 0 17 (nI kp + 1)) fun S103 => some ((), S103)) = R → fX6_keep_38 (f + 1) t (nI 305) = R := fun R hR => by
          show fX6_keep_38L (fX6_keep_38 f) t (nI 305) = _
          unfold fX6_keep_38L
          refine z_t (z_len (a := 305) (b := 305) (by omega) (by omega)) ?_
          rw [z_let, e1, e2]
          exact hR
        left
        by_cases hk : 5 ≤ kp
        · refine ⟨((), gI_up (gI_up t 0 18 (nI ((rp + 1) % 5))) 0 17 5), pre _ (z_t (z_len (a := 5) hk (by omega)) rfl), gOff_tr o1 (gOff_tr (gOff_I (by simp)) (gOff_I (by simp))), fun k a b => ?_, ?_, ?_, hrow⟩
          · rw [z_Ik _ _ _ a, z_Ik _ _ _ b, g3]
          · rw [z_Ik _ _ _ (by omega), z_Is]
          · rw [z_Is, show min (kp + 1) 5 = 5 by omega]; rfl
        · refine ⟨((), gI_up (gI_up t 0 18 (nI ((rp + 1) % 5))) 0 17 (nI (kp + 1))), pre _ (z_f (z_nle (a := 5) (by omega) (by omega)) (by rw [z_let, z_inc])), gOff_tr o1 (gOff_tr (gOff_I (by simp)) (gOff_I (by simp))), fun k a b => ?_, ?_, ?_, hrow⟩
          · rw [z_Ik _ _ _ a, z_Ik _ _ _ b, g3]
          · rw [z_Ik _ _ _ (by omega), z_Is]
          · rw [z_Is]; congr 1; omega)
    305 gx_fuel 0 S (by omega) (by have := z_fuelB; omega) (by omega) (by
        rw [z_rowcg S 13 (r2 := gJ S 13) (fun k => by rw [if_neg (by omega)]), z_rowself])
  obtain ⟨⟨u, S'⟩, k1, k2⟩ := key
  exact ⟨S', k1, k2⟩
theorem z_keepY2 {S : gS} {rp : Nat} (hrp : rp < 5) (h1 : gI S 0 18 = nI rp) :
    fX6_keep S = fX6_keep_38 gx_fuel (gJ_row S 12 (fun i => if 3904 * rp ≤ i ∧ i < 3904 * rp + 3904 then gJ S 8 (i - 3904 * rp) else gJ S 12 i)) 0 := by
  have key := z_lp (E := fun r : gS => fX6_keep_38 gx_fuel r 0) 3904 (fun f j (t : gS) => fX6_keep_2 f t (nI j))
    (fun j t => t = gJ_row S 12 (fun i => if 3904 * rp ≤ i ∧ i < 3904 * rp + j then gJ S 8 (i - 3904 * rp) else gJ S 12 i))
    (fun r => r = gJ_row S 12 (fun i => if 3904 * rp ≤ i ∧ i < 3904 * rp + 3904 then gJ S 8 (i - 3904 * rp) else gJ S 12 i)) (by
      intro f j t hj hp
      rcases Nat.lt_or_ge j 3904 with hj | hj
      · refine Or.inr ⟨hj, gJ_up t 12 (3904 * rp + j) (gJ S 8 j), ?_, ?_⟩
        · show fX6_keep_2L (fX6_keep_2 f) t (nI j) = _
          unfold fX6_keep_2L
          have e : (3904 : Int32) * nI rp + nI j = nI (3904 * rp + j) := by rw [z_lit 3904, z_mul, z_add]
          have e2 : gI t 0 18 = nI rp := by rw [hp]; exact h1
          refine z_f (z_nle (a := 3904) hj (by omega)) (z_c rfl hj (by omega) ?_)
          rw [e2, e]
          refine z_c rfl (by omega) (by omega) ?_
          rw [z_let, z_let, z_cl (by omega), z_cl (by omega), z_inc, show gJ t 8 = gJ S 8 by rw [hp, z_JrJ, if_neg (by omega)]]
        · rw [hp, z_uprow]
          exact z_rowcg _ _ (fun k => by
            by_cases h2 : k = 3904 * rp + j
            · rw [if_pos h2, if_pos (by omega), h2]
              congr 1
              omega
            · rw [if_neg h2]
              by_cases h3 : 3904 * rp ≤ k ∧ k < 3904 * rp + j
              · rw [if_pos h3, if_pos (by omega)]
              · rw [if_neg h3, if_neg (by omega)])
      · refine Or.inl ⟨t, ?_, by rw [hp, show j = 3904 by omega]⟩
        show fX6_keep_2L (fX6_keep_2 f) t (nI j) = _
        unfold fX6_keep_2L
        exact z_t (z_len (a := 3904) (b := j) (by omega) (by omega)) rfl)
    3904 gx_fuel 0 S (by omega) (by have := z_fuelB; omega) (by omega) (by
        rw [z_rowcg S 12 (r2 := gJ S 12) (fun k => by rw [if_neg (by omega)]), z_rowself])
  obtain ⟨r, k1, k2⟩ := key
  rw [k2] at k1
  exact k1
theorem z_keepY {S : gS} {rp kp : Nat} (hrp : rp < 5) (hkp : kp ≤ 5) (h1 : gI S 0 18 = nI rp) (h2 : gI S 0 17 = nI kp) :
    ∃ S', fX6_keep S = some ((), S') ∧ gOff [0, 12, 13] S S' ∧ (∀ k, k ≠ 17 → k ≠ 18 → gI S' 0 k = gI S 0 k) ∧ gI S' 0 18 = nI ((rp + 1) % 5) ∧ gI S' 0 17 = nI (min (kp + 1) 5) ∧
      gJ S' 12 = (fun i => if 3904 * rp ≤ i ∧ i < 3904 * rp + 3904 then gJ S 8 (i - 3904 * rp) else gJ S 12 i) ∧ gJ S' 13 = (fun i => if 305 * rp ≤ i ∧ i < 305 * rp + 305 then gJ S 9 (i - 305 * rp) else gJ S 13 i) := by
  obtain ⟨S', k1, k2, k3, k4, k5, k6⟩ := z_keepY38 (S := gJ_row S 12 (fun i => if 3904 * rp ≤ i ∧ i < 3904 * rp + 3904 then gJ S 8 (i - 3904 * rp) else gJ S 12 i)) hrp hkp h1 h2
  refine ⟨S', (z_keepY2 hrp h1).trans k1, gOff_tr (gOff_rJ (by simp)) (gOff_mo k2 (fun i hi => by simp at hi ⊢; omega)), k3, k4, k5, ?_, ?_⟩
  · rw [(k2 12 (by simp)).2.2, z_JrJ, if_pos rfl]
  · rw [k6, z_JrJ, if_neg (by omega), z_JrJ, if_neg (by omega)]
def zRg (n w h y kp rp : Nat) (Sx Sy : gS) : Prop := rp < 5 ∧ kp ≤ 5 ∧ kp ≤ y ∧ gI Sx 14 1 = nI rp ∧ gI Sy 0 18 = nI rp ∧ gI Sx 14 2 = nI kp ∧ gI Sy 0 17 = nI kp ∧ ∀ j, j < kp → zRing n w h y rp j Sx Sy
theorem zIce_pw {n w h y : Nat} {kd : Nat → Int32} {gr th tl gr2 th2 tl2 ic su ic2 su2 : Nat → Int64} {g : Nat → Nat → Nat} {s : Nat → Int64} (h1 : ∀ k, k < 3904 → gr2 k = gr k) (h2 : ∀ k, k < 64 → th2 k = th k) (h3 : ∀ k, k < 305 → tl2 k = tl k) (h4 : ∀ k, k < 3904 → ic2 k = ic k) (h5 : ∀ k, k < 305 → su2 k = su k) (H : zIce n w h kd y gr th tl ic su g s) : zIce n w h kd y gr2 th2 tl2 ic2 su2 g s :=
  ⟨zXI_pw (fun c hc => hc.1) h1 h2 h3 H.1, zYI_pw h4 h5 H.2.1, H.2.2⟩
/-- both sides keep the year -/
theorem z_keep {n w h y kp rp : Nat} {Sx Sy : gS} {g : Nat → Nat → Nat} {s : Nat → Int64} (hR : zRg n w h y kp rp Sx Sy) (hI : zIce n w h (gA Sy 5) y (gJ Sx 11) (gJ Sx 12) (gJ Sx 13) (gJ Sy 8) (gJ Sy 9) g s) (hyr : gI Sx 10 3 = nI y) :
    ∃ Sx' Sy', fX2_keep 10 Sx = some ((), Sx') ∧ fX6_keep Sy = some ((), Sy') ∧ zRg n w h (y + 1) (min (kp + 1) 5) ((rp + 1) % 5) Sx' Sy' ∧
      (∀ o, o < 14 ∨ 35 < o → gI Sx' o = gI Sx o ∧ gA Sx' o = gA Sx o ∧ gJ Sx' o = gJ Sx o) ∧ gOff [0, 12, 13] Sy Sy' ∧ ∀ k, k ≠ 17 → k ≠ 18 → gI Sy' 0 k = gI Sy 0 k := by
  obtain ⟨r1, r2, r3, r4, r5, r6, r7, r8⟩ := hR
  obtain ⟨Tx, x1, x2, x3, x4, x5, x6, x7, x8⟩ := z_keepX r1 r2 r4 r6
  obtain ⟨Ty, y1, y2, y3, y4, y5, y6, y7⟩ := z_keepY r1 r2 r5 r7
  refine ⟨Tx, Ty, x1, y1, ⟨by omega, by omega, by omega, x3, y4, x4, y5, fun j hj => ?_⟩, fun o ho => x2 o (by simp; omega), y2, y3⟩
  have e5 : gA Ty 5 = gA Sy 5 := (y2 5 (by simp)).2.1
  rcases Nat.eq_zero_or_pos j with hz | hz
  · subst hz
    have eq : ((rp + 1) % 5 + 4 - 0) % 5 = rp := by omega
    refine ⟨g, s, ?_, ?_⟩
    · rw [eq, x5, hyr]; rfl
    · rw [eq, e5]
      refine zIce_pw x6 x7 x8 (fun k hk => ?_) (fun k hk => ?_) hI
      · show gJ Ty 12 (3904 * rp + k) = _
        rw [y6]
        show (if 3904 * rp ≤ 3904 * rp + k ∧ 3904 * rp + k < 3904 * rp + 3904 then gJ Sy 8 (3904 * rp + k - 3904 * rp) else _) = _
        rw [if_pos (by omega)]
        congr 1
        omega
      · show gJ Ty 13 (305 * rp + k) = _
        rw [y7]
        show (if 305 * rp ≤ 305 * rp + k ∧ 305 * rp + k < 305 * rp + 305 then gJ Sy 9 (305 * rp + k - 305 * rp) else _) = _
        rw [if_pos (by omega)]
        congr 1
        omega
  · obtain ⟨i, rfl⟩ : ∃ i, j = i + 1 := ⟨j - 1, by omega⟩
    have eq : ((rp + 1) % 5 + 4 - (i + 1)) % 5 = (rp + 4 - i) % 5 := by omega
    obtain ⟨g2, s2, q1, q2⟩ := r8 i (by omega)
    have hne : (rp + 4 - i) % 5 ≠ rp := by omega
    have hlt : (rp + 4 - i) % 5 < 5 := Nat.mod_lt _ (by omega)
    unfold zRing
    rw [eq]
    rw [show y + 1 - 1 - (i + 1) = y - 1 - i by omega, e5]
    revert q1 q2 hne hlt
    generalize (rp + 4 - i) % 5 = q
    intro q1 q2 hne hlt
    refine ⟨g2, s2, ?_, zIce_pw (fun k hk => ?_) (fun k hk => ?_) (fun k hk => ?_) (fun k hk => ?_) (fun k hk => ?_) q2⟩
    · rw [(x2 (16 + 4 * q) (by simp; omega)).1]; exact q1
    · rw [(x2 (17 + 4 * q) (by simp; omega)).2.2]
    · rw [(x2 (18 + 4 * q) (by simp; omega)).2.2]
    · rw [(x2 (19 + 4 * q) (by simp; omega)).2.2]
    · show gJ Ty 12 (3904 * q + k) = _
      rw [y6]
      show (if 3904 * rp ≤ 3904 * q + k ∧ 3904 * q + k < 3904 * rp + 3904 then _ else _) = _
      rw [if_neg (by omega)]
    · show gJ Ty 13 (305 * q + k) = _
      rw [y7]
      show (if 305 * rp ≤ 305 * q + k ∧ 305 * q + k < 305 * rp + 305 then _ else _) = _
      rw [if_neg (by omega)]

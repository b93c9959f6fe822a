/-! one year -/
def zFar (o : Nat) : Prop := o < 10 ∨ (36 ≤ o ∧ o ≤ 40) ∨ 46 ≤ o
def zFr (p : Nat → Prop) (S S' : gS) : Prop := ∀ o, p o → gI S' o = gI S o ∧ gA S' o = gA S o ∧ gJ S' o = gJ S o
theorem zFr_tr {p : Nat → Prop} {S S1 S2 : gS} (h : zFr p S S1) (h2 : zFr p S1 S2) : zFr p S S2 := fun o ho => ⟨(h2 o ho).1.trans (h o ho).1, (h2 o ho).2.1.trans (h o ho).2.1, (h2 o ho).2.2.trans (h o ho).2.2⟩
theorem zFr_off {p : Nat → Prop} {S S1 : gS} {l : List Nat} (h : gOff l S S1) (hp : ∀ o, p o → o ∉ l) : zFr p S S1 := fun o ho => h o (hp o ho)
theorem z_year {n y : Nat} {Sx Sy : gS} (hn : n < 512) (hR : gR n Sx Sy) (hyr0 : gI Sx 10 3 = nI y) (hy : y < 60) :
    ∃ Sx' Sy', fX5_passYear Sx = some ((), Sx') ∧ fX6_oneYear Sy = some ((), Sy') ∧ gR n Sx' Sy' ∧ gI Sx' 10 3 = nI (y + 1) ∧ zFr zFar Sx Sx' ∧ gOff [0, 8, 9, 12, 13, 14, 15] Sy Sy' := by
  obtain ⟨r1, r2, w, h, y', kp, rp, g, s, hL, h2, h3, hkp, h5, h6, h7, h8, h9, h10, h11, hI, h13⟩ := hR
  have ey : y' = y := by
    rw [h6] at hyr0
    rw [z_eqN (by omega) (by omega)] at hyr0
    exact hyr0
  subst ey
  obtain ⟨Tx, Ty, kx, ky, kR, kfx, kfy, kI⟩ := z_keep (n := n) (w := w) (h := h) ⟨h5, h3, hkp, h8, h9, h10, h11, h13⟩ hI h6
  -- the year goes on
  have fx1 : ∀ o, o ≠ 10 → (o < 14 ∨ 35 < o) → gI (gI_up Tx 10 3 (nI (y' + 1))) o = gI Sx o ∧ gA (gI_up Tx 10 3 (nI (y' + 1))) o = gA Sx o ∧ gJ (gI_up Tx 10 3 (nI (y' + 1))) o = gJ Sx o := fun o a b => ⟨(z_Io _ _ _ a).trans (kfx o b).1, (kfx o b).2.1, (kfx o b).2.2⟩
  have fy1 : ∀ k, k ≠ 7 → k ≠ 17 → k ≠ 18 → gI (gI_up Ty 0 7 (nI (y' + 1))) 0 k = gI Sy 0 k := fun k a b d => (z_Ik _ _ _ a).trans (kI k b d)
  have fyA : ∀ o, o ≠ 0 → o ≠ 12 → o ≠ 13 → gA (gI_up Ty 0 7 (nI (y' + 1))) o = gA Sy o := fun o a b d => (kfy o (by simp; omega)).2.1
  have fyJ : ∀ o, o ≠ 0 → o ≠ 12 → o ≠ 13 → gJ (gI_up Ty 0 7 (nI (y' + 1))) o = gJ Sy o := fun o a b d => (kfy o (by simp; omega)).2.2
  have H1 : zRd w h (gI_up Tx 10 3 (nI (y' + 1))) (gI_up Ty 0 7 (nI (y' + 1))) :=
    ⟨zLand_fr (fun o a b => fx1 o (by omega) (by omega)) (fyA _ (by omega) (by omega) (by omega)) (fyA _ (by omega) (by omega) (by omega)) (fyA _ (by omega) (by omega) (by omega)) (fy1 _ (by omega) (by omega) (by omega)) (fy1 _ (by omega) (by omega) (by omega)) hL,
      zTold_fr (fun o a b => fx1 o (by omega) (by omega)) (fyA _ (by omega) (by omega) (by omega)) (fyA _ (by omega) (by omega) (by omega)) (fy1 _ (by omega) (by omega) (by omega)) (fy1 _ (by omega) (by omega) (by omega)) r2⟩
  have e51 : gA (gI_up Ty 0 7 (nI (y' + 1))) 5 = gA Sy 5 := fyA _ (by omega) (by omega) (by omega)
  have X1 : zX (zOp w h (gA Sy 5)) (gI_up Tx 10 3 (nI (y' + 1))) (g, s) := by
    unfold zX
    rw [(fx1 11 (by omega) (by omega)).2.2, (fx1 12 (by omega) (by omega)).2.2, (fx1 13 (by omega) (by omega)).2.2]
    exact hI.1
  have Y1 : zY (gI_up Ty 0 7 (nI (y' + 1))) (g, s) := by
    unfold zY
    rw [fyJ 8 (by omega) (by omega) (by omega), fyJ 9 (by omega) (by omega) (by omega)]
    exact hI.2.1
  have J1 : zJn (1000000 * n + 6400000 * y') (zOp w h (gA Sy 5)) (y' + 1) (g, s) := zJn_mo (zJn_in.2 hI.2.2) (Nat.le_refl _) (by omega)
  rw [← e51] at X1 J1
  have yr1 : gI (gI_up Tx 10 3 (nI (y' + 1))) 10 3 = nI (y' + 1) := z_Is _ _ _ _
  generalize eU : gI_up Tx 10 3 (nI (y' + 1)) = U1 at *
  generalize eV : gI_up Ty 0 7 (nI (y' + 1)) = V1 at *
  have yrV1 : gI V1 0 7 = nI (y' + 1) := by rw [← eV]; exact z_Is _ _ _ _
  -- snow and melting
  obtain ⟨U2, a1, a2, a3⟩ := z_snowX H1 X1 J1 (by omega) (by omega) yr1
  obtain ⟨V2, b1, b2, b3⟩ := z_fallY H1 Y1 J1 (by omega) (by omega) yrV1
  have J2 := zFallC_J H1 (by omega) J1 64 (Nat.le_refl _)
  have H2 : zRd w h U2 V2 := zRd_off H1 a3 (fun i p q => by simp; omega) b3 (by simp)
  have e52 : gA V2 5 = gA V1 5 := (b3 5 (by simp)).2.1
  have yr2 : gI U2 10 3 = nI (y' + 1) := by rw [(a3 10 (by simp)).1]; exact yr1
  generalize zFallC (zopB w h (gA V1 5)) V1 (y' + 1) 64 (g, s) = G2 at *
  rw [← e52] at a2 J2
  -- the ice moves
  obtain ⟨U3, c1, c2, c3⟩ := z_moveX H2 a2 J2 (by omega) (by omega) yr2
  obtain ⟨V3, d1, d2, d3⟩ := z_moveY H2 b2 J2 (by omega) (by omega)
  have hw : w ≤ 8 := by have := hL.2.2.2.2.1; omega
  have hh : h ≤ 8 := by have := hL.2.2.2.2.1; omega
  have J3 := (zMvF_K (Sy := V2) (g := G2.1) (B := (G2.1, G2)) hw hh (show y' + 1 ≤ 60 by omega) ⟨J2, fun _ _ => Nat.le_refl _⟩ 256).1
  have H3 : zRd w h U3 V3 := zRd_off H2 c3 (fun i p q => by simp; omega) d3 (by simp)
  have e53 : gA V3 5 = gA V2 5 := (d3 5 (by simp)).2.1
  have yr3 : gI U3 10 3 = nI (y' + 1) := by rw [(c3 10 (by simp)).1]; exact yr2
  generalize (zMvF w h V2 (y' + 1) G2.1 256 (G2.1, G2)).2 = G3 at *
  rw [← e53] at c2 J3
  -- the lakes
  obtain ⟨U4, f1, f2, f3⟩ := z_floatX H3 c2 J3 (by omega) (by omega) yr3
  obtain ⟨V4, g1, g2, g3⟩ := z_swimY H3 d2 J3 (by omega)
  have J4 := zSw_J (by omega) J3 64 (Nat.le_refl _)
  have H4 : zRd w h U4 V4 := zRd_off H3 f3 (fun i p q => by simp; omega) g3 (by simp)
  have e54 : gA V4 5 = gA V3 5 := (g3 5 (by simp)).2.1
  have yr4 : gI U4 10 3 = nI (y' + 1) := by rw [(f3 10 (by simp)).1]; exact yr3
  generalize zSw (zopB w h (gA V3 5)) (gA V3 5) (y' + 1) 64 G3 = G4 at *
  rw [← e54] at f2 J4
  have o14 : ∀ o, o < 10 ∨ (14 ≤ o ∧ o ≤ 40) ∨ 46 ≤ o → gI U4 o = gI U1 o ∧ gA U4 o = gA U1 o ∧ gJ U4 o = gJ U1 o := fun o ho => by
    have q1 := a3 o (by simp; omega)
    have q2 := c3 o (by simp; omega)
    have q3 := f3 o (by simp; omega)
    exact ⟨q3.1.trans (q2.1.trans q1.1), q3.2.1.trans (q2.2.1.trans q1.2.1), q3.2.2.trans (q2.2.2.trans q1.2.2)⟩
  have oV : gOff [8, 9, 14, 15] V1 V4 := gOff_tr (gOff_mo b3 (fun i hi => by simp at hi ⊢; omega)) (gOff_tr d3 (gOff_mo g3 (fun i hi => by simp at hi ⊢; omega)))
  have oU1 : ∀ o, o ≠ 10 → gI U1 o = gI Tx o ∧ gA U1 o = gA Tx o ∧ gJ U1 o = gJ Tx o := fun o a => by
    rw [← eU]; exact ⟨z_Io _ _ _ a, rfl, rfl⟩
  have oX : zFr zFar Sx U4 := fun o ho => by
    unfold zFar at ho
    have q1 := o14 o (by omega)
    have q2 := fx1 o (by omega) (by omega)
    exact ⟨q1.1.trans q2.1, q1.2.1.trans q2.2.1, q1.2.2.trans q2.2.2⟩
  have oY : gOff [0, 8, 9, 12, 13, 14, 15] Sy V4 := fun o ho => by
    simp at ho
    have q1 := oV o (by simp; omega)
    have q2 := kfy o (by simp; omega)
    refine ⟨q1.1.trans ?_, q1.2.1.trans ?_, q1.2.2.trans ?_⟩
    · rw [← eV, z_Io _ _ _ (by omega)]; exact q2.1
    · rw [← eV]; exact q2.2.1
    · rw [← eV]; exact q2.2.2
  obtain ⟨k1, k2, k3, k4, k5, k6, k7, k8⟩ := kR
  refine ⟨U4, V4, ?_, ?_, ⟨?_, H4.2, w, h, y' + 1, min (kp + 1) 5, (rp + 1) % 5, G4.1, G4.2, H4.1, by omega, k2, k3, k1, yr4, ?_, ?_, ?_, ?_, ?_, ⟨f2, g2, zJn_in.1 (zJn_mo J4 (by omega) (Nat.le_refl _))⟩, fun j hj => ?_⟩, yr4, oX, oY⟩
  · unfold fX5_passYear
    refine z_b kx ?_
    rw [z_let, (kfx 10 (by omega)).1, h6, z_inc, eU]
    exact z_b a1 (z_b c1 (z_b f1 rfl))
  · unfold fX6_oneYear
    refine z_b ky ?_
    rw [z_let, kI 7 (by omega) (by omega), h7, z_inc, eV]
    exact z_b b1 (z_b d1 (z_b g1 rfl))
  · refine zStr_fr ?_ (fun o a b => oX o (by unfold zFar; omega)) (oY 1 (by simp)).2.1 (oY 2 (by simp)).2.1 (oY 3 (by simp)).2.2 ?_ r1
    · rw [(oX 0 (by unfold zFar; omega)).1]
    · rw [(oV 0 (by simp)).1, fy1 3 (by omega) (by omega) (by omega)]
  · rw [(oV 0 (by simp)).1, yrV1]
  · rw [(o14 14 (by omega)).1, (oU1 14 (by omega)).1, k4]
  · rw [(oV 0 (by simp)).1, ← eV, z_Ik _ _ _ (by omega), k5]
  · rw [(o14 14 (by omega)).1, (oU1 14 (by omega)).1, k6]
  · rw [(oV 0 (by simp)).1, ← eV, z_Ik _ _ _ (by omega), k7]
  · refine zRing_fr (Nat.le_refl n) (fun o a b => ?_) ?_ ?_ ?_ (k8 j hj)
    · have q1 := o14 o (by omega)
      have q2 := oU1 o (by omega)
      exact ⟨q1.1.trans q2.1, q1.2.1.trans q2.2.1, q1.2.2.trans q2.2.2⟩
    · rw [(oV 5 (by simp)).2.1, ← eV]; rfl
    · rw [(oV 12 (by simp)).2.2, ← eV]; rfl
    · rw [(oV 13 (by simp)).2.2, ← eV]; rfl

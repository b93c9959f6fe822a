/-! moving, the class's loops -/
theorem z_mvX25 {w h c : Nat} {S Sy : gS} {G : zG} {i : Int32} (K2 : gS → Int32 → Option (Unit × gS)) (H : zRd w h S Sy) (hX : zX (zOp w h (gA Sy 5)) S G) (ho : zOp w h (gA Sy 5) c) :
    ∃ S', fX5_moveIce_25 K2 gx_fuel S i (nI c) 0 = K2 S' (i + 1) ∧ gOff [45] S S' ∧ (∀ sd, sd < 4 → gJ S' 45 (c * 4 + sd) = zGive w h Sy G.1 c sd) ∧ (∀ j, ¬ (c * 4 ≤ j ∧ j < c * 4 + 4) → gJ S' 45 j = gJ S 45 j) := by
  have key := z_lp (E := fun r : gS => K2 r (i + 1)) 4 (fun f j (t : gS) => fX5_moveIce_25 K2 f t i (nI c) (nI j))
    (fun j t => gOff [45] S t ∧ (∀ sd, sd < j → gJ t 45 (c * 4 + sd) = zGive w h Sy G.1 c sd) ∧ (∀ k, ¬ (c * 4 ≤ k ∧ k < c * 4 + 4) → gJ t 45 k = gJ S 45 k))
    (fun r => gOff [45] S r ∧ (∀ sd, sd < 4 → gJ r 45 (c * 4 + sd) = zGive w h Sy G.1 c sd) ∧ (∀ k, ¬ (c * 4 ≤ k ∧ k < c * 4 + 4) → gJ r 45 k = gJ S 45 k)) (by
      rintro f j T hj ⟨h1, h2, h3⟩
      rcases Nat.lt_or_ge j 4 with hj | hj
      · right
        have hg := z_giftX (sd := j) (zRd_x H h1 (fun i a b => by simp; omega)) (zX_of hX (h1 11 (by simp)).2.2 (h1 12 (by simp)).2.2 (h1 13 (by simp)).2.2) ho hj
        refine ⟨hj, gJ_up T 45 (c * 4 + j) (zGive w h Sy G.1 c j), ?_, gOff_tr h1 (gOff_J (by simp)), fun sd hsd => ?_, fun k hk => ?_⟩
        · show fX5_moveIce_25L K2 (fX5_moveIce_25 K2 f) T i (nI c) (nI j) = _
          unfold fX5_moveIce_25L
          refine z_f (z_nle (a := 4) hj (by omega)) (z_b hg ?_)
          have e : nI c * 4 + nI j = nI (c * 4 + j) := by rw [z_lit 4, z_mul, z_add]
          have := ho.1
          rw [e]
          refine z_c rfl (by omega) (by omega) ?_
          rw [z_let, z_let, z_cl (by omega), z_inc]
        · rw [z_Jr]
          show (if c * 4 + sd = c * 4 + j then _ else gJ T 45 (c * 4 + sd)) = _
          by_cases e : sd = j
          · rw [if_pos (by omega), e]
          · rw [if_neg (by omega)]; exact h2 sd (by omega)
        · rw [z_Jr]
          show (if k = c * 4 + j then _ else gJ T 45 k) = _
          rw [if_neg (by omega)]; exact h3 k hk
      · have e : j = 4 := by omega
        subst e
        refine Or.inl ⟨T, ?_, h1, h2, h3⟩
        show fX5_moveIce_25L K2 (fX5_moveIce_25 K2 f) T i (nI c) (nI 4) = _
        unfold fX5_moveIce_25L
        exact z_t (z_len (a := 4) (b := 4) (by omega) (by omega)) rfl)
    4 gx_fuel 0 S (by omega) (by have := z_fuelB; omega) (by omega) ⟨gOff_rf, fun sd hsd => absurd hsd (by omega), fun k hk => rfl⟩
  obtain ⟨S', k1, k2⟩ := key
  exact ⟨S', k1, k2⟩
theorem z_mvX94 {w h c N y : Nat} {S Sy : gS} {g : Nat → Nat → Nat} {B : zB} {i : Int32} (K71 : gS → Int32 → Option (Unit × gS)) (H : zRd w h S Sy) (hX : zX (zOp w h (gA Sy 5)) S (zMvF w h Sy y g (4 * c) B).2) (hXb : zXb (zOp w h (gA Sy 5)) S (zMvF w h Sy y g (4 * c) B).1) (hK : zKn N (zOp w h (gA Sy 5)) y B) (hN : N ≤ 2000000000) (hy : y ≤ 60) (hyr : gI S 10 3 = nI y) (ho : zOp w h (gA Sy 5) c)
    (hg : ∀ sd, sd < 4 → gJ S 45 (c * 4 + sd) = zGive w h Sy g c sd) :
    ∃ S', fX5_moveIce_94 K71 gx_fuel S i (nI c) 0 = K71 S' (i + 1) ∧ zX (zOp w h (gA Sy 5)) S' (zMvF w h Sy y g (4 * (c + 1)) B).2 ∧ zXb (zOp w h (gA Sy 5)) S' (zMvF w h Sy y g (4 * (c + 1)) B).1 ∧ gOff [11, 12, 13, 42, 43, 44] S S' := by
  have hw : w ≤ 8 := by have := H.1.2.2.2.2.1; omega
  have hh : h ≤ 8 := by have := H.1.2.2.2.2.1; omega
  have key := z_lp (E := fun r : gS => K71 r (i + 1)) 4 (fun f j (t : gS) => fX5_moveIce_94 K71 f t i (nI c) (nI j))
    (fun j t => gOff [11, 12, 13, 42, 43, 44] S t ∧ zX (zOp w h (gA Sy 5)) t (zMvF w h Sy y g (4 * c + j) B).2 ∧ zXb (zOp w h (gA Sy 5)) t (zMvF w h Sy y g (4 * c + j) B).1)
    (fun r => gOff [11, 12, 13, 42, 43, 44] S r ∧ zX (zOp w h (gA Sy 5)) r (zMvF w h Sy y g (4 * c + 4) B).2 ∧ zXb (zOp w h (gA Sy 5)) r (zMvF w h Sy y g (4 * c + 4) B).1) (by
      rintro f j T hj ⟨h1, h2, h3⟩
      rcases Nat.lt_or_ge j 4 with hj | hj
      · right
        have HT := zRd_x H h1 (fun i a b => by simp; omega)
        obtain ⟨S', k1, k2, k3, k4⟩ := z_hand1X (c := c) (sd := j) (g := g) HT h2 h3 (zMvF_K hw hh hy hK _) hN hy (by rw [(h1 10 (by simp)).1]; exact hyr) ho
        refine ⟨hj, S', ?_, gOff_tr h1 k4, ?_, ?_⟩
        · show fX5_moveIce_94L K71 (fX5_moveIce_94 K71 f) T i (nI c) (nI j) = _
          unfold fX5_moveIce_94L
          have e : nI c * 4 + nI j = nI (c * 4 + j) := by rw [z_lit 4, z_mul, z_add]
          have := ho.1
          refine z_f (z_nle (a := 4) hj (by omega)) (z_b (z_nbX HT.1.1 HT.1.2.1 hw hh ho.1 ⟨ho.2.1, ho.2.2.1⟩ hj) ?_)
          rw [e]
          refine z_c rfl (by omega) (by omega) ?_
          rw [z_cl (by omega), (h1 45 (by simp)).2.2, hg j hj]
          refine z_b k1 ?_
          rw [z_let, z_inc]
        · rw [zMvF_t (zopB_iff.2 ho) hj]; exact k2
        · rw [zMvF_t (zopB_iff.2 ho) hj]; exact k3
      · have e : j = 4 := by omega
        subst e
        refine Or.inl ⟨T, ?_, h1, h2, h3⟩
        show fX5_moveIce_94L K71 (fX5_moveIce_94 K71 f) T i (nI c) (nI 4) = _
        unfold fX5_moveIce_94L
        exact z_t (z_len (a := 4) (b := 4) (by omega) (by omega)) rfl)
    4 gx_fuel 0 S (by omega) (by have := z_fuelB; omega) (by omega) ⟨gOff_rf, hX, hXb⟩
  obtain ⟨S', k1, k2, k3, k4⟩ := key
  exact ⟨S', k1, k3, k4, k2⟩
theorem z_mvX71 {w h N y : Nat} {S Sy : gS} {g : Nat → Nat → Nat} {B : zB} (H : zRd w h S Sy) (hX : zX (zOp w h (gA Sy 5)) S B.2) (hXb : zXb (zOp w h (gA Sy 5)) S B.1) (hK : zKn N (zOp w h (gA Sy 5)) y B) (hN : N ≤ 2000000000) (hy : y ≤ 60) (hyr : gI S 10 3 = nI y)
    (hg : ∀ c, c < 64 → zopB w h (gA Sy 5) c = true → ∀ sd, sd < 4 → gJ S 45 (c * 4 + sd) = zGive w h Sy g c sd) :
    ∃ S', fX5_moveIce_71 gx_fuel S 0 = some ((), S') ∧ zX (zOp w h (gA Sy 5)) S' (zMvF w h Sy y g 256 B).2 ∧ gOff [11, 12, 13, 42, 43, 44] S S' := by
  have key := z_lpO (E := fun r : Unit × gS => some r) (zopB w h (gA Sy 5)) (fun f i (t : gS) => fX5_moveIce_71 f t (nI i))
    (fun c t => gOff [11, 12, 13, 42, 43, 44] S t ∧ zX (zOp w h (gA Sy 5)) t (zMvF w h Sy y g (4 * c) B).2 ∧ zXb (zOp w h (gA Sy 5)) t (zMvF w h Sy y g (4 * c) B).1)
    (fun r => gOff [11, 12, 13, 42, 43, 44] S r.2 ∧ zX (zOp w h (gA Sy 5)) r.2 (zMvF w h Sy y g 256 B).2)
    (fun c t hc hb hp => by rw [zMvF_f4 hb]; exact hp)
    (by
      rintro f c T hc hb ⟨h1, h2, h3⟩
      right
      have HT := zRd_x H h1 (fun i a b => by simp; omega)
      obtain ⟨-, q1, q2, q3⟩ := zRd_op HT hb
      obtain ⟨S', k1, k2, k3, k4⟩ := z_mvX94 (i := nI (zcnt (zopB w h (gA Sy 5)) c)) (fX5_moveIce_71 f) HT h2 h3 hK hN hy (by rw [(h1 10 (by simp)).1]; exact hyr) (zopB_iff.1 hb) (fun sd hs => by rw [(h1 45 (by simp)).2.2]; exact hg c hc hb sd hs)
      refine ⟨S', ?_, gOff_tr h1 k4, k2, k3⟩
      show fX5_moveIce_71L (fX5_moveIce_71 f) T (nI (zcnt (zopB w h (gA Sy 5)) c)) = _
      unfold fX5_moveIce_71L
      refine z_f q2 (z_c rfl q1 (by omega) ?_)
      rw [z_let, z_cl (by omega), q3, k1, z_inc])
    (by
      rintro f T ⟨h1, h2, h3⟩
      refine ⟨((), T), ?_, h1, h2⟩
      show fX5_moveIce_71L (fX5_moveIce_71 f) T (nI (zcnt (zopB w h (gA Sy 5)) 64)) = _
      unfold fX5_moveIce_71L
      refine z_t ?_ rfl
      rw [(h1 5 (by simp)).1, H.1.2.2.2.2.2.2.1]
      exact z_len (Nat.le_refl _) (by have := zcnt_le (zopB w h (gA Sy 5)) 64; omega))
    64 gx_fuel 0 S (by omega) (by have := z_fuelB; omega) (by omega) ⟨gOff_rf, hX, hXb⟩
  obtain ⟨⟨u, S'⟩, k1, k2, k3⟩ := key
  exact ⟨S', k1, k3, k2⟩
theorem z_moveX {w h N y : Nat} {S Sy : gS} {G : zG} (H : zRd w h S Sy) (hX : zX (zOp w h (gA Sy 5)) S G) (hJ : zJn N (zOp w h (gA Sy 5)) y G) (hN : N ≤ 2000000000) (hy : y ≤ 60) (hyr : gI S 10 3 = nI y) :
    ∃ S', fX5_moveIce S = some ((), S') ∧ zX (zOp w h (gA Sy 5)) S' (zMvF w h Sy y G.1 256 (G.1, G)).2 ∧ gOff [11, 12, 13, 41, 42, 43, 44, 45] S S' := by
  have key := z_lpO (E := fun r : gS => gx_bind (fX0_become 41 10 r) fun _ S66 => fX5_moveIce_71 gx_fuel S66 0) (zopB w h (gA Sy 5)) (fun f i (t : gS) => fX5_moveIce_2 f t (nI i))
    (fun c t => gOff [45] S t ∧ ∀ j, j < c → zopB w h (gA Sy 5) j = true → ∀ sd, sd < 4 → gJ t 45 (j * 4 + sd) = zGive w h Sy G.1 j sd)
    (fun r => gOff [45] S r ∧ ∀ j, j < 64 → zopB w h (gA Sy 5) j = true → ∀ sd, sd < 4 → gJ r 45 (j * 4 + sd) = zGive w h Sy G.1 j sd)
    (fun c t hc hb hp => ⟨hp.1, fun j hj hb2 => hp.2 j (by
      rcases Nat.lt_or_ge j c with h1 | h1
      · exact h1
      · rw [show j = c by omega, hb] at hb2
        exact absurd hb2 Bool.false_ne_true) hb2⟩)
    (by
      rintro f c T hc hb ⟨h1, h2⟩
      right
      have HT := zRd_x H h1 (fun i a b => by simp; omega)
      obtain ⟨-, q1, q2, q3⟩ := zRd_op HT hb
      obtain ⟨S', k1, k2, k3, k4⟩ := z_mvX25 (i := nI (zcnt (zopB w h (gA Sy 5)) c)) (fX5_moveIce_2 f) HT (zX_of hX (h1 11 (by simp)).2.2 (h1 12 (by simp)).2.2 (h1 13 (by simp)).2.2) (zopB_iff.1 hb)
      refine ⟨S', ?_, gOff_tr h1 k2, fun j hj hb2 sd hs => ?_⟩
      · show fX5_moveIce_2L (fX5_moveIce_2 f) T (nI (zcnt (zopB w h (gA Sy 5)) c)) = _
        unfold fX5_moveIce_2L
        refine z_f q2 (z_c rfl q1 (by omega) ?_)
        rw [z_let, z_cl (by omega), q3, k1, z_inc]
      · by_cases e : j = c
        · rw [e]; exact k3 sd hs
        · rw [k4 _ (by omega)]; exact h2 j (by omega) hb2 sd hs)
    (by
      rintro f T ⟨h1, h2⟩
      refine ⟨T, ?_, h1, h2⟩
      show fX5_moveIce_2L (fX5_moveIce_2 f) T (nI (zcnt (zopB w h (gA Sy 5)) 64)) = _
      unfold fX5_moveIce_2L
      refine z_t ?_ rfl
      rw [(h1 5 (by simp)).1, H.1.2.2.2.2.2.2.1]
      exact z_len (Nat.le_refl _) (by have := zcnt_le (zopB w h (gA Sy 5)) 64; omega))
    64 gx_fuel 0 S (by omega) (by have := z_fuelB; omega) (by omega) ⟨gOff_rf, fun j hj => absurd hj (by omega)⟩
  obtain ⟨T, k1, k2, k3⟩ := key
  obtain ⟨T2, b1, b2, b3, b4, b5, b6, b7⟩ := z_become 41 10 T (by omega)
  have o2 : gOff [45, 41, 42, 43, 44] S T2 := gOff_tr (gOff_mo k2 (fun i hi => by simp at hi ⊢; omega)) (gOff_mo b2 (fun i hi => by simp at hi ⊢; omega))
  have hX2 : zX (zOp w h (gA Sy 5)) T2 G := zX_of hX (o2 11 (by simp)).2.2 (o2 12 (by simp)).2.2 (o2 13 (by simp)).2.2
  have hXT : zX (zOp w h (gA Sy 5)) T G := zX_of hX (k2 11 (by simp)).2.2 (k2 12 (by simp)).2.2 (k2 13 (by simp)).2.2
  obtain ⟨S', c1, c2, c3⟩ := z_mvX71 (y := y) (N := N) (g := G.1) (B := (G.1, G)) (zRd_x H o2 (fun i a b => by simp; omega)) hX2 (fun c hc k hk => by
      have := hc.1
      rw [b5 _ (by omega)]
      exact (hXT.1 c hc).1 k hk) ⟨hJ, fun _ _ => Nat.le_refl _⟩ hN hy (by rw [(o2 10 (by simp)).1]; exact hyr) (fun c hc hb sd hs => by
      rw [(b2 45 (by simp)).2.2]; exact k3 c hc hb sd hs)
  refine ⟨S', ?_, c2, gOff_tr (gOff_mo o2 (fun i hi => by simp at hi ⊢; omega)) (gOff_mo c3 (fun i hi => by simp at hi ⊢; omega))⟩
  show fX5_moveIce_2 gx_fuel S 0 = _
  refine Eq.trans k1 ?_
  exact z_b b1 c1

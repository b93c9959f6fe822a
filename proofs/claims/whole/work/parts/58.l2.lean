/-! lakes -/
def zGone (c k : Nat) (G : zG) : zG := (fun i j => if i = c ∧ j < k then 0 else G.1 i j, fun i => if 183 ≤ i ∧ i < 183 + k then G.2 i + lN (G.1 c (i - 183)) else G.2 i)
theorem zGone_0 (c : Nat) (G : zG) : zGone c 0 G = G := by
  unfold zGone
  refine Prod.ext ?_ ?_
  · funext i j
    show (if i = c ∧ j < 0 then 0 else G.1 i j) = G.1 i j
    rw [if_neg (by omega)]
  · funext i
    show (if 183 ≤ i ∧ i < 183 + 0 then _ else G.2 i) = G.2 i
    rw [if_neg (by omega)]
theorem zGone_s (c k : Nat) (G : zG) : zGone c (k + 1) G = (gset (zGone c k G).1 c k 0, sadd (zGone c k G).2 (183 + k) (lN (G.1 c k))) := by
  refine Prod.ext ?_ ?_
  · funext i j
    show (if i = c ∧ j < k + 1 then 0 else G.1 i j) = gset (fun i j => if i = c ∧ j < k then 0 else G.1 i j) c k 0 i j
    by_cases e : i = c ∧ j = k
    · rw [if_pos (by omega), e.1, e.2, gset_s]
    · rw [gset_o _ e]
      by_cases e2 : i = c ∧ j < k
      · rw [if_pos (by omega)]
        exact (if_pos e2).symm
      · rw [if_neg (by omega)]
        exact (if_neg e2).symm
  · funext i
    show (if 183 ≤ i ∧ i < 183 + (k + 1) then G.2 i + lN (G.1 c (i - 183)) else G.2 i) = (if i = 183 + k then (if 183 ≤ i ∧ i < 183 + k then G.2 i + lN (G.1 c (i - 183)) else G.2 i) + lN (G.1 c k) else (if 183 ≤ i ∧ i < 183 + k then G.2 i + lN (G.1 c (i - 183)) else G.2 i))
    by_cases e : i = 183 + k
    · rw [if_pos (by omega), if_pos e, if_neg (by omega), show i - 183 = k by omega]
    · rw [if_neg e]
      by_cases e2 : 183 ≤ i ∧ i < 183 + k
      · rw [if_pos (by omega), if_pos e2]
      · rw [if_neg (by omega), if_neg e2]
theorem zGone_c (c k : Nat) (G : zG) {j : Nat} (h : k ≤ j) : (zGone c k G).1 c j = G.1 c j := if_neg (by omega)
theorem zGone_sw (c k : Nat) (G : zG) : zGone c k (gset G.1 c k 0, sadd G.2 (183 + k) (lN (G.1 c k))) = zGone c (k + 1) G := by
  refine Prod.ext ?_ ?_
  · funext i j
    show (if i = c ∧ j < k then 0 else gset G.1 c k 0 i j) = (if i = c ∧ j < k + 1 then 0 else G.1 i j)
    by_cases e : i = c ∧ j = k
    · rw [if_pos (show i = c ∧ j < k + 1 by omega), if_neg (by omega), e.1, e.2, gset_s]
    · rw [gset_o _ e]
      by_cases e2 : i = c ∧ j < k
      · rw [if_pos e2, if_pos (by omega)]
      · rw [if_neg e2, if_neg (by omega)]
  · funext i
    show (if 183 ≤ i ∧ i < 183 + k then sadd G.2 (183 + k) (lN (G.1 c k)) i + lN (gset G.1 c k 0 c (i - 183)) else sadd G.2 (183 + k) (lN (G.1 c k)) i) = (if 183 ≤ i ∧ i < 183 + (k + 1) then G.2 i + lN (G.1 c (i - 183)) else G.2 i)
    unfold sadd
    by_cases e : i = 183 + k
    · rw [if_neg (by omega), if_pos e, if_pos (by omega), show i - 183 = k by omega]
    · rw [if_neg e]
      by_cases e2 : 183 ≤ i ∧ i < 183 + k
      · rw [if_pos e2, if_pos (by omega), gset_o _ (by omega)]
      · rw [if_neg e2, if_neg (by omega)]
theorem zLose_all (c : Nat) : ∀ (k m : Nat) (G : zG), gsum (G.1 c) k ≤ m → zLose 3 c k m G = zGone c k G
  | 0, _, G, _ => (zGone_0 c G).symm
  | k + 1, m, G, h => by
    have h1 : gsum (G.1 c) k + G.1 c k ≤ m := h
    show zLose 3 c k (m - min m (G.1 c k)) (gset G.1 c k (G.1 c k - min m (G.1 c k)), sadd G.2 (61 * 3 + k) (lN (min m (G.1 c k)))) = _
    rw [Nat.min_eq_right (by omega), Nat.sub_self, zLose_all c k _ _ (by
      show gsum (gset G.1 c k 0 c) k ≤ m - G.1 c k
      rw [gsum_cg (f := gset G.1 c k 0 c) (f2 := G.1 c) (fun j hj => gset_o _ (by omega))]
      omega)]
    exact zGone_sw c k G
def zSw (p : Nat → Bool) (kd : Nat → Int32) (y : Nat) : Nat → zG → zG
  | 0, G => G
  | c + 1, G => if p c = true ∧ kd c = 3 then zLose 3 c (y + 1) (gsum ((zSw p kd y c G).1 c) 61) (zSw p kd y c G) else zSw p kd y c G
theorem zSw_t {p : Nat → Bool} {kd : Nat → Int32} {y c : Nat} {G : zG} (h1 : p c = true) (h2 : kd c = 3) : zSw p kd y (c + 1) G = zLose 3 c (y + 1) (gsum ((zSw p kd y c G).1 c) 61) (zSw p kd y c G) := if_pos ⟨h1, h2⟩
theorem zSw_f {p : Nat → Bool} {kd : Nat → Int32} {y c : Nat} {G : zG} (h : ¬ (p c = true ∧ kd c = 3)) : zSw p kd y (c + 1) G = zSw p kd y c G := if_neg h
theorem zSw_J {w h N y : Nat} {kd : Nat → Int32} {G : zG} (hy : y ≤ 60) (h0 : zJn N (zOp w h kd) y G) : ∀ c, c ≤ 64 → zJn N (zOp w h kd) y (zSw (zopB w h kd) kd y c G)
  | 0, _ => h0
  | c + 1, hc => by
    have ih := zSw_J hy h0 c (by omega)
    by_cases hb : zopB w h kd c = true ∧ kd c = 3
    · rw [zSw_t hb.1 hb.2]
      exact zLose_J (by omega) (zopB_iff.1 hb.1) hy (y + 1) _ _ (Nat.le_refl _) ih
    · rw [zSw_f hb]
      exact ih
theorem z_floatX {w h N y : Nat} {Sx Sy : gS} {G : zG} (H : zRd w h Sx Sy) (hX : zX (zOp w h (gA Sy 5)) Sx G) (hJ : zJn N (zOp w h (gA Sy 5)) y G) (hN : N ≤ 2000000000) (hy : y ≤ 60) (hyr : gI Sx 10 3 = nI y) :
    ∃ S', fX5_floatIce Sx = some ((), S') ∧ zX (zOp w h (gA Sy 5)) S' (zSw (zopB w h (gA Sy 5)) (gA Sy 5) y 64 G) ∧ gOff [11, 12, 13] Sx S' := by
  have key := z_lpO (E := fun r : Unit × gS => some r) (zopB w h (gA Sy 5)) (fun f i (t : gS) => fX5_floatIce_2 f t (nI i))
    (fun c t => zX (zOp w h (gA Sy 5)) t (zSw (zopB w h (gA Sy 5)) (gA Sy 5) y c G) ∧ gOff [11, 12, 13] Sx t)
    (fun r => zX (zOp w h (gA Sy 5)) r.2 (zSw (zopB w h (gA Sy 5)) (gA Sy 5) y 64 G) ∧ gOff [11, 12, 13] Sx r.2)
    (fun c t hc hb hp => by rw [zSw_f (fun e => by rw [hb] at e; exact Bool.false_ne_true e.1)]; exact hp)
    (by
      rintro f c T hc hb ⟨h1, h2⟩
      right
      have ho := zopB_iff.1 hb
      have H2 : zRd w h T Sy := zRd_x H h2 (fun i a b => by simp; omega)
      obtain ⟨-, q1, q2, q3⟩ := zRd_op H2 hb
      have hJc := zSw_J hy hJ c (by omega)
      by_cases h3 : gA Sy 5 c = 3
      · have hr := zJn_r hJc hc
        obtain ⟨S', k1, k2, k3⟩ := z_loseX (q := 3) (m := gsum ((zSw (zopB w h (gA Sy 5)) (gA Sy 5) y c G).1 c) 61) h1 hJc hN hy (by rw [(h2 10 (by simp)).1]; exact hyr) hc ho (by omega) (by omega) (by omega)
        refine ⟨S', ?_, by rw [zSw_t hb h3]; exact k2, gOff_tr h2 k3⟩
        show fX5_floatIce_2L (fX5_floatIce_2 f) T (nI (zcnt (zopB w h (gA Sy 5)) c)) = _
        unfold fX5_floatIce_2L
        refine z_f q2 (z_c rfl q1 (by omega) ?_)
        rw [z_let, z_cl (by omega), q3]
        refine z_c rfl hc (by omega) ?_
        rw [z_cl (by omega), zRd_kd H2 hc]
        refine z_t h3 (z_c rfl hc (by omega) ?_)
        rw [(h1.1 c ho).2]
        refine z_b k1 ?_
        show fX5_floatIce_2 f S' (nI _ + 1) = _
        rw [z_inc]
      · refine ⟨T, ?_, by rw [zSw_f (fun e => h3 e.2)]; exact h1, h2⟩
        show fX5_floatIce_2L (fX5_floatIce_2 f) T (nI (zcnt (zopB w h (gA Sy 5)) c)) = _
        unfold fX5_floatIce_2L
        refine z_f q2 (z_c rfl q1 (by omega) ?_)
        rw [z_let, z_cl (by omega), q3]
        refine z_c rfl hc (by omega) ?_
        rw [z_cl (by omega), zRd_kd H2 hc]
        refine z_f h3 ?_
        show fX5_floatIce_2 f T (nI _ + 1) = _
        rw [z_inc])
    (by
      rintro f T ⟨h1, h2⟩
      refine ⟨((), T), ?_, h1, h2⟩
      show fX5_floatIce_2L (fX5_floatIce_2 f) T (nI (zcnt (zopB w h (gA Sy 5)) 64)) = _
      unfold fX5_floatIce_2L
      refine z_t ?_ rfl
      rw [(h2 5 (by simp)).1, H.1.2.2.2.2.2.2.1]
      exact z_len (Nat.le_refl _) (by have := zcnt_le (zopB w h (gA Sy 5)) 64; omega))
    64 gx_fuel 0 Sx (by omega) (by have := z_fuelB; omega) (by omega) ⟨hX, gOff_rf⟩
  obtain ⟨⟨u, S'⟩, k1, k2, k3⟩ := key
  exact ⟨S', k1, k2, k3⟩
theorem z_swim10 {w h c : Nat} {Sx S : gS} {G : zG} (K2 : gS → Int32 → Option (Unit × gS)) (H : zRd w h Sx S) (hY : zY S G) (hb : zopB w h (gA S 5) c = true) (h3 : gA S 5 c = 3) :
    ∃ S', fX6_swim_10 K2 gx_fuel S (nI c) 0 = K2 S' (nI (c + 1)) ∧ zY S' (zGone c 61 G) ∧ gOff [8, 9] S S' := by
  have hc := (zopB_iff.1 hb).1
  have key := z_lp (E := fun r : gS => K2 r (nI (c + 1))) 61 (fun f j (t : gS) => fX6_swim_10 K2 f t (nI c) (nI j))
    (fun j t => gOff [8, 9] S t ∧ zY t (zGone c j G)) (fun r => gOff [8, 9] S r ∧ zY r (zGone c 61 G)) (by
      rintro f j T hj ⟨h1, h2⟩
      rcases Nat.lt_or_ge j 61 with hj | hj
      · right
        have HT := zRd_y H h1 (by simp)
        have e5 : gA T 5 = gA S 5 := (h1 5 (by simp)).2.1
        have hI := z_isIce HT.1 hc
        rw [e5, hb] at hI
        have hr : gJ T 8 (61 * c + j) = lN (G.1 c j) := by
          rw [h2.1 c j hc hj, zGone_c c j G (Nat.le_refl j)]
        have y1 := zY_sum (i := 183 + j) (v := lN (G.1 c j)) h2 (by omega) (by omega)
        have y2 := zY_set (c := c) (k := j) (x := 0) (v := 0) y1 hj rfl
        refine ⟨hj, gJ_up (gJ_up T 9 (183 + j) (gJ T 9 (183 + j) + lN (G.1 c j))) 8 (61 * c + j) 0, ?_, gOff_tr h1 (gOff_tr (gOff_J (by simp)) (gOff_J (by simp))), by rw [zGone_s]; exact y2⟩
        show fX6_swim_10L K2 (fX6_swim_10 K2 f) T (nI c) (nI j) = _
        unfold fX6_swim_10L
        refine z_f (z_nle (a := 61) hj (by omega)) (z_b hI (z_f (by decide) (z_c rfl hc (by omega) ?_)))
        rw [z_cl (by omega), e5]
        refine z_t h3 ?_
        rw [z_p 183, z_61m]
        refine z_c rfl (by omega) (by omega) (z_c rfl (by omega) (by omega) (z_c rfl (by omega) (by omega) ?_))
        rw [z_let, z_cl (by omega), z_cl (by omega), hr]
        refine z_c rfl (by omega) (by omega) ?_
        rw [z_let, z_let, z_inc]
      · have e : j = 61 := by omega
        subst e
        refine Or.inl ⟨T, ?_, h1, h2⟩
        show fX6_swim_10L K2 (fX6_swim_10 K2 f) T (nI c) (nI 61) = _
        unfold fX6_swim_10L
        refine z_t (z_len (a := 61) (b := 61) (by omega) (by omega)) ?_
        show K2 T (nI c + 1) = _
        rw [z_inc])
    61 gx_fuel 0 S (by omega) (by have := z_fuelB; omega) (by omega) ⟨gOff_rf, by rw [zGone_0]; exact hY⟩
  obtain ⟨S', k1, k2, k3⟩ := key
  exact ⟨S', k1, k3, k2⟩
theorem z_swim0 {w h c : Nat} {Sx S : gS} (K2 : gS → Int32 → Option (Unit × gS)) (H : zRd w h Sx S) (hc : c < 64) (hb : ¬ (zopB w h (gA S 5) c = true ∧ gA S 5 c = 3)) :
    fX6_swim_10 K2 gx_fuel S (nI c) 0 = K2 S (nI (c + 1)) := by
  have hI := z_isIce H.1 hc
  have e : gx_fuel = 99999 + 1 := rfl
  rw [e]
  show fX6_swim_10L K2 (fX6_swim_10 K2 99999) S (nI c) (nI 0) = _
  unfold fX6_swim_10L
  refine z_f (z_nle (a := 61) (b := 0) (by omega) (by omega)) (z_b hI ?_)
  cases h1 : zopB w h (gA S 5) c with
  | false =>
    refine z_t rfl ?_
    show K2 S (nI c + 1) = _
    rw [z_inc]
  | true =>
    refine z_f (by decide) (z_c rfl hc (by omega) ?_)
    rw [z_cl (by omega)]
    refine z_f (fun q => hb ⟨h1, q⟩) ?_
    show K2 S (nI c + 1) = _
    rw [z_inc]
theorem z_swimY {w h N y : Nat} {Sx S : gS} {G : zG} (H : zRd w h Sx S) (hY : zY S G) (hJ : zJn N (zOp w h (gA S 5)) y G) (hy : y ≤ 60) :
    ∃ S', fX6_swim S = some ((), S') ∧ zY S' (zSw (zopB w h (gA S 5)) (gA S 5) y 64 G) ∧ gOff [8, 9] S S' := by
  have key := z_lp (E := fun r : Unit × gS => some r) 64 (fun f c (t : gS) => fX6_swim_2 f t (nI c))
    (fun c t => gOff [8, 9] S t ∧ zY t (zSw (zopB w h (gA S 5)) (gA S 5) y c G))
    (fun r => gOff [8, 9] S r.2 ∧ zY r.2 (zSw (zopB w h (gA S 5)) (gA S 5) y 64 G)) (by
      rintro f c T hc ⟨h1, h2⟩
      rcases Nat.lt_or_ge c 64 with hc | hc
      · right
        have HT := zRd_y H h1 (by simp)
        have e5 : gA T 5 = gA S 5 := (h1 5 (by simp)).2.1
        have hJc := zSw_J hy hJ c (by omega)
        by_cases hb : zopB w h (gA S 5) c = true ∧ gA S 5 c = 3
        · obtain ⟨S', k1, k2, k3⟩ := z_swim10 (fX6_swim_2 f) HT h2 (by rw [e5]; exact hb.1) (by rw [e5]; exact hb.2)
          refine ⟨hc, S', ?_, gOff_tr h1 k3, ?_⟩
          · show fX6_swim_2L (fX6_swim_2 f) T (nI c) = _
            unfold fX6_swim_2L
            exact z_f (z_nle (a := 64) hc (by omega)) k1
          · rw [zSw_t hb.1 hb.2]
            have e := zLose_hi 3 c y (gsum ((zSw (zopB w h (gA S 5)) (gA S 5) y c G).1 c) 61) (G := zSw (zopB w h (gA S 5)) (gA S 5) y c G) (fun k hk => hJc.2.1 c k hk) (60 - y)
            rw [show y + 1 + (60 - y) = 61 by omega, zLose_all c 61 _ _ (Nat.le_refl _)] at e
            rw [← e]; exact k2
        · refine ⟨hc, T, ?_, h1, by rw [zSw_f hb]; exact h2⟩
          show fX6_swim_2L (fX6_swim_2 f) T (nI c) = _
          unfold fX6_swim_2L
          exact z_f (z_nle (a := 64) hc (by omega)) (z_swim0 _ HT hc (by rw [e5]; exact hb))
      · have e : c = 64 := by omega
        subst e
        refine Or.inl ⟨((), T), ?_, h1, h2⟩
        show fX6_swim_2L (fX6_swim_2 f) T (nI 64) = _
        unfold fX6_swim_2L
        exact z_t (z_len (a := 64) (b := 64) (by omega) (by omega)) rfl)
    64 gx_fuel 0 S (by omega) (by have := z_fuelB; omega) (by omega) ⟨gOff_rf, hY⟩
  obtain ⟨⟨u, S'⟩, k1, k2, k3⟩ := key
  exact ⟨S', k1, k3, k2⟩

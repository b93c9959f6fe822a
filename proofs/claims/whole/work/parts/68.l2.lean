/-! about, in the programs -/
theorem z_endX {w h : Nat} {S Sy : gS} (H : zRd w h S Sy) : gI S 5 4 ≤ nI (zcnt (zopB w h (gA Sy 5)) 64) := by
  rw [H.1.2.2.2.2.2.2.1]
  exact z_len (Nat.le_refl _) (by have := zcnt_le (zopB w h (gA Sy 5)) 64; omega)
theorem z_thkX {w h n y : Nat} {S Sy : gS} {G : zG} (H : zRd w h S Sy) (hX : zX (zOp w h (gA Sy 5)) S G) (hJ : zJn n (zOp w h (gA Sy 5)) y G) (hn : n ≤ 2000000000) :
    fX5_thickestPlace S = some (zPl (-1) (zBt (zopB w h (gA Sy 5)) (fun c => gsum (G.1 c) 61) 64).2, S) := by
  have hB : ∀ c, c < 64 → gsum (G.1 c) 61 ≤ n := fun c hc => zJn_r hJ hc
  have key := z_lpO (E := fun r : Int32 × gS => some r) (zopB w h (gA Sy 5)) (fun f i (t : Int32 × Int64) => fX5_thickestPlace_7 f S t.1 t.2 (nI i))
    (fun c t => t = (zPl (-1) (zBt (zopB w h (gA Sy 5)) (fun c => gsum (G.1 c) 61) c).2, lN (zBt (zopB w h (gA Sy 5)) (fun c => gsum (G.1 c) 61) c).1))
    (fun r => r = (zPl (-1) (zBt (zopB w h (gA Sy 5)) (fun c => gsum (G.1 c) 61) 64).2, S))
    (fun c t hc hb hp => by
      have e : zBt (zopB w h (gA Sy 5)) (fun c => gsum (G.1 c) 61) (c + 1) = zBt (zopB w h (gA Sy 5)) (fun c => gsum (G.1 c) 61) c := if_neg (fun q => by rw [hb] at q; exact Bool.false_ne_true q.1)
      rw [e]; exact hp)
    (by
      intro f c t hc hb hp
      right
      have ho := zopB_iff.1 hb
      obtain ⟨-, q1, q2, q3⟩ := zRd_op H hb
      have b1 := (zBt_in (zopB w h (gA Sy 5)) (fun c => gsum (G.1 c) 61) hB c (by omega)).1
      have b2 := hB c hc
      rw [hp]
      have pre : ∀ R, (if lN (gsum (G.1 c) 61) ≤ lN (zBt (zopB w h (gA Sy 5)) (fun c => gsum (G.1 c) 61) c).1 then fX5_thickestPlace_7 f S (zPl (-1) (zBt (zopB w h (gA Sy 5)) (fun c => gsum (G.1 c) 61) c).2) (lN (zBt (zopB w h (gA Sy 5)) (fun c => gsum (G.1 c) 61) c).1) (nI (zcnt (zopB w h (gA Sy 5)) c) + 1) else
          fX5_thickestPlace_7 f S (nI c) (lN (gsum (G.1 c) 61)) (nI (zcnt (zopB w h (gA Sy 5)) c) + 1)) = R → fX5_thickestPlace_7 (f + 1) S (zPl (-1) (zBt (zopB w h (gA Sy 5)) (fun c => gsum (G.1 c) 61) c).2) (lN (zBt (zopB w h (gA Sy 5)) (fun c => gsum (G.1 c) 61) c).1) (nI (zcnt (zopB w h (gA Sy 5)) c)) = R := fun R hR => by
        show fX5_thickestPlace_7L (fX5_thickestPlace_7 f) S _ _ _ = _
        unfold fX5_thickestPlace_7L
        refine z_f q2 (z_c rfl q1 (by omega) ?_)
        rw [z_let, z_cl (by omega), q3]
        refine z_c rfl hc (by omega) ?_
        rw [z_cl (by omega), (hX.1 c ho).2, ← hR]
        refine z_if rfl (z_c rfl hc (by omega) ?_)
        rw [z_let]
        rfl
      by_cases h1 : (zBt (zopB w h (gA Sy 5)) (fun c => gsum (G.1 c) 61) c).1 < gsum (G.1 c) 61
      · have e : zBt (zopB w h (gA Sy 5)) (fun c => gsum (G.1 c) 61) (c + 1) = (gsum (G.1 c) 61, some c) := if_pos ⟨hb, h1⟩
        refine ⟨(nI c, lN (gsum (G.1 c) 61)), pre _ (z_f (by rw [z_leL (by omega) (by omega)]; omega) (by rw [z_inc])), ?_⟩
        rw [e]; rfl
      · have e : zBt (zopB w h (gA Sy 5)) (fun c => gsum (G.1 c) 61) (c + 1) = zBt (zopB w h (gA Sy 5)) (fun c => gsum (G.1 c) 61) c := if_neg (fun q => h1 q.2)
        refine ⟨(zPl (-1) (zBt (zopB w h (gA Sy 5)) (fun c => gsum (G.1 c) 61) c).2, lN (zBt (zopB w h (gA Sy 5)) (fun c => gsum (G.1 c) 61) c).1), pre _ (z_t (by rw [z_leL (by omega) (by omega)]; omega) (by rw [z_inc])), ?_⟩
        rw [e])
    (by
      intro f t hp
      refine ⟨(t.1, S), ?_, by rw [hp]⟩
      show fX5_thickestPlace_7L (fX5_thickestPlace_7 f) S t.1 t.2 (nI (zcnt (zopB w h (gA Sy 5)) 64)) = _
      unfold fX5_thickestPlace_7L
      exact z_t (z_endX H) rfl)
    64 gx_fuel 0 (-1, 0) (by omega) (by have := z_fuelB; omega) (by omega) rfl
  obtain ⟨r, k1, k2⟩ := key
  rw [k2] at k1
  exact k1
theorem z_icyX {w h n y : Nat} {S Sy : gS} {G : zG} (H : zRd w h S Sy) (hX : zX (zOp w h (gA Sy 5)) S G) (hJ : zJn n (zOp w h (gA Sy 5)) y G) (hn : n ≤ 2000000000) :
    fX5_icyCells S = some (nI (zcnt (zIcy (zopB w h (gA Sy 5)) (fun c => gsum (G.1 c) 61)) 64), S) := by
  have hB : ∀ c, c < 64 → gsum (G.1 c) 61 ≤ n := fun c hc => zJn_r hJ hc
  have key := z_lpO (E := fun r : Int32 × gS => some r) (zopB w h (gA Sy 5)) (fun f i (t : Int32) => fX5_icyCells_4 f S t (nI i))
    (fun c t => t = nI (zcnt (zIcy (zopB w h (gA Sy 5)) (fun c => gsum (G.1 c) 61)) c))
    (fun r => r = (nI (zcnt (zIcy (zopB w h (gA Sy 5)) (fun c => gsum (G.1 c) 61)) 64), S))
    (fun c t hc hb hp => by
      have e : zcnt (zIcy (zopB w h (gA Sy 5)) (fun c => gsum (G.1 c) 61)) (c + 1) = zcnt (zIcy (zopB w h (gA Sy 5)) (fun c => gsum (G.1 c) 61)) c := by simp [zcnt, zIcy, hb]
      rw [e]; exact hp)
    (by
      intro f c t hc hb hp
      right
      have ho := zopB_iff.1 hb
      obtain ⟨-, q1, q2, q3⟩ := zRd_op H hb
      have b2 := hB c hc
      have pre : ∀ R, (if lN (gsum (G.1 c) 61) ≤ 0 then fX5_icyCells_4 f S t (nI (zcnt (zopB w h (gA Sy 5)) c) + 1) else fX5_icyCells_4 f S (t + 1) (nI (zcnt (zopB w h (gA Sy 5)) c) + 1)) = R → fX5_icyCells_4 (f + 1) S t (nI (zcnt (zopB w h (gA Sy 5)) c)) = R := fun R hR => by
        show fX5_icyCells_4L (fX5_icyCells_4 f) S _ _ = _
        unfold fX5_icyCells_4L
        refine z_f q2 (z_c rfl q1 (by omega) ?_)
        rw [z_cl (by omega), q3]
        refine z_c rfl hc (by omega) ?_
        rw [z_cl (by omega), (hX.1 c ho).2, ← hR]
        exact z_if rfl rfl
      by_cases h1 : gsum (G.1 c) 61 = 0
      · have e : zcnt (zIcy (zopB w h (gA Sy 5)) (fun c => gsum (G.1 c) 61)) (c + 1) = zcnt (zIcy (zopB w h (gA Sy 5)) (fun c => gsum (G.1 c) 61)) c := by simp [zcnt, zIcy, h1]
        exact ⟨t, pre _ (z_t (by rw [z_le0 (by omega)]; exact h1) (by rw [z_inc])), by rw [e]; exact hp⟩
      · have e : zcnt (zIcy (zopB w h (gA Sy 5)) (fun c => gsum (G.1 c) 61)) (c + 1) = zcnt (zIcy (zopB w h (gA Sy 5)) (fun c => gsum (G.1 c) 61)) c + 1 := by simp [zcnt, zIcy, hb, Nat.pos_of_ne_zero h1]
        exact ⟨t + 1, pre _ (z_f (by rw [z_le0 (by omega)]; exact h1) (by rw [z_inc])), by rw [e, hp, z_inc]⟩)
    (by
      intro f t hp
      refine ⟨(t, S), ?_, by rw [hp]⟩
      show fX5_icyCells_4L (fX5_icyCells_4 f) S t (nI (zcnt (zopB w h (gA Sy 5)) 64)) = _
      unfold fX5_icyCells_4L
      exact z_t (z_endX H) rfl)
    64 gx_fuel 0 0 (by omega) (by have := z_fuelB; omega) (by omega) rfl
  obtain ⟨r, k1, k2⟩ := key
  rw [k2] at k1
  exact k1
theorem z_surfN {v t : Nat} (hv : v ≤ 9999) : (nI v).toInt64 + lN t = lN (v + t) := by rw [z_wide (by omega), lN_add]
theorem z_lowX {w h n y : Nat} {S Sy : gS} {G : zG} (H : zRd w h S Sy) (hX : zX (zOp w h (gA Sy 5)) S G) (hJ : zJn n (zOp w h (gA Sy 5)) y G) (hn : n ≤ 2000000000) :
    fX5_lowestIceSurface S = some (zO64 (zLo (zopB w h (gA Sy 5)) (fun c => gsum (G.1 c) 61) (fun c => zlev Sy c + gsum (G.1 c) 61) 64), S) := by
  have hB : ∀ c, c < 64 → gsum (G.1 c) 61 ≤ n := fun c hc => zJn_r hJ hc
  have hB2 : ∀ c, c < 64 → zlev Sy c + gsum (G.1 c) 61 ≤ n + 9999 := fun c hc => by
    have := hB c hc
    have := (zRd_lev H hc).2.2
    omega
  have key := z_lpO (E := fun r : Int64 × gS => some r) (zopB w h (gA Sy 5)) (fun f i (t : Int64) => fX5_lowestIceSurface_6 f S t (nI i))
    (fun c t => t = zO64 (zLo (zopB w h (gA Sy 5)) (fun c => gsum (G.1 c) 61) (fun c => zlev Sy c + gsum (G.1 c) 61) c))
    (fun r => r = (zO64 (zLo (zopB w h (gA Sy 5)) (fun c => gsum (G.1 c) 61) (fun c => zlev Sy c + gsum (G.1 c) 61) 64), S))
    (fun c t hc hb hp => by
      have e : zLo (zopB w h (gA Sy 5)) (fun c => gsum (G.1 c) 61) (fun c => zlev Sy c + gsum (G.1 c) 61) (c + 1) = zLo (zopB w h (gA Sy 5)) (fun c => gsum (G.1 c) 61) (fun c => zlev Sy c + gsum (G.1 c) 61) c := if_neg (fun q => by rw [hb] at q; exact Bool.false_ne_true q.1)
      rw [e]; exact hp)
    (by
      intro f c t hc hb hp
      right
      have ho := zopB_iff.1 hb
      obtain ⟨-, q1, q2, q3⟩ := zRd_op H hb
      have b2 := hB c hc
      have b3 := hB2 c hc
      have l1 := zRd_lev H hc
      have hsf : fX5_surface S (nI c) = some (lN (zlev Sy c + gsum (G.1 c) 61), S) := by
        refine z_c rfl hc (by omega) (z_c rfl hc (by omega) ?_)
        rw [z_cl (by omega), (hX.1 c ho).2, l1.2.1, z_surfN l1.2.2]
      rw [hp]
      have pre : ∀ t R, (if lN (gsum (G.1 c) 61) ≤ 0 then fX5_lowestIceSurface_6 f S t (nI (zcnt (zopB w h (gA Sy 5)) c) + 1) else if t = -9 then fX5_lowestIceSurface_6 f S (lN (zlev Sy c + gsum (G.1 c) 61)) (nI (zcnt (zopB w h (gA Sy 5)) c) + 1) else if t ≤ lN (zlev Sy c + gsum (G.1 c) 61) then fX5_lowestIceSurface_6 f S t (nI (zcnt (zopB w h (gA Sy 5)) c) + 1) else fX5_lowestIceSurface_6 f S (lN (zlev Sy c + gsum (G.1 c) 61)) (nI (zcnt (zopB w h (gA Sy 5)) c) + 1)) = R → fX5_lowestIceSurface_6 (f + 1) S t (nI (zcnt (zopB w h (gA Sy 5)) c)) = R := fun t R hR => by
        show fX5_lowestIceSurface_6L (fX5_lowestIceSurface_6 f) S _ _ = _
        unfold fX5_lowestIceSurface_6L
        refine z_f q2 (z_c rfl q1 (by omega) ?_)
        rw [z_let, z_cl (by omega), q3]
        refine z_c rfl hc (by omega) ?_
        rw [z_cl (by omega), (hX.1 c ho).2, ← hR]
        have e62 : fX5_lowestIceSurface_62 (fX5_lowestIceSurface_6 f) S (nI (zcnt (zopB w h (gA Sy 5)) c)) (nI c) = fX5_lowestIceSurface_6 f S (lN (zlev Sy c + gsum (G.1 c) 61)) (nI (zcnt (zopB w h (gA Sy 5)) c) + 1) := z_b hsf rfl
        exact z_if rfl (z_if e62 (z_b hsf (z_if rfl e62)))
      by_cases h1 : gsum (G.1 c) 61 = 0
      · have e : zLo (zopB w h (gA Sy 5)) (fun c => gsum (G.1 c) 61) (fun c => zlev Sy c + gsum (G.1 c) 61) (c + 1) = zLo (zopB w h (gA Sy 5)) (fun c => gsum (G.1 c) 61) (fun c => zlev Sy c + gsum (G.1 c) 61) c := if_neg (fun q => by have : 0 < gsum (G.1 c) 61 := q.2; omega)
        exact ⟨_, pre _ _ (z_t (by rw [z_le0 (by omega)]; exact h1) (by rw [z_inc])), by rw [e]⟩
      · have e : zLo (zopB w h (gA Sy 5)) (fun c => gsum (G.1 c) 61) (fun c => zlev Sy c + gsum (G.1 c) 61) (c + 1) = zMinO (zLo (zopB w h (gA Sy 5)) (fun c => gsum (G.1 c) 61) (fun c => zlev Sy c + gsum (G.1 c) 61) c) (zlev Sy c + gsum (G.1 c) 61) := if_pos ⟨hb, Nat.pos_of_ne_zero h1⟩
        rw [e]
        refine ⟨_, pre _ _ (z_f (by rw [z_le0 (by omega)]; exact h1) ?_), rfl⟩
        rw [z_inc]
        refine zO64_step (o := zLo (zopB w h (gA Sy 5)) (fun c => gsum (G.1 c) 61) (fun c => zlev Sy c + gsum (G.1 c) 61) c) (r := zlev Sy c + gsum (G.1 c) 61) (by omega) (fun v hv => by have := zLo_in _ _ _ hB2 c (by omega) v hv; omega) (Or.inr trivial) (fun q => by rw [q]) (fun q => by rw [q]))
    (by
      intro f t hp
      refine ⟨(t, S), ?_, by rw [hp]⟩
      show fX5_lowestIceSurface_6L (fX5_lowestIceSurface_6 f) S t (nI (zcnt (zopB w h (gA Sy 5)) 64)) = _
      unfold fX5_lowestIceSurface_6L
      exact z_t (z_endX H) rfl)
    64 gx_fuel 0 (-9) (by omega) (by have := z_fuelB; omega) (by omega) rfl
  obtain ⟨r, k1, k2⟩ := key
  rw [k2] at k1
  exact k1
theorem z_colB {n y k : Nat} {op : Nat → Prop} {G : zG} (hJ : zJn n op y G) (hk : k < 61) : gsum (fun c => G.1 c k) 64 ≤ n := by
  have h1 : ∀ m, m ≤ 64 → gsum (fun c => G.1 c k) m ≤ gsum (fun c => gsum (G.1 c) 61) m := by
    intro m
    induction m with
    | zero => intro _; exact Nat.le_refl 0
    | succ m ih =>
      intro hm
      have := ih (by omega)
      have := gsum_le (G.1 m) hk
      show gsum (fun c => G.1 c k) m + G.1 m k ≤ gsum (fun c => gsum (G.1 c) 61) m + gsum (G.1 m) 61
      omega
  exact Nat.le_trans (h1 64 (Nat.le_refl _)) hJ.2.2.2
theorem z_oldX {n y : Nat} {op : Nat → Prop} {S : gS} {G : zG} (hX : zX op S G) (hJ : zJn n op y G) (hn : n ≤ 2000000000) (hy : y ≤ 60) (hyr : gI S 10 3 = nI y) :
    fX0_oldestYear 10 S = some (zOr (zFst (fun k => gsum (fun c => G.1 c k) 64) 61), S) := by
  have key := z_loop (y + 1) (fun f j (_ : Unit) => fX0_oldestYear_2 10 f S (nI j)) (fun j _ => ∀ k, k < j → gsum (fun c => G.1 c k) 64 = 0) (fun r => r = (zOr (zFst (fun k => gsum (fun c => G.1 c k) 64) 61), S)) (by
    intro f j t hj hp
    rcases Nat.lt_or_ge j (y + 1) with h1 | h1
    · have b := z_colB (k := j) hJ (by omega)
      have pre : ∀ R, (if lN (gsum (fun c => G.1 c j) 64) ≤ 0 then fX0_oldestYear_2 10 f S (nI j + 1) else some (nI j, S)) = R → fX0_oldestYear_2 10 (f + 1) S (nI j) = R := fun R hR => by
        show fX0_oldestYear_2L 10 (fX0_oldestYear_2 10 f) S (nI j) = _
        unfold fX0_oldestYear_2L
        rw [hyr, z_p 0, Nat.zero_add]
        refine z_f (z_nlt (by omega) (by omega)) (z_c rfl (by omega) (by omega) ?_)
        rw [z_cl (by omega), hX.2.1 j (by omega)]
        exact hR
      by_cases h0 : gsum (fun c => G.1 c j) 64 = 0
      · refine Or.inr ⟨h1, (), pre _ (z_t (by rw [z_le0 (by omega)]; exact h0) (by rw [z_inc])), fun k hk => ?_⟩
        rcases Nat.lt_or_ge k j with q | q
        · exact hp k q
        · rw [show k = j by omega]; exact h0
      · refine Or.inl ⟨_, pre _ (z_f (by rw [z_le0 (by omega)]; exact h0) rfl), ?_⟩
        rw [zFst_k (f := fun k => gsum (fun c => G.1 c k) 64) (show j < 61 by omega) h0 hp]
        rfl
    · refine Or.inl ⟨(-9, S), ?_, ?_⟩
      · show fX0_oldestYear_2L 10 (fX0_oldestYear_2 10 f) S (nI j) = _
        unfold fX0_oldestYear_2L
        exact z_t (by rw [hyr]; exact z_ltn (by omega) (by omega)) rfl
      · rw [zFst_n (f := fun k => gsum (fun c => G.1 c k) 64) (fun k hk => by
          rcases Nat.lt_or_ge k j with q | q
          · exact hp k q
          · exact gsum_0 (fun c _ => hJ.2.1 c k (by omega)))]
        rfl) (y + 1) gx_fuel 0 () (by omega) (by have := z_fuelB; omega) (by omega) (fun k hk => absurd hk (by omega))
  obtain ⟨r, h1, h2⟩ := key
  rw [h2] at h1
  exact h1

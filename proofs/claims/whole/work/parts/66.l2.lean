/-! a year that lies as an earlier one -/
theorem z_gROff {n : Nat} {Sx Sy Sx' Sy' : gS} {lx ly : List Nat} (hR : gR n Sx Sy) (ox : gOff lx Sx Sx') (oy : gOff ly Sy Sy') (hx : ∀ i, i ∈ lx → 36 ≤ i ∧ i ≤ 46) (hy : ∀ i, i ∈ ly → 14 ≤ i) : gR n Sx' Sy' := by
  have sx : ∀ lo hi, (hi ≤ 35 ∨ 47 ≤ lo) → zSame lo hi Sx Sx' := fun lo hi hl o a b => ox o (fun q => by have := hx o q; omega)
  have sy : ∀ o, o < 14 → gI Sy' o = gI Sy o ∧ gA Sy' o = gA Sy o ∧ gJ Sy' o = gJ Sy o := fun o ho => oy o (fun q => by have := hy o q; omega)
  have y0 := (sy 0 (by omega)).1
  obtain ⟨r1, r2, r3⟩ := hR
  exact ⟨zStr_fr (by rw [(ox 0 (fun q => by have := hx 0 q; omega)).1]) (sx _ _ (by omega)) (sy 1 (by omega)).2.1 (sy 2 (by omega)).2.1 (sy 3 (by omega)).2.2 (by rw [y0]) r1, zTold_fr (sx _ _ (by omega)) (sy 10 (by omega)).2.1 (sy 11 (by omega)).2.1 (by rw [y0]) (by rw [y0]) r2,
    zMain_fr (Nat.le_refl n) (sx _ _ (by omega)) ⟨(sy 5 (by omega)).2.1, (sy 6 (by omega)).2.1, (sy 7 (by omega)).2.1, (sy 8 (by omega)).2.2, (sy 9 (by omega)).2.2, (sy 12 (by omega)).2.2, (sy 13 (by omega)).2.2, by rw [y0], by rw [y0], by rw [y0], by rw [y0], by rw [y0]⟩ r3⟩
theorem z_wh {w h w2 h2 : Nat} {Sx Sy Sx2 Sy2 : gS} (H : zLand w h Sx Sy) (H2 : zLand w2 h2 Sx2 Sy2) (e : gI Sx2 5 = gI Sx 5) : w2 = w ∧ h2 = h := by
  have b1 := H.2.2.2.2.1
  have b2 := H2.2.2.2.2.1
  have e1 := H2.1
  rw [e, H.1, z_eqN (by omega) (by omega)] at e1
  have e2 := H2.2.1
  rw [e, H.2.1, z_eqN (by omega) (by omega)] at e2
  exact ⟨e1.symm, e2.symm⟩
theorem z_m64 (a b : Nat) : nI a * 64 + nI b = nI (64 * a + b) := by rw [z_lit 64, z_mul, z_add, Nat.mul_comm]
theorem z_64m (a b : Nat) : (64 : Int32) * nI a + nI b = nI (64 * a + b) := by rw [z_lit 64, z_mul, z_add]
def zHst (k : Nat) (op : Nat → Prop) (Sx Sy : gS) : Prop := ∀ i, i < k → ∃ T : Nat → Int64, (∀ c, op c → gJ Sx 46 (64 * i + c) = T c) ∧ (∀ c, c < 64 → gJ Sy 16 (64 * i + c) = T c) ∧ ∀ c, c < 64 → ¬ op c → T c = 0
theorem z_liesX {w h i : Nat} {S Sy : gS} (H : zRd w h S Sy) (hi : i < 61) : ∃ r, fX5_liesAsIn S (nI i) = some (r, S) ∧ ((r = 1 ∧ ∀ c, zOp w h (gA Sy 5) c → gJ S 46 (64 * i + c) = gJ S 12 c) ∨ (r = 0 ∧ ¬ ∀ c, zOp w h (gA Sy 5) c → gJ S 46 (64 * i + c) = gJ S 12 c)) := by
  have key := z_lpO (E := fun r : Int32 × gS => some r) (zopB w h (gA Sy 5)) (fun f j (_ : Unit) => fX5_liesAsIn_2 f S (nI i) (nI j))
    (fun c _ => ∀ j, j < c → zopB w h (gA Sy 5) j = true → gJ S 46 (64 * i + j) = gJ S 12 j)
    (fun r => r.2 = S ∧ ((r.1 = 1 ∧ ∀ c, zOp w h (gA Sy 5) c → gJ S 46 (64 * i + c) = gJ S 12 c) ∨ (r.1 = 0 ∧ ¬ ∀ c, zOp w h (gA Sy 5) c → gJ S 46 (64 * i + c) = gJ S 12 c)))
    (fun c t hc hb hp j hj hb2 => by
      rcases Nat.lt_or_ge j c with h1 | h1
      · exact hp j h1 hb2
      · rw [show j = c by omega, hb] at hb2
        exact absurd hb2 Bool.false_ne_true)
    (by
      intro f c t hc hb hp
      obtain ⟨-, q1, q2, q3⟩ := zRd_op H hb
      have pre : ∀ R, (if gJ S 46 (64 * i + c) = gJ S 12 c then fX5_liesAsIn_2 f S (nI i) (nI (zcnt (zopB w h (gA Sy 5)) c) + 1) else some (0, S)) = R → fX5_liesAsIn_2 (f + 1) S (nI i) (nI (zcnt (zopB w h (gA Sy 5)) c)) = R := fun R hR => by
        show fX5_liesAsIn_2L (fX5_liesAsIn_2 f) S (nI i) (nI (zcnt (zopB w h (gA Sy 5)) c)) = _
        unfold fX5_liesAsIn_2L
        refine z_f q2 (z_c rfl q1 (by omega) ?_)
        rw [z_let, z_cl (by omega), q3, z_m64]
        refine z_c rfl (by omega) (by omega) (z_c rfl hc (by omega) ?_)
        rw [z_cl (by omega), z_cl (by omega)]
        exact hR
      by_cases e : gJ S 46 (64 * i + c) = gJ S 12 c
      · right
        refine ⟨(), pre _ (z_t e (by rw [z_inc])), fun j hj hb2 => ?_⟩
        rcases Nat.lt_or_ge j c with h1 | h1
        · exact hp j h1 hb2
        · rw [show j = c by omega]; exact e
      · left
        exact ⟨(0, S), pre _ (z_f e rfl), rfl, Or.inr ⟨rfl, fun q => e (q c (zopB_iff.1 hb))⟩⟩)
    (by
      intro f t hp
      refine ⟨(1, S), ?_, rfl, Or.inl ⟨rfl, fun c hc => hp c hc.1 (zopB_iff.2 hc)⟩⟩
      show fX5_liesAsIn_2L (fX5_liesAsIn_2 f) S (nI i) (nI (zcnt (zopB w h (gA Sy 5)) 64)) = _
      unfold fX5_liesAsIn_2L
      refine z_t ?_ rfl
      rw [H.1.2.2.2.2.2.2.1]
      exact z_len (Nat.le_refl _) (by have := zcnt_le (zopB w h (gA Sy 5)) 64; omega))
    64 gx_fuel 0 () (by omega) (by have := z_fuelB; omega) (by omega) (fun j hj => absurd hj (by omega))
  obtain ⟨⟨r, S'⟩, k1, k2, k3⟩ := key
  subst k2
  exact ⟨r, k1, k3⟩
theorem z_likeY {w h k i : Nat} {Sx S : gS} (H : zLand w h Sx S) (hk : k < 61) (hi : i < 61) : ∃ r, fX6_isLike S (nI k) (nI i) = some (r, S) ∧ ((r = 1 ∧ ∀ c, c < 64 → zpl w h c = true → gJ S 16 (64 * k + c) = gJ S 16 (64 * i + c)) ∨ (r = 0 ∧ ¬ ∀ c, c < 64 → zpl w h c = true → gJ S 16 (64 * k + c) = gJ S 16 (64 * i + c))) := by
  have hw : w ≤ 8 := by have := H.2.2.2.2.1; omega
  have hh : h ≤ 8 := by have := H.2.2.2.2.1; omega
  have key := z_lp (E := fun r : Int32 × gS => some r) 64 (fun f j (t : Int32) => fX6_isLike_5 f S (nI k) (nI i) t (nI j))
    (fun j t => (t = 1 ∧ ∀ c, c < j → zpl w h c = true → gJ S 16 (64 * k + c) = gJ S 16 (64 * i + c)) ∨ (t = 0 ∧ ¬ ∀ c, c < j → zpl w h c = true → gJ S 16 (64 * k + c) = gJ S 16 (64 * i + c)))
    (fun r => r.2 = S ∧ ((r.1 = 1 ∧ ∀ c, c < 64 → zpl w h c = true → gJ S 16 (64 * k + c) = gJ S 16 (64 * i + c)) ∨ (r.1 = 0 ∧ ¬ ∀ c, c < 64 → zpl w h c = true → gJ S 16 (64 * k + c) = gJ S 16 (64 * i + c)))) (by
      intro f j t hj hp
      rcases Nat.lt_or_ge j 64 with hj | hj
      · right
        refine ⟨hj, ?_⟩
        rcases hp with ⟨rfl, hp⟩ | ⟨rfl, hp⟩
        · have pre : ∀ R, (if (if zpl w h j then (1 : Int32) else 0) = 0 then fX6_isLike_5 f S (nI k) (nI i) 1 (nI j + 1) else if gJ S 16 (64 * k + j) = gJ S 16 (64 * i + j) then fX6_isLike_5 f S (nI k) (nI i) 1 (nI j + 1) else fX6_isLike_5 f S (nI k) (nI i) 0 (nI j + 1)) = R → fX6_isLike_5 (f + 1) S (nI k) (nI i) 1 (nI j) = R := fun R hR => by
            show fX6_isLike_5L (fX6_isLike_5 f) S (nI k) (nI i) 1 (nI j) = _
            unfold fX6_isLike_5L
            refine z_f (z_nle (a := 64) hj (by omega)) (z_f (by decide) (z_b (z_cellY H.2.2.1 H.2.2.2.1 hw hh hj) ?_))
            rw [← hR]
            refine z_if rfl ?_
            rw [z_64m, z_64m]
            refine z_c rfl (by omega) (by omega) (z_c rfl (by omega) (by omega) ?_)
            rw [z_cl (by omega), z_cl (by omega)]
            exact z_if rfl rfl
          cases hb : zpl w h j with
          | false =>
            refine ⟨1, pre _ (z_t (by rw [hb]; rfl) (by rw [z_inc])), Or.inl ⟨rfl, fun c hc hz => ?_⟩⟩
            rcases Nat.lt_or_ge c j with h1 | h1
            · exact hp c h1 hz
            · rw [show c = j by omega, hb] at hz
              exact absurd hz Bool.false_ne_true
          | true =>
            by_cases e : gJ S 16 (64 * k + j) = gJ S 16 (64 * i + j)
            · refine ⟨1, pre _ (z_f (by rw [hb]; decide) (z_t e (by rw [z_inc]))), Or.inl ⟨rfl, fun c hc hz => ?_⟩⟩
              rcases Nat.lt_or_ge c j with h1 | h1
              · exact hp c h1 hz
              · rw [show c = j by omega]; exact e
            · exact ⟨0, pre _ (z_f (by rw [hb]; decide) (z_f e (by rw [z_inc]))), Or.inr ⟨rfl, fun q => e (q j (by omega) hb)⟩⟩
        · refine ⟨0, ?_, Or.inr ⟨rfl, fun q => hp (fun c hc hz => q c (by omega) hz)⟩⟩
          show fX6_isLike_5L (fX6_isLike_5 f) S (nI k) (nI i) 0 (nI j) = _
          unfold fX6_isLike_5L
          refine z_f (z_nle (a := 64) hj (by omega)) (z_t rfl ?_)
          show fX6_isLike_5 f S (nI k) (nI i) 0 (nI j + 1) = _
          rw [z_inc]
      · have e : j = 64 := by omega
        subst e
        refine Or.inl ⟨(t, S), ?_, rfl, hp⟩
        show fX6_isLike_5L (fX6_isLike_5 f) S (nI k) (nI i) t (nI 64) = _
        unfold fX6_isLike_5L
        refine z_t (z_len (a := 64) (b := 64) (by omega) (by omega)) ?_
        rw [z_ok]
        rcases hp with ⟨rfl, -⟩ | ⟨rfl, -⟩ <;> decide)
    64 gx_fuel 0 1 (by omega) (by have := z_fuelB; omega) (by omega) (Or.inl ⟨rfl, fun c hc => absurd hc (by omega)⟩)
  obtain ⟨⟨r, S'⟩, k1, k2, k3⟩ := key
  subst k2
  exact ⟨r, k1, k3⟩
theorem z_noteY {S : gS} {G : zG} {k : Nat} (hY : zY S G) (hk : k < 61) : fX6_note S (nI k) = some ((), gJ_row S 16 (fun j => if 64 * k ≤ j ∧ j < 64 * k + 64 then lN (gsum (G.1 (j - 64 * k)) 61) else gJ S 16 j)) := by
  have key := z_loop 64 (fun f j (t : gS) => fX6_note_2 f t (nI k) (nI j)) (fun j t => t = gJ_row S 16 (fun x => if 64 * k ≤ x ∧ x < 64 * k + j then lN (gsum (G.1 (x - 64 * k)) 61) else gJ S 16 x))
    (fun r => r = ((), gJ_row S 16 (fun x => if 64 * k ≤ x ∧ x < 64 * k + 64 then lN (gsum (G.1 (x - 64 * k)) 61) else gJ S 16 x))) (by
      intro f j t hj hp
      rcases Nat.lt_or_ge j 64 with hj | hj
      · refine Or.inr ⟨hj, gJ_up t 16 (64 * k + j) (lN (gsum (G.1 j) 61)), ?_, ?_⟩
        · show fX6_note_2L (fX6_note_2 f) t (nI k) (nI j) = _
          unfold fX6_note_2L
          have e8 : gJ t 8 = gJ S 8 := by rw [hp, z_JrJ, if_neg (by omega)]
          refine z_f (z_nle (a := 64) hj (by omega)) (z_b (z_thick hj (fun q hq => by rw [e8]; exact hY.1 j q hj hq)) ?_)
          rw [z_64m]
          refine z_c rfl (by omega) (by omega) ?_
          rw [z_let, z_let, z_cl (by omega), z_inc]
        · rw [hp, z_uprow]
          exact z_rowcg _ _ (fun x => by
            by_cases h2 : x = 64 * k + j
            · rw [if_pos h2, if_pos (by omega), show x - 64 * k = j by omega]
            · rw [if_neg h2]
              by_cases h3 : 64 * k ≤ x ∧ x < 64 * k + j
              · rw [if_pos h3, if_pos (by omega)]
              · rw [if_neg h3, if_neg (by omega)])
      · refine Or.inl ⟨((), t), ?_, by rw [hp, show j = 64 by omega]⟩
        show fX6_note_2L (fX6_note_2 f) t (nI k) (nI j) = _
        unfold fX6_note_2L
        exact z_t (z_len (a := 64) hj (by omega)) rfl) 64 gx_fuel 0 S (by omega) (by have := z_fuelB; omega) (by omega) (by
        rw [z_rowcg S 16 (r2 := gJ S 16) (fun x => by rw [if_neg (by omega)]), z_rowself])
  obtain ⟨r, h1, h2⟩ := key
  rw [h2] at h1
  exact h1
theorem z_remX {S : gS} {k : Nat} (hk : k < 61) : fX5_remember S (nI k) = some ((), gJ_row S 46 (va_cpy (gJ S 12) (gJ S 46) 0 (64 * k) 64)) := by
  unfold fX5_remember gx_cpyJ
  have e : nI k * 64 = nI (64 * k) := by rw [z_lit 64, z_mul, Nat.mul_comm]
  rw [e, z_ok (by
    rw [decide_eq_true_iff, z_cl (by omega)]
    refine ⟨by decide, z_nneg (by omega), by decide, ?_, ?_⟩
    · show 0 + 64 ≤ 64
      omega
    · show 64 * k + 64 ≤ 3904
      omega), z_let, z_cl (by omega)]
  rfl
theorem z_hst {w h n y k : Nat} {Sx Sy Ty : gS} {G : zG} (hX : zX (zOp w h (gA Sy 5)) Sx G) (hJ : zJn n (zOp w h (gA Sy 5)) y G) (hk : k < 61) (hH : zHst k (zOp w h (gA Sy 5)) Sx Ty) (oT : gJ Ty 16 = gJ Sy 16 ∨ True) :
    zHst (k + 1) (zOp w h (gA Sy 5)) (gJ_row Sx 46 (va_cpy (gJ Sx 12) (gJ Sx 46) 0 (64 * k) 64)) (gJ_row Ty 16 (fun j => if 64 * k ≤ j ∧ j < 64 * k + 64 then lN (gsum (G.1 (j - 64 * k)) 61) else gJ Ty 16 j)) := by
  intro i hi
  by_cases e : i = k
  · subst e
    refine ⟨fun c => lN (gsum (G.1 c) 61), fun c hc => ?_, fun c hc => ?_, fun c hc hn => ?_⟩
    · have := hc.1
      rw [z_JrJ, if_pos rfl, pk_cpy_in (by omega) (by omega), show 0 + (64 * i + c - 64 * i) = c by omega]
      exact (hX.1 c hc).2
    · rw [z_JrJ, if_pos rfl]
      show (if 64 * i ≤ 64 * i + c ∧ 64 * i + c < 64 * i + 64 then lN (gsum (G.1 (64 * i + c - 64 * i)) 61) else _) = _
      rw [if_pos (by omega), show 64 * i + c - 64 * i = c by omega]
    · show lN (gsum (G.1 c) 61) = 0
      rw [gsum_0 (fun q _ => hJ.1 c q hn)]
      rfl
  · obtain ⟨T, t1, t2, t3⟩ := hH i (by omega)
    refine ⟨T, fun c hc => ?_, fun c hc => ?_, t3⟩
    · have := hc.1
      rw [z_JrJ, if_pos rfl, pk_cpy_out (by omega)]
      exact t1 c hc
    · rw [z_JrJ, if_pos rfl]
      show (if 64 * k ≤ 64 * i + c ∧ 64 * i + c < 64 * k + 64 then _ else _) = _
      rw [if_neg (by omega)]
      exact t2 c hc
/-- both sides look back to the same year -/
theorem z_since {w h n y k : Nat} {Sx Sy : gS} {G : zG} {v1 : Int32} (K46 : gS → Int32 → Int32 → Option (Int32 × gS)) (H : zRd w h Sx Sy) (hX : zX (zOp w h (gA Sy 5)) Sx G) (hJ : zJn n (zOp w h (gA Sy 5)) y G) (hk : k < 61) (hH : zHst k (zOp w h (gA Sy 5)) Sx Sy)
    (hrow : ∀ c, c < 64 → gJ Sy 16 (64 * k + c) = lN (gsum (G.1 c) 61)) : ∀ (m F1 F2 : Nat), m ≤ k → m < F1 → m < F2 →
    ∃ d : Nat, d ≤ 60 ∧ fX5_yearsSinceAlike_4 F1 Sx (nI k) (zD m) = some (nI d, Sx) ∧ ((d = 0 ∧ fX6_steady_64 K46 F2 Sy v1 (nI k) (zD m) = K46 Sy v1 (nI (k + 1))) ∨ (0 < d ∧ fX6_steady_64 K46 F2 Sy v1 (nI k) (zD m) = some (nI d, Sy)))
  | 0, F1, F2, hm, h1, h2 => by
    obtain ⟨F1, rfl⟩ : ∃ g, F1 = g + 1 := ⟨F1 - 1, by omega⟩
    obtain ⟨F2, rfl⟩ : ∃ g, F2 = g + 1 := ⟨F2 - 1, by omega⟩
    refine ⟨0, by omega, ?_, Or.inl ⟨rfl, ?_⟩⟩
    · show fX5_yearsSinceAlike_4L (fX5_yearsSinceAlike_4 F1) Sx (nI k) (zD 0) = _
      unfold fX5_yearsSinceAlike_4L
      exact z_t zD_0 rfl
    · show fX6_steady_64L K46 (fX6_steady_64 K46 F2) Sy v1 (nI k) (zD 0) = _
      unfold fX6_steady_64L
      refine z_t zD_0 ?_
      rw [z_let, z_inc]
  | m + 1, F1, F2, hm, h1, h2 => by
    obtain ⟨F1, rfl⟩ : ∃ g, F1 = g + 1 := ⟨F1 - 1, by omega⟩
    obtain ⟨F2, rfl⟩ : ∃ g, F2 = g + 1 := ⟨F2 - 1, by omega⟩
    obtain ⟨rx, x1, x2⟩ := z_liesX (i := m) H (by omega)
    obtain ⟨ry, y1, y2⟩ := z_likeY (k := k) (i := m) H.1 hk (by omega)
    obtain ⟨T, t1, t2, t3⟩ := hH m (by omega)
    have hiff : (∀ c, zOp w h (gA Sy 5) c → gJ Sx 46 (64 * m + c) = gJ Sx 12 c) ↔ (∀ c, c < 64 → zpl w h c = true → gJ Sy 16 (64 * k + c) = gJ Sy 16 (64 * m + c)) := by
      constructor
      · intro hA c hc hp
        rw [hrow c hc, t2 c hc]
        by_cases ho : zOp w h (gA Sy 5) c
        · have := hA c ho
          rw [t1 c ho, (hX.1 c ho).2] at this
          exact this.symm
        · rw [t3 c hc ho, gsum_0 (fun q _ => hJ.1 c q ho)]
          rfl
      · intro hB c ho
        have := hB c ho.1 (by unfold zpl; rw [decide_eq_true_iff]; exact ⟨ho.2.1, ho.2.2.1⟩)
        rw [hrow c ho.1, t2 c ho.1] at this
        rw [t1 c ho, (hX.1 c ho).2]
        exact this.symm
    have preX : ∀ R, (if rx = 0 then fX5_yearsSinceAlike_4 F1 Sx (nI k) (zD m) else some (nI k - nI m, Sx)) = R → fX5_yearsSinceAlike_4 (F1 + 1) Sx (nI k) (zD (m + 1)) = R := fun R hR => by
      show fX5_yearsSinceAlike_4L (fX5_yearsSinceAlike_4 F1) Sx (nI k) (zD (m + 1)) = _
      unfold fX5_yearsSinceAlike_4L
      refine z_f (zD_lt (by omega)) ?_
      rw [zD_s]
      exact z_b x1 hR
    have preY : ∀ R, (if ry = 0 then fX6_steady_64 K46 F2 Sy v1 (nI k) (zD m) else some (nI k - nI m, Sy)) = R → fX6_steady_64 K46 (F2 + 1) Sy v1 (nI k) (zD (m + 1)) = R := fun R hR => by
      show fX6_steady_64L K46 (fX6_steady_64 K46 F2) Sy v1 (nI k) (zD (m + 1)) = _
      unfold fX6_steady_64L
      refine z_f (zD_lt (by omega)) ?_
      rw [zD_s]
      exact z_b y1 hR
    rcases x2 with ⟨rfl, x2⟩ | ⟨rfl, x2⟩
    · rcases y2 with ⟨rfl, y2⟩ | ⟨rfl, y2⟩
      · refine ⟨k - m, by omega, preX _ (z_f (by decide) (by rw [z_sub (by omega)])), Or.inr ⟨by omega, preY _ (z_f (by decide) (by rw [z_sub (by omega)]))⟩⟩
      · exact absurd (hiff.1 x2) y2
    · rcases y2 with ⟨rfl, y2⟩ | ⟨rfl, y2⟩
      · exact absurd (hiff.2 y2) x2
      · obtain ⟨d, d0, d1, d2⟩ := z_since K46 H hX hJ hk hH hrow m F1 F2 (by omega) (by omega) (by omega)
        refine ⟨d, d0, preX _ (z_t rfl d1), ?_⟩
        rcases d2 with ⟨d2, d3⟩ | ⟨d2, d3⟩
        · exact Or.inl ⟨d2, preY _ (z_t rfl d3)⟩
        · exact Or.inr ⟨d2, preY _ (z_t rfl d3)⟩
theorem z_steadyL {n t w h : Nat} {kd : Nat → Int32} (hn : n < 512) (ht : t ≤ 60) : ∀ (m f1 f2 j y : Nat) (Sx Sy : gS), m < f1 → m < f2 → 1 ≤ j → j + m = t + 1 → gR n Sx Sy → gI Sx 10 3 = nI y → y + m ≤ 60 → gA Sy 5 = kd → zLand w h Sx Sy → zHst j (zOp w h kd) Sx Sy →
    ∃ (r : Int32) (Sx' Sy' : gS), fX5_steady_19 f1 Sx (nI t) (nI j) = some (r, Sx') ∧ fX6_steady_46 f2 Sy (nI t) (nI j) = some (r, Sy') ∧ gR n Sx' Sy' := by
  intro m
  induction m with
  | zero =>
    intro f1 f2 j y Sx Sy h1 h2 hj1 hj hR hy hym hkd hL hH
    obtain ⟨f1, rfl⟩ : ∃ g, f1 = g + 1 := ⟨f1 - 1, by omega⟩
    obtain ⟨f2, rfl⟩ : ∃ g, f2 = g + 1 := ⟨f2 - 1, by omega⟩
    refine ⟨0, Sx, Sy, ?_, ?_, hR⟩
    · show fX5_steady_19L (fX5_steady_19 f1) Sx (nI t) (nI j) = _
      unfold fX5_steady_19L
      exact z_t (z_ltn (by omega) (by omega)) rfl
    · show fX6_steady_46L (fX6_steady_46 f2) Sy (nI t) (nI j) = _
      unfold fX6_steady_46L
      exact z_t (z_ltn (by omega) (by omega)) rfl
  | succ m ih =>
    intro f1 f2 j y Sx Sy h1 h2 hj1 hj hR hy hym hkd hL hH
    obtain ⟨f1, rfl⟩ : ∃ g, f1 = g + 1 := ⟨f1 - 1, by omega⟩
    obtain ⟨f2, rfl⟩ : ∃ g, f2 = g + 1 := ⟨f2 - 1, by omega⟩
    obtain ⟨Tx, Ty, k1, k2, k3, k4, k5, k6⟩ := z_year hn hR hy (by omega)
    obtain ⟨w2, h2', y2, g, s, HR, hw, hh, hy2, hx2, hyy2, hX, hY, hJ⟩ := z_rd k3
    obtain ⟨rfl, rfl⟩ := z_wh hL HR.1 (k5 5 (by unfold zFar; omega)).1
    have e5 : gA Ty 5 = kd := by rw [(k6 5 (by simp)).2.1]; exact hkd
    -- the reference notes the year
    have hN := z_noteY (k := j) hY (by omega)
    have oN : gOff [16] Ty (gJ_row Ty 16 (fun x => if 64 * j ≤ x ∧ x < 64 * j + 64 then lN (gsum (g (x - 64 * j)) 61) else gJ Ty 16 x)) := gOff_rJ (by simp)
    have r16 : ∀ c, c < 64 → gJ (gJ_row Ty 16 (fun x => if 64 * j ≤ x ∧ x < 64 * j + 64 then lN (gsum (g (x - 64 * j)) 61) else gJ Ty 16 x)) 16 (64 * j + c) = lN (gsum (g c) 61) := fun c hc => by
      rw [z_JrJ, if_pos rfl]
      show (if 64 * j ≤ 64 * j + c ∧ 64 * j + c < 64 * j + 64 then lN (gsum (g (64 * j + c - 64 * j)) 61) else _) = _
      rw [if_pos (by omega), show 64 * j + c - 64 * j = c by omega]
    have hHT : zHst j (zOp w2 h2' (gA Ty 5)) Tx Ty := fun i hi => by
      rw [e5]
      obtain ⟨T, t1, t2, t3⟩ := hH i hi
      exact ⟨T, fun c hc => by rw [(k5 46 (by unfold zFar; omega)).2.2]; exact t1 c hc, fun c hc => by rw [(k6 16 (by simp)).2.2]; exact t2 c hc, t3⟩
    have hHN : zHst j (zOp w2 h2' (gA Ty 5)) Tx (gJ_row Ty 16 (fun x => if 64 * j ≤ x ∧ x < 64 * j + 64 then lN (gsum (g (x - 64 * j)) 61) else gJ Ty 16 x)) := fun i hi => by
      obtain ⟨T, t1, t2, t3⟩ := hHT i hi
      refine ⟨T, t1, fun c hc => ?_, t3⟩
      rw [z_JrJ, if_pos rfl]
      show (if 64 * j ≤ 64 * i + c ∧ 64 * i + c < 64 * j + 64 then _ else gJ Ty 16 (64 * i + c)) = _
      rw [if_neg (by omega)]
      exact t2 c hc
    have HN := zRd_y HR oN (by simp)
    obtain ⟨d, d0, d1, d2⟩ := z_since (v1 := nI t) (Sy := gJ_row Ty 16 (fun x => if 64 * j ≤ x ∧ x < 64 * j + 64 then lN (gsum (g (x - 64 * j)) 61) else gJ Ty 16 x)) (fX6_steady_46 f2) HN hX hJ (by omega : j < 61) hHN r16 j gx_fuel gx_fuel (Nat.le_refl j) (by have := z_fuelB; omega) (by have := z_fuelB; omega)
    have eD : nI j - 1 = zD j := by
      obtain ⟨q, rfl⟩ : ∃ q, j = q + 1 := ⟨j - 1, by omega⟩
      rw [zD_s]
      exact z_sub (a := q + 1) (b := 1) (by omega)
    have preX : ∀ R, (if nI d ≤ 0 then (gx_bind (fX5_remember Tx (nI j)) fun _ S45 => fX5_steady_19 f1 S45 (nI t) (nI j + 1)) else some (nI d, Tx)) = R → fX5_steady_19 (f1 + 1) Sx (nI t) (nI j) = R := fun R hR => by
      show fX5_steady_19L (fX5_steady_19 f1) Sx (nI t) (nI j) = _
      unfold fX5_steady_19L
      refine z_f (z_nlt (by omega) (by omega)) (z_b k1 (z_b (a := nI d) (S := Tx) ?_ hR))
      unfold fX5_yearsSinceAlike
      rw [z_let, eD]
      exact d1
    have preY : ∀ R, fX6_steady_64 (fX6_steady_46 f2) gx_fuel (gJ_row Ty 16 (fun x => if 64 * j ≤ x ∧ x < 64 * j + 64 then lN (gsum (g (x - 64 * j)) 61) else gJ Ty 16 x)) (nI t) (nI j) (zD j) = R → fX6_steady_46 (f2 + 1) Sy (nI t) (nI j) = R := fun R hR => by
      show fX6_steady_46L (fX6_steady_46 f2) Sy (nI t) (nI j) = _
      unfold fX6_steady_46L
      refine z_f (z_nlt (by omega) (by omega)) (z_b k2 (z_b hN ?_))
      rw [z_let, eD]
      exact hR
    rcases d2 with ⟨rfl, d2⟩ | ⟨d2, d3⟩
    · have hHs := z_hst hX hJ (by omega : j < 61) hHT (Or.inr trivial)
      have oX : gOff [46] Tx (gJ_row Tx 46 (va_cpy (gJ Tx 12) (gJ Tx 46) 0 (64 * j) 64)) := gOff_rJ (by simp)
      have hR' := z_gROff k3 oX oN (fun i hi => by simp at hi; omega) (fun i hi => by simp at hi; omega)
      obtain ⟨r, Sx', Sy', q1, q2, q3⟩ := ih f1 f2 (j + 1) (y + 1) _ _ (by omega) (by omega) (by omega) (by omega) hR' (by rw [(oX 10 (by simp)).1]; exact k4) (by omega) (by rw [(oN 5 (by simp)).2.1]; exact e5) (zRd_x HN oX (fun i a b => by simp; omega)).1 (by rw [← e5]; exact hHs)
      refine ⟨r, Sx', Sy', preX _ (z_t (by decide) (z_b (z_remX (by omega)) (by rw [z_inc]; exact q1))), preY _ (d2.trans q2), q3⟩
    · refine ⟨nI d, Tx, _, preX _ (z_f (z_nle (a := d) (b := 0) d2 (by omega)) rfl), preY _ d3, z_gROff (lx := []) k3 gOff_rf oN (fun i hi => absurd hi (by simp)) (fun i hi => by simp at hi; omega)⟩
theorem z_steady {n : Nat} {Sx Sy : gS} (hn : n < 512) (h : gR n Sx Sy) (a1 : Int32) : ∃ (r : Int32) (Sx' Sy' : gS), fX5_steady Sx a1 = some (r, Sx') ∧ fX6_steady Sy a1 = some (r, Sy') ∧ gR (n + 1) Sx' Sy' := by
  obtain ⟨w, hh, y, g, s, HR, hw, hh8, hy, hx, hyy, hX, hY, hJ⟩ := z_rd h
  have hL := HR.1
  rcases z_ask a1 with ⟨t, t1, t2, rfl, t3⟩ | ⟨q1, q2⟩
  · have eX := z_refX hw hL.1 hy hx t1 t2
    by_cases h0 : w = 0
    · rw [if_pos h0] at eX
      refine ⟨-3, Sx, Sy, z_b eX (z_f (by decide) rfl), z_b (t3 _) (z_f (by decide) (z_t ?_ rfl)), z_skip hn h⟩
      rw [hL.2.2.1, h0]; rfl
    · rw [if_neg h0] at eX
      have ne : ¬ gI Sy 0 5 = 0 := by
        rw [hL.2.2.1, show (0 : Int32) = nI 0 from rfl, z_eqN (by omega) (by omega)]
        exact h0
      by_cases h1 : y + t ≤ 60
      · rw [if_pos h1] at eX
        have hN := z_noteY (k := 0) hY (by omega)
        have hM := z_remX (S := Sx) (k := 0) (by omega)
        have hHs := z_hst (k := 0) (Ty := Sy) hX hJ (by omega) (fun i hi => absurd hi (by omega)) (Or.inr trivial)
        have oX : gOff [46] Sx (gJ_row Sx 46 (va_cpy (gJ Sx 12) (gJ Sx 46) 0 (64 * 0) 64)) := gOff_rJ (by simp)
        have oY : gOff [16] Sy (gJ_row Sy 16 (fun j => if 64 * 0 ≤ j ∧ j < 64 * 0 + 64 then lN (gsum ((g, s).1 (j - 64 * 0)) 61) else gJ Sy 16 j)) := gOff_rJ (by simp)
        have hR' := z_gROff h oX oY (fun i hi => by simp at hi; omega) (fun i hi => by simp at hi; omega)
        obtain ⟨r, Sx', Sy', k1, k2, k3⟩ := z_steadyL hn t2 t gx_fuel gx_fuel 1 y _ _ (by have := z_fuelB; omega) (by have := z_fuelB; omega) (by omega) (by omega) hR' (by rw [(oX 10 (by simp)).1]; exact hx) h1 (oY 5 (by simp)).2.1 (zRd_off HR oX (fun i a b => by simp; omega) oY (by simp)).1 hHs
        refine ⟨r, Sx', Sy', z_b eX (z_t rfl (z_b hM k1)), z_b (t3 _) (z_f (by decide) (z_f ne (z_t ?_ (z_b hN k2)))), z_skip hn k3⟩
        rw [hyy, z_add]
        exact z_len (b := 60) h1 (by omega)
      · rw [if_neg h1] at eX
        refine ⟨-4, Sx, Sy, z_b eX (z_f (by decide) rfl), z_b (t3 _) (z_f (by decide) (z_f ne (z_f ?_ rfl))), z_skip hn h⟩
        rw [hyy, z_add]
        exact z_nle (b := 60) (by omega) (by omega)
  · exact ⟨-2, Sx, Sy, z_b (q1 _) (z_f (by decide) rfl), z_b (q2 _) (z_t rfl rfl), z_skip hn h⟩

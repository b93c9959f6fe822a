/-! ground: the class's loop -/
def zKd (w h : Nat) (S : gS) (i : Nat) : Int32 := if zpl w h i = true then zGk S i else gA S 5 i
theorem zKd_p {w h i : Nat} {S : gS} (hp : zpl w h i = true) : zKd w h S i = zGk S i := if_pos hp
def zPX (w h : Nat) (B Sy : gS) (c : Nat) (T : gS) : Prop := zLst w h (zKd w h Sy) c T ∧ zPt w h c (zGk Sy) (gA B 7) (gA T 7) ∧ zPt w h c (fun _ => 0) (gA B 8) (gA T 8) ∧ zPt w h c (zGl Sy) (gA B 6) (gA T 6) ∧ gOff [5, 6, 7, 8, 9] B T
theorem z_grX {w h : Nat} {Sx Sy B : gS} (hS : zStr Sx Sy) (hB : ∀ o, 47 ≤ o → gI B o = gI Sx o ∧ gJ B o = gJ Sx o) (hw : w ≤ 8) (hh : h ≤ 8) (h0 : zPX w h B Sy 0 B) :
    ∃ f T, fX5_ground_28 gx_fuel B (nI w) (nI h) (nI 0) = fX5_ground_28 (f + 1) T (nI w) (nI h) (nI h) ∧ zPX w h B Sy 64 T := by
  have key := z_nest (w := w) (h := h) (fun f y s => fX5_ground_28 f s (nI w) (nI h) (nI y)) (fun f g y x s => fX5_ground_36 (fX5_ground_28 f) g s (nI w) (nI h) (nI y) (nI x)) (zPX w h B Sy) hw hh
    (fun f y s hy hp => by
      show fX5_ground_28L (fX5_ground_28 f) s (nI w) (nI h) (nI y) = _
      unfold fX5_ground_28L
      exact z_f (z_nle hy (by omega)) rfl)
    (fun f g y s hy hp => by
      show fX5_ground_36L (fX5_ground_28 f) (fX5_ground_36 (fX5_ground_28 f) g) s (nI w) (nI h) (nI y) (nI w) = _
      unfold fX5_ground_36L
      refine z_t (z_len (Nat.le_refl _) (by omega)) ?_
      rw [z_let, z_inc])
    (fun f g y x s hy hx hp => by
      obtain ⟨p1, p2, p3, p4, p5⟩ := hp
      obtain ⟨hc, c1, c2⟩ := z_xy hx hy hw hh
      have hpl : zpl w h (8 * y + x) = true := zpl_iff.2 ⟨by omega, by omega⟩
      obtain ⟨L, l1, l2⟩ := z_lvl (T := s) (x := x) (y := y) hS (by rw [(p5 _ (by simp <;> omega)).1]; exact (hB _ (by omega)).1) (by rw [(p5 _ (by simp <;> omega)).2.2]; exact (hB _ (by omega)).2) (by omega) (by omega)
      obtain ⟨s', k1, k2, k3, k4, k5, k6⟩ := z_settleX p1 hx hy hw hh (zKd_p hpl) l2
      refine ⟨s', ?_, k2, ?_, ?_, ?_, gOff_tr p5 k6⟩
      · show fX5_ground_36L (fX5_ground_28 f) (fX5_ground_36 (fX5_ground_28 f) g) s (nI w) (nI h) (nI y) (nI x) = _
        unfold fX5_ground_36L
        refine z_f (z_nle hx (by omega)) (z_b l1 (z_b k1 ?_))
        rw [z_let, z_inc]
      · rw [k4]; exact zPt_s hpl rfl p2
      · rw [k5]; exact zPt_s hpl rfl p3
      · rw [k3]; exact zPt_s hpl rfl p4)
    (fun y s hy hp => ⟨zLst_sk (by omega) zGap_row hp.1, zPt_sk (by omega) zGap_row hp.2.1, zPt_sk (by omega) zGap_row hp.2.2.1, zPt_sk (by omega) zGap_row hp.2.2.2.1, hp.2.2.2.2⟩) B h0
  obtain ⟨f, T, k1, k2⟩ := key
  exact ⟨f, T, k1, zLst_sk (by omega) zGap_end k2.1, zPt_sk (by omega) zGap_end k2.2.1, zPt_sk (by omega) zGap_end k2.2.2.1, zPt_sk (by omega) zGap_end k2.2.2.2.1, k2.2.2.2.2⟩
/-! ground: the reference's loop -/
def zYup (S : gS) (c : Nat) (k l : Int32) : gS := gA_up (gA_up (gA_up S 5 c k) 6 c 0) 7 c l
theorem z_g171t (K100 : gS → Int32 → Int32 → Int32 → Int32 → Option (Int32 × gS)) (K109 : gS → Int32 → Int32 → Int32 → Int32 → Int32 → Option (Int32 × gS)) (S : gS) (v1 v2 v4 : Int32) {c x k : Nat} (hc : c < 64) :
    fX6_ground_171 K100 K109 S v1 v2 (nI k) v4 (nI x) (nI c) 1 = K109 (zYup S c 0 (Int64.toInt32 (gJ S 3 c))) v1 v2 (nI k) v4 (nI (x + 1)) := by
  unfold fX6_ground_171 fX6_ground_189
  refine z_f (by decide) (z_c rfl hc (by omega) ?_)
  rw [z_let, z_cl (by omega)]
  refine z_c rfl hc (by omega) ?_
  rw [z_let]
  refine z_f (by decide) (z_c rfl hc (by omega) ?_)
  unfold fX6_ground_221
  refine z_c rfl hc (by omega) ?_
  rw [z_let, z_cl (by omega)]
  refine z_f (by decide) ?_
  show K109 _ v1 v2 (nI k + nI 0) v4 (nI x + 1) = _
  rw [z_add, z_inc]
  rfl
theorem z_g171f (K100 : gS → Int32 → Int32 → Int32 → Int32 → Option (Int32 × gS)) (K109 : gS → Int32 → Int32 → Int32 → Int32 → Int32 → Option (Int32 × gS)) (S : gS) (v1 v2 v4 : Int32) {c x k : Nat} (hc : c < 64) :
    fX6_ground_171 K100 K109 S v1 v2 (nI k) v4 (nI x) (nI c) 0 = K109 (zYup S c 4 0) v1 v2 (nI (k + 1)) v4 (nI (x + 1)) := by
  unfold fX6_ground_171 fX6_ground_189
  refine z_t rfl (z_c rfl hc (by omega) ?_)
  rw [z_let, z_cl (by omega)]
  refine z_c rfl hc (by omega) ?_
  rw [z_let]
  refine z_t rfl ?_
  unfold fX6_ground_221
  refine z_c rfl hc (by omega) ?_
  rw [z_let, z_cl (by omega)]
  refine z_t rfl ?_
  show K109 _ v1 v2 (nI k + nI 1) v4 (nI x + 1) = _
  rw [z_add, z_inc]
  rfl
theorem zStr_h {Sx Sy : gS} (H : zStr Sx Sy) {y : Nat} (hy : y < 8) : ∃ m : Nat, m ≤ 8 ∧ gA Sy 2 y = nI m := by
  obtain ⟨-, ⟨m, h1, -, h2⟩, -⟩ := H.2 y hy
  exact ⟨m, h1, h2⟩
def zPY (w h : Nat) (B Sy : gS) (c : Nat) (t : gS × Nat) : Prop := t.2 + zcnt (zopB w h (zKd w h Sy)) c = zcnt (zpl w h) c ∧ zPt w h c (zGk Sy) (gA B 5) (gA t.1 5) ∧ zPt w h c (fun _ => 0) (gA B 6) (gA t.1 6) ∧ zPt w h c (zGl Sy) (gA B 7) (gA t.1 7) ∧ gOff [5, 6, 7] B t.1
theorem z_gcell {w h x y k : Nat} {Sy B S : gS} {K100 : gS → Int32 → Int32 → Int32 → Int32 → Option (Int32 × gS)} {K109 : gS → Int32 → Int32 → Int32 → Int32 → Int32 → Option (Int32 × gS)} (hm : ∃ m : Nat, m ≤ 8 ∧ gA Sy 2 y = nI m) (h1 : gA S 1 = gA Sy 1) (h2 : gA S 2 = gA Sy 2) (h3 : gJ S 3 = gJ Sy 3) (hx : x < w) (hy : y < h) (hw : w ≤ 8) (hh : h ≤ 8) :
    fX6_ground_109L K100 K109 S (nI w) (nI h) (nI k) (nI y) (nI x) = K109 (zYup S (8 * y + x) (zGk Sy (8 * y + x)) (zGl Sy (8 * y + x))) (nI w) (nI h) (nI (k + if zIsB Sy (8 * y + x) = true then 0 else 1)) (nI y) (nI (x + 1)) := by
  obtain ⟨hc, c1, c2⟩ := z_xy hx hy hw hh
  obtain ⟨m, hm1, hm2⟩ := hm
  have hx8 : x < 8 := by omega
  have no : (zIsB Sy (8 * y + x) = true → False) → fX6_ground_170 K100 K109 S (nI w) (nI h) (nI k) (nI y) (nI x) (nI (8 * y + x)) = K109 (zYup S (8 * y + x) (zGk Sy (8 * y + x)) (zGl Sy (8 * y + x))) (nI w) (nI h) (nI (k + if zIsB Sy (8 * y + x) = true then 0 else 1)) (nI y) (nI (x + 1)) := fun hf => by
    unfold zGk zGl
    rw [if_neg (fun z => hf z), if_neg (fun z => hf z), if_neg (fun z => hf z)]
    exact z_g171f K100 K109 S _ _ _ hc
  unfold fX6_ground_109L
  refine z_f (z_nle hx (by omega)) ?_
  rw [z_let, z_yplace S]
  refine z_c rfl (by omega : y < 8) (by omega) ?_
  rw [z_cl (by omega), h1, h2]
  by_cases q1 : gA Sy 1 y = -9
  · exact z_t q1 (no (fun z => ((zIsB_iff hx8).1 z).1 q1))
  · refine z_f q1 (z_c rfl (by omega : y < 8) (by omega) ?_)
    by_cases q2 : gA Sy 2 y ≤ nI x
    · exact z_t q2 (no (fun z => ((zIsB_iff hx8).1 z).2.1 q2))
    · refine z_f q2 (z_c rfl hc (by omega) ?_)
      rw [z_cl (by omega), h3]
      by_cases q3 : gJ Sy 3 (8 * y + x) < 0 ∨ (9999 : Int64) < gJ Sy 3 (8 * y + x)
      · refine z_b (by rw [z_in, if_pos q3]) (z_t rfl (no (fun z => ?_)))
        have u := (zIsB_iff hx8).1 z
        exact q3.elim u.2.2.1 u.2.2.2
      · have hb : zIsB Sy (8 * y + x) = true := (zIsB_iff hx8).2 ⟨q1, q2, fun z => q3 (Or.inl z), fun z => q3 (Or.inr z)⟩
        refine z_b (by rw [z_in, if_neg q3]) (z_f (by decide) ?_)
        rw [z_g171t K100 K109 S _ _ _ hc]
        unfold zGk zGl
        rw [if_pos hb, if_pos hb, if_pos hb, h3]
        rfl
theorem z_grY {w h : Nat} {Sx Sy B : gS} (hS : zStr Sx Sy) (hB : gA B 1 = gA Sy 1 ∧ gA B 2 = gA Sy 2 ∧ gJ B 3 = gJ Sy 3) (hw : w ≤ 8) (hh : h ≤ 8) :
    ∃ f S k, fX6_ground_100 gx_fuel B (nI w) (nI h) (nI 0) (nI 0) = fX6_ground_100 (f + 1) S (nI w) (nI h) (nI k) (nI h) ∧ zPY w h B Sy 64 (S, k) := by
  have key := z_nest (w := w) (h := h) (fun f y (t : gS × Nat) => fX6_ground_100 f t.1 (nI w) (nI h) (nI t.2) (nI y)) (fun f g y x (t : gS × Nat) => fX6_ground_109 (fX6_ground_100 f) g t.1 (nI w) (nI h) (nI t.2) (nI y) (nI x)) (zPY w h B Sy) hw hh
    (fun f y s hy hp => by
      show fX6_ground_100L (fX6_ground_100 f) s.1 (nI w) (nI h) (nI s.2) (nI y) = _
      unfold fX6_ground_100L
      exact z_f (z_nle hy (by omega)) rfl)
    (fun f g y s hy hp => by
      show fX6_ground_109L (fX6_ground_100 f) (fX6_ground_109 (fX6_ground_100 f) g) s.1 (nI w) (nI h) (nI s.2) (nI y) (nI w) = _
      unfold fX6_ground_109L
      refine z_t (z_len (Nat.le_refl _) (by omega)) ?_
      rw [z_let, z_inc])
    (fun f g y x s hy hx hp => by
      obtain ⟨p1, p2, p3, p4, p5⟩ := hp
      obtain ⟨hc, c1, c2⟩ := z_xy hx hy hw hh
      have hpl : zpl w h (8 * y + x) = true := zpl_iff.2 ⟨by omega, by omega⟩
      refine ⟨(zYup s.1 (8 * y + x) (zGk Sy (8 * y + x)) (zGl Sy (8 * y + x)), s.2 + if zIsB Sy (8 * y + x) = true then 0 else 1), ?_, ?_, ?_, ?_, ?_, ?_⟩
      · show fX6_ground_109L (fX6_ground_100 f) (fX6_ground_109 (fX6_ground_100 f) g) s.1 (nI w) (nI h) (nI s.2) (nI y) (nI x) = _
        exact z_gcell (Sy := Sy) (B := B) (zStr_h hS (by omega)) (by rw [(p5 1 (by simp)).2.1]; exact hB.1) (by rw [(p5 2 (by simp)).2.1]; exact hB.2.1) (by rw [(p5 3 (by simp)).2.2]; exact hB.2.2) hx hy hw hh
      · have e1 : zcnt (zpl w h) (8 * y + x + 1) = zcnt (zpl w h) (8 * y + x) + 1 := by simp [zcnt, hpl]
        have e2 : zcnt (zopB w h (zKd w h Sy)) (8 * y + x + 1) = zcnt (zopB w h (zKd w h Sy)) (8 * y + x) + if zIsB Sy (8 * y + x) = true then 1 else 0 := by
          show zcnt (zopB w h (zKd w h Sy)) (8 * y + x) + (if zopB w h (zKd w h Sy) (8 * y + x) = true then 1 else 0) = _
          congr 1
          by_cases q : zIsB Sy (8 * y + x) = true
          · rw [if_pos q, if_pos]
            refine zopB_iff.2 ⟨hc, by omega, by omega, ?_⟩
            rw [zKd_p hpl]
            unfold zGk
            rw [if_pos q]
            decide
          · rw [if_neg q, if_neg]
            intro z
            have := (zopB_iff.1 z).2.2.2
            rw [zKd_p hpl] at this
            unfold zGk at this
            rw [if_neg q] at this
            exact this rfl
        show s.2 + (if zIsB Sy (8 * y + x) = true then 0 else 1) + zcnt (zopB w h (zKd w h Sy)) (8 * y + x + 1) = zcnt (zpl w h) (8 * y + x + 1)
        rw [e1, e2]
        split <;> omega
      · show zPt w h (8 * y + x + 1) (zGk Sy) (gA B 5) (gA (zYup s.1 _ _ _) 5)
        unfold zYup
        rw [z_Ao _ _ _ (by omega), z_Ao _ _ _ (by omega), z_Ar]
        exact zPt_s hpl rfl p2
      · show zPt w h (8 * y + x + 1) (fun _ => 0) (gA B 6) (gA (zYup s.1 _ _ _) 6)
        unfold zYup
        rw [z_Ao _ _ _ (by omega), z_Ar, z_Ao _ _ _ (by omega)]
        exact zPt_s hpl rfl p3
      · show zPt w h (8 * y + x + 1) (zGl Sy) (gA B 7) (gA (zYup s.1 _ _ _) 7)
        unfold zYup
        rw [z_Ar, z_Ao _ _ _ (by omega), z_Ao _ _ _ (by omega)]
        exact zPt_s hpl rfl p4
      · exact gOff_tr p5 (gOff_tr (gOff_tr (gOff_A (by simp)) (gOff_A (by simp))) (gOff_A (by simp))))
    (fun y s hy hp => by
      obtain ⟨p1, p2, p3, p4, p5⟩ := hp
      refine ⟨?_, zPt_sk (by omega) zGap_row p2, zPt_sk (by omega) zGap_row p3, zPt_sk (by omega) zGap_row p4, p5⟩
      rw [zcnt_flat (p := zopB w h (zKd w h Sy)) (a := 8 * y + w) (b := 8 * (y + 1)) (by omega) (fun i a b => ?_), zcnt_flat (p := zpl w h) (a := 8 * y + w) (b := 8 * (y + 1)) (by omega) (fun i a b => ?_)]
      · exact p1
      · cases e : zpl w h i with
        | false => rfl
        | true => exact absurd (zpl_iff.1 e) (zGap_row i a b)
      · cases e : zopB w h (zKd w h Sy) i with
        | false => rfl
        | true =>
          have q := zopB_iff.1 e
          exact absurd ⟨q.2.1, q.2.2.1⟩ (zGap_row i a b)) (B, 0) ⟨rfl, zPt_0, zPt_0, zPt_0, gOff_rf⟩
  obtain ⟨f, t, k1, p1, p2, p3, p4, p5⟩ := key
  refine ⟨f, t.1, t.2, k1, ?_, zPt_sk (by omega) zGap_end p2, zPt_sk (by omega) zGap_end p3, zPt_sk (by omega) zGap_end p4, p5⟩
  rw [zcnt_flat (p := zopB w h (zKd w h Sy)) (a := 8 * h) (b := 64) (by omega) (fun i a b => ?_), zcnt_flat (p := zpl w h) (a := 8 * h) (b := 64) (by omega) (fun i a b => ?_)]
  · exact p1
  · cases e : zpl w h i with
    | false => rfl
    | true => exact absurd (zpl_iff.1 e) (zGap_end i a b)
  · cases e : zopB w h (zKd w h Sy) i with
    | false => rfl
    | true =>
      have q := zopB_iff.1 e
      exact absurd ⟨q.2.1, q.2.2.1⟩ (zGap_end i a b)

/-! turn: the class -/
theorem z_cpyA {S : gS} {a b n : Nat} {k : gS → Option (Unit × gS)} {r : Option (Unit × gS)} (h : n < 2147483648) (hk : k (gA_row S b (va_cpy (gA S a) (gA S b) 0 0 n)) = r) : gx_cpyA S a b n n 0 0 (nI n) k = r := by
  unfold gx_cpyA
  rw [z_ok (z_cpyOk h (Nat.le_refl n) (Nat.le_refl n)), z_let, z_cl h]
  exact hk
theorem z_cells (S : gS) : ∃ S', fX1_becomeCellsOf 36 5 S = some ((), S') ∧ gOff [36, 37, 38, 39] S S' ∧ gI S' 36 5 = gI S 5 5 ∧ gI S' 36 6 = gI S 5 6 ∧ (∀ k, k < 64 → gA S' 37 k = gA S 6 k) ∧ (∀ k, k < 64 → gA S' 38 k = gA S 7 k) ∧ ∀ k, k < 64 → gA S' 39 k = gA S 8 k := by
  obtain ⟨A, hA⟩ : ∃ A, A = gI_up (gI_up S 36 5 (gI S 5 5)) 36 6 (gI (gI_up S 36 5 (gI S 5 5)) 5 6) := ⟨_, rfl⟩
  obtain ⟨B, hB⟩ : ∃ B, B = gA_row A 37 (va_cpy (gA A 6) (gA A 37) 0 0 64) := ⟨_, rfl⟩
  obtain ⟨C, hC⟩ : ∃ C, C = gA_row B 38 (va_cpy (gA B 7) (gA B 38) 0 0 64) := ⟨_, rfl⟩
  have e2 := z_lit 64
  refine ⟨gA_row C 39 (va_cpy (gA C 8) (gA C 39) 0 0 64), ?_, ?_, ?_, ?_, ?_, ?_, ?_⟩
  · unfold fX1_becomeCellsOf
    rw [z_let, z_let, ← hA, e2]
    refine z_cpyA (n := 64) (by omega) ?_
    rw [← hB]
    refine z_cpyA (n := 64) (by omega) ?_
    rw [← hC]
    exact z_cpyA (n := 64) (by omega) rfl
  all_goals (rw [hC, hB, hA])
  · exact gOff_tr (gOff_tr (gOff_tr (gOff_tr (gOff_I (by simp)) (gOff_I (by simp))) (gOff_rA (by simp))) (gOff_rA (by simp))) (gOff_rA (by simp))
  · simp only [z_IrA]
    rw [z_Ik _ _ _ (by omega), z_Is]
  · simp only [z_IrA]
    rw [z_Is, z_Io _ _ _ (by omega)]
  · intro k hk
    rw [z_ArA, if_neg (by omega), z_ArA, if_neg (by omega), z_ArA, if_pos rfl, z_cpyv _ _ hk]
    rfl
  · intro k hk
    rw [z_ArA, if_neg (by omega), z_ArA, if_pos rfl, z_cpyv _ _ hk, z_ArA, if_neg (by omega)]
    rfl
  · intro k hk
    rw [z_ArA, if_pos rfl, z_cpyv _ _ hk, z_ArA, if_neg (by omega), z_ArA, if_neg (by omega)]
    rfl
/-- a cell is fetched -/
theorem z_fetch {w h x y s : Nat} {kd : Nat → Int32} {T : gS} (H : zLst w h kd (8 * y + x) T) (hx : x < w) (hy : y < h) (hw : w ≤ 8) (hh : h ≤ 8) (hs : s < 64) (hkd : kd (8 * y + x) = gA T 38 s) :
    ∃ T', fX5_fetchCell T (nI x) (nI y) (nI s) = some ((), T') ∧ zLst w h kd (8 * y + x + 1) T' ∧ gA T' 6 = (fun j => if j = 8 * y + x then gA T 37 s else gA T 6 j) ∧ gA T' 7 = (fun j => if j = 8 * y + x then gA T 38 s else gA T 7 j) ∧ gA T' 8 = (fun j => if j = 8 * y + x then gA T 39 s else gA T 8 j) ∧
      gJ T' 11 = va_cpy (gJ T 42) (gJ T 11) (s * 61) ((8 * y + x) * 61) 61 ∧ gJ T' 12 = (fun j => if j = 8 * y + x then gJ T 43 s else gJ T 12 j) ∧ gOff [5, 6, 7, 8, 9, 11, 12] T T' := by
  obtain ⟨hc, c1, c2⟩ := z_xy hx hy hw hh
  obtain ⟨W, hW⟩ : ∃ W, W = gA_up (gA_up (gA_up T 6 (8 * y + x) (gA T 37 s)) 7 (8 * y + x) (gA T 38 s)) 8 (8 * y + x) (gA T 39 s) := ⟨_, rfl⟩
  have w6 : gA W 6 = fun j => if j = 8 * y + x then gA T 37 s else gA T 6 j := by rw [hW, z_Ao _ _ _ (by omega), z_Ao _ _ _ (by omega), z_Ar]
  have w7 : gA W 7 = fun j => if j = 8 * y + x then gA T 38 s else gA T 7 j := by rw [hW, z_Ao _ _ _ (by omega), z_Ar, z_Ao _ _ _ (by omega)]
  have w8 : gA W 8 = fun j => if j = 8 * y + x then gA T 39 s else gA T 8 j := by rw [hW, z_Ar, z_Ao _ _ _ (by omega), z_Ao _ _ _ (by omega)]
  have wo : gOff [6, 7, 8] T W := by
    rw [hW]
    exact gOff_tr (gOff_tr (gOff_A (by simp)) (gOff_A (by simp))) (gOff_A (by simp))
  have hWL : zLst w h kd (8 * y + x) W := by
    refine ⟨?_, ?_, ?_, fun i hi ho => ?_⟩
    · rw [(wo 5 (by simp)).1]; exact H.1
    · rw [(wo 5 (by simp)).1]; exact H.2.1
    · rw [(wo 5 (by simp)).1]; exact H.2.2.1
    · rw [(wo 9 (by simp)).2.1]; exact H.2.2.2 i hi ho
  obtain ⟨U, k1, k2, k3⟩ := z_list hWL hc ⟨by omega, by omega⟩ (by
    rw [w7]
    show (if 8 * y + x = 8 * y + x then _ else _) = _
    rw [if_pos rfl, hkd])
  have uo : gOff [5, 6, 7, 8, 9] T U := gOff_tr (gOff_mo wo (fun i hi => by simp at hi ⊢; omega)) (gOff_mo k3 (fun i hi => by simp at hi ⊢; omega))
  refine ⟨gJ_up (gJ_row U 11 (va_cpy (gJ U 42) (gJ U 11) (s * 61) ((8 * y + x) * 61) 61)) 12 (8 * y + x) (gJ (gJ_row U 11 (va_cpy (gJ U 42) (gJ U 11) (s * 61) ((8 * y + x) * 61) 61)) 43 s), ?_, ⟨k2.1, k2.2.1, k2.2.2.1, k2.2.2.2⟩, ?_, ?_, ?_, ?_, ?_, ?_⟩
  · unfold fX5_fetchCell
    refine z_b (z_plX_t H.1 H.2.1 hx hy hw hh) (z_f (z_nm1 (by omega)) (z_f (z_nm1 (by omega)) (z_b (a := ()) (S := U) ?_ (z_b (a := ()) (S := gJ_up (gJ_row U 11 (va_cpy (gJ U 42) (gJ U 11) (s * 61) ((8 * y + x) * 61) 61)) 12 (8 * y + x) (gJ (gJ_row U 11 (va_cpy (gJ U 42) (gJ U 11) (s * 61) ((8 * y + x) * 61) 61)) 43 s)) ?_ rfl))))
    · unfold fX1_settleAs
      refine z_c rfl hs (by omega) (z_c rfl hc (by omega) ?_)
      rw [z_let]
      refine z_c rfl hs (by omega) (z_c rfl hc (by omega) ?_)
      rw [z_let]
      refine z_c rfl hs (by omega) (z_c rfl hc (by omega) ?_)
      rw [z_let, z_cl (n := s) (by omega), z_cl (n := 8 * y + x) (by omega)]
      have e : gA_up (gA_up (gA_up T (5 + 1) (8 * y + x) (gA T (36 + 1) s)) (5 + 2) (8 * y + x) (gA (gA_up T (5 + 1) (8 * y + x) (gA T (36 + 1) s)) (36 + 2) s)) (5 + 3) (8 * y + x) (gA (gA_up (gA_up T (5 + 1) (8 * y + x) (gA T (36 + 1) s)) (5 + 2) (8 * y + x) (gA (gA_up T (5 + 1) (8 * y + x) (gA T (36 + 1) s)) (36 + 2) s)) (36 + 3) s) = W := by
        rw [z_Ao (p := 36 + 3) (o := 5 + 2) _ _ _ (by omega), z_Ao (p := 36 + 3) (o := 5 + 1) _ _ _ (by omega), z_Ao (p := 36 + 2) (o := 5 + 1) _ _ _ (by omega), hW]
      rw [e]
      exact z_b k1 rfl
    · unfold fX0_settleAs gx_cpyJ
      have e1 : nI s * 61 = nI (s * 61) := by rw [z_lit 61, z_mul]
      have e2 : nI (8 * y + x) * 61 = nI ((8 * y + x) * 61) := by rw [z_lit 61, z_mul]
      rw [e1, e2, z_ok (by
        rw [decide_eq_true_iff, z_cl (by omega), z_cl (by omega)]
        refine ⟨z_nneg (by omega), z_nneg (by omega), by decide, ?_, ?_⟩
        · show s * 61 + 61 ≤ 3904
          omega
        · show (8 * y + x) * 61 + 61 ≤ 3904
          omega), z_let, z_cl (n := s * 61) (by omega), z_cl (n := (8 * y + x) * 61) (by omega)]
      refine z_c rfl hs (by omega) (z_c rfl hc (by omega) ?_)
      rw [z_let, z_cl (n := s) (by omega), z_cl (n := 8 * y + x) (by omega)]
      rfl
  · show gA U 6 = _
    rw [(k3 6 (by simp)).2.1, w6]
  · show gA U 7 = _
    rw [(k3 7 (by simp)).2.1, w7]
  · show gA U 8 = _
    rw [(k3 8 (by simp)).2.1, w8]
  · rw [z_Jo _ _ _ (by omega), z_JrJ, if_pos rfl, (uo 42 (by simp)).2.2, (uo 11 (by simp)).2.2]
  · rw [z_Jr, z_JrJ, if_neg (by omega), z_JrJ, if_neg (by omega), (uo 43 (by simp)).2.2, (uo 12 (by simp)).2.2]
  · exact gOff_tr (gOff_mo uo (fun i hi => by simp at hi ⊢; omega)) (gOff_tr (gOff_rJ (by simp)) (gOff_J (by simp)))
def zKt (w2 h2 : Nat) (s : Nat → Nat) (a : Nat → Int32) (i : Nat) : Int32 := if zpl w2 h2 i = true then a (s i) else a i
def zPXT (w2 h2 : Nat) (s : Nat → Nat) (B : gS) (c : Nat) (T : gS) : Prop :=
  zLst w2 h2 (zKt w2 h2 s (gA B 7)) c T ∧ zPt w2 h2 c (fun i => gA B 7 (s i)) (gA B 7) (gA T 7) ∧ zPt w2 h2 c (fun i => gA B 8 (s i)) (gA B 8) (gA T 8) ∧ zPt w2 h2 c (fun i => gA B 6 (s i)) (gA B 6) (gA T 6) ∧
  (∀ i, i < c → zpl w2 h2 i = true → (∀ k, k < 61 → gJ T 11 (i * 61 + k) = gJ B 42 (s i * 61 + k)) ∧ gJ T 12 i = gJ B 43 (s i)) ∧ gOff [5, 6, 7, 8, 9, 11, 12] B T
theorem z_tnX {w h w2 h2 : Nat} {v : Int32} {s t : Nat → Nat} {B : gS} (hb : zBij w h w2 h2 s t) (h5 : gI B 36 5 = nI w) (h6 : gI B 36 6 = nI h) (e37 : ∀ k, k < 64 → gA B 37 k = gA B 6 k) (e38 : ∀ k, k < 64 → gA B 38 k = gA B 7 k) (e39 : ∀ k, k < 64 → gA B 39 k = gA B 8 k)
    (hv : (v = 0 ∧ ∀ x y, x < w2 → y < h2 → w2 - 1 - x < w ∧ y < h ∧ s (8 * y + x) = 8 * y + (w2 - 1 - x)) ∨ (¬ v = 0 ∧ ∀ x y, x < w2 → y < h2 → y < w ∧ w2 - 1 - x < h ∧ s (8 * y + x) = 8 * (w2 - 1 - x) + y)) (h0 : zPXT w2 h2 s B 0 B) :
    ∃ T, fX5_turnCells_51 gx_fuel B v 0 = some ((), T) ∧ zPXT w2 h2 s B 64 T := by
  have hw := hb.1
  have hh := hb.2.1
  have hw2 := hb.2.2.1
  have hh2 := hb.2.2.2.1
  have key := z_nest (w := w2) (h := h2) (fun f y T => fX5_turnCells_51 f T v (nI y)) (fun f g y x T => fX5_turnCells_64 (fX5_turnCells_51 f) g T v (nI y) (nI x)) (zPXT w2 h2 s B) hw2 hh2
    (fun f y T hy hp => by
      show fX5_turnCells_51L (fX5_turnCells_51 f) T v (nI y) = _
      unfold fX5_turnCells_51L
      exact z_f (by rw [hp.1.2.1]; exact z_nle hy (by omega)) rfl)
    (fun f g y T hy hp => by
      show fX5_turnCells_64L (fX5_turnCells_51 f) (fX5_turnCells_64 (fX5_turnCells_51 f) g) T v (nI y) (nI w2) = _
      unfold fX5_turnCells_64L
      refine z_t (by rw [hp.1.1]; exact z_len (Nat.le_refl _) (by omega)) ?_
      rw [z_let, z_inc])
    (fun f g y x T hy hx hp => by
      obtain ⟨p1, p2, p3, p4, p5, p6⟩ := hp
      obtain ⟨hc, c1, c2⟩ := z_xy hx hy hw2 hh2
      have hpl : zpl w2 h2 (8 * y + x) = true := zpl_iff.2 ⟨by omega, by omega⟩
      obtain ⟨s1, s2, s3⟩ := zBij_s hb hpl
      have tA : ∀ o, 36 ≤ o → o ≤ 39 → gA T o = gA B o := fun o a b => (p6 o (by simp; omega)).2.1
      have tI : gI T 36 = gI B 36 := (p6 36 (by simp)).1
      have tJ : ∀ o, 42 ≤ o → gJ T o = gJ B o := fun o a => (p6 o (by simp; omega)).2.2
      obtain ⟨T', k1, k2, k3, k4, k5, k6, k7, k8⟩ := z_fetch (s := s (8 * y + x)) p1 hx hy hw2 hh2 s1 (by
        rw [tA 38 (by omega) (by omega), e38 _ s1]
        exact if_pos hpl)
      rw [tA 37 (by omega) (by omega), e37 _ s1] at k3
      rw [tA 38 (by omega) (by omega), e38 _ s1] at k4
      rw [tA 39 (by omega) (by omega), e39 _ s1] at k5
      rw [tJ 42 (by omega)] at k6
      rw [tJ 43 (by omega)] at k7
      have e118 : fX5_turnCells_118 (fX5_turnCells_51 f) (fX5_turnCells_64 (fX5_turnCells_51 f) g) T v (nI y) (nI x) (nI x) (nI y) (nI (s (8 * y + x))) = fX5_turnCells_64 (fX5_turnCells_51 f) g T' v (nI y) (nI (x + 1)) := by
        unfold fX5_turnCells_118
        refine z_b k1 ?_
        rw [z_let, z_inc]
      refine ⟨T', ?_, k2, ?_, ?_, ?_, fun i hi hp => ?_, gOff_tr p6 k8⟩
      · show fX5_turnCells_64L (fX5_turnCells_51 f) (fX5_turnCells_64 (fX5_turnCells_51 f) g) T v (nI y) (nI x) = _
        unfold fX5_turnCells_64L
        refine z_f (by rw [p1.1]; exact z_nle hx (by omega)) ?_
        have e4 : gI T 5 5 - 1 - nI x = nI (w2 - 1 - x) := by
          rw [p1.1, show nI w2 - 1 = nI (w2 - 1) from z_sub (b := 1) (by omega), z_sub (by omega)]
        rw [z_let, e4]
        rcases hv with ⟨v0, hv⟩ | ⟨v0, hv⟩
        · obtain ⟨u1, u2, u3⟩ := hv x y hx hy
          rw [u3] at e118
          exact z_t v0 (z_b (z_plX_t (by rw [tI]; exact h5) (by rw [tI]; exact h6) u1 u2 hw hh) e118)
        · obtain ⟨u1, u2, u3⟩ := hv x y hx hy
          rw [u3] at e118
          exact z_f v0 (z_b (z_plX_t (by rw [tI]; exact h5) (by rw [tI]; exact h6) u1 u2 hw hh) e118)
      · rw [k4]; exact zPt_s hpl rfl p2
      · rw [k5]; exact zPt_s hpl rfl p3
      · rw [k3]; exact zPt_s hpl rfl p4
      · rcases Nat.lt_or_ge i (8 * y + x) with q | q
        · obtain ⟨z1, z2⟩ := p5 i q hp
          refine ⟨fun k hk => ?_, ?_⟩
          · rw [k6, pk_cpy_out (by omega)]
            exact z1 k hk
          · rw [k7]
            show (if i = 8 * y + x then _ else gJ T 12 i) = _
            rw [if_neg (by omega)]
            exact z2
        · have e : i = 8 * y + x := by omega
          rw [e]
          refine ⟨fun k hk => ?_, ?_⟩
          · rw [k6, pk_cpy_in (by omega) (by omega)]
            congr 1
            omega
          · rw [k7]
            show (if 8 * y + x = 8 * y + x then _ else _) = _
            rw [if_pos rfl])
    (fun y T hy hp => by
      obtain ⟨p1, p2, p3, p4, p5, p6⟩ := hp
      refine ⟨zLst_sk (by omega) zGap_row p1, zPt_sk (by omega) zGap_row p2, zPt_sk (by omega) zGap_row p3, zPt_sk (by omega) zGap_row p4, fun i hi hp => ?_, p6⟩
      rcases Nat.lt_or_ge i (8 * y + w2) with q | q
      · exact p5 i q hp
      · exact absurd (zpl_iff.1 hp) (zGap_row i q hi)) B h0
  obtain ⟨f, T, k1, p1, p2, p3, p4, p5, p6⟩ := key
  refine ⟨T, ?_, zLst_sk (by omega) zGap_end p1, zPt_sk (by omega) zGap_end p2, zPt_sk (by omega) zGap_end p3, zPt_sk (by omega) zGap_end p4, fun i hi hp => ?_, p6⟩
  · refine k1.trans ?_
    show fX5_turnCells_51L (fX5_turnCells_51 f) T v (nI h2) = _
    unfold fX5_turnCells_51L
    exact z_t (by rw [p1.2.1]; exact z_len (Nat.le_refl _) (by omega)) rfl
  · rcases Nat.lt_or_ge i (8 * h2) with q | q
    · exact p5 i q hp
    · exact absurd (zpl_iff.1 hp) (zGap_end i q hi)

/-! the ground, cell by cell, row by row -/
theorem zcnt_flat {p : Nat → Bool} {a : Nat} : ∀ {b : Nat}, a ≤ b → (∀ i, a ≤ i → i < b → p i = false) → zcnt p b = zcnt p a
  | 0, h, _ => by rw [show a = 0 by omega]
  | b + 1, h, hp => by
    rcases Nat.lt_or_ge a (b + 1) with h1 | h1
    · have e := zcnt_flat (p := p) (a := a) (b := b) (by omega) (fun i x y => hp i x (by omega))
      show zcnt p b + (if p b = true then 1 else 0) = _
      rw [hp b (by omega) (by omega), e]
      rfl
    · rw [show a = b + 1 by omega]
theorem z_nest {σ T : Type} {w h : Nat} (H1 : Nat → Nat → σ → T) (H2 : Nat → Nat → Nat → Nat → σ → T) (P : Nat → σ → Prop) (hw : w ≤ 8) (hh : h ≤ 8)
    (ha : ∀ f y s, y < h → P (8 * y) s → H1 (f + 1) y s = H2 f gx_fuel y 0 s)
    (hb : ∀ f g y s, y < h → P (8 * y + w) s → H2 f (g + 1) y w s = H1 f (y + 1) s)
    (hc : ∀ f g y x s, y < h → x < w → P (8 * y + x) s → ∃ s', H2 f (g + 1) y x s = H2 f g y (x + 1) s' ∧ P (8 * y + x + 1) s')
    (hd : ∀ y s, y < h → P (8 * y + w) s → P (8 * (y + 1)) s) (s : σ) (h0 : P 0 s) : ∃ f s', H1 gx_fuel 0 s = H1 (f + 1) h s' ∧ P (8 * h) s' := by
  have inner : ∀ (d g f y x : Nat) (s : σ), x + d = w → d < g → y < h → P (8 * y + x) s → ∃ s', H2 f g y x s = H1 f (y + 1) s' ∧ P (8 * y + w) s' := by
    intro d
    induction d with
    | zero =>
      intro g f y x s e1 e2 hy hp
      obtain ⟨g, rfl⟩ : ∃ q, g = q + 1 := ⟨g - 1, by omega⟩
      have e : x = w := by omega
      rw [e] at hp ⊢
      exact ⟨s, hb f g y s hy hp, hp⟩
    | succ d ih =>
      intro g f y x s e1 e2 hy hp
      obtain ⟨g, rfl⟩ : ∃ q, g = q + 1 := ⟨g - 1, by omega⟩
      obtain ⟨s1, k1, k2⟩ := hc f g y x s hy (by omega) hp
      obtain ⟨s2, k3, k4⟩ := ih g f y (x + 1) s1 (by omega) (by omega) hy k2
      exact ⟨s2, k1.trans k3, k4⟩
  have outer : ∀ (d f y : Nat) (s : σ), y + d = h → d < f → P (8 * y) s → ∃ q s', H1 f y s = H1 (q + 1) h s' ∧ P (8 * h) s' := by
    intro d
    induction d with
    | zero =>
      intro f y s e1 e2 hp
      obtain ⟨f, rfl⟩ : ∃ q, f = q + 1 := ⟨f - 1, by omega⟩
      have e : y = h := by omega
      rw [e] at hp ⊢
      exact ⟨f, s, rfl, hp⟩
    | succ d ih =>
      intro f y s e1 e2 hp
      obtain ⟨f, rfl⟩ : ∃ q, f = q + 1 := ⟨f - 1, by omega⟩
      obtain ⟨s1, k1, k2⟩ := inner w gx_fuel f y 0 s (by omega) (by have := z_fuelB; omega) (by omega) hp
      obtain ⟨q, s2, k3, k4⟩ := ih f (y + 1) s1 (by omega) (by omega) (hd y s1 (by omega) k2)
      exact ⟨q, s2, (ha f y s (by omega) hp).trans (k1.trans k3), k4⟩
  exact outer h gx_fuel 0 s (by omega) (by have := z_fuelB; omega) h0
/-- no cell of the ground from a to b -/
def zGap (w h a b : Nat) : Prop := ∀ i, a ≤ i → i < b → ¬ (i % 8 < w ∧ i / 8 < h)
theorem zGap_row {w h y : Nat} : zGap w h (8 * y + w) (8 * (y + 1)) := fun i a b q => by omega
theorem zGap_end {w h : Nat} : zGap w h (8 * h) 64 := fun i a b q => by omega
/-- the places settled as yet, those before c, are listed -/
def zLst (w h : Nat) (kd : Nat → Int32) (c : Nat) (T : gS) : Prop := gI T 5 5 = nI w ∧ gI T 5 6 = nI h ∧ gI T 5 4 = nI (zcnt (zopB w h kd) c) ∧ ∀ i, i < c → zOp w h kd i → gA T 9 (zcnt (zopB w h kd) i) = nI i
theorem zLst_sk {w h a b : Nat} {kd : Nat → Int32} {T : gS} (hab : a ≤ b) (hg : zGap w h a b) (H : zLst w h kd a T) : zLst w h kd b T := by
  have hp : ∀ i, a ≤ i → i < b → zopB w h kd i = false := fun i x y => by
    cases e : zopB w h kd i with
    | false => rfl
    | true =>
      have q := zopB_iff.1 e
      exact absurd ⟨q.2.1, q.2.2.1⟩ (hg i x y)
  refine ⟨H.1, H.2.1, by rw [zcnt_flat hab hp]; exact H.2.2.1, fun i hi ho => ?_⟩
  rcases Nat.lt_or_ge i a with q | q
  · exact H.2.2.2 i q ho
  · exact absurd ⟨ho.2.1, ho.2.2.1⟩ (hg i q hi)
theorem zLst_cg {w h c : Nat} {kd kd2 : Nat → Int32} {T : gS} (hk : ∀ i, i < 64 → kd i = kd2 i) (hc : c ≤ 64) (H : zLst w h kd c T) : zLst w h kd2 c T := by
  have e : ∀ i, i < 64 → zopB w h kd i = zopB w h kd2 i := fun i hi => by
    unfold zopB
    rw [hk i hi]
  refine ⟨H.1, H.2.1, by rw [← zcnt_cg (fun i hi => e i (by omega))]; exact H.2.2.1, fun i hi ho => ?_⟩
  rw [← zcnt_cg (fun j hj => e j (by omega))]
  refine H.2.2.2 i hi ⟨ho.1, ho.2.1, ho.2.2.1, ?_⟩
  rw [hk i (by omega)]
  exact ho.2.2.2
theorem z_list {w h c : Nat} {kd : Nat → Int32} {T : gS} (H : zLst w h kd c T) (hc : c < 64) (hp : c % 8 < w ∧ c / 8 < h) (hk : gA T 7 c = kd c) : ∃ T', fX1_listIfOpen 5 T (nI c) = some ((), T') ∧ zLst w h kd (c + 1) T' ∧ gOff [5, 9] T T' := by
  obtain ⟨h1, h2, h3, h4⟩ := H
  have hq := zcnt_le (zopB w h kd) c
  by_cases h5 : kd c = 4
  · have hb : zopB w h kd c = false := by
      cases e : zopB w h kd c with
      | false => rfl
      | true => exact absurd h5 (zopB_iff.1 e).2.2.2
    have ez : zcnt (zopB w h kd) (c + 1) = zcnt (zopB w h kd) c := by simp [zcnt, hb]
    refine ⟨T, ?_, ⟨h1, h2, by rw [ez]; exact h3, fun i hi ho => ?_⟩, gOff_rf⟩
    · unfold fX1_listIfOpen
      refine z_c rfl hc (by omega) (z_t ?_ rfl)
      rw [z_cl (by omega)]
      exact hk.trans h5
    · rcases Nat.lt_or_ge i c with q | q
      · exact h4 i q ho
      · have e : i = c := by omega
        exact absurd (e ▸ h5) ho.2.2.2
  · have hb : zopB w h kd c = true := zopB_iff.2 ⟨hc, hp.1, hp.2, h5⟩
    have ez : zcnt (zopB w h kd) (c + 1) = zcnt (zopB w h kd) c + 1 := by simp [zcnt, hb]
    refine ⟨gI_up (gA_up T 9 (zcnt (zopB w h kd) c) (nI c)) 5 4 (nI (zcnt (zopB w h kd) c + 1)), ?_, ⟨?_, ?_, ?_, fun i hi ho => ?_⟩, gOff_tr (gOff_A (by simp)) (gOff_I (by simp))⟩
    · unfold fX1_listIfOpen
      refine z_c rfl hc (by omega) (z_f ?_ (z_f ?_ (z_c h3 (by omega) (by omega) ?_)))
      · rw [z_cl (by omega)]
        intro q
        exact h5 (hk.symm.trans q)
      · rw [h3]
        exact z_nle (a := 64) (by omega) (by omega)
      · rw [z_let, z_let, h3, z_cl (by omega), z_IA, h3, z_inc]
    · rw [z_Ik _ _ _ (by omega), z_IA]; exact h1
    · rw [z_Ik _ _ _ (by omega), z_IA]; exact h2
    · rw [z_Is, ez]
    · rw [z_AI, z_Ar]
      show (if zcnt (zopB w h kd) i = zcnt (zopB w h kd) c then nI c else gA T 9 (zcnt (zopB w h kd) i)) = nI i
      rcases Nat.lt_or_ge i c with q | q
      · have := zcnt_lt (zopB w h kd) q (zopB_iff.2 ho)
        rw [if_neg (by omega)]
        exact h4 i q ho
      · have e : i = c := by omega
        subst e
        rw [if_pos rfl]
/-- a row, settled before c -/
def zPt (w h c : Nat) (a b r : Nat → Int32) : Prop := ∀ i, i < 64 → r i = if i < c ∧ zpl w h i = true then a i else b i
theorem zpl_iff {w h c : Nat} : zpl w h c = true ↔ c % 8 < w ∧ c / 8 < h := by
  unfold zpl
  rw [decide_eq_true_iff]
theorem zPt_0 {w h : Nat} {a b : Nat → Int32} : zPt w h 0 a b b := fun i _ => by rw [if_neg (by omega)]
theorem zPt_sk {w h c d : Nat} {a b r : Nat → Int32} (hcd : c ≤ d) (hg : zGap w h c d) (H : zPt w h c a b r) : zPt w h d a b r := fun i hi => by
  rw [H i hi]
  by_cases q : i < c ∧ zpl w h i = true
  · rw [if_pos q, if_pos ⟨by omega, q.2⟩]
  · rw [if_neg q, if_neg (fun z => ?_)]
    rcases Nat.lt_or_ge i c with u | u
    · exact q ⟨u, z.2⟩
    · exact hg i u z.1 (zpl_iff.1 z.2)
theorem zPt_s {w h c : Nat} {a b r : Nat → Int32} {v : Int32} (hp : zpl w h c = true) (hv : v = a c) (H : zPt w h c a b r) : zPt w h (c + 1) a b (fun j => if j = c then v else r j) := fun i hi => by
  show (if i = c then v else r i) = _
  by_cases e : i = c
  · rw [if_pos e, e, if_pos ⟨by omega, hp⟩, hv]
  · rw [if_neg e, H i hi]
    by_cases q : i < c ∧ zpl w h i = true
    · rw [if_pos q, if_pos ⟨by omega, q.2⟩]
    · rw [if_neg q, if_neg (fun z => q ⟨by omega, z.2⟩)]
theorem zPt_end {w h : Nat} {a b r : Nat → Int32} (H : zPt w h 64 a b r) {i : Nat} (hi : i < 64) : r i = if zpl w h i = true then a i else b i := by
  rw [H i hi]
  by_cases q : zpl w h i = true
  · rw [if_pos ⟨hi, q⟩, if_pos q]
  · rw [if_neg (fun z => q z.2), if_neg q]
/-! what the strips tell -/
theorem z_lval {v : Int64} (h1 : ¬ v < 0) (h2 : ¬ (9999 : Int64) < v) : ∃ n : Nat, n ≤ 9999 ∧ v = lN n := by
  rw [Int64.lt_iff_toInt_lt] at h1 h2
  have e0 : (0 : Int64).toInt = 0 := rfl
  have e9 : (9999 : Int64).toInt = 9999 := rfl
  rw [e0] at h1
  rw [e9] at h2
  refine ⟨v.toInt.toNat, by omega, Int64.toInt_inj.mp ?_⟩
  rw [pk_lT (by omega)]
  omega
def zIsB (S : gS) (c : Nat) : Bool := decide (gA S 1 (c / 8) ≠ -9 ∧ ¬ gA S 2 (c / 8) ≤ nI (c % 8) ∧ ¬ gJ S 3 c < 0 ∧ ¬ (9999 : Int64) < gJ S 3 c)
def zGk (S : gS) (c : Nat) : Int32 := if zIsB S c = true then 0 else 4
def zGl (S : gS) (c : Nat) : Int32 := if zIsB S c = true then Int64.toInt32 (gJ S 3 c) else 0
theorem zIsB_iff {S : gS} {x y : Nat} (hx : x < 8) : zIsB S (8 * y + x) = true ↔ gA S 1 y ≠ -9 ∧ ¬ gA S 2 y ≤ nI x ∧ ¬ gJ S 3 (8 * y + x) < 0 ∧ ¬ (9999 : Int64) < gJ S 3 (8 * y + x) := by
  have e1 : (8 * y + x) / 8 = y := by omega
  have e2 : (8 * y + x) % 8 = x := by omega
  unfold zIsB
  rw [decide_eq_true_iff, e1, e2]
theorem zGl_in (S : gS) (c : Nat) : ∃ v : Nat, v ≤ 9999 ∧ zGl S c = nI v := by
  unfold zGl
  by_cases h : zIsB S c = true
  · have q := h
    unfold zIsB at q
    rw [decide_eq_true_iff] at q
    obtain ⟨n, h1, h2⟩ := z_lval q.2.2.1 q.2.2.2
    rw [if_pos h, h2, lN_i]
    exact ⟨n, h1, rfl⟩
  · rw [if_neg h]
    exact ⟨0, by omega, rfl⟩
theorem z_lvl {x y : Nat} {Sx Sy T : gS} (H : zStr Sx Sy) (hT : gI T (47 + 2 * y) = gI Sx (47 + 2 * y)) (hT2 : gJ T (48 + 2 * y) = gJ Sx (48 + 2 * y)) (hx : x < 8) (hy : y < 8) :
    ∃ L, fX5_levelFromStrips T (nI x) (nI y) = some (L, T) ∧ ((zIsB Sy (8 * y + x) = true ∧ ¬ L < 0 ∧ ¬ (9999 : Int64) < L ∧ L = gJ Sy 3 (8 * y + x)) ∨ (zIsB Sy (8 * y + x) = false ∧ (L < 0 ∨ (9999 : Int64) < L))) := by
  obtain ⟨hl, ⟨m, hm, hm1, hm2⟩, hj⟩ := H.2 y hy
  rw [← hT] at hl hm1
  rw [← hT2] at hj
  have no : ∀ {q : Prop}, (zIsB Sy (8 * y + x) = true → False) → q ∨ (zIsB Sy (8 * y + x) = false ∧ ((-1 : Int64) < 0 ∨ (9999 : Int64) < -1)) := fun hf => by
    refine Or.inr ⟨?_, Or.inl (by decide)⟩
    cases e : zIsB Sy (8 * y + x) with
    | false => rfl
    | true => exact absurd e (fun z => hf z)
  have pre : ∀ R, (if gI T (47 + 2 * y) 1 = 0 then (gx_bind (fX3_has (47 + 2 * y) T (nI x)) fun r16 S16 => if r16 = 0 then (fX5_levelFromStrips_31 S16) else gx_chk (nI x) 8 <| some ((gJ S16 (47 + 2 * y + 1) (Int32.toNatClampNeg (nI x))), S16)) else fX5_levelFromStrips_31 T) = R → fX5_levelFromStrips T (nI x) (nI y) = R := fun R hR => by
    unfold fX5_levelFromStrips
    refine z_c rfl hy (by omega) ?_
    rw [z_let, z_cl (n := y) (by omega)]
    exact hR
  rcases hl with ⟨h1, h2⟩ | ⟨h1, h2, a, ha, h3⟩
  · exact ⟨-1, pre _ (z_f (by rw [h1]; decide) rfl), no (fun z => ((zIsB_iff hx).1 z).1 h2)⟩
  · rcases Nat.lt_or_ge x m with h4 | h4
    · refine ⟨gJ Sy 3 (8 * y + x), pre _ (z_t h1 (z_b (z_has_t _ _ hm1 hm h4) (z_f (by decide) (z_c rfl hx (by omega) ?_)))), ?_⟩
      · rw [z_cl (by omega), show 47 + 2 * y + 1 = 48 + 2 * y by omega, hj x hx]
      · by_cases h5 : zIsB Sy (8 * y + x) = true
        · have q := (zIsB_iff hx).1 h5
          exact Or.inl ⟨h5, q.2.2.1, q.2.2.2, rfl⟩
        · refine Or.inr ⟨?_, ?_⟩
          · cases e : zIsB Sy (8 * y + x) with
            | false => rfl
            | true => exact absurd e h5
          · by_cases q1 : gJ Sy 3 (8 * y + x) < 0
            · exact Or.inl q1
            · by_cases q2 : (9999 : Int64) < gJ Sy 3 (8 * y + x)
              · exact Or.inr q2
              · exact absurd ((zIsB_iff hx).2 ⟨by rw [h3]; exact z_n9 ha, by rw [hm2]; exact z_nle h4 (by omega), q1, q2⟩) h5
    · refine ⟨-1, pre _ (z_t h1 (z_b (z_has_f _ _ hm1 (Or.inr (z_len h4 (by omega)))) (z_t rfl rfl))), no (fun z => ((zIsB_iff hx).1 z).2.1 (by rw [hm2]; exact z_len h4 (by omega)))⟩
/-! the class settles a cell -/
theorem z_settle70 (S : gS) {c : Nat} (k : Int32) (hc : c < 64) : fX1_settle_70 5 S (nI c) (5 + 2) (nI c) k = gx_bind (fX1_listIfOpen 5 (gA_up (gA_up S 7 c k) 8 c 0) (nI c)) fun _ U => some ((), U) := by
  unfold fX1_settle_70
  refine z_c rfl hc (by omega) ?_
  rw [z_let, z_cl (by omega)]
  refine z_c rfl hc (by omega) ?_
  rw [z_let]
theorem z_settle53 (S : gS) {c : Nat} (t lv : Int32) (hc : c < 64) : fX1_settle_53 5 S (nI c) t (5 + 1) (nI c) lv = gx_bind (fX1_listIfOpen 5 (gA_up (gA_up (gA_up S 6 c lv) 7 c (if t = 0 then 4 else 0)) 8 c 0) (nI c)) fun _ U => some ((), U) := by
  unfold fX1_settle_53
  refine z_c rfl hc (by omega) ?_
  rw [z_let, z_cl (by omega)]
  by_cases h : t = 0
  · rw [if_pos h, if_pos h]
    exact z_settle70 _ _ hc
  · rw [if_neg h, if_neg h]
    exact z_settle70 _ _ hc
theorem z_settleX {w h x y : Nat} {kd : Nat → Int32} {T B : gS} {L : Int64} (H : zLst w h kd (8 * y + x) T) (hx : x < w) (hy : y < h) (hw : w ≤ 8) (hh : h ≤ 8) (hkd : kd (8 * y + x) = zGk B (8 * y + x))
    (hL : (zIsB B (8 * y + x) = true ∧ ¬ L < 0 ∧ ¬ (9999 : Int64) < L ∧ L = gJ B 3 (8 * y + x)) ∨ (zIsB B (8 * y + x) = false ∧ (L < 0 ∨ (9999 : Int64) < L))) :
    ∃ T', fX1_settle 5 T (nI x) (nI y) L = some ((), T') ∧ zLst w h kd (8 * y + x + 1) T' ∧ gA T' 6 = (fun j => if j = 8 * y + x then zGl B (8 * y + x) else gA T 6 j) ∧ gA T' 7 = (fun j => if j = 8 * y + x then zGk B (8 * y + x) else gA T 7 j) ∧ gA T' 8 = (fun j => if j = 8 * y + x then 0 else gA T 8 j) ∧ gOff [5, 6, 7, 8, 9] T T' := by
  obtain ⟨hc, c1, c2⟩ := z_xy hx hy hw hh
  have hU : ∀ lv, zLst w h kd (8 * y + x) (gA_up (gA_up (gA_up T 6 (8 * y + x) lv) 7 (8 * y + x) (zGk B (8 * y + x))) 8 (8 * y + x) 0) := fun lv => by
    refine ⟨H.1, H.2.1, H.2.2.1, fun i hi ho => ?_⟩
    rw [z_Ao _ _ _ (by omega), z_Ao _ _ _ (by omega), z_Ao _ _ _ (by omega)]
    exact H.2.2.2 i hi ho
  have hU7 : ∀ lv, gA (gA_up (gA_up (gA_up T 6 (8 * y + x) lv) 7 (8 * y + x) (zGk B (8 * y + x))) 8 (8 * y + x) 0) 7 (8 * y + x) = kd (8 * y + x) := fun lv => by
    rw [z_Ao _ _ _ (by omega), z_Ar]
    show (if 8 * y + x = 8 * y + x then _ else _) = _
    rw [if_pos rfl, hkd]
  obtain ⟨T', k1, k2, k3⟩ := z_list (hU (zGl B (8 * y + x))) hc ⟨by omega, by omega⟩ (hU7 _)
  refine ⟨T', ?_, k2, ?_, ?_, ?_, ?_⟩
  · unfold fX1_settle
    refine z_b (z_plX_t H.1 H.2.1 hx hy hw hh) (z_f (z_nm1 (by omega)) ?_)
    rcases hL with ⟨b1, b2, b3, b4⟩ | ⟨b1, b2⟩
    · refine z_f b2 (z_f b3 ?_)
      unfold fX1_settle_34
      refine z_f (by decide) ((z_settle53 T 1 _ hc).trans ?_)
      have e1 : (if (1 : Int32) = 0 then (4 : Int32) else 0) = zGk B (8 * y + x) := by
        unfold zGk
        rw [if_pos b1]
        rfl
      have e2 : Int64.toInt32 L = zGl B (8 * y + x) := by
        unfold zGl
        rw [if_pos b1, b4]
      rw [e1, e2]
      exact z_b k1 rfl
    · have e1 : (if (0 : Int32) = 0 then (4 : Int32) else 0) = zGk B (8 * y + x) := by
        unfold zGk
        rw [b1]
        rfl
      have e2 : (0 : Int32) = zGl B (8 * y + x) := by
        unfold zGl
        rw [b1]
        rfl
      have e33 : fX1_settle_33 5 T L (nI (8 * y + x)) = some ((), T') := by
        unfold fX1_settle_33 fX1_settle_34
        refine z_t rfl ((z_settle53 T 0 0 hc).trans ?_)
        rw [e1]
        have k1' := k1
        rw [← e2] at k1'
        exact z_b k1' rfl
      by_cases q : L < 0
      · exact z_t q e33
      · exact z_f q (z_t (b2.resolve_left q) e33)
  · rw [(k3 6 (by simp)).2.1, z_Ao _ _ _ (by omega), z_Ao _ _ _ (by omega), z_Ar]
  · rw [(k3 7 (by simp)).2.1, z_Ao _ _ _ (by omega), z_Ar, z_Ao _ _ _ (by omega)]
  · rw [(k3 8 (by simp)).2.1, z_Ar, z_Ao _ _ _ (by omega), z_Ao _ _ _ (by omega)]
  · exact gOff_tr (gOff_tr (gOff_tr (gOff_A (by simp)) (gOff_A (by simp))) (gOff_A (by simp))) (gOff_mo k3 (fun i hi => by simp at hi ⊢; omega))

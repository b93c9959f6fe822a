/-! moving, the reference's loops -/
theorem z_q4 {i : Nat} (h : i < 256) : nI i / 4 = nI (i / 4) ∧ nI i - nI i / 4 * 4 = nI (i % 4) := by
  have e1 : nI i / 4 = nI (i / 4) := z_div (b := 4) (by omega) (by omega) (by omega)
  refine ⟨e1, ?_⟩
  rw [e1, z_lit 4, z_mul, z_sub (by omega)]
  congr 1
  omega
def zRow14 (w h : Nat) (Sy : gS) (g : Nat → Nat → Nat) (j : Nat) : Int64 := if zopB w h (gA Sy 5) (j / 4) then zGive w h Sy g (j / 4) (j % 4) else 0
theorem z_mvY74 {w h N y : Nat} {Sx Sy S : gS} {g : Nat → Nat → Nat} {B : zB} (H : zRd w h Sx S) (h5 : gA Sy 5 = gA S 5) (hY : zY S B.2) (hYb : zYb S B.1) (hK : zKn N (zOp w h (gA Sy 5)) y B) (hN : N ≤ 2000000000) (hy : y ≤ 60)
    (hg : ∀ j, j < 256 → gJ S 14 j = zRow14 w h Sy g j) :
    ∃ S', fX6_move_74 gx_fuel S 0 = some ((), S') ∧ zY S' (zMvF w h Sy y g 256 B).2 ∧ gOff [8, 9, 15] S S' := by
  have hw : w ≤ 8 := by have := H.1.2.2.2.2.1; omega
  have hh : h ≤ 8 := by have := H.1.2.2.2.2.1; omega
  have key := z_lp (E := fun r : Unit × gS => some r) 256 (fun f i (t : gS) => fX6_move_74 f t (nI i))
    (fun i t => gOff [8, 9, 15] S t ∧ zY t (zMvF w h Sy y g i B).2 ∧ zYb t (zMvF w h Sy y g i B).1)
    (fun r => gOff [8, 9, 15] S r.2 ∧ zY r.2 (zMvF w h Sy y g 256 B).2) (by
      rintro f i T hi ⟨h1, h2, h3⟩
      rcases Nat.lt_or_ge i 256 with hi | hi
      · right
        refine ⟨hi, ?_⟩
        obtain ⟨e1, e2⟩ := z_q4 hi
        have hgi : gJ T 14 i = zRow14 w h Sy g i := by rw [(h1 14 (by simp)).2.2]; exact hg i hi
        have HT := zRd_y H h1 (by simp)
        cases hb : zopB w h (gA Sy 5) (i / 4) with
        | false =>
          have hz : zRow14 w h Sy g i = 0 := by
            unfold zRow14
            rw [hb]
            rfl
          rw [zMvF_f hb]
          refine ⟨T, ?_, h1, h2, h3⟩
          show fX6_move_74L (fX6_move_74 f) T (nI i) = _
          unfold fX6_move_74L
          refine z_f (z_nle (a := 256) hi (by omega)) ?_
          rw [z_let]
          refine z_c rfl hi (by omega) ?_
          rw [z_let, z_cl (by omega), hgi, hz]
          refine z_t (by decide) ?_
          show fX6_move_117 (fX6_move_74 f) gx_fuel T (nI i) (nI i / 4) 0 (-9) (nI 60) = _
          rw [z_move0 _ (by decide), z_inc]
        | true =>
          have hz : zRow14 w h Sy g i = zGive w h Sy g (i / 4) (i % 4) := by
            unfold zRow14
            rw [hb]
            rfl
          obtain ⟨S', k1, k2, k3, k4⟩ := z_hand1Y (sd := i % 4) (g := g) (v1 := nI i) (fX6_move_74 f) HT (by rw [h5, (h1 5 (by simp)).2.1]) h2 h3 (zMvF_K hw hh hy hK _) hN hy (zopB_iff.1 hb) (by omega)
          have e : i = 4 * (i / 4) + i % 4 := by omega
          have e3 : zMvF w h Sy y g (i + 1) B = zMv1 w h Sy y g (i / 4) (i % 4) (zMvF w h Sy y g i B) := by
            show (if zopB w h (gA Sy 5) (i / 4) then _ else _) = _
            rw [hb]
            rfl
          rw [e3]
          refine ⟨S', ?_, gOff_tr h1 k4, k2, k3⟩
          show fX6_move_74L (fX6_move_74 f) T (nI i) = _
          unfold fX6_move_74L
          refine z_f (z_nle (a := 256) hi (by omega)) ?_
          rw [z_let]
          refine z_c rfl hi (by omega) ?_
          rw [z_let, z_cl (by omega), hgi, hz, e2, e1, k1, z_inc]
      · have e : i = 256 := by omega
        subst e
        refine Or.inl ⟨((), T), ?_, h1, h2⟩
        show fX6_move_74L (fX6_move_74 f) T (nI 256) = _
        unfold fX6_move_74L
        exact z_t (z_len (a := 256) (b := 256) (by omega) (by omega)) rfl)
    256 gx_fuel 0 S (by omega) (by have := z_fuelB; omega) (by omega) ⟨gOff_rf, hY, hYb⟩
  obtain ⟨⟨u, S'⟩, k1, k2, k3⟩ := key
  exact ⟨S', k1, k3, k2⟩
/-- the reference's rows copied place by place -/
theorem z_mvY47 (S : gS) : fX6_move_47 gx_fuel S 0 = fX6_move_74 gx_fuel (gJ_row S 15 (fun k => if k < 3904 then gJ S 8 k else gJ S 15 k)) 0 := by
  have key := z_lp (E := fun r : gS => fX6_move_74 gx_fuel r 0) 3904 (fun f j (t : gS) => fX6_move_47 f t (nI j)) (fun j t => t = gJ_row S 15 (fun k => if k < j then gJ S 8 k else gJ S 15 k)) (fun r => r = gJ_row S 15 (fun k => if k < 3904 then gJ S 8 k else gJ S 15 k)) (by
    intro f j t hj hp
    rcases Nat.lt_or_ge j 3904 with h1 | h1
    · refine Or.inr ⟨h1, gJ_up t 15 j (gJ S 8 j), ?_, ?_⟩
      · show fX6_move_47L (fX6_move_47 f) t (nI j) = _
        unfold fX6_move_47L
        refine z_f (z_nle (a := 3904) h1 (by omega)) (z_c rfl h1 (by omega) (z_c rfl h1 (by omega) ?_))
        rw [z_let, z_let, z_cl (by omega), z_inc, show gJ t 8 = gJ S 8 by rw [hp, z_JrJ, if_neg (by omega)]]
      · rw [hp, z_uprow]
        exact z_rowcg _ _ (fun k => by
          by_cases h2 : k = j
          · rw [if_pos h2, if_pos (by omega), h2]
          · rw [if_neg h2]
            by_cases h3 : k < j
            · rw [if_pos h3, if_pos (by omega)]
            · rw [if_neg h3, if_neg (by omega)])
    · refine Or.inl ⟨t, ?_, by rw [hp, show j = 3904 by omega]⟩
      show fX6_move_47L (fX6_move_47 f) t (nI j) = _
      unfold fX6_move_47L
      exact z_t (z_len (a := 3904) (b := j) (by omega) (by omega)) rfl) 3904 gx_fuel 0 S (by omega) (by have := z_fuelB; omega) (by omega) (by
        rw [z_rowcg S 15 (r2 := gJ S 15) (fun k => by rw [if_neg (by omega)]), z_rowself])
  obtain ⟨r, h1, h2⟩ := key
  rw [h2] at h1
  exact h1
theorem z_moveY {w h N y : Nat} {Sx S : gS} {G : zG} (H : zRd w h Sx S) (hY : zY S G) (hJ : zJn N (zOp w h (gA S 5)) y G) (hN : N ≤ 2000000000) (hy : y ≤ 60) :
    ∃ S', fX6_move S = some ((), S') ∧ zY S' (zMvF w h S y G.1 256 (G.1, G)).2 ∧ gOff [8, 9, 14, 15] S S' := by
  have key := z_lp (E := fun r : gS => fX6_move_47 gx_fuel r 0) 256 (fun f i (t : gS) => fX6_move_2 f t (nI i))
    (fun i t => gOff [14] S t ∧ ∀ j, j < i → gJ t 14 j = zRow14 w h S G.1 j)
    (fun r => gOff [14] S r ∧ ∀ j, j < 256 → gJ r 14 j = zRow14 w h S G.1 j) (by
      rintro f i T hi ⟨h1, h2⟩
      rcases Nat.lt_or_ge i 256 with hi | hi
      · right
        obtain ⟨e1, e2⟩ := z_q4 hi
        have HT := zRd_y H h1 (by simp)
        have e5 : gA T 5 = gA S 5 := (h1 5 (by simp)).2.1
        have hI := z_isIce HT.1 (show i / 4 < 64 by omega)
        have hk : ∀ v, v = zRow14 w h S G.1 i → fX6_move_38 (fX6_move_2 f) T (nI i) (nI i) v = fX6_move_2 f (gJ_up T 14 i v) (nI (i + 1)) := fun v _ => by
          unfold fX6_move_38
          refine z_c rfl hi (by omega) ?_
          rw [z_let, z_let, z_cl (by omega), z_inc]
        refine ⟨hi, gJ_up T 14 i (zRow14 w h S G.1 i), ?_, gOff_tr h1 (gOff_J (by simp)), fun j hj => ?_⟩
        · show fX6_move_2L (fX6_move_2 f) T (nI i) = _
          unfold fX6_move_2L
          refine z_f (z_nle (a := 256) hi (by omega)) ?_
          rw [e2, e1]
          refine z_b hI ?_
          rw [e5]
          cases hb : zopB w h (gA S 5) (i / 4) with
          | false =>
            refine z_t rfl ?_
            have hz : 0 = zRow14 w h S G.1 i := by
              unfold zRow14
              rw [hb]
              rfl
            rw [hk 0 hz, ← hz]
          | true =>
            refine z_f (by decide) ?_
            have hz : zGive w h T G.1 (i / 4) (i % 4) = zRow14 w h S G.1 i := by
              rw [zGive_cg e5 (h1 6 (by simp)).2.1 (h1 7 (by simp)).2.1 (h1 0 (by simp)).1]
              unfold zRow14
              rw [hb]
              rfl
            refine z_b (z_giftY HT (zY_of hY (h1 8 (by simp)).2.2 (h1 9 (by simp)).2.2) (by rw [e5]; exact hJ) hN (by rw [e5]; exact zopB_iff.1 hb) (by omega)) ?_
            rw [hk _ hz, ← hz]
        · rw [z_Jr]
          show (if j = i then _ else gJ T 14 j) = _
          by_cases e : j = i
          · rw [if_pos e, e]
          · rw [if_neg e]; exact h2 j (by omega)
      · have e : i = 256 := by omega
        subst e
        refine Or.inl ⟨T, ?_, h1, h2⟩
        show fX6_move_2L (fX6_move_2 f) T (nI 256) = _
        unfold fX6_move_2L
        exact z_t (z_len (a := 256) (b := 256) (by omega) (by omega)) rfl)
    256 gx_fuel 0 S (by omega) (by have := z_fuelB; omega) (by omega) ⟨gOff_rf, fun j hj => absurd hj (by omega)⟩
  obtain ⟨T, k1, k2, k3⟩ := key
  have o2 : gOff [14, 15] S (gJ_row T 15 (fun k => if k < 3904 then gJ T 8 k else gJ T 15 k)) := gOff_tr (gOff_mo k2 (fun i hi => by simp at hi ⊢; omega)) (gOff_rJ (by simp))
  have hYT := zY_of hY (o2 8 (by simp)).2.2 (o2 9 (by simp)).2.2
  obtain ⟨S', c1, c2, c3⟩ := z_mvY74 (Sy := S) (g := G.1) (B := (G.1, G)) (zRd_y H o2 (by simp)) (o2 5 (by simp)).2.1.symm hYT (fun c k hc hk => by
      rw [z_JrJ, if_pos rfl, if_pos (by omega), (k2 8 (by simp)).2.2]
      exact hY.1 c k hc hk) ⟨hJ, fun _ _ => Nat.le_refl _⟩ hN hy (fun j hj => by
      rw [z_JrJ, if_neg (by omega)]; exact k3 j hj)
  refine ⟨S', ?_, c2, gOff_tr (gOff_mo o2 (fun i hi => by simp at hi ⊢; omega)) (gOff_mo c3 (fun i hi => by simp at hi ⊢; omega))⟩
  show fX6_move_2 gx_fuel S 0 = _
  refine Eq.trans k1 ?_
  rw [z_mvY47]
  exact c1

/-! the reference's rows of ice -/
theorem zY_set {S : gS} {G : zG} {c k x : Nat} {v : Int64} (h : zY S G) (hk : k < 61) (hx : v = lN x) : zY (gJ_up S 8 (61 * c + k) v) (gset G.1 c k x, G.2) := by
  obtain ⟨h1, h2, h3⟩ := h
  unfold zY
  rw [z_Jr, z_Jo (p := 9) _ _ _ (by omega)]
  refine ⟨fun i j hi hj => ?_, h2, h3⟩
  show (if 61 * i + j = 61 * c + k then v else gJ S 8 (61 * i + j)) = lN (gset G.1 c k x i j)
  by_cases e : i = c ∧ j = k
  · rw [if_pos (by omega), e.1, e.2, gset_s, hx]
  · rw [if_neg (by omega), gset_o _ e, h1 i j hi hj]
theorem zY_sum {S : gS} {g : Nat → Nat → Nat} {s : Nat → Int64} {i : Nat} {v : Int64} (h : zY S (g, s)) (hi : 61 ≤ i) (hi2 : i < 305) : zY (gJ_up S 9 i (gJ S 9 i + v)) (g, sadd s i v) := by
  obtain ⟨h1, h2, h3⟩ := h
  unfold zY
  rw [z_Jr, z_Jo (p := 8) _ _ _ (by omega)]
  refine ⟨h1, fun j hj => ?_, fun j a b => ?_⟩
  · show (if j = i then _ else gJ S 9 j) = 0
    rw [if_neg (by omega)]; exact h2 j hj
  · show (if j = i then gJ S 9 i + v else gJ S 9 j) = sadd s i v j
    unfold sadd
    by_cases e : j = i
    · rw [if_pos e, if_pos e, e, h3 i hi hi2]
    · rw [if_neg e, if_neg e, h3 j a b]
theorem zYb_set {S : gS} {b : Nat → Nat → Nat} {c k x : Nat} {v : Int64} (h : zYb S b) (hk : k < 61) (hx : v = lN x) : zYb (gJ_up S 15 (61 * c + k) v) (gset b c k x) := by
  intro i j hi hj
  rw [z_Jr]
  show (if 61 * i + j = 61 * c + k then v else gJ S 15 (61 * i + j)) = lN (gset b c k x i j)
  by_cases e : i = c ∧ j = k
  · rw [if_pos (by omega), e.1, e.2, gset_s, hx]
  · rw [if_neg (by omega), gset_o _ e, h i j hi hj]
theorem z_if {α : Type} {c : Prop} [Decidable c] {a b a2 b2 : α} (h1 : a = a2) (h2 : b = b2) : (if c then a else b) = (if c then a2 else b2) := by rw [h1, h2]
theorem z_fall126 {op : Nat → Prop} {S : gS} {G : zG} {N y c m : Nat} (K2 : gS → Int32 → Option (Unit × gS)) (hY : zY S G) (hJ : zJn N op y G) (hN : N ≤ 2000000000) (hy : y ≤ 60) (hc : c < 64) (ho : op c) (hm : m < 9223372036854775808) :
    ∃ S', fX6_fall_126 K2 gx_fuel S (nI c) (lN m) (nI 60) = K2 S' (nI (c + 1)) ∧ zY S' (zLose 1 c (y + 1) m G) ∧ gOff [8, 9] S S' := by
  have key := z_lpD (E := fun r : gS => K2 r (nI (c + 1))) (fun f j (t : gS × Int64) => fX6_fall_126 K2 f t.1 (nI c) t.2 (zD j))
    (fun j t => ∃ mm G', t.2 = lN mm ∧ mm < 9223372036854775808 ∧ j ≤ 61 ∧ zY t.1 G' ∧ zJn N op 60 G' ∧ zLose 1 c j mm G' = zLose 1 c 61 m G ∧ gOff [8, 9] S t.1)
    (fun r => zY r (zLose 1 c 61 m G) ∧ gOff [8, 9] S r) (by
      rintro f ⟨T, v⟩ ⟨mm, G', rfl, h1, h2, h3, h4, h5, h6⟩
      refine ⟨T, ?_, h5 ▸ h3, h6⟩
      show fX6_fall_126L K2 (fX6_fall_126 K2 f) T (nI c) (lN mm) (zD 0) = _
      unfold fX6_fall_126L
      refine z_t zD_0 ?_
      show K2 T (nI c + 1) = _
      rw [z_inc]) (by
      rintro f j ⟨T, v⟩ ⟨mm, G', rfl, h1, h2, h3, h4, h5, h6⟩
      dsimp only at h3 h6 ⊢
      right
      have hg := zJn_g h4 hc (show j < 61 by omega)
      have hrow : gJ T 8 (61 * c + j) = lN (G'.1 c j) := h3.1 c j hc (by omega)
      have y1 := zY_set (c := c) (k := j) (x := G'.1 c j - min mm (G'.1 c j)) (v := lN (G'.1 c j - min mm (G'.1 c j))) h3 (by omega) rfl
      have y2 := zY_sum (i := 61 + j) (v := lN (min mm (G'.1 c j))) y1 (by omega) (by omega)
      refine ⟨(gJ_up (gJ_up T 8 (61 * c + j) (lN (G'.1 c j - min mm (G'.1 c j)))) 9 (61 + j) (gJ (gJ_up T 8 (61 * c + j) (lN (G'.1 c j - min mm (G'.1 c j)))) 9 (61 + j) + lN (min mm (G'.1 c j))), lN (mm - min mm (G'.1 c j))), ?_, mm - min mm (G'.1 c j), _, rfl, by omega, by omega, y2, ?_, h5, gOff_tr h6 (gOff_tr (gOff_J (by simp)) (gOff_J (by simp)))⟩
      · show fX6_fall_126L K2 (fX6_fall_126 K2 f) T (nI c) (lN mm) (zD (j + 1)) = _
        unfold fX6_fall_126L
        refine z_f (zD_lt (by omega)) ?_
        rw [zD_s, z_61m]
        refine z_c rfl (by omega) (by omega) (z_b (by rw [z_cl (by omega), hrow]; exact z_lesser T (by omega) (by omega)) (z_c rfl (by omega) (by omega) (z_c rfl (by omega) (by omega) ?_)))
        rw [z_let, z_p 61]
        refine z_c rfl (by omega) (by omega) (z_c rfl (by omega) (by omega) ?_)
        rw [z_let, z_let, z_let, z_cl (by omega), z_cl (by omega), hrow, lN_sub (Nat.min_le_left _ _), lN_sub (Nat.min_le_right _ _), zD_n]
      · exact zJn_s (zJn_set (M := N) h4 hc (Or.inl ho) (by omega) (by omega) (by omega)) ⟨1, j, by omega, by omega⟩ (by omega))
    61 gx_fuel (S, lN m) (by have := z_fuelB; omega) ⟨m, G, rfl, hm, by omega, hY, zJn_mo hJ (Nat.le_refl _) hy, rfl, gOff_rf⟩
  obtain ⟨S', k1, k2, k3⟩ := key
  refine ⟨S', ?_, ?_, k3⟩
  · rw [← zD_s 60]; exact k1
  · have e := zLose_hi 1 c y m (G := G) (fun k hk => hJ.2.1 c k hk) (60 - y)
    rw [show y + 1 + (60 - y) = 61 by omega] at e
    rw [← e]; exact k2
theorem z_move117 {op : Nat → Prop} {S : gS} {B : zB} {N y c m oc : Nat} {o : Option Nat} {v1 : Int32} (K74 : gS → Int32 → Option (Unit × gS)) (hY : zY S B.2) (hYb : zYb S B.1) (hK : zKn N op y B) (hN : N ≤ 2000000000) (hy : y ≤ 60) (hc : c < 64) (ho : op c) (hoc : oc < 64) (hk : (gA S 5 oc = 4 ∧ o = none) ∨ (gA S 5 oc ≠ 4 ∧ o = some oc ∧ op oc)) (hm : m < 9223372036854775808) :
    ∃ S', fX6_move_117 K74 gx_fuel S v1 (nI c) (lN m) (nI oc) (nI 60) = K74 S' (v1 + 1) ∧ zY S' (zHand c o (y + 1) m B).2 ∧ zYb S' (zHand c o (y + 1) m B).1 ∧ gOff [8, 9, 15] S S' := by
  have hi : ∀ i, o = some i → i < 64 ∧ op i := fun i e => by
    rcases hk with ⟨-, e2⟩ | ⟨-, e2, e3⟩
    · rw [e2] at e; exact absurd e (by simp)
    · rw [e2] at e
      injection e with e
      exact e ▸ ⟨hoc, e3⟩
  have key := z_lpD (E := fun r : gS => K74 r (v1 + 1)) (fun f j (t : gS × Int64) => fX6_move_117 K74 f t.1 v1 (nI c) t.2 (nI oc) (zD j))
    (fun j t => ∃ mm B', t.2 = lN mm ∧ mm < 9223372036854775808 ∧ j ≤ 61 ∧ zY t.1 B'.2 ∧ zYb t.1 B'.1 ∧ zKn N op 60 B' ∧ zHand c o j mm B' = zHand c o 61 m B ∧ gOff [8, 9, 15] S t.1)
    (fun r => zY r (zHand c o 61 m B).2 ∧ zYb r (zHand c o 61 m B).1 ∧ gOff [8, 9, 15] S r) (by
      rintro f ⟨T, v⟩ ⟨mm, B', rfl, h1, h2, h3, h3b, h4, h5, h6⟩
      refine ⟨T, ?_, h5 ▸ h3, h5 ▸ h3b, h6⟩
      show fX6_move_117L K74 (fX6_move_117 K74 f) T v1 (nI c) (lN mm) (nI oc) (zD 0) = _
      unfold fX6_move_117L
      exact z_t zD_0 rfl) (by
      rintro f j ⟨T, v⟩ ⟨mm, B', rfl, h1, h2, h3, h3b, h4, h5, h6⟩
      dsimp only at h3 h3b h6 ⊢
      rcases Nat.eq_zero_or_pos mm with hz | hz
      · subst hz
        rw [zHand_0] at h5
        refine Or.inl ⟨T, ?_, h5 ▸ h3, h5 ▸ h3b, h6⟩
        show fX6_move_117L K74 (fX6_move_117 K74 f) T v1 (nI c) (lN 0) (nI oc) (zD (j + 1)) = _
        unfold fX6_move_117L
        exact z_f (zD_lt (by omega)) (z_t (by decide) rfl)
      · right
        have hg := zJn_g h4.1 hc (show j < 61 by omega)
        have hb := h4.2 c j
        have ht : min mm (B'.1 c j) ≤ B'.1 c j := Nat.min_le_right _ _
        have hr8 : gJ T 8 (61 * c + j) = lN (B'.2.1 c j) := h3.1 c j hc (by omega)
        have hr15 : gJ T 15 (61 * c + j) = lN (B'.1 c j) := h3b c j hc (by omega)
        have k1 := zHand1_K hc ho (by omega : 60 ≤ 60) (show j ≤ 60 by omega) hi ht h4
        have b1 := zYb_set (c := c) (k := j) (x := B'.1 c j - min mm (B'.1 c j)) (v := lN (B'.1 c j - min mm (B'.1 c j))) h3b (by omega) rfl
        have y1 := zY_of (S' := gJ_up T 15 (61 * c + j) (lN (B'.1 c j - min mm (B'.1 c j)))) h3 (z_Jo _ _ _ (by omega)) (z_Jo _ _ _ (by omega))
        have b2 := zYb_of (S' := gJ_up (gJ_up T 15 (61 * c + j) (lN (B'.1 c j - min mm (B'.1 c j)))) 8 (61 * c + j) (lN (B'.2.1 c j - min mm (B'.1 c j)))) b1 (z_Jo _ _ _ (by omega))
        have y2 := zY_set (c := c) (k := j) (x := B'.2.1 c j - min mm (B'.1 c j)) (v := lN (B'.2.1 c j - min mm (B'.1 c j))) y1 (by omega) rfl
        have oo : gOff [8, 9, 15] S (gJ_up (gJ_up T 15 (61 * c + j) (lN (B'.1 c j - min mm (B'.1 c j)))) 8 (61 * c + j) (lN (B'.2.1 c j - min mm (B'.1 c j)))) := gOff_tr h6 (gOff_tr (gOff_J (by simp)) (gOff_J (by simp)))
        have eA : gA (gJ_up (gJ_up T 15 (61 * c + j) (lN (B'.1 c j - min mm (B'.1 c j)))) 8 (61 * c + j) (lN (B'.2.1 c j - min mm (B'.1 c j)))) 5 oc = gA S 5 oc := by rw [(oo 5 (by simp)).2.1]
        have hL : ∀ R, (let S179 := gJ_up (gJ_up T 15 (61 * c + j) (lN (B'.1 c j - min mm (B'.1 c j)))) 8 (61 * c + j) (lN (B'.2.1 c j - min mm (B'.1 c j)))
            if gA S179 5 oc = 4 then (gx_let (gJ_up S179 9 (122 + j) (gJ S179 9 (122 + j) + lN (min mm (B'.1 c j)))) fun S210 => fX6_move_117 K74 f S210 v1 (nI c) (lN (mm - min mm (B'.1 c j))) (nI oc) (zD j)) else
            gx_let (gJ_up S179 8 (61 * oc + j) (gJ S179 8 (61 * oc + j) + lN (min mm (B'.1 c j)))) fun S231 => fX6_move_117 K74 f S231 v1 (nI c) (lN (mm - min mm (B'.1 c j))) (nI oc) (zD j)) = R → fX6_move_117 K74 (f + 1) T v1 (nI c) (lN mm) (nI oc) (zD (j + 1)) = R := by
          intro R hR
          show fX6_move_117L K74 (fX6_move_117 K74 f) T v1 (nI c) (lN mm) (nI oc) (zD (j + 1)) = _
          unfold fX6_move_117L
          refine z_f (zD_lt (by omega)) ?_
          rw [zD_s, z_61m]
          refine z_f (by rw [show (0 : Int64) = lN 0 from rfl, z_leL (by omega) (by omega)]; omega) (z_c rfl (by omega) (by omega) (z_b (by rw [z_cl (by omega), hr15]; exact z_lesser T (by omega) (by omega)) (z_c rfl (by omega) (by omega) (z_c rfl (by omega) (by omega) ?_))))
          rw [z_let, z_cl (by omega), hr15, lN_sub ht]
          refine z_c rfl (by omega) (by omega) (z_c rfl (by omega) (by omega) ?_)
          rw [z_let, z_let, z_Jo (p := 8) (o := 15) _ _ _ (by omega), hr8, lN_sub (by omega), lN_sub (Nat.min_le_left _ _)]
          refine z_c rfl hoc (by omega) ?_
          rw [z_cl (n := oc) (by omega)]
          rw [← hR]
          dsimp only
          refine z_if ?_ ?_
          · rw [z_p 122]
            refine z_c rfl (by omega) (by omega) (z_c rfl (by omega) (by omega) ?_)
            rw [z_cl (by omega)]
            rfl
          · rw [z_61m]
            refine z_c rfl (by omega) (by omega) (z_c rfl (by omega) (by omega) ?_)
            rw [z_cl (by omega)]
            rfl
        rcases hk with ⟨hk1, hk2⟩ | ⟨hk1, hk2, hk3⟩
        · subst hk2
          have y3 := zY_sum (i := 122 + j) (v := lN (min mm (B'.1 c j))) y2 (by omega) (by omega)
          refine ⟨(gJ_up (gJ_up (gJ_up T 15 (61 * c + j) (lN (B'.1 c j - min mm (B'.1 c j)))) 8 (61 * c + j) (lN (B'.2.1 c j - min mm (B'.1 c j)))) 9 (122 + j) (gJ (gJ_up (gJ_up T 15 (61 * c + j) (lN (B'.1 c j - min mm (B'.1 c j)))) 8 (61 * c + j) (lN (B'.2.1 c j - min mm (B'.1 c j)))) 9 (122 + j) + lN (min mm (B'.1 c j))), lN (mm - min mm (B'.1 c j))), hL _ ?_, mm - min mm (B'.1 c j), _, rfl, by omega, by omega, y3, zYb_of b2 (z_Jo _ _ _ (by omega)), k1, h5, gOff_tr oo (gOff_J (by simp))⟩
          exact z_t (eA.trans hk1) rfl
        · subst hk2
          have hr : gJ (gJ_up (gJ_up T 15 (61 * c + j) (lN (B'.1 c j - min mm (B'.1 c j)))) 8 (61 * c + j) (lN (B'.2.1 c j - min mm (B'.1 c j)))) 8 (61 * oc + j) = lN (gset B'.2.1 c j (B'.2.1 c j - min mm (B'.1 c j)) oc j) := y2.1 oc j hoc (by omega)
          have y3 := zY_set (c := oc) (k := j) (x := gset B'.2.1 c j (B'.2.1 c j - min mm (B'.1 c j)) oc j + min mm (B'.1 c j)) (v := gJ (gJ_up (gJ_up T 15 (61 * c + j) (lN (B'.1 c j - min mm (B'.1 c j)))) 8 (61 * c + j) (lN (B'.2.1 c j - min mm (B'.1 c j)))) 8 (61 * oc + j) + lN (min mm (B'.1 c j))) y2 (by omega) (by rw [hr, lN_add])
          refine ⟨(gJ_up (gJ_up (gJ_up T 15 (61 * c + j) (lN (B'.1 c j - min mm (B'.1 c j)))) 8 (61 * c + j) (lN (B'.2.1 c j - min mm (B'.1 c j)))) 8 (61 * oc + j) (gJ (gJ_up (gJ_up T 15 (61 * c + j) (lN (B'.1 c j - min mm (B'.1 c j)))) 8 (61 * c + j) (lN (B'.2.1 c j - min mm (B'.1 c j)))) 8 (61 * oc + j) + lN (min mm (B'.1 c j))), lN (mm - min mm (B'.1 c j))), hL _ ?_, mm - min mm (B'.1 c j), _, rfl, by omega, by omega, y3, zYb_of b2 (z_Jo _ _ _ (by omega)), k1, h5, gOff_tr oo (gOff_J (by simp))⟩
          exact z_f (fun e => hk1 (eA.symm.trans e)) rfl)
    61 gx_fuel (S, lN m) (by have := z_fuelB; omega) ⟨m, B, rfl, hm, by omega, hY, hYb, ⟨zJn_mo hK.1 (Nat.le_refl _) hy, hK.2⟩, rfl, gOff_rf⟩
  obtain ⟨S', k1, k2, k3, k4⟩ := key
  have e := zHand_hi c o y m (B := B) (fun k hk => zKn_b hK hk) (60 - y)
  rw [show y + 1 + (60 - y) = 61 by omega] at e
  refine ⟨S', ?_, ?_, ?_, k4⟩
  · rw [← zD_s 60]; exact k1
  · rw [← e]; exact k2
  · rw [← e]; exact k3
theorem z_move0 {S : gS} {v1 v2 v5 : Int32} {x : Int64} (K74 : gS → Int32 → Option (Unit × gS)) (hx : x ≤ 0) : fX6_move_117 K74 gx_fuel S v1 v2 x v5 (nI 60) = K74 S (v1 + 1) := by
  have e : gx_fuel = 99999 + 1 := rfl
  rw [e]
  show fX6_move_117L K74 (fX6_move_117 K74 99999) S v1 v2 x v5 (nI 60) = _
  unfold fX6_move_117L
  exact z_f (z_nneg (by omega)) (z_t hx rfl)

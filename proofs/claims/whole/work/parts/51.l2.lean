theorem zXb_lay {op : Nat → Prop} {S : gS} {b : Nat → Nat → Nat} {c k x : Nat} {v : Int64} (h : zXb op S b) (hk : k < 61) (hx : lN x = lN (b c k) + v) (ho : op c) : zXb op (zLayS 41 S c k v) (gset b c k x) := by
  intro i hi j hj
  rw [zLayS_1 41]
  show (if i * 61 + j = 61 * c + k then gJ S 42 (61 * c + k) + v else gJ S 42 (i * 61 + j)) = lN (gset b c k x i j)
  by_cases e : i = c ∧ j = k
  · rw [if_pos (by omega), e.1, e.2, gset_s, hx, ← h c ho k hk, Nat.mul_comm]
  · rw [if_neg (by omega), gset_o _ e, h i hi j hj]
theorem z_handX {op : Nat → Prop} {S : gS} {B : zB} {N y c m oc : Nat} {o : Option Nat} (hX : zX op S B.2) (hXb : zXb op S B.1) (hK : zKn N op y B) (hN : N ≤ 2000000000) (hy : y ≤ 60) (hyr : gI S 10 3 = nI y) (hc : c < 64) (ho : op c) (hoc : oc < 64) (hk : (gA S 7 oc = 4 ∧ o = none) ∨ (gA S 7 oc ≠ 4 ∧ o = some oc ∧ op oc)) (hm : m < 9223372036854775808) :
    ∃ S', fX5_hand S (nI c) (nI oc) (lN m) = some ((), S') ∧ zX op S' (zHand c o (y + 1) m B).2 ∧ zXb op S' (zHand c o (y + 1) m B).1 ∧ gOff [11, 12, 13, 42, 43, 44] S S' := by
  have hi : ∀ i, o = some i → i < 64 ∧ op i := fun i e => by
    rcases hk with ⟨-, e2⟩ | ⟨-, e2, e3⟩
    · rw [e2] at e; exact absurd e (by simp)
    · rw [e2] at e
      injection e with e
      exact e ▸ ⟨hoc, e3⟩
  have key := z_lpD (E := fun r : Unit × gS => some r) (fun f j (t : gS × Int64) => fX5_hand_18 f t.1 (nI c) (nI oc) t.2 (zD j))
    (fun j t => ∃ mm B', t.2 = lN mm ∧ mm < 9223372036854775808 ∧ j ≤ y + 1 ∧ zX op t.1 B'.2 ∧ zXb op t.1 B'.1 ∧ zKn N op y B' ∧ zHand c o j mm B' = zHand c o (y + 1) m B ∧ gOff [11, 12, 13, 42, 43, 44] S t.1)
    (fun r => zX op r.2 (zHand c o (y + 1) m B).2 ∧ zXb op r.2 (zHand c o (y + 1) m B).1 ∧ gOff [11, 12, 13, 42, 43, 44] S r.2) (by
      rintro f ⟨T, v⟩ ⟨mm, B', rfl, h1, h2, h3, h3b, h4, h5, h6⟩
      refine ⟨((), T), ?_, h5 ▸ h3, h5 ▸ h3b, h6⟩
      show fX5_hand_18L (fX5_hand_18 f) T (nI c) (nI oc) (lN mm) (zD 0) = _
      unfold fX5_hand_18L
      exact z_t zD_0 rfl) (by
      rintro f j ⟨T, v⟩ ⟨mm, B', rfl, h1, h2, h3, h3b, h4, h5, h6⟩
      dsimp only at h3 h3b h6 ⊢
      rcases Nat.eq_zero_or_pos mm with hz | hz
      · subst hz
        rw [zHand_0] at h5
        refine Or.inl ⟨((), T), ?_, h5 ▸ h3, h5 ▸ h3b, h6⟩
        show fX5_hand_18L (fX5_hand_18 f) T (nI c) (nI oc) (lN 0) (zD (j + 1)) = _
        unfold fX5_hand_18L
        exact z_f (zD_lt (by omega)) (z_t (by decide) rfl)
      · have hg := zJn_g h4.1 hc (show j < 61 by omega)
        have hb := h4.2 c j
        have ht : min mm (B'.1 c j) ≤ B'.1 c j := Nat.min_le_right _ _
        have hrow : gJ T 42 (61 * c + j) = lN (B'.1 c j) := by
          rw [Nat.mul_comm 61 c]
          exact h3b c ho j (by omega)
        right
        have hL : ∀ R, (if lN (min mm (B'.1 c j)) = 0 then (fX5_hand_139 (fX5_hand_18 f) T (nI c) (nI oc) (lN mm) (nI j)) else
            gx_bind (fX0_lift 41 T (nI c) (nI j) (lN (min mm (B'.1 c j)))) fun _ S71 => gx_bind (fX0_lift 10 S71 (nI c) (nI j) (lN (min mm (B'.1 c j)))) fun _ S83 => gx_chk (nI oc) 64 <| if (gA S83 7 (nI oc).toNatClampNeg) = 4 then (gx_chk (122 + nI j) 305 <| gx_chk (122 + nI j) 305 <| gx_let (gJ_up S83 13 (122 + nI j).toNatClampNeg ((gJ S83 13 (122 + nI j).toNatClampNeg) + lN (min mm (B'.1 c j)))) fun S116 => fX5_hand_132 (fX5_hand_18 f) S116 (nI c) (nI oc) (lN mm) (nI j) (lN (min mm (B'.1 c j)))) else gx_bind (fX0_lay 10 S83 (nI oc) (nI j) (lN (min mm (B'.1 c j)))) fun _ S129 => fX5_hand_132 (fX5_hand_18 f) S129 (nI c) (nI oc) (lN mm) (nI j) (lN (min mm (B'.1 c j)))) = R → fX5_hand_18 (f + 1) T (nI c) (nI oc) (lN mm) (zD (j + 1)) = R := by
          intro R hR
          show fX5_hand_18L (fX5_hand_18 f) T (nI c) (nI oc) (lN mm) (zD (j + 1)) = _
          unfold fX5_hand_18L
          refine z_f (zD_lt (by omega)) ?_
          rw [zD_s, z_m61]
          refine z_f (by rw [show (0 : Int64) = lN 0 from rfl, z_leL (by omega) (by omega)]; omega) (z_c rfl (by omega) (by omega) ?_)
          rw [z_let, z_cl (by omega), hrow, z_gmin (by omega) (by omega)]
          exact hR
        by_cases h0 : min mm (B'.1 c j) = 0
        · refine ⟨(T, lN mm), hL _ (z_t (by rw [h0]; rfl) ?_), mm, B', rfl, h1, by omega, h3, h3b, h4, ?_, h6⟩
          · show fX5_hand_18 f T (nI c) (nI oc) (lN mm) (nI j + -1) = _
            rw [zD_n]
          · rw [← h5, zHand_n c o h0]
        · have hne : ¬ lN (min mm (B'.1 c j)) = 0 := by
            rw [show (0 : Int64) = lN 0 from rfl, z_eqL (by omega) (by omega)]
            exact h0
          have o1 : gOff [42, 43, 44] T (zLayS 41 T c j (-lN (min mm (B'.1 c j)))) := zLayS_off 41 T c j _ (fun i hi => by simp; omega)
          have o2 : gOff [11, 12, 13] (zLayS 41 T c j (-lN (min mm (B'.1 c j)))) (zLayS 10 (zLayS 41 T c j (-lN (min mm (B'.1 c j)))) c j (-lN (min mm (B'.1 c j)))) := zLayS_off 10 _ c j _ (fun i hi => by simp; omega)
          have x1 : zX op (zLayS 41 T c j (-lN (min mm (B'.1 c j)))) B'.2 := zX_of h3 (o1 11 (by simp)).2.2 (o1 12 (by simp)).2.2 (o1 13 (by simp)).2.2
          have x2 := zX_lay (k := j) (x := B'.2.1 c j - min mm (B'.1 c j)) x1 hc (by omega) (z_lsub (by omega)) ho
          have b1 := zXb_lay (k := j) (x := B'.1 c j - min mm (B'.1 c j)) h3b (by omega) (z_lsub ht) ho
          have b2 := zXb_of b1 (o2 42 (by simp)).2.2
          have k1 := zHand1_K hc ho hy (show j ≤ y by omega) hi ht h4
          have oo := gOff_tr h6 (gOff_tr (gOff_mo (l2 := [11, 12, 13, 42, 43, 44]) o1 (fun i hi => by simp at hi ⊢; omega)) (gOff_mo o2 (fun i hi => by simp at hi ⊢; omega)))
          have eA : gA (zLayS 10 (zLayS 41 T c j (-lN (min mm (B'.1 c j)))) c j (-lN (min mm (B'.1 c j)))) 7 oc = gA S 7 oc := by rw [(oo 7 (by simp)).2.1]
          rcases hk with ⟨hk1, hk2⟩ | ⟨hk1, hk2, hk3⟩
          · subst hk2
            have x3 := zX_sum (i := 122 + j) (v := lN (min mm (B'.1 c j))) x2 (by omega) (by omega)
            refine ⟨(gJ_up (zLayS 10 (zLayS 41 T c j (-lN (min mm (B'.1 c j)))) c j (-lN (min mm (B'.1 c j)))) 13 (122 + j) (gJ (zLayS 10 (zLayS 41 T c j (-lN (min mm (B'.1 c j)))) c j (-lN (min mm (B'.1 c j)))) 13 (122 + j) + lN (min mm (B'.1 c j))), lN (mm - min mm (B'.1 c j))), hL _ (z_f hne (z_b (z_lift 41 T _ hc (by omega)) (z_b (z_lift 10 _ _ hc (by omega)) (z_c rfl hoc (by omega) (z_t (by rw [z_cl (by omega), eA]; exact hk1) ?_))))), mm - min mm (B'.1 c j), _, rfl, by omega, by omega, x3, ?_, k1, h5, gOff_tr oo (gOff_J (by simp))⟩
            · rw [z_p 122]
              refine z_c rfl (by omega) (by omega) (z_c rfl (by omega) (by omega) ?_)
              rw [z_let, z_cl (by omega)]
              show fX5_hand_18 f _ (nI c) (nI oc) (lN mm - lN (min mm (B'.1 c j))) (nI j + -1) = _
              rw [lN_sub (Nat.min_le_left _ _), zD_n]
            · exact zXb_of b2 (z_Jo _ _ _ (by omega))
          · subst hk2
            have x3 := zX_lay (c := oc) (k := j) (x := gset B'.2.1 c j (B'.2.1 c j - min mm (B'.1 c j)) oc j + min mm (B'.1 c j)) (v := lN (min mm (B'.1 c j))) x2 hoc (by omega) (lN_add _ _).symm hk3
            have o3 : gOff [11, 12, 13] (zLayS 10 (zLayS 41 T c j (-lN (min mm (B'.1 c j)))) c j (-lN (min mm (B'.1 c j)))) (zLayS 10 (zLayS 10 (zLayS 41 T c j (-lN (min mm (B'.1 c j)))) c j (-lN (min mm (B'.1 c j)))) oc j (lN (min mm (B'.1 c j)))) := zLayS_off 10 _ oc j _ (fun i hi => by simp; omega)
            refine ⟨(zLayS 10 (zLayS 10 (zLayS 41 T c j (-lN (min mm (B'.1 c j)))) c j (-lN (min mm (B'.1 c j)))) oc j (lN (min mm (B'.1 c j))), lN (mm - min mm (B'.1 c j))), hL _ (z_f hne (z_b (z_lift 41 T _ hc (by omega)) (z_b (z_lift 10 _ _ hc (by omega)) (z_c rfl hoc (by omega) (z_f (by rw [z_cl (by omega), eA]; exact hk1) (z_b (z_lay 10 _ _ hoc (by omega)) ?_)))))), mm - min mm (B'.1 c j), _, rfl, by omega, by omega, x3, ?_, k1, h5, gOff_tr oo (gOff_mo o3 (fun i hi => by simp at hi ⊢; omega))⟩
            · show fX5_hand_18 f _ (nI c) (nI oc) (lN mm - lN (min mm (B'.1 c j))) (nI j + -1) = _
              rw [lN_sub (Nat.min_le_left _ _), zD_n]
            · exact zXb_of b2 (o3 42 (by simp)).2.2)
    (y + 1) gx_fuel (S, lN m) (by have := z_fuelB; omega) ⟨m, B, rfl, hm, by omega, hX, hXb, hK, rfl, gOff_rf⟩
  obtain ⟨⟨u, S'⟩, k1, k2, k3, k4⟩ := key
  refine ⟨S', ?_, k2, k3, k4⟩
  unfold fX5_hand
  refine z_f (z_nm1 (by omega)) ?_
  rw [z_let, hyr, ← zD_s y]
  exact k1
/-- nothing to hand over -/
theorem z_hand0 {S : gS} {c y : Nat} {v w : Int32} {x : Int64} (hy : y ≤ 60) (hyr : gI S 10 3 = nI y) (hx : x ≤ 0) : fX5_hand S w v x = some ((), S) := by
  unfold fX5_hand
  by_cases h : v = -1
  · exact z_t h rfl
  · refine z_f h ?_
    rw [z_let, hyr]
    have e : gx_fuel = 99999 + 1 := rfl
    rw [e]
    show fX5_hand_18L (fX5_hand_18 99999) S w v x (nI y) = _
    unfold fX5_hand_18L
    exact z_f (z_nneg (by omega)) (z_t hx rfl)

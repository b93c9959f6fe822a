theorem z_copy166 (S : gS) {s j c : Nat} (hs : s < 8) (h : j + c ≤ 8) : fX6_copy_166 gx_fuel S (nI s) (nI j) (nI c) 0 = some (nI c, gJ_row S 3 (fun x => if 8 * s + j ≤ x ∧ x < 8 * s + j + c then gJ S 4 (x - (8 * s + j)) else gJ S 3 x)) := by
  have key := z_loop c (fun f k t => fX6_copy_166 f t (nI s) (nI j) (nI c) (nI k)) (fun k t => t = gJ_row S 3 (fun x => if 8 * s + j ≤ x ∧ x < 8 * s + j + k then gJ S 4 (x - (8 * s + j)) else gJ S 3 x)) (fun r => r = (nI c, gJ_row S 3 (fun x => if 8 * s + j ≤ x ∧ x < 8 * s + j + c then gJ S 4 (x - (8 * s + j)) else gJ S 3 x))) (by
    intro f k t hk hp
    rcases Nat.lt_or_ge k c with h1 | h1
    · refine Or.inr ⟨h1, gJ_up t 3 (8 * s + j + k) (gJ S 4 k), ?_, ?_⟩
      · show fX6_copy_166L (fX6_copy_166 f) t (nI s) (nI j) (nI c) (nI k) = _
        unfold fX6_copy_166L
        have e : (8 : Int32) * nI s + nI j + nI k = nI (8 * s + j + k) := by rw [z_lit 8, z_mul, z_add, z_add]
        rw [if_neg (z_nle h1 (by omega)), e, z_chk (by omega) (by omega), z_chk (by omega) (by omega), z_let, z_let, z_cl (by omega), z_cl (by omega), z_inc]
        rw [show gJ t 4 = gJ S 4 by rw [hp, z_JrJ, if_neg (by omega)]]
      · rw [hp, z_uprow]
        exact z_rowcg _ _ (fun x => by
          by_cases h2 : x = 8 * s + j + k
          · rw [if_pos h2, if_pos (by omega), h2]
            congr 1
            omega
          · rw [if_neg h2]
            by_cases h3 : 8 * s + j ≤ x ∧ x < 8 * s + j + k
            · rw [if_pos h3, if_pos (by omega)]
            · rw [if_neg h3, if_neg (by omega)])
    · refine Or.inl ⟨(nI c, t), ?_, by rw [hp, show k = c by omega]⟩
      show fX6_copy_166L (fX6_copy_166 f) t (nI s) (nI j) (nI c) (nI k) = _
      unfold fX6_copy_166L
      rw [if_pos (z_len (by omega) (by omega))]) c gx_fuel 0 S (by omega) (by have := z_fuelB; omega) (by omega) (by
        rw [z_rowcg S 3 (r2 := gJ S 3) (fun k => by rw [if_neg (by omega)]), z_rowself])
  obtain ⟨r, h1, h2⟩ := key
  rw [h2] at h1
  exact h1
theorem z_copy129 (S : gS) {s i c : Nat} (hs : s < 8) (h : i + c ≤ 8) (v3 v4 : Int32) : ∀ r, fX6_copy_166 gx_fuel (gJ_row S 4 (fun k => if k < c then gJ S 3 (8 * s + i + k) else gJ S 4 k)) v3 v4 (nI c) 0 = some r → fX6_copy_129 gx_fuel S (nI s) (nI i) v3 v4 (nI c) 0 = some r := by
  intro r hr
  have key := z_loop c (fun f k t => fX6_copy_129 f t (nI s) (nI i) v3 v4 (nI c) (nI k)) (fun k t => t = gJ_row S 4 (fun x => if x < k then gJ S 3 (8 * s + i + x) else gJ S 4 x)) (fun q => q = r) (by
    intro f k t hk hp
    rcases Nat.lt_or_ge k c with h1 | h1
    · refine Or.inr ⟨h1, gJ_up t 4 k (gJ S 3 (8 * s + i + k)), ?_, ?_⟩
      · show fX6_copy_129L (fX6_copy_129 f) t (nI s) (nI i) v3 v4 (nI c) (nI k) = _
        unfold fX6_copy_129L
        have e : (8 : Int32) * nI s + nI i + nI k = nI (8 * s + i + k) := by rw [z_lit 8, z_mul, z_add, z_add]
        rw [if_neg (z_nle h1 (by omega)), e, z_chk (by omega) (by omega), z_chk (by omega) (by omega), z_let, z_let, z_cl (by omega), z_cl (by omega), z_inc]
        rw [show gJ t 3 = gJ S 3 by rw [hp, z_JrJ, if_neg (by omega)]]
      · rw [hp, z_uprow]
        exact z_rowcg _ _ (fun x => by
          by_cases h2 : x = k
          · rw [if_pos h2, if_pos (by omega), h2]
          · rw [if_neg h2]
            by_cases h3 : x < k
            · rw [if_pos h3, if_pos (by omega)]
            · rw [if_neg h3, if_neg (by omega)])
    · refine Or.inl ⟨r, ?_, rfl⟩
      show fX6_copy_129L (fX6_copy_129 f) t (nI s) (nI i) v3 v4 (nI c) (nI k) = _
      unfold fX6_copy_129L
      rw [if_pos (z_len (by omega) (by omega)), hp, show k = c by omega]
      exact hr) c gx_fuel 0 S (by omega) (by have := z_fuelB; omega) (by omega) (by
        rw [z_rowcg S 4 (r2 := gJ S 4) (fun k => by rw [if_neg (by omega)]), z_rowself])
  obtain ⟨q, h1, h2⟩ := key
  rw [h2] at h1
  exact h1
theorem z_subT {m c : Nat} (hm : m ≤ 8) (hc : c < 2147483648) : (nI m - nI c).toInt = (m : Int) - c := by
  rw [Int32.toInt_sub, nI_toInt (by omega), nI_toInt (by omega)]
  exact Int.bmod_eq_of_le (by omega) (by omega)
theorem z_hasAll_t (o : Nat) (S : gS) {m i c : Nat} (hm : gI S o 3 = nI m) (hm8 : m ≤ 8) (hi : i + c ≤ m) : fX3_hasAll o S (nI i) (nI c) = some (1, S) := by
  unfold fX3_hasAll
  exact z_f (z_nneg (by omega)) (z_f (by rw [hm, z_sub (by omega)]; exact z_nlt (by omega) (by omega)) rfl)
theorem z_hasAll_f (o : Nat) (S : gS) {m c : Nat} {v : Int32} (hm : gI S o 3 = nI m) (hm8 : m ≤ 8) (hc : c < 2147483648) (hi : ¬ ∃ i, v = nI i ∧ i + c ≤ m) : fX3_hasAll o S v (nI c) = some (0, S) := by
  unfold fX3_hasAll fX3_hasAll_18
  by_cases h1 : v < 0
  · exact z_t h1 rfl
  · obtain ⟨i, h2, rfl⟩ := nI_of h1
    have h3 : ¬ i + c ≤ m := fun q => hi ⟨i, rfl, q⟩
    refine z_f h1 (z_t ?_ rfl)
    rw [hm, Int32.lt_iff_toInt_lt, z_subT hm8 hc, nI_toInt (by omega)]
    omega
theorem z_copyR {n s t i j c : Nat} {Sx Sy : gS} (h : gR n Sx Sy) (hs : s < 8) (ht : t < 8) (hi : i + c ≤ 8) (hj : j + c ≤ 8) :
    gR (n + 1) (gJ_row Sx (48 + 2 * t) (va_cpy (gJ Sx (48 + 2 * s)) (gJ Sx (48 + 2 * t)) i j c)) (gJ_row (gJ_row Sy 4 (fun k => if k < c then gJ Sy 3 (8 * s + i + k) else gJ Sy 4 k)) 3 (fun x => if 8 * t + j ≤ x ∧ x < 8 * t + j + c then gJ (gJ_row Sy 4 (fun k => if k < c then gJ Sy 3 (8 * s + i + k) else gJ Sy 4 k)) 4 (x - (8 * t + j)) else gJ (gJ_row Sy 4 (fun k => if k < c then gJ Sy 3 (8 * s + i + k) else gJ Sy 4 k)) 3 x)) := by
  obtain ⟨a1, a2, a3⟩ := h.1.2 t ht
  have b3 := (h.1.2 s hs).2.2
  refine z_strR h ht (fun o g1 g2 => ⟨rfl, rfl, ?_⟩) rfl (fun o g1 g2 => rfl) (fun o g1 g2 => ?_) (fun i' hi' => ⟨rfl, rfl⟩) (fun i' k hi' hi8 hk => ?_) ⟨a1, a2, fun k hk => ?_⟩
  · rw [z_JrJ, if_neg g2]
  · rw [z_JrJ, if_neg g1, z_JrJ, if_neg g2]
  · rw [z_JrJ, if_pos rfl, if_neg (by omega), z_JrJ, if_neg (by omega)]
  · rw [z_JrJ, if_pos rfl, z_JrJ, if_pos rfl]
    unfold va_cpy
    by_cases e : j ≤ k ∧ k < j + c
    · rw [if_pos e, if_pos (by omega), z_JrJ, if_pos rfl, if_pos (by omega), b3 (i + (k - j)) (by omega)]
      congr 1
      omega
    · rw [if_neg e, if_neg (by omega), z_JrJ, if_neg (by omega)]
      exact a3 k hk
theorem z_copy {n : Nat} {Sx Sy : gS} (hn : n < 512) (h : gR n Sx Sy) (a1 : Int32) (a2 : Int32) (a3 : Int32) (a4 : Int32) (a5 : Int32) : ∃ (r : Int32) (Sx' Sy' : gS), fX5_copy Sx a1 a2 a3 a4 a5 = some (r, Sx') ∧ fX6_copy Sy a1 a2 a3 a4 a5 = some (r, Sy') ∧ gR (n + 1) Sx' Sy' := by
  rcases z_ix a1 (n := 8) (by omega) with ⟨s, hs, rfl⟩ | hb
  · rcases z_ix a3 (n := 8) (by omega) with ⟨t, ht, rfl⟩ | hb
    · by_cases hc : a5 < 0
      · exact ⟨_, _, _, z_b (z_strX_t _ hs) (z_f (by decide) (z_b (z_strX_t _ ht) (z_f (by decide) (z_f (z_neg_n hc) (z_b (z_failX _ _) rfl))))), z_b (z_strY_t _ hs) (z_f (by decide) (z_b (z_strY_t _ ht) (z_f (by decide) (z_f (z_neg_n hc) (z_b (z_failY _ _) rfl))))), z_fail h⟩
      · obtain ⟨c, hc2, rfl⟩ := nI_of hc
        obtain ⟨hl, ⟨m, hm, hm1, hm2⟩, hj⟩ := h.1.2 s hs
        obtain ⟨kl, ⟨q, hq, hq1, hq2⟩, kj⟩ := h.1.2 t ht
        rcases hl with ⟨h1, h2⟩ | ⟨h1, h2, a, ha, h3⟩
        · refine ⟨-10 - 1, _, _, z_b (z_strX_t _ hs) (z_f (by decide) (z_b (z_strX_t _ ht) (z_f (by decide) (z_t (z_0le hc2) (z_c rfl hs (by omega) ?_))))), z_b (z_strY_t _ hs) (z_f (by decide) (z_b (z_strY_t _ ht) (z_f (by decide) (z_t (z_0le hc2) (z_c rfl hs (by omega) (z_t (by rw [z_cl (by omega)]; exact h2) (z_b (z_failY _ _) rfl))))))), z_fail h⟩
          rw [z_let, z_cl (by omega)]
          refine z_c rfl ht (by omega) ?_
          rw [z_let, z_cl (by omega)]
          exact z_f (by rw [h1]; decide) (z_b (z_failX _ _) rfl)
        · rcases kl with ⟨k1, k2⟩ | ⟨k1, k2, b, kb, k3⟩
          · refine ⟨-10 - 1, _, _, z_b (z_strX_t _ hs) (z_f (by decide) (z_b (z_strX_t _ ht) (z_f (by decide) (z_t (z_0le hc2) (z_c rfl hs (by omega) ?_))))), z_b (z_strY_t _ hs) (z_f (by decide) (z_b (z_strY_t _ ht) (z_f (by decide) (z_t (z_0le hc2) (z_c rfl hs (by omega) (z_f (by rw [z_cl (by omega), h3]; exact z_n9 ha) (z_c rfl ht (by omega) (z_t (by rw [z_cl (by omega)]; exact k2) (z_b (z_failY _ _) rfl))))))))), z_fail h⟩
            rw [z_let, z_cl (by omega)]
            refine z_c rfl ht (by omega) ?_
            rw [z_let, z_cl (by omega)]
            exact z_t h1 (z_f (by rw [k1]; decide) (z_b (z_failX _ _) rfl))
          · by_cases hab : a = b
            · subst hab
              have front : ∀ r, (if a2 < 0 then (fX6_copy_120 Sy) else if a4 < 0 then (fX6_copy_120 Sy) else gx_chk (nI s) 8 <| if (Int32.toInt64 (gA Sy 2 (Int32.toNatClampNeg (nI s)))) < ((Int32.toInt64 a2) + (Int32.toInt64 (nI c))) then (fX6_copy_120 Sy) else gx_chk (nI t) 8 <| if ((Int32.toInt64 a4) + (Int32.toInt64 (nI c))) ≤ (Int32.toInt64 (gA Sy 2 (Int32.toNatClampNeg (nI t)))) then (fX6_copy_129 gx_fuel Sy (nI s) a2 (nI t) a4 (nI c) (0 : Int32)) else fX6_copy_120 Sy) = some r → fX6_copy Sy (nI s) a2 (nI t) a4 (nI c) = some r := fun r hr =>
                z_b (z_strY_t _ hs) (z_f (by decide) (z_b (z_strY_t _ ht) (z_f (by decide) (z_t (z_0le hc2) (z_c rfl hs (by omega) (z_f (by rw [z_cl (by omega), h3]; exact z_n9 ha) (z_c rfl ht (by omega) (z_f (by rw [z_cl (by omega), k3]; exact z_n9 ha) (z_c rfl hs (by omega) (z_c rfl ht (by omega) (z_t (by rw [z_cl (by omega), z_cl (by omega), h3, k3]) hr)))))))))))
              have frontX : ∀ r, (gx_bind (fX3_hasAll (47 + 2 * s) Sx a2 (nI c)) fun r89 S89 => if r89 = 0 then (fX5_copy_107 S89) else gx_bind (fX3_hasAll (47 + 2 * t) S89 a4 (nI c)) fun r101 S101 => if r101 = 0 then (fX5_copy_107 S101) else gx_cpyJ S101 (47 + 2 * s + 1) (47 + 2 * t + 1) 8 8 a2 a4 (nI c) fun S128 => some (nI c, S128)) = some r → fX5_copy Sx (nI s) a2 (nI t) a4 (nI c) = some r := fun r hr => by
                refine z_b (z_strX_t _ hs) (z_f (by decide) (z_b (z_strX_t _ ht) (z_f (by decide) (z_t (z_0le hc2) (z_c rfl hs (by omega) ?_)))))
                rw [z_let, z_cl (by omega)]
                refine z_c rfl ht (by omega) ?_
                rw [z_let, z_cl (by omega)]
                exact z_t h1 (z_t k1 (z_t (h2.trans (h3.trans (k3.symm.trans k2.symm))) hr))
              by_cases g1 : ∃ i, a2 = nI i ∧ i + c ≤ m
              · obtain ⟨i, rfl, hi⟩ := g1
                by_cases g2 : ∃ j, a4 = nI j ∧ j + c ≤ q
                · obtain ⟨j, rfl, hjc⟩ := g2
                  refine ⟨nI c, _, _, frontX _ ?_, front _ ?_, z_copyR h hs ht (i := i) (j := j) (c := c) (by omega) (by omega)⟩
                  · refine z_b (z_hasAll_t _ _ hm1 hm hi) (z_f (by decide) (z_b (z_hasAll_t _ _ hq1 hq hjc) (z_f (by decide) ?_)))
                    unfold gx_cpyJ
                    rw [z_ok (by
                      rw [decide_eq_true_iff, z_cl (by omega), z_cl (by omega), z_cl (by omega)]
                      exact ⟨z_nneg (by omega), z_nneg (by omega), z_nneg (by omega), by omega, by omega⟩), z_let, z_cl (by omega), z_cl (by omega), z_cl (by omega), show 47 + 2 * s + 1 = 48 + 2 * s by omega, show 47 + 2 * t + 1 = 48 + 2 * t by omega]
                  · refine z_f (z_nneg (by omega)) (z_f (z_nneg (by omega)) (z_c rfl hs (by omega) (z_f ?_ (z_c rfl ht (by omega) (z_t ?_ ?_)))))
                    · rw [z_cl (by omega), hm2, z_wide (by omega), z_wide (by omega), z_wide (by omega), lN_add, z_ltL (by omega) (by omega)]
                      omega
                    · rw [z_cl (by omega), hq2, z_wide (by omega), z_wide (by omega), z_wide (by omega), lN_add, z_leL (by omega) (by omega)]
                      omega
                    · exact z_copy129 Sy hs (by omega) _ _ _ (z_copy166 _ ht (by omega))
                · refine ⟨-10 - 2, _, _, frontX _ (z_b (z_hasAll_t _ _ hm1 hm hi) (z_f (by decide) (z_b (z_hasAll_f _ _ hq1 hq hc2 g2) (z_t rfl (z_b (z_failX _ _) rfl))))), front _ ?_, z_fail h⟩
                  refine z_f (z_nneg (by omega)) ?_
                  by_cases g3 : a4 < 0
                  · exact z_t g3 (z_b (z_failY _ _) rfl)
                  · obtain ⟨j, hj2, rfl⟩ := nI_of g3
                    refine z_f g3 (z_c rfl hs (by omega) (z_f ?_ (z_c rfl ht (by omega) (z_f ?_ (z_b (z_failY _ _) rfl)))))
                    · rw [z_cl (by omega), hm2, z_wide (by omega), z_wide (by omega), z_wide (by omega), lN_add, z_ltL (by omega) (by omega)]
                      omega
                    · have : ¬ j + c ≤ q := fun z => g2 ⟨j, rfl, z⟩
                      rw [z_cl (by omega), hq2, z_wide (by omega), z_wide (by omega), z_wide (by omega), lN_add, z_leL (by omega) (by omega)]
                      omega
              · refine ⟨-10 - 2, _, _, frontX _ (z_b (z_hasAll_f _ _ hm1 hm hc2 g1) (z_t rfl (z_b (z_failX _ _) rfl))), front _ ?_, z_fail h⟩
                by_cases g3 : a2 < 0
                · exact z_t g3 (z_b (z_failY _ _) rfl)
                · refine z_f g3 ?_
                  by_cases g4 : a4 < 0
                  · exact z_t g4 (z_b (z_failY _ _) rfl)
                  · obtain ⟨i, hi2, rfl⟩ := nI_of g3
                    have : ¬ i + c ≤ m := fun z => g1 ⟨i, rfl, z⟩
                    refine z_f g4 (z_c rfl hs (by omega) (z_t ?_ (z_b (z_failY _ _) rfl)))
                    rw [z_cl (by omega), hm2, z_wide (by omega), z_wide (by omega), z_wide (by omega), lN_add, z_ltL (by omega) (by omega)]
                    omega
            · refine ⟨-10 - 3, _, _, z_b (z_strX_t _ hs) (z_f (by decide) (z_b (z_strX_t _ ht) (z_f (by decide) (z_t (z_0le hc2) (z_c rfl hs (by omega) ?_))))), z_b (z_strY_t _ hs) (z_f (by decide) (z_b (z_strY_t _ ht) (z_f (by decide) (z_t (z_0le hc2) (z_c rfl hs (by omega) (z_f (by rw [z_cl (by omega), h3]; exact z_n9 ha) (z_c rfl ht (by omega) (z_f (by rw [z_cl (by omega), k3]; exact z_n9 kb) (z_c rfl hs (by omega) (z_c rfl ht (by omega) (z_f (by rw [z_cl (by omega), z_cl (by omega), h3, k3, z_eqN (by omega) (by omega)]; exact hab) (z_b (z_failY _ _) rfl)))))))))))), z_fail h⟩
              rw [z_let, z_cl (by omega)]
              refine z_c rfl ht (by omega) ?_
              rw [z_let, z_cl (by omega)]
              exact z_t h1 (z_t k1 (z_f (by rw [h2, k2, h3, k3, z_eqN (by omega) (by omega)]; exact hab) (z_b (z_failX _ _) rfl)))
    · exact ⟨_, _, _, z_b (z_strX_t _ hs) (z_f (by decide) (z_b (z_strX_f _ hb) (z_t rfl rfl))), z_b (z_strY_t _ hs) (z_f (by decide) (z_b (z_strY_f _ hb) (z_t rfl rfl))), z_skip hn h⟩
  · exact ⟨_, _, _, z_b (z_strX_f _ hb) (z_t rfl rfl), z_b (z_strY_f _ hb) (z_t rfl rfl), z_skip hn h⟩

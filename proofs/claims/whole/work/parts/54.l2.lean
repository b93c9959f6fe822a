/-! the neighbours, and what a cell gives -/
def zNb (w h c sd : Nat) : Option Nat :=
  if sd = 0 then (if 1 ≤ c / 8 then some (c - 8) else none) else if sd = 1 then (if c % 8 + 1 < w then some (c + 1) else none) else
  if sd = 2 then (if c / 8 + 1 < h then some (c + 8) else none) else (if 1 ≤ c % 8 then some (c - 1) else none)
theorem zNb_in {w h c sd o : Nat} (hw : w ≤ 8) (hh : h ≤ 8) (hc : c % 8 < w ∧ c / 8 < h) (e : zNb w h c sd = some o) : o < 64 ∧ o % 8 < w ∧ o / 8 < h := by
  unfold zNb at e
  split at e
  · split at e
    · injection e with e; omega
    · exact absurd e (by simp)
  · split at e
    · split at e
      · injection e with e; omega
      · exact absurd e (by simp)
    · split at e
      · split at e
        · injection e with e; omega
        · exact absurd e (by simp)
      · split at e
        · injection e with e; omega
        · exact absurd e (by simp)
def zNbI (d : Int32) : Option Nat → Int32
  | none => d
  | some o => nI o
theorem z_dn0 : nI 0 + -1 < 0 ∧ nI 0 - 1 < 0 := by decide
theorem z_dn1 {x : Nat} (h : 1 ≤ x) : nI x + -1 = nI (x - 1) ∧ nI x - 1 = nI (x - 1) := by
  obtain ⟨z, rfl⟩ : ∃ z, x = z + 1 := ⟨x - 1, by omega⟩
  exact ⟨pk_m1 z, z_sub (a := z + 1) (b := 1) (by omega)⟩
theorem z_c8 {c : Nat} (hc : c < 64) : nI c / 8 = nI (c / 8) ∧ nI c - nI c / 8 * 8 = nI (c % 8) := by
  have e1 : nI c / 8 = nI (c / 8) := z_div (b := 8) (by omega) (by omega) (by omega)
  refine ⟨e1, ?_⟩
  rw [e1, z_lit 8, z_mul, z_sub (by omega)]
  congr 1
  omega
theorem zNb0 (w h c : Nat) : zNb w h c 0 = if 1 ≤ c / 8 then some (c - 8) else none := rfl
theorem zNb1 (w h c : Nat) : zNb w h c 1 = if c % 8 + 1 < w then some (c + 1) else none := rfl
theorem zNb2 (w h c : Nat) : zNb w h c 2 = if c / 8 + 1 < h then some (c + 8) else none := rfl
theorem zNb3 (w h c : Nat) : zNb w h c 3 = if 1 ≤ c % 8 then some (c - 1) else none := rfl
theorem z_nbX {S : gS} {w h c sd : Nat} (h5 : gI S 5 5 = nI w) (h6 : gI S 5 6 = nI h) (hw : w ≤ 8) (hh : h ≤ 8) (hc : c < 64) (hp : c % 8 < w ∧ c / 8 < h) (hs : sd < 4) : fX1_neighbour 5 S (nI c) (nI sd) = some (zNbI (-1) (zNb w h c sd), S) := by
  obtain ⟨e1, e2⟩ := z_c8 hc
  unfold fX1_neighbour
  rw [z_let, z_let, e2, e1]
  obtain rfl | rfl | rfl | rfl : sd = 0 ∨ sd = 1 ∨ sd = 2 ∨ sd = 3 := by omega
  · rw [zNb0]
    refine z_t rfl ?_
    by_cases k : 1 ≤ c / 8
    · rw [if_pos k, (z_dn1 k).2]
      refine z_b (z_plX_t h5 h6 hp.1 (by omega) hw hh) ?_
      show some (nI (8 * (c / 8 - 1) + c % 8), S) = some (nI (c - 8), S)
      rw [show 8 * (c / 8 - 1) + c % 8 = c - 8 by omega]
    · rw [if_neg k, show c / 8 = 0 by omega]
      exact z_b (z_plX_f2 h6 (Or.inl z_dn0.2)) rfl
  · rw [zNb1]
    refine z_f (by decide) (z_t rfl ?_)
    rw [z_inc]
    by_cases k : c % 8 + 1 < w
    · rw [if_pos k]
      refine z_b (z_plX_t h5 h6 k hp.2 hw hh) ?_
      show some (nI (8 * (c / 8) + (c % 8 + 1)), S) = some (nI (c + 1), S)
      rw [show 8 * (c / 8) + (c % 8 + 1) = c + 1 by omega]
    · rw [if_neg k]
      exact z_b (z_plX_f1 h5 (Or.inr (z_len (by omega) (by omega)))) rfl
  · rw [zNb2]
    refine z_f (by decide) (z_f (by decide) (z_t rfl ?_))
    rw [z_inc]
    by_cases k : c / 8 + 1 < h
    · rw [if_pos k]
      refine z_b (z_plX_t h5 h6 hp.1 k hw hh) ?_
      show some (nI (8 * (c / 8 + 1) + c % 8), S) = some (nI (c + 8), S)
      rw [show 8 * (c / 8 + 1) + c % 8 = c + 8 by omega]
    · rw [if_neg k]
      exact z_b (z_plX_f2 h6 (Or.inr (z_len (by omega) (by omega)))) rfl
  · rw [zNb3]
    refine z_f (by decide) (z_f (by decide) (z_f (by decide) ?_))
    by_cases k : 1 ≤ c % 8
    · rw [if_pos k, (z_dn1 k).2]
      refine z_b (z_plX_t h5 h6 (by omega) hp.2 hw hh) ?_
      show some (nI (8 * (c / 8) + (c % 8 - 1)), S) = some (nI (c - 1), S)
      rw [show 8 * (c / 8) + (c % 8 - 1) = c - 1 by omega]
    · rw [if_neg k, show c % 8 = 0 by omega]
      exact z_b (z_plX_f1 h5 (Or.inl z_dn0.2)) rfl
theorem z_p0 (x : Nat) : nI x + 0 = nI x := Int32.add_zero _
theorem z_nbY {S : gS} {w h c sd : Nat} (h5 : gI S 0 5 = nI w) (h6 : gI S 0 6 = nI h) (hw : w ≤ 8) (hh : h ≤ 8) (hc : c < 64) (hp : c % 8 < w ∧ c / 8 < h) (hs : sd < 4) : fX6_beside S (nI c) (nI sd) = some (zNbI (-9) (zNb w h c sd), S) := by
  obtain ⟨e1, e2⟩ := z_c8 hc
  have key : ∀ x y : Nat, x < w → y < h → ∀ o, 8 * y + x = o → ∀ v u : Int32, v + u = nI y → fX6_beside_47 S (nI x) v u = some (nI o, S) := by
    intro x y hx hy o ho v u hv
    unfold fX6_beside_47
    rw [z_let, hv]
    refine z_b (z_plY_t h5 h6 hx hy hw hh) (z_f (by decide) ?_)
    rw [z_yplace S, ho]
  have kf1 : ∀ (x v u : Int32), (x < 0 ∨ nI w ≤ x) → fX6_beside_47 S x v u = some (-9, S) := by
    intro x v u hx
    unfold fX6_beside_47
    rw [z_let]
    exact z_b (z_plY_f1 h5 hw hx) (z_t rfl rfl)
  have kf2 : ∀ (x v u : Int32), (v + u < 0 ∨ nI h ≤ v + u) → fX6_beside_47 S x v u = some (-9, S) := by
    intro x v u hx
    unfold fX6_beside_47
    rw [z_let]
    exact z_b (z_plY_f2 h5 h6 hw hh hx) (z_t rfl rfl)
  unfold fX6_beside
  rw [e2]
  unfold fX6_beside_23
  rw [e1, z_let, z_let, z_let]
  obtain rfl | rfl | rfl | rfl : sd = 0 ∨ sd = 1 ∨ sd = 2 ∨ sd = 3 := by omega
  · rw [zNb0]
    refine z_f (by decide) (z_f (by decide) (z_f (by decide) (z_t rfl ?_)))
    rw [z_p0]
    by_cases k : 1 ≤ c / 8
    · rw [if_pos k]
      exact key _ (c / 8 - 1) hp.1 (by omega) (c - 8) (by omega) _ _ (z_dn1 k).1
    · rw [if_neg k]
      exact kf2 _ _ _ (Or.inl (by rw [show c / 8 = 0 by omega]; exact z_dn0.1))
  · rw [zNb1]
    refine z_t rfl (z_f (by decide) (z_f (by decide) ?_))
    rw [z_inc]
    by_cases k : c % 8 + 1 < w
    · rw [if_pos k]
      exact key _ (c / 8) k hp.2 (c + 1) (by omega) _ _ (z_p0 _)
    · rw [if_neg k]
      exact kf1 _ _ _ (Or.inr (z_len (by omega) (by omega)))
  · rw [zNb2]
    refine z_f (by decide) (z_f (by decide) (z_t rfl ?_))
    rw [z_p0]
    by_cases k : c / 8 + 1 < h
    · rw [if_pos k]
      exact key _ (c / 8 + 1) hp.1 k (c + 8) (by omega) _ _ (z_inc _)
    · rw [if_neg k]
      exact kf2 _ _ _ (Or.inr (by rw [z_inc]; exact z_len (by omega) (by omega)))
  · rw [zNb3]
    refine z_f (by decide) (z_t rfl (z_f (by decide) (z_f (by decide) ?_)))
    by_cases k : 1 ≤ c % 8
    · rw [if_pos k, (z_dn1 k).1]
      exact key _ (c / 8) (by omega) hp.2 (c - 1) (by omega) _ _ (z_p0 _)
    · rw [if_neg k]
      exact kf1 _ _ _ (Or.inl (by rw [show c % 8 = 0 by omega]; exact z_dn0.1))
theorem z_thick {S : gS} {g : Nat → Nat → Nat} {c : Nat} (hc : c < 64) (h : ∀ k, k < 61 → gJ S 8 (61 * c + k) = lN (g c k)) : fX6_thick S (nI c) = some (lN (gsum (g c) 61), S) := by
  have key := z_loop 61 (fun f j (t : Int64) => fX6_thick_5 f S (nI c) t (nI j)) (fun j t => t = lN (gsum (g c) j)) (fun r => r = (lN (gsum (g c) 61), S)) (by
    intro f j t hj hp
    rcases Nat.lt_or_ge j 61 with h1 | h1
    · refine Or.inr ⟨h1, lN (gsum (g c) (j + 1)), ?_, rfl⟩
      show fX6_thick_5L (fX6_thick_5 f) S (nI c) t (nI j) = _
      unfold fX6_thick_5L
      refine z_f (z_nle (a := 61) (b := j) (by omega) (by omega)) ?_
      rw [z_61m]
      refine z_c rfl (by omega) (by omega) ?_
      rw [z_let, z_let, z_cl (by omega), h j h1, hp, lN_add, z_inc]
      rfl
    · refine Or.inl ⟨(t, S), ?_, by rw [hp, show j = 61 by omega]⟩
      show fX6_thick_5L (fX6_thick_5 f) S (nI c) t (nI j) = _
      unfold fX6_thick_5L
      exact z_t (z_len (a := 61) (b := j) (by omega) (by omega)) rfl) 61 gx_fuel 0 0 (by omega) (by have := z_fuelB; omega) (by omega) rfl
  obtain ⟨r, h1, h2⟩ := key
  rw [h2] at h1
  exact h1
/-- the gift out of the difference d and the thickness t -/
def zG1 (fr cap : Int32) (x : Int64) (t d : Int64) : Int64 := if 0 < d then gmin (x * d * gmin cap.toInt64 t / 100) (gmin d t / 8) else 0
def zGx (S : gS) (c : Nat) : Int64 := if gA S 5 c = 1 then (gA S 6 c).toInt64 else (gI S 0 15).toInt64
theorem zGx_t {S : gS} {c : Nat} (h : gA S 5 c = 1) : zGx S c = (gA S 6 c).toInt64 := if_pos h
theorem zGx_f {S : gS} {c : Nat} (h : ¬ gA S 5 c = 1) : zGx S c = (gI S 0 15).toInt64 := if_neg h
theorem zG1_t {fr cap : Int32} {x t d : Int64} (h : 0 < d) : zG1 fr cap x t d = gmin (x * d * gmin cap.toInt64 t / 100) (gmin d t / 8) := if_pos h
theorem zG1_f {fr cap : Int32} {x t d : Int64} (h : ¬ 0 < d) : zG1 fr cap x t d = 0 := if_neg h
def zGive (w h : Nat) (Sy : gS) (g : Nat → Nat → Nat) (c sd : Nat) : Int64 :=
  match zNb w h c sd with
  | none => 0
  | some o => if lN (gsum (g c) 61) = 0 then 0 else
    zG1 (gI Sy 0 15) (gI Sy 0 16) (zGx Sy c) (lN (gsum (g c) 61))
      (if gA Sy 5 o = 4 then lN (gsum (g c) 61) else (gA Sy 7 c).toInt64 + lN (gsum (g c) 61) - ((gA Sy 7 o).toInt64 + lN (gsum (g o) 61)))
theorem zGive_n {w h : Nat} {Sy : gS} {g : Nat → Nat → Nat} {c sd : Nat} (e : zNb w h c sd = none) : zGive w h Sy g c sd = 0 := by
  unfold zGive
  rw [e]
theorem zGive_0 {w h : Nat} {Sy : gS} {g : Nat → Nat → Nat} {c sd o : Nat} (e : zNb w h c sd = some o) (h0 : lN (gsum (g c) 61) = 0) : zGive w h Sy g c sd = 0 := by
  unfold zGive
  rw [e]
  exact if_pos h0
theorem zGive_s {w h : Nat} {Sy : gS} {g : Nat → Nat → Nat} {c sd o : Nat} (e : zNb w h c sd = some o) (h0 : ¬ lN (gsum (g c) 61) = 0) : zGive w h Sy g c sd = zG1 (gI Sy 0 15) (gI Sy 0 16) (zGx Sy c) (lN (gsum (g c) 61))
      (if gA Sy 5 o = 4 then lN (gsum (g c) 61) else (gA Sy 7 c).toInt64 + lN (gsum (g c) 61) - ((gA Sy 7 o).toInt64 + lN (gsum (g o) 61))) := by
  unfold zGive
  rw [e]
  exact if_neg h0
theorem z_giftX {w h c sd : Nat} {S Sy : gS} {G : zG} (H : zRd w h S Sy) (hX : zX (zOp w h (gA Sy 5)) S G) (ho : zOp w h (gA Sy 5) c) (hs : sd < 4) : fX5_gift S (nI c) (nI sd) = some (zGive w h Sy G.1 c sd, S) := by
  have hw : w ≤ 8 := by have := H.1.2.2.2.2.1; omega
  have hh : h ≤ 8 := by have := H.1.2.2.2.2.1; omega
  obtain ⟨hc, hp1, hp2, hk⟩ := ho
  have ho : zOp w h (gA Sy 5) c := ⟨hc, hp1, hp2, hk⟩
  have t1 := (hX.1 c ho).2
  unfold fX5_gift
  refine z_b (z_nbX H.1.1 H.1.2.1 hw hh hc ⟨hp1, hp2⟩ hs) (z_c rfl hc (by omega) ?_)
  rw [z_let, z_cl (by omega), t1]
  cases e : zNb w h c sd with
  | none => rw [zGive_n e]; exact z_t rfl rfl
  | some o =>
    obtain ⟨o1, o2, o3⟩ := zNb_in hw hh ⟨hp1, hp2⟩ e
    refine z_f (z_nm1 (by omega)) ?_
    by_cases h0 : lN (gsum (G.1 c) 61) = 0
    · refine z_t h0 ?_
      rw [zGive_0 e h0]
    · refine z_f h0 (z_c rfl o1 (by omega) ?_)
      rw [zGive_s e h0]
      have k76 : ∀ d, fX5_gift_76 S (nI c) (lN (gsum (G.1 c) 61)) d = some (zG1 (gI Sy 0 15) (gI Sy 0 16) (zGx Sy c) (lN (gsum (G.1 c) 61)) d, S) := by
        intro d
        unfold fX5_gift_76
        by_cases hd : 0 < d
        · rw [zG1_t hd]
          refine z_t hd (z_c rfl hc (by omega) ?_)
          rw [z_cl (by omega), zRd_kd H hc]
          by_cases h1 : gA Sy 5 c = 1
          · rw [zGx_t h1]
            refine z_t h1 (z_c rfl hc (by omega) ?_)
            rw [(zRd_hun H hc).2.1, (zRd_hun H hc).1]
            unfold fX5_gift_121
            rw [z_let, H.2.2.1]
          · rw [zGx_f h1]
            refine z_f h1 ?_
            unfold fX5_gift_121
            rw [z_let, H.2.2.1, H.2.1]
        · rw [zG1_f hd]
          exact z_f hd rfl
      by_cases h4 : gA Sy 5 o = 4
      · rw [if_pos h4]
        refine z_t (by show gA S 7 (nI o).toNatClampNeg = 4; rw [z_cl (by omega), zRd_kd H o1]; exact h4) ?_
        show fX5_gift_76 S (nI c) (lN (gsum (G.1 c) 61)) (lN (gsum (G.1 c) 61)) = _
        rw [k76]
      · rw [if_neg h4]
        refine z_f (by show ¬ gA S 7 (nI o).toNatClampNeg = 4; rw [z_cl (by omega), zRd_kd H o1]; exact h4) ?_
        have t2 := (hX.1 o ⟨o1, o2, o3, h4⟩).2
        have s1 : fX5_surface S (nI c) = some ((gA Sy 7 c).toInt64 + lN (gsum (G.1 c) 61), S) := by
          refine z_c rfl hc (by omega) (z_c rfl hc (by omega) ?_)
          rw [z_cl (by omega), t1, (zRd_lev H hc).2.1, (zRd_lev H hc).1]
        have s2 : fX5_surface S (nI o) = some ((gA Sy 7 o).toInt64 + lN (gsum (G.1 o) 61), S) := by
          refine z_c rfl o1 (by omega) (z_c rfl o1 (by omega) ?_)
          rw [z_cl (by omega), t2, (zRd_lev H o1).2.1, (zRd_lev H o1).1]
        exact z_t rfl (z_b s1 (z_b s2 (k76 _)))
theorem z_le_of_nlt {a b : Int64} (h : ¬ a < b) : b ≤ a := by
  rw [Int64.lt_iff_toInt_lt] at h
  rw [Int64.le_iff_toInt_le]
  omega
theorem z_lesserE (S : gS) (a b : Int64) : fX6_lesser S a b = some (gmin a b, S) := by
  unfold fX6_lesser gmin
  by_cases h : b < a
  · rw [if_pos h]
    exact z_t (by rw [Int64.lt_iff_toInt_lt] at h; rw [Int64.le_iff_toInt_le]; omega) rfl
  · rw [if_neg h]
    by_cases h2 : b ≤ a
    · refine z_t h2 ?_
      have : a = b := Int64.toInt_inj.mp (by rw [Int64.lt_iff_toInt_lt] at h; rw [Int64.le_iff_toInt_le] at h2; omega)
      rw [this]
    · exact z_f h2 rfl
theorem z_min8 {d t : Nat} (hd : d < 9223372036854775808) (ht : t < 9223372036854775808) : gmin (lN d) (lN t) / 8 = gmin (lN d / 8) (lN t / 8) := by
  have e8 : (8 : Int64) = lN 8 := rfl
  rw [z_gmin hd ht, e8, pk_lDiv (by omega) (by omega) (by omega), pk_lDiv (by omega) (by omega) (by omega), pk_lDiv (by omega) (by omega) (by omega), z_gmin (by omega) (by omega)]
  congr 1
  omega
theorem z_subs (a t b u : Int64) : a + t - b - u = a + t - (b + u) := by
  rw [Int64.sub_eq_add_neg, Int64.sub_eq_add_neg, Int64.sub_eq_add_neg, Int64.neg_add, Int64.sub_eq_add_neg, Int64.add_assoc (a + t)]
theorem z_giftY {w h N y c sd : Nat} {Sx S : gS} {G : zG} (H : zRd w h Sx S) (hY : zY S G) (hJ : zJn N (zOp w h (gA S 5)) y G) (hN : N ≤ 2000000000) (ho : zOp w h (gA S 5) c) (hs : sd < 4) : fX6_given S (nI c) (nI sd) = some (zGive w h S G.1 c sd, S) := by
  have hw : w ≤ 8 := by have := H.1.2.2.2.2.1; omega
  have hh : h ≤ 8 := by have := H.1.2.2.2.2.1; omega
  obtain ⟨hc, hp1, hp2, hk⟩ := ho
  have hb := zJn_r hJ hc
  unfold fX6_given
  refine z_b (z_nbY H.1.2.2.1 H.1.2.2.2.1 hw hh hc ⟨hp1, hp2⟩ hs) (z_b (z_thick hc (fun k hk => hY.1 c k hc hk)) ?_)
  cases e : zNb w h c sd with
  | none => rw [zGive_n e]; exact z_t rfl rfl
  | some o =>
    obtain ⟨o1, o2, o3⟩ := zNb_in hw hh ⟨hp1, hp2⟩ e
    refine z_f (z_nm9 (by omega)) ?_
    by_cases h0 : lN (gsum (G.1 c) 61) = 0
    · refine z_t h0 ?_
      rw [zGive_0 e h0]
    · refine z_f h0 (z_c rfl o1 (by omega) ?_)
      rw [zGive_s e h0]
      rw [z_cl (by omega)]
      have k68 : ∀ d, fX6_given_68 S (nI c) (lN (gsum (G.1 c) 61)) d = some (zG1 (gI S 0 15) (gI S 0 16) (zGx S c) (lN (gsum (G.1 c) 61)) d, S) := by
        intro d
        unfold fX6_given_68
        by_cases hd : 0 < d
        · rw [zG1_t hd]
          have hd0 : ¬ d < 0 := by
            rw [Int64.lt_iff_toInt_lt] at hd ⊢
            omega
          obtain ⟨k, hk, rfl⟩ := pk_lOf hd0
          refine z_t hd (z_c rfl hc (by omega) ?_)
          rw [z_cl (by omega)]
          have k104 : ∀ x, fX6_given_104 S (lN (gsum (G.1 c) 61)) (lN k) x = some (gmin (x * lN k * gmin (gI S 0 16).toInt64 (lN (gsum (G.1 c) 61)) / 100) (gmin (lN k) (lN (gsum (G.1 c) 61)) / 8), S) := by
            intro x
            unfold fX6_given_104
            refine z_b (z_lesserE _ _ _) ?_
            rw [z_let]
            refine z_b (z_lesserE _ _ _) (z_b (z_lesserE _ _ _) ?_)
            rw [z_min8 (by omega) (by omega)]
          by_cases h1 : gA S 5 c = 1
          · rw [zGx_t h1]
            refine z_t h1 (z_c rfl hc (by omega) ?_)
            exact k104 _
          · rw [zGx_f h1]
            exact z_f h1 (k104 _)
        · rw [zG1_f hd]
          exact z_f hd rfl
      by_cases h4 : gA S 5 o = 4
      · rw [if_pos h4]
        exact z_t (by show gA S 5 (nI o).toNatClampNeg = 4; rw [z_cl (by omega)]; exact h4) (k68 _)
      · rw [if_neg h4]
        refine z_f (by show ¬ gA S 5 (nI o).toNatClampNeg = 4; rw [z_cl (by omega)]; exact h4) (z_c rfl hc (by omega) (z_c rfl o1 (by omega) (z_b (z_thick o1 (fun k hk => hY.1 o k o1 hk)) ?_)))
        show fX6_given_68 S (nI c) (lN (gsum (G.1 c) 61)) ((gA S 7 c).toInt64 + lN (gsum (G.1 c) 61) - (gA S 7 (nI o).toNatClampNeg).toInt64 - lN (gsum (G.1 o) 61)) = _
        rw [z_cl (by omega), z_subs]
        exact k68 _
theorem zGive_cg {w h : Nat} {S S' : gS} {g : Nat → Nat → Nat} {c sd : Nat} (h5 : gA S' 5 = gA S 5) (h6 : gA S' 6 = gA S 6) (h7 : gA S' 7 = gA S 7) (h0 : gI S' 0 = gI S 0) : zGive w h S' g c sd = zGive w h S g c sd := by
  unfold zGive zGx
  rw [h5, h6, h7, h0]

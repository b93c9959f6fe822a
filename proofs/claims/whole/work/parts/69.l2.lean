/-! about, in the reference -/
theorem z_ab157 {S : gS} {c L r : Nat} {o : Option Nat} {v1 v2 v5 : Int32} {v3 t0 : Int64} (K : gS → Int32 → Int32 → Int64 → Int32 → Int64 → Int32 → Int32 → Option (Int64 × gS)) (h1 : fX6_layers S (nI c) = some (nI L, S)) (h2 : fX6_layerOf S (nI c) (nI L - 1) = some (nI r, S)) (hr : r < 2147483648) (ho : ∀ v, o = some v → v < 2147483648) :
    fX6_about_157 K S v1 v2 v3 v5 (zOr o) (nI c) t0 = K S v1 v2 v3 v5 t0 (zOr (zMinO o r)) (nI (c + 1)) := by
  unfold fX6_about_157
  refine z_b h1 (z_b h2 ?_)
  refine zOr_step hr ho (fun q => ?_) (fun q => ?_)
  · show K S v1 v2 v3 v5 t0 (nI r) (nI c + 1) = _
    rw [z_inc, q]
  · show K S v1 v2 v3 v5 t0 (zOr o) (nI c + 1) = _
    rw [z_inc, q]
theorem z_ab114 {S : gS} {c T : Nat} {o : Option Nat} {v1 v2 v5 v8 : Int32} {t0 : Int64} (K : gS → Int32 → Int32 → Int64 → Int32 → Int64 → Int32 → Int32 → Option (Int64 × gS)) (hc : c < 64) (hl : gA S 7 c = nI (zlev S c)) (hl2 : zlev S c ≤ 9999) (hT : T ≤ 2000000000) (ho : ∀ v, o = some v → v < 9223372036854775808) :
    fX6_about_114 K S v1 v2 v5 (zO64 o) v8 (nI c) (lN T) t0 = fX6_about_157 K S v1 v2 t0 v5 v8 (nI c) (zO64 (zMinO o (zlev S c + T))) := by
  have hs : (gA S 7 c).toInt64 + lN T = lN (zlev S c + T) := by rw [hl, z_surfN hl2]
  have e141 : fX6_about_141 K S v1 v2 t0 v5 v8 (nI c) (lN T) = fX6_about_157 K S v1 v2 t0 v5 v8 (nI c) (lN (zlev S c + T)) := by
    unfold fX6_about_141
    refine z_c rfl hc (by omega) ?_
    rw [z_cl (by omega), hs]
  unfold fX6_about_114
  refine Eq.trans (z_if (a2 := fX6_about_157 K S v1 v2 t0 v5 v8 (nI c) (lN (zlev S c + T))) (b2 := if zO64 o ≤ lN (zlev S c + T) then fX6_about_157 K S v1 v2 t0 v5 v8 (nI c) (zO64 o) else fX6_about_157 K S v1 v2 t0 v5 v8 (nI c) (lN (zlev S c + T))) e141 (z_c rfl hc (by omega) ?_)) ?_
  · rw [z_cl (by omega), hs]
    exact z_if rfl e141
  · exact zO64_step (by omega) ho (Or.inr trivial) (fun q => by rw [q]) (fun q => by rw [q])
theorem z_ab73 {S : gS} {c T M : Nat} {v1 v2 v5 v8 : Int32} {v6 : Int64} (K : gS → Int32 → Int32 → Int64 → Int32 → Int64 → Int32 → Int32 → Option (Int64 × gS)) (hT : T ≤ 2000000000) (hM : M ≤ 2000000000) (h0 : 0 < T) :
    fX6_about_73 K S v1 v2 (lN M) v5 v6 v8 (nI c) (lN T) = fX6_about_114 K S v1 (v2 + 1) (if M < T then nI c else v5) v6 v8 (nI c) (lN T) (lN (if M < T then T else M)) := by
  unfold fX6_about_73
  refine z_f (by rw [z_le0 (by omega)]; omega) ?_
  rw [z_let]
  by_cases h : M < T
  · rw [if_pos h, if_pos h]
    exact z_f (by rw [z_leL (by omega) (by omega)]; omega) (z_f (by rw [z_leL (by omega) (by omega)]; omega) rfl)
  · rw [if_neg h, if_neg h]
    exact z_t (by rw [z_leL (by omega) (by omega)]; omega) (z_t (by rw [z_leL (by omega) (by omega)]; omega) rfl)
theorem z_ab0 {S : gS} {c : Nat} {v1 v2 v5 v8 : Int32} {v3 v6 : Int64} (K : gS → Int32 → Int32 → Int64 → Int32 → Int64 → Int32 → Int32 → Option (Int64 × gS)) :
    fX6_about_73 K S v1 v2 v3 v5 v6 v8 (nI c) 0 = K S v1 v2 v3 v5 v6 v8 (nI (c + 1)) := by
  unfold fX6_about_73
  refine z_t (by decide) ?_
  show K S v1 v2 v3 v5 v6 v8 (nI c + 1) = _
  rw [z_inc]
def zOl (g : Nat → Nat → Nat) (c : Nat) : Option Nat := zFst (fun k => gsum (fun i => g i k) c) 61
theorem zFst_lt {f : Nat → Nat} {n k : Nat} (h : zFst f n = some k) : k < n := by
  rcases zFst_sp f n with ⟨h1, -⟩ | ⟨i, h1, h2, -⟩
  · rw [h1] at h; exact absurd h (by simp)
  · rw [h1] at h
    injection h with h
    omega
theorem z_ab47 {w h n y : Nat} {Sx S : gS} {G : zG} {v1 : Int32} (H : zRd w h Sx S) (hY : zY S G) (hJ : zJn n (zOp w h (gA S 5)) y G) (hn : n ≤ 2000000000) : ∀ (d f c : Nat), c + d = 64 → d < f →
    fX6_about_47 f S v1 (nI (zcnt (zIcy (zopB w h (gA S 5)) (fun c => gsum (G.1 c) 61)) c)) (lN (zBt (zopB w h (gA S 5)) (fun c => gsum (G.1 c) 61) c).1) (zPl (-9) (zBt (zopB w h (gA S 5)) (fun c => gsum (G.1 c) 61) c).2) (zO64 (zLo (zopB w h (gA S 5)) (fun c => gsum (G.1 c) 61) (fun c => zlev S c + gsum (G.1 c) 61) c)) (zOr (zOl G.1 c)) (nI c)
     = if v1 = 0 then some ((nI (zcnt (zIcy (zopB w h (gA S 5)) (fun c => gsum (G.1 c) 61)) 64)).toInt64, S) else if v1 = 1 then some (lN (zBt (zopB w h (gA S 5)) (fun c => gsum (G.1 c) 61) 64).1, S) else if v1 = 2 then some (zO64 (zLo (zopB w h (gA S 5)) (fun c => gsum (G.1 c) 61) (fun c => zlev S c + gsum (G.1 c) 61) 64), S) else if v1 = 3 then some ((zOr (zOl G.1 64)).toInt64, S) else some ((zPl (-9) (zBt (zopB w h (gA S 5)) (fun c => gsum (G.1 c) 61) 64).2).toInt64, S) := by
  have hB : ∀ c, c < 64 → gsum (G.1 c) 61 ≤ n := fun c hc => zJn_r hJ hc
  have hB2 : ∀ c, c < 64 → zlev S c + gsum (G.1 c) 61 ≤ n + 9999 := fun c hc => by
    have := hB c hc
    have := (zRd_lev H hc).2.2
    omega
  intro d
  induction d with
  | zero =>
    intro f c hcd hf
    obtain ⟨f, rfl⟩ : ∃ g, f = g + 1 := ⟨f - 1, by omega⟩
    have e : c = 64 := by omega
    subst e
    show fX6_about_47L (fX6_about_47 f) S v1 _ _ _ _ _ (nI 64) = _
    unfold fX6_about_47L
    exact z_t (z_len (a := 64) (b := 64) (by omega) (by omega)) rfl
  | succ d ih =>
    intro f c hcd hf
    obtain ⟨f, rfl⟩ : ∃ g, f = g + 1 := ⟨f - 1, by omega⟩
    have hc : c < 64 := by omega
    rw [← ih f (c + 1) (by omega) (by omega)]
    show fX6_about_47L (fX6_about_47 f) S v1 _ _ _ _ _ (nI c) = _
    unfold fX6_about_47L
    refine z_f (z_nle (a := 64) hc (by omega)) (z_b (z_isIce H.1 hc) ?_)
    by_cases hi : zopB w h (gA S 5) c = true ∧ 0 < gsum (G.1 c) 61
    · obtain ⟨hb, h0⟩ := hi
      have ho := zopB_iff.1 hb
      have l1 := zRd_lev H hc
      have b1 := hB c hc
      have b2 := zBt_in (zopB w h (gA S 5)) (fun c => gsum (G.1 c) 61) hB c (by omega)
      have hbd : ∀ k, k < 61 → G.1 c k < 9223372036854775808 := fun k hk => by have := zJn_g hJ hc hk; omega
      have hL0 : 0 < zLc (G.1 c) 61 := by
        rcases Nat.eq_zero_or_pos (zLc (G.1 c) 61) with q | q
        · have q2 := (zLy_old (G.1 c) 61).1 q
          rcases zFst_sp (G.1 c) 61 with ⟨-, q3⟩ | ⟨k, q3, -⟩
          · have := gsum_0 (f := G.1 c) (n := 61) q3
            omega
          · rw [q2] at q3; exact absurd q3 (by simp)
        · exact q
      have hLl := zLc_le (G.1 c) 61
      obtain ⟨o1, o2⟩ := (zLy_old (G.1 c) 61).2 hL0
      obtain ⟨r, hr⟩ : ∃ r, zFst (G.1 c) 61 = some r := by
        cases e : zFst (G.1 c) 61 with
        | none => exact absurd e o2
        | some r => exact ⟨r, rfl⟩
      have hr61 := zFst_lt hr
      have k1 := z_lcY (S := S) hc (fun k hk => hY.1 c k hc hk) hbd
      have k2 : fX6_layerOf S (nI c) (nI (zLc (G.1 c) 61) - 1) = some (nI r, S) := by
        rw [show nI (zLc (G.1 c) 61) - 1 = nI (zLc (G.1 c) 61 - 1) from z_sub (b := 1) (by omega)]
        unfold fX6_layerOf
        rw [show (60 : Int32) = zD 61 from rfl, z_lyY hc (z_nneg (by omega)) (fun k hk => hY.1 c k hc hk) hbd 61 gx_fuel (zLc (G.1 c) 61 - 1) (by have := z_fuelB; omega) (by omega) (by omega), o1, hr]
        rfl
      have e1 : zcnt (zIcy (zopB w h (gA S 5)) (fun c => gsum (G.1 c) 61)) (c + 1) = zcnt (zIcy (zopB w h (gA S 5)) (fun c => gsum (G.1 c) 61)) c + 1 := by simp [zcnt, zIcy, hb, h0]
      have e2 : zLo (zopB w h (gA S 5)) (fun c => gsum (G.1 c) 61) (fun c => zlev S c + gsum (G.1 c) 61) (c + 1) = zMinO (zLo (zopB w h (gA S 5)) (fun c => gsum (G.1 c) 61) (fun c => zlev S c + gsum (G.1 c) 61) c) (zlev S c + gsum (G.1 c) 61) := if_pos ⟨hb, h0⟩
      have e3 : zOl G.1 (c + 1) = zMinO (zOl G.1 c) r := zFst_add (a := fun k => gsum (fun i => G.1 i k) c) (b := G.1 c) hr
      have e4 : (zBt (zopB w h (gA S 5)) (fun c => gsum (G.1 c) 61) (c + 1)).1 = if (zBt (zopB w h (gA S 5)) (fun c => gsum (G.1 c) 61) c).1 < gsum (G.1 c) 61 then gsum (G.1 c) 61 else (zBt (zopB w h (gA S 5)) (fun c => gsum (G.1 c) 61) c).1 := by
        by_cases q : (zBt (zopB w h (gA S 5)) (fun c => gsum (G.1 c) 61) c).1 < gsum (G.1 c) 61
        · rw [if_pos q, show zBt (zopB w h (gA S 5)) (fun c => gsum (G.1 c) 61) (c + 1) = (gsum (G.1 c) 61, some c) from if_pos ⟨hb, q⟩]
        · rw [if_neg q, show zBt (zopB w h (gA S 5)) (fun c => gsum (G.1 c) 61) (c + 1) = zBt (zopB w h (gA S 5)) (fun c => gsum (G.1 c) 61) c from if_neg (fun z => q z.2)]
      have e5 : zPl (-9) (zBt (zopB w h (gA S 5)) (fun c => gsum (G.1 c) 61) (c + 1)).2 = if (zBt (zopB w h (gA S 5)) (fun c => gsum (G.1 c) 61) c).1 < gsum (G.1 c) 61 then nI c else zPl (-9) (zBt (zopB w h (gA S 5)) (fun c => gsum (G.1 c) 61) c).2 := by
        by_cases q : (zBt (zopB w h (gA S 5)) (fun c => gsum (G.1 c) 61) c).1 < gsum (G.1 c) 61
        · rw [if_pos q, show zBt (zopB w h (gA S 5)) (fun c => gsum (G.1 c) 61) (c + 1) = (gsum (G.1 c) 61, some c) from if_pos ⟨hb, q⟩]
          rfl
        · rw [if_neg q, show zBt (zopB w h (gA S 5)) (fun c => gsum (G.1 c) 61) (c + 1) = zBt (zopB w h (gA S 5)) (fun c => gsum (G.1 c) 61) c from if_neg (fun z => q z.2)]
      rw [if_pos hb]
      refine z_f (by decide) (z_b (z_thick hc (fun k hk => hY.1 c k hc hk)) ?_)
      rw [z_ab73 _ (by omega) (by omega) h0, z_ab114 _ hc l1.1 l1.2.2 (by omega) (fun v hv => by have := zLo_in _ _ _ hB2 c (by omega) v hv; omega), z_ab157 _ k1 k2 (by omega) (fun v hv => by have := zFst_lt hv; omega), z_inc, e1, e2, e3, e4, e5]
    · have hz : gsum (G.1 c) 61 = 0 := by
        cases hb : zopB w h (gA S 5) c with
        | false => exact gsum_0 (fun k _ => hJ.1 c k (fun e => by rw [zopB_iff.2 e] at hb; exact absurd hb (by simp)))
        | true =>
          have : ¬ 0 < gsum (G.1 c) 61 := fun q => hi ⟨hb, q⟩
          omega
      have e1 : zcnt (zIcy (zopB w h (gA S 5)) (fun c => gsum (G.1 c) 61)) (c + 1) = zcnt (zIcy (zopB w h (gA S 5)) (fun c => gsum (G.1 c) 61)) c := by simp [zcnt, zIcy, hz]
      have e2 : zLo (zopB w h (gA S 5)) (fun c => gsum (G.1 c) 61) (fun c => zlev S c + gsum (G.1 c) 61) (c + 1) = zLo (zopB w h (gA S 5)) (fun c => gsum (G.1 c) 61) (fun c => zlev S c + gsum (G.1 c) 61) c := if_neg hi
      have e3 : zOl G.1 (c + 1) = zOl G.1 c := zFst_cg (fun k hk => by
        have := gsum_le (G.1 c) hk
        show gsum (fun i => G.1 i k) c + G.1 c k = _
        omega)
      have e4 : zBt (zopB w h (gA S 5)) (fun c => gsum (G.1 c) 61) (c + 1) = zBt (zopB w h (gA S 5)) (fun c => gsum (G.1 c) 61) c := if_neg (fun q => by
        have : (zBt (zopB w h (gA S 5)) (fun c => gsum (G.1 c) 61) c).1 < gsum (G.1 c) 61 := q.2
        omega)
      rw [e1, e2, e3, e4]
      cases hb : zopB w h (gA S 5) c with
      | false => exact z_t rfl (z_ab0 _)
      | true =>
        refine z_f (by decide) (z_b (z_thick hc (fun k hk => hY.1 c k hc hk)) ?_)
        rw [hz]
        exact z_ab0 _
theorem z_about {n : Nat} {Sx Sy : gS} (hn : n < 512) (h : gR n Sx Sy) (a1 : Int32) : ∃ (r : Int64) (Sx' Sy' : gS), fX5_about Sx a1 = some (r, Sx') ∧ fX6_about Sy a1 = some (r, Sy') ∧ gR (n + 1) Sx' Sy' := by
  obtain ⟨w, hh, y, g, s, HR, hw, hh8, hy, hx, hyy, hX, hY, hJ⟩ := z_rd h
  rcases z_rng a1 (b := 4) rfl (by omega) with ⟨q, hq, rfl, k1, k2, k3, k4⟩ | ⟨hb, k4⟩
  · rcases z_lies HR.1 with ⟨-, l1, l2⟩ | ⟨-, l1, l2⟩
    · exact ⟨-3, Sx, Sy, z_f k1 (z_t k2 (z_b l1 (z_t rfl rfl))), z_b (k4 _) (z_f (by decide) (z_t l2 rfl)), z_skip hn h⟩
    · obtain ⟨N, G, hN, hX, hY, hJ⟩ : ∃ (N : Nat) (G : zG), N ≤ 2000000000 ∧ zX (zOp w hh (gA Sy 5)) Sx G ∧ zY Sy G ∧ zJn N (zOp w hh (gA Sy 5)) y G := ⟨1000000 * n + 6400000 * y, (g, s), by omega, hX, hY, hJ⟩
      have hB : ∀ c, c < 64 → gsum (G.1 c) 61 ≤ N := fun c hc => zJn_r hJ hc
      have t1 := z_thkX HR hX hJ hN
      have t2 := z_icyX HR hX hJ hN
      have t3 := z_lowX HR hX hJ hN
      have t4 := z_oldX hX hJ hN hy hx
      have t5 := z_ab47 (v1 := nI q) HR hY hJ hN 64 gx_fuel 0 (by omega) (by have := z_fuelB; omega)
      have preY : ∀ R, (if nI q = 0 then some ((nI (zcnt (zIcy (zopB w hh (gA Sy 5)) (fun c => gsum (G.1 c) 61)) 64)).toInt64, Sy) else if nI q = 1 then some (lN (zBt (zopB w hh (gA Sy 5)) (fun c => gsum (G.1 c) 61) 64).1, Sy) else if nI q = 2 then some (zO64 (zLo (zopB w hh (gA Sy 5)) (fun c => gsum (G.1 c) 61) (fun c => zlev Sy c + gsum (G.1 c) 61) 64), Sy) else if nI q = 3 then some ((zOr (zOl G.1 64)).toInt64, Sy) else some ((zPl (-9) (zBt (zopB w hh (gA Sy 5)) (fun c => gsum (G.1 c) 61) 64).2).toInt64, Sy)) = R → fX6_about Sy (nI q) = R := fun R hR => by
        rw [← hR]
        refine z_b (k4 _) (z_f (by decide) (z_f l2 (Eq.trans ?_ t5)))
        have e0 : zOl G.1 0 = none := zFst_n (fun _ _ => rfl)
        rw [e0]
        rfl
      have preX : ∀ R, (if nI q = 0 then (gx_bind (fX5_icyCells Sx) fun r65 S65 => some (r65.toInt64, S65)) else
          if nI q = 1 then (if zPl (-1) (zBt (zopB w hh (gA Sy 5)) (fun c => gsum (G.1 c) 61) 64).2 = -1 then some (0, Sx) else gx_chk (zPl (-1) (zBt (zopB w hh (gA Sy 5)) (fun c => gsum (G.1 c) 61) 64).2) 64 <| some (gJ Sx 12 (zPl (-1) (zBt (zopB w hh (gA Sy 5)) (fun c => gsum (G.1 c) 61) 64).2).toNatClampNeg, Sx)) else
          if nI q = 2 then (gx_bind (fX5_lowestIceSurface Sx) fun r90 S90 => some (r90, S90)) else
          if nI q = 3 then (gx_bind (fX0_oldestYear 10 Sx) fun r98 S98 => some (r98.toInt64, S98)) else
          if zPl (-1) (zBt (zopB w hh (gA Sy 5)) (fun c => gsum (G.1 c) 61) 64).2 = -1 then some (-9, Sx) else some ((zPl (-1) (zBt (zopB w hh (gA Sy 5)) (fun c => gsum (G.1 c) 61) 64).2).toInt64, Sx)) = R → fX5_about Sx (nI q) = R := fun R hR =>
        z_f k1 (z_t k2 (z_b l1 (z_f (by decide) (z_b t1 hR))))
      have hbt := (zBt_in (zopB w hh (gA Sy 5)) (fun c => gsum (G.1 c) 61) hB 64 (by omega)).2
      by_cases e0 : nI q = 0
      · exact ⟨_, Sx, Sy, preX _ (z_t e0 (z_b t2 rfl)), preY _ (z_t e0 rfl), z_skip hn h⟩
      by_cases e1 : nI q = 1
      · refine ⟨_, Sx, Sy, preX _ (z_f e0 (z_t e1 ?_)), preY _ (z_f e0 (z_t e1 rfl)), z_skip hn h⟩
        rcases hbt with ⟨b1, b2⟩ | ⟨o, b1, b2, b3, b4⟩
        · rw [b1, b2]
          exact z_t rfl rfl
        · rw [b1, b4]
          refine z_f (z_nm1 (by omega)) (z_c rfl b2 (by omega) ?_)
          show some (gJ Sx 12 (nI o).toNatClampNeg, Sx) = _
          rw [z_cl (by omega), (hX.1 o (zopB_iff.1 b3)).2]
      by_cases e2 : nI q = 2
      · exact ⟨_, Sx, Sy, preX _ (z_f e0 (z_f e1 (z_t e2 (z_b t3 rfl)))), preY _ (z_f e0 (z_f e1 (z_t e2 rfl))), z_skip hn h⟩
      by_cases e3 : nI q = 3
      · exact ⟨_, Sx, Sy, preX _ (z_f e0 (z_f e1 (z_f e2 (z_t e3 (z_b t4 rfl))))), preY _ (z_f e0 (z_f e1 (z_f e2 (z_t e3 rfl)))), z_skip hn h⟩
      · refine ⟨_, Sx, Sy, preX _ (z_f e0 (z_f e1 (z_f e2 (z_f e3 ?_)))), preY _ (z_f e0 (z_f e1 (z_f e2 (z_f e3 rfl)))), z_skip hn h⟩
        rcases hbt with ⟨b1, b2⟩ | ⟨o, b1, b2, b3, b4⟩
        · rw [b1]
          exact z_t rfl rfl
        · rw [b1]
          exact z_f (z_nm1 (by omega)) rfl
  · refine ⟨-2, _, _, ?_, z_b (k4 _) (z_t rfl rfl), z_skip hn h⟩
    rcases hb with hb | ⟨hb1, hb2, hb3⟩
    · exact z_t hb rfl
    · exact z_f hb1 (z_f hb2 rfl)

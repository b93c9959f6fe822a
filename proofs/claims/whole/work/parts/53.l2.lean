/-! snow and melting -/
def zlev (S : gS) (c : Nat) : Nat := (gA S 7 c).toNatClampNeg
def zhun (S : gS) (c : Nat) : Nat := (gA S 6 c).toNatClampNeg
def zsn (S : gS) (c : Nat) : Nat := (gA S 10 (zlev S c / 1000)).toNatClampNeg
def zm0 (S : gS) (c : Nat) : Nat := (gA S 11 (zlev S c / 1000)).toNatClampNeg
def zmlt (S : gS) (c : Nat) : Nat := if gA S 5 c = 2 ∨ gA S 5 c = 3 then zm0 S c - zm0 S c * zhun S c / 100 else zm0 S c
theorem z_tnc {x : Int32} {b : Nat} (hb : b < 2147483648) (h : ∃ v : Nat, v ≤ b ∧ x = nI v) : x = nI x.toNatClampNeg ∧ x.toNatClampNeg ≤ b := by
  obtain ⟨v, h1, rfl⟩ := h
  rw [z_cl (by omega)]
  exact ⟨rfl, h1⟩
/-- what both sides read of the ground and of what is told -/
def zRd (w h : Nat) (Sx Sy : gS) : Prop := zLand w h Sx Sy ∧ zTold Sx Sy
theorem zRd_lev {w h : Nat} {Sx Sy : gS} (H : zRd w h Sx Sy) {c : Nat} (hc : c < 64) : gA Sy 7 c = nI (zlev Sy c) ∧ gA Sx 6 c = nI (zlev Sy c) ∧ zlev Sy c ≤ 9999 := by
  obtain ⟨-, -, h3, h4, -⟩ := H.1.2.2.2.2.2.1 c hc
  have := z_tnc (by omega) h4
  exact ⟨this.1, h3.trans this.1, this.2⟩
theorem zRd_hun {w h : Nat} {Sx Sy : gS} (H : zRd w h Sx Sy) {c : Nat} (hc : c < 64) : gA Sy 6 c = nI (zhun Sy c) ∧ gA Sx 8 c = nI (zhun Sy c) ∧ zhun Sy c ≤ 100 := by
  obtain ⟨-, h2, -, -, h5⟩ := H.1.2.2.2.2.2.1 c hc
  have := z_tnc (by omega) h5
  exact ⟨this.1, h2.trans this.1, this.2⟩
theorem zRd_kd {w h : Nat} {Sx Sy : gS} (H : zRd w h Sx Sy) {c : Nat} (hc : c < 64) : gA Sx 7 c = gA Sy 5 c := (H.1.2.2.2.2.2.1 c hc).1
theorem zRd_sn {w h : Nat} {Sx Sy : gS} (H : zRd w h Sx Sy) {c : Nat} (hc : c < 64) : gA Sy 10 (zlev Sy c / 1000) = nI (zsn Sy c) ∧ gA Sx 3 (zlev Sy c / 1000) = nI (zsn Sy c) ∧ zsn Sy c ≤ 100000 := by
  have := (zRd_lev H hc).2.2
  obtain ⟨v, a, b, d⟩ := (H.2.2.2 (zlev Sy c / 1000) (by omega)).1
  have := z_tnc (x := gA Sy 10 (zlev Sy c / 1000)) (b := 100000) (by omega) ⟨v, a, d⟩
  exact ⟨this.1, b.trans (d.symm.trans this.1), this.2⟩
theorem zRd_m0 {w h : Nat} {Sx Sy : gS} (H : zRd w h Sx Sy) {c : Nat} (hc : c < 64) : gA Sy 11 (zlev Sy c / 1000) = nI (zm0 Sy c) ∧ gA Sx 4 (zlev Sy c / 1000) = nI (zm0 Sy c) ∧ zm0 Sy c ≤ 100000 := by
  have := (zRd_lev H hc).2.2
  obtain ⟨v, a, b, d⟩ := (H.2.2.2 (zlev Sy c / 1000) (by omega)).2
  have := z_tnc (x := gA Sy 11 (zlev Sy c / 1000)) (b := 100000) (by omega) ⟨v, a, d⟩
  exact ⟨this.1, b.trans (d.symm.trans this.1), this.2⟩
theorem zmlt_le {w h : Nat} {Sx Sy : gS} (H : zRd w h Sx Sy) {c : Nat} (hc : c < 64) : zmlt Sy c ≤ 100000 := by
  have := (zRd_m0 H hc).2.2
  unfold zmlt
  split <;> omega
theorem z_hundr {m u : Nat} (hm : m ≤ 100000) (hu : u ≤ 100) : lN m - lN m * (nI u).toInt64 / 100 = lN (m - m * u / 100) := by
  have h1 : m * u ≤ 100000 * 100 := Nat.mul_le_mul hm hu
  have h2 : m * u ≤ m * 100 := Nat.mul_le_mul_left m hu
  rw [z_wide (by omega), lN_mul, show (100 : Int64) = lN 100 from rfl, pk_lDiv (by omega) (by omega) (by omega), lN_sub (by omega)]
theorem z_arrive (o : Nat) (S : gS) {c k : Nat} (v : Int64) (hc : c < 64) (hk : k < 61) : fX0_arrive o S (nI c) (nI k) v = some ((), gJ_up (zLayS o S c k v) (o + 3) (244 + k) (gJ (zLayS o S c k v) (o + 3) (244 + k) + v)) := by
  unfold fX0_arrive
  refine z_b (z_lay o S v hc hk) ?_
  rw [z_p 244]
  refine z_c rfl (by omega) (by omega) (z_c rfl (by omega) (by omega) ?_)
  rw [z_let, z_cl (by omega)]
theorem z_k1000 {v : Nat} (h : v ≤ 9999) : nI v / 1000 = nI (v / 1000) := z_div (b := 1000) (by omega) (by omega) (by omega)
def zFall1 (Sy : gS) (y c : Nat) (G : zG) : zG := zLose 1 c (y + 1) (zmlt Sy c) (gset G.1 c y (G.1 c y + zsn Sy c), sadd G.2 (244 + y) (lN (zsn Sy c)))
def zFallC (p : Nat → Bool) (Sy : gS) (y : Nat) : Nat → zG → zG
  | 0, G => G
  | c + 1, G => if p c then zFall1 Sy y c (zFallC p Sy y c G) else zFallC p Sy y c G
theorem zFallC_t {p : Nat → Bool} {Sy : gS} {y c : Nat} {G : zG} (h : p c = true) : zFallC p Sy y (c + 1) G = zFall1 Sy y c (zFallC p Sy y c G) := if_pos h
theorem zFallC_f {p : Nat → Bool} {Sy : gS} {y c : Nat} {G : zG} (h : p c = false) : zFallC p Sy y (c + 1) G = zFallC p Sy y c G := if_neg (by rw [h]; exact Bool.false_ne_true)
theorem zFall0_J {N y c : Nat} {op : Nat → Prop} {Sy : gS} {G : zG} (hs : zsn Sy c ≤ 100000) (hc : c < 64) (ho : op c) (hy : y ≤ 60) (h : zJn N op y G) : zJn (N + 100000) op y (gset G.1 c y (G.1 c y + zsn Sy c), sadd G.2 (244 + y) (lN (zsn Sy c))) :=
  zJn_s (zJn_set (M := N + 100000) h hc (Or.inl ho) (Nat.le_refl y) hy (by omega)) ⟨4, y, by omega, Nat.le_refl y⟩ hy
theorem zFall1_J {N y c : Nat} {op : Nat → Prop} {Sy : gS} {G : zG} (hs : zsn Sy c ≤ 100000) (hc : c < 64) (ho : op c) (hy : y ≤ 60) (h : zJn N op y G) : zJn (N + 100000) op y (zFall1 Sy y c G) :=
  zLose_J hc ho hy (y + 1) _ _ (Nat.le_refl _) (zFall0_J hs hc ho hy h)
theorem zFallC_J {N y w h : Nat} {Sx Sy : gS} {kd : Nat → Int32} {G : zG} (H : zRd w h Sx Sy) (hy : y ≤ 60) (h0 : zJn N (zOp w h kd) y G) : ∀ c, c ≤ 64 → zJn (N + 100000 * c) (zOp w h kd) y (zFallC (zopB w h kd) Sy y c G)
  | 0, _ => h0
  | c + 1, hc => by
    have ih := zFallC_J H hy h0 c (by omega)
    cases hb : zopB w h kd c with
    | true =>
      rw [zFallC_t hb]
      exact zJn_mo (zFall1_J (zRd_sn H (by omega)).2.2 (by omega) (zopB_iff.1 hb) hy ih) (by omega) (Nat.le_refl _)
    | false =>
      rw [zFallC_f hb]
      exact zJn_mo ih (by omega) (Nat.le_refl _)
theorem z_meltLeft {w h c : Nat} {Sx Sy S' : gS} (H : zRd w h Sx Sy) (hc : c < 64) (hA : gA S' = gA Sx) : fX1_meltLeft 5 S' (nI c) (lN (zm0 Sy c)) = some (lN (zmlt Sy c), S') := by
  have h1 := zRd_kd H hc
  have h2 := zRd_hun H hc
  have h3 := (zRd_m0 H hc).2.2
  have hm : fX1_meltLeft_20 5 S' (nI c) (lN (zm0 Sy c)) = some (lN (zm0 Sy c - zm0 Sy c * zhun Sy c / 100), S') := by
    show fX1_meltLeft_25 5 S' (nI c) (lN (zm0 Sy c)) 1 = _
    refine z_f (by decide) (z_c rfl hc (by omega) ?_)
    rw [z_cl (by omega), hA]
    show some (lN (zm0 Sy c) - lN (zm0 Sy c) * (gA Sx 8 c).toInt64 / 100, S') = _
    rw [h2.2.1, z_hundr h3 h2.2.2]
  have ek : gA S' (5 + 2) (nI c).toNatClampNeg = gA Sy 5 c := by rw [z_cl (by omega), hA]; exact h1
  unfold fX1_meltLeft
  refine z_c rfl hc (by omega) ?_
  rw [ek]
  by_cases k2 : gA Sy 5 c = 2
  · refine z_t k2 (hm.trans ?_)
    unfold zmlt
    rw [if_pos (Or.inl k2)]
  · refine z_f k2 (z_c rfl hc (by omega) ?_)
    by_cases k3 : gA Sy 5 c = 3
    · refine z_t k3 (hm.trans ?_)
      unfold zmlt
      rw [if_pos (Or.inr k3)]
    · refine z_f k3 ?_
      unfold zmlt
      rw [if_neg (fun e => e.elim k2 k3)]
      rfl
/-- the class reads the same when only its ice has changed -/
theorem zRd_off {w h : Nat} {Sx Sy S' Sy' : gS} {l l2 : List Nat} (H : zRd w h Sx Sy) (o : gOff l Sx S') (hl : ∀ i, 2 ≤ i → i ≤ 9 → i ∉ l) (o2 : gOff l2 Sy Sy') (hl2 : 0 ∉ l2 ∧ 5 ∉ l2 ∧ 6 ∉ l2 ∧ 7 ∉ l2 ∧ 10 ∉ l2 ∧ 11 ∉ l2) : zRd w h S' Sy' := by
  obtain ⟨a0, a5, a6, a7, a10, a11⟩ := hl2
  exact ⟨zLand_fr (fun i a b => o i (hl i (by omega) (by omega))) (o2 _ a5).2.1 (o2 _ a6).2.1 (o2 _ a7).2.1 (by rw [(o2 0 a0).1]) (by rw [(o2 0 a0).1]) H.1,
    zTold_fr (fun i a b => o i (hl i (by omega) (by omega))) (o2 _ a10).2.1 (o2 _ a11).2.1 (by rw [(o2 0 a0).1]) (by rw [(o2 0 a0).1]) H.2⟩
theorem zRd_x {w h : Nat} {Sx Sy S' : gS} {l : List Nat} (H : zRd w h Sx Sy) (o : gOff l Sx S') (hl : ∀ i, 2 ≤ i → i ≤ 9 → i ∉ l) : zRd w h S' Sy := zRd_off H o hl (l2 := []) gOff_rf (by simp)
theorem zRd_op {w h c : Nat} {Sx Sy : gS} (H : zRd w h Sx Sy) (hp : zopB w h (gA Sy 5) c = true) : c < 64 ∧ zcnt (zopB w h (gA Sy 5)) c < 64 ∧ ¬ gI Sx 5 4 ≤ nI (zcnt (zopB w h (gA Sy 5)) c) ∧ gA Sx 9 (zcnt (zopB w h (gA Sy 5)) c) = nI c := by
  have ho := zopB_iff.1 hp
  have h1 := zcnt_le (zopB w h (gA Sy 5)) c
  have h2 := zcnt_lt (zopB w h (gA Sy 5)) ho.1 hp
  have h3 := zcnt_le (zopB w h (gA Sy 5)) 64
  refine ⟨ho.1, by have := ho.1; omega, ?_, H.1.2.2.2.2.2.2.2 c ho.1 ho⟩
  rw [H.1.2.2.2.2.2.2.1]
  exact z_nle h2 (by omega)
theorem z_snowX {w h N y : Nat} {Sx Sy : gS} {G : zG} (H : zRd w h Sx Sy) (hX : zX (zOp w h (gA Sy 5)) Sx G) (hJ : zJn N (zOp w h (gA Sy 5)) y G) (hN : N ≤ 1000000000) (hy : y ≤ 60) (hyr : gI Sx 10 3 = nI y) :
    ∃ S', fX5_snowAndMelt Sx = some ((), S') ∧ zX (zOp w h (gA Sy 5)) S' (zFallC (zopB w h (gA Sy 5)) Sy y 64 G) ∧ gOff [11, 12, 13] Sx S' := by
  have key := z_lpO (E := fun r : Unit × gS => some r) (zopB w h (gA Sy 5)) (fun f i (t : gS) => fX5_snowAndMelt_2 f t (nI i))
    (fun c t => zX (zOp w h (gA Sy 5)) t (zFallC (zopB w h (gA Sy 5)) Sy y c G) ∧ gOff [11, 12, 13] Sx t)
    (fun r => zX (zOp w h (gA Sy 5)) r.2 (zFallC (zopB w h (gA Sy 5)) Sy y 64 G) ∧ gOff [11, 12, 13] Sx r.2)
    (fun c t hc hb hp => by rw [zFallC_f hb]; exact hp)
    (by
      rintro f c T hc hb ⟨h1, h2⟩
      right
      have ho := zopB_iff.1 hb
      have H2 : zRd w h T Sy := zRd_x H h2 (fun i a b => by simp; omega)
      obtain ⟨-, q1, q2, q3⟩ := zRd_op H2 hb
      have hJc := zFallC_J H hy hJ c (by omega)
      have l1 := zRd_lev H2 hc
      have l2 := zRd_sn H2 hc
      have l3 := zRd_m0 H2 hc
      have hyT : gI T 10 3 = nI y := by rw [(h2 10 (by simp)).1]; exact hyr
      have a1 := zX_lay (k := y) (x := (zFallC (zopB w h (gA Sy 5)) Sy y c G).1 c y + zsn Sy c) (v := lN (zsn Sy c)) h1 hc (by omega) (lN_add _ _).symm ho
      have a2 := zX_sum (i := 244 + y) (v := lN (zsn Sy c)) a1 (by omega) (by omega)
      have a3 := zFall0_J l2.2.2 hc ho hy hJc
      have oo : gOff [11, 12, 13] T (gJ_up (zLayS 10 T c y (lN (zsn Sy c))) 13 (244 + y) (gJ (zLayS 10 T c y (lN (zsn Sy c))) 13 (244 + y) + lN (zsn Sy c))) := gOff_tr (zLayS_off 10 T c y _ (fun i hi => by simp; omega)) (gOff_J (by simp))
      obtain ⟨S', k1, k2, k3⟩ := z_loseX (q := 1) (m := zmlt Sy c) a2 a3 (by omega) hy (by rw [(oo 10 (by simp)).1]; exact hyT) hc ho (by omega) (by omega) (by have := zmlt_le H2 hc; omega)
      refine ⟨S', ?_, ?_, gOff_tr h2 (gOff_tr oo k3)⟩
      · show fX5_snowAndMelt_2L (fX5_snowAndMelt_2 f) T (nI (zcnt (zopB w h (gA Sy 5)) c)) = _
        unfold fX5_snowAndMelt_2L
        refine z_f q2 (z_c rfl q1 (by omega) ?_)
        rw [z_let, z_cl (by omega), q3]
        refine z_b (a := nI (zlev Sy c / 1000)) (S := T) ?_ ?_
        · refine z_c rfl hc (by omega) ?_
          rw [z_cl (by omega)]
          show some (gA T 6 c / 1000, T) = _
          rw [l1.2.1, z_k1000 l1.2.2]
        · refine z_c rfl (by omega) (by omega) ?_
          rw [z_cl (by omega), l2.2.1, hyT, z_wide (by omega)]
          refine z_b (z_arrive 10 T _ hc (by omega)) (z_c rfl (by omega) (by omega) ?_)
          have eA : gA (gJ_up (zLayS 10 T c y (lN (zsn Sy c))) 13 (244 + y) (gJ (zLayS 10 T c y (lN (zsn Sy c))) 13 (244 + y) + lN (zsn Sy c))) = gA T := rfl
          show gx_bind (fX1_meltLeft 5 (gJ_up (zLayS 10 T c y (lN (zsn Sy c))) 13 (244 + y) (gJ (zLayS 10 T c y (lN (zsn Sy c))) 13 (244 + y) + lN (zsn Sy c))) (nI c) (gA T 4 (zlev Sy c / 1000)).toInt64) _ = _
          rw [l3.2.1, z_wide (by omega)]
          refine z_b (z_meltLeft H2 hc eA) (z_b k1 ?_)
          rw [z_let, z_inc]
      · rw [zFallC_t hb]
        exact k2)
    (by
      rintro f T ⟨h1, h2⟩
      refine ⟨((), T), ?_, h1, h2⟩
      show fX5_snowAndMelt_2L (fX5_snowAndMelt_2 f) T (nI (zcnt (zopB w h (gA Sy 5)) 64)) = _
      unfold fX5_snowAndMelt_2L
      refine z_t ?_ rfl
      rw [(h2 5 (by simp)).1, H.1.2.2.2.2.2.2.1]
      exact z_len (Nat.le_refl _) (by have := zcnt_le (zopB w h (gA Sy 5)) 64; omega))
    64 gx_fuel 0 Sx (by omega) (by have := z_fuelB; omega) (by omega) ⟨hX, gOff_rf⟩
  obtain ⟨⟨u, S'⟩, k1, k2, k3⟩ := key
  exact ⟨S', k1, k2, k3⟩
theorem z_isIce {w h : Nat} {Sx Sy : gS} (H : zLand w h Sx Sy) {c : Nat} (hc : c < 64) : fX6_isIce Sy (nI c) = some (if zopB w h (gA Sy 5) c then 1 else 0, Sy) := by
  have hw : w ≤ 8 := by have := H.2.2.2.2.1; omega
  have hh : h ≤ 8 := by have := H.2.2.2.2.1; omega
  unfold fX6_isIce
  refine z_b (z_cellY H.2.2.1 H.2.2.2.1 hw hh hc) ?_
  by_cases h1 : zpl w h c = true
  · rw [if_pos h1]
    refine z_f (by decide) (z_c rfl hc (by omega) ?_)
    rw [z_cl (by omega)]
    have h1' : c % 8 < w ∧ c / 8 < h := by unfold zpl at h1; exact decide_eq_true_iff.1 h1
    by_cases h2 : gA Sy 5 c = 4
    · refine z_t h2 ?_
      rw [if_neg (by rw [zopB_iff]; exact fun e => e.2.2.2 h2)]
      rfl
    · refine z_f h2 ?_
      rw [if_pos (by rw [zopB_iff]; exact ⟨hc, h1'.1, h1'.2, h2⟩)]
  · rw [if_neg h1]
    refine z_t rfl ?_
    rw [if_neg (by rw [zopB_iff]; exact fun e => h1 (by unfold zpl; rw [decide_eq_true_iff]; exact ⟨e.2.1, e.2.2.1⟩))]
    rfl
theorem zRd_y {w h : Nat} {Sx Sy Sy' : gS} {l : List Nat} (H : zRd w h Sx Sy) (o : gOff l Sy Sy') (hl2 : 0 ∉ l ∧ 5 ∉ l ∧ 6 ∉ l ∧ 7 ∉ l ∧ 10 ∉ l ∧ 11 ∉ l) : zRd w h Sx Sy' := zRd_off H (l := []) gOff_rf (by simp) o hl2
theorem z_fallY {w h N y : Nat} {Sx Sy : gS} {G : zG} (H : zRd w h Sx Sy) (hY : zY Sy G) (hJ : zJn N (zOp w h (gA Sy 5)) y G) (hN : N ≤ 1000000000) (hy : y ≤ 60) (hyr : gI Sy 0 7 = nI y) :
    ∃ S', fX6_fall Sy = some ((), S') ∧ zY S' (zFallC (zopB w h (gA Sy 5)) Sy y 64 G) ∧ gOff [8, 9] Sy S' := by
  have key := z_lp (E := fun r : Unit × gS => some r) 64 (fun f c (t : gS) => fX6_fall_2 f t (nI c))
    (fun c t => zY t (zFallC (zopB w h (gA Sy 5)) Sy y c G) ∧ gOff [8, 9] Sy t)
    (fun r => zY r.2 (zFallC (zopB w h (gA Sy 5)) Sy y 64 G) ∧ gOff [8, 9] Sy r.2) (by
      rintro f c T hc ⟨h1, h2⟩
      rcases Nat.lt_or_ge c 64 with hc | hc
      · right
        refine ⟨hc, ?_⟩
        have H2 : zRd w h Sx T := zRd_y H h2 (by simp)
        have e5 : gA T = gA Sy ∨ True := Or.inr trivial
        have eA : ∀ o, o ≠ 8 → o ≠ 9 → gA T o = gA Sy o := fun o a b => (h2 o (by simp; exact ⟨a, b⟩)).2.1
        have hi := z_isIce H2.1 hc
        rw [eA 5 (by omega) (by omega)] at hi
        cases hb : zopB w h (gA Sy 5) c with
        | false =>
          rw [zFallC_f hb]
          refine ⟨T, ?_, h1, h2⟩
          show fX6_fall_2L (fX6_fall_2 f) T (nI c) = _
          unfold fX6_fall_2L
          refine z_f (z_nle (a := 64) hc (by omega)) (z_b hi ?_)
          rw [hb]
          refine z_t rfl ?_
          show fX6_fall_2 f T (nI c + 1) = _
          rw [z_inc]
        | true =>
          have ho := zopB_iff.1 hb
          have hJc := zFallC_J H hy hJ c (by omega)
          have l1 := zRd_lev H hc
          have l2 := zRd_sn H hc
          have l3 := zRd_m0 H hc
          have l4 := zRd_hun H hc
          have hyT : gI T 0 7 = nI y := by rw [(h2 0 (by simp)).1]; exact hyr
          have hr : gJ T 8 (61 * c + y) = lN ((zFallC (zopB w h (gA Sy 5)) Sy y c G).1 c y) := h1.1 c y hc (by omega)
          have a1 := zY_set (c := c) (k := y) (x := (zFallC (zopB w h (gA Sy 5)) Sy y c G).1 c y + zsn Sy c) (v := gJ T 8 (61 * c + y) + lN (zsn Sy c)) h1 (by omega) (by rw [hr, lN_add])
          have a2 := zY_sum (i := 244 + y) (v := lN (zsn Sy c)) a1 (by omega) (by omega)
          have a3 := zFall0_J l2.2.2 hc ho hy hJc
          have oo : gOff [8, 9] T (gJ_up (gJ_up T 8 (61 * c + y) (gJ T 8 (61 * c + y) + lN (zsn Sy c))) 9 (244 + y) (gJ (gJ_up T 8 (61 * c + y) (gJ T 8 (61 * c + y) + lN (zsn Sy c))) 9 (244 + y) + lN (zsn Sy c))) := gOff_tr (gOff_J (by simp)) (gOff_J (by simp))
          obtain ⟨S', k1, k2, k3⟩ := z_fall126 (m := zmlt Sy c) (fX6_fall_2 f) a2 a3 (by omega) hy hc ho (by have := zmlt_le H hc; omega)
          refine ⟨S', ?_, by rw [zFallC_t hb]; exact k2, gOff_tr h2 (gOff_tr oo k3)⟩
          show fX6_fall_2L (fX6_fall_2 f) T (nI c) = _
          unfold fX6_fall_2L
          refine z_f (z_nle (a := 64) hc (by omega)) (z_b hi ?_)
          rw [hb]
          refine z_f (by decide) (z_c rfl hc (by omega) ?_)
          rw [z_cl (by omega), eA 7 (by omega) (by omega), l1.1, z_k1000 l1.2.2]
          refine z_c rfl (by omega) (by omega) ?_
          rw [z_let, z_cl (by omega), eA 10 (by omega) (by omega), l2.1, hyT, z_61m]
          refine z_c rfl (by omega) (by omega) (z_c rfl (by omega) (by omega) ?_)
          rw [z_let, z_cl (by omega), z_wide (by omega)]
          rw [show gI (gJ_up T 8 (61 * c + y) (gJ T 8 (61 * c + y) + lN (zsn Sy c))) 0 7 = nI y from hyT, z_p 244]
          refine z_c rfl (by omega) (by omega) (z_c rfl (by omega) (by omega) ?_)
          rw [z_let, z_cl (by omega)]
          refine z_c rfl hc (by omega) ?_
          have eA2 : ∀ o, o ≠ 8 → o ≠ 9 → gA (gJ_up (gJ_up T 8 (61 * c + y) (gJ T 8 (61 * c + y) + lN (zsn Sy c))) 9 (244 + y) (gJ (gJ_up T 8 (61 * c + y) (gJ T 8 (61 * c + y) + lN (zsn Sy c))) 9 (244 + y) + lN (zsn Sy c))) o = gA Sy o := eA
          rw [eA2 7 (by omega) (by omega), l1.1, z_k1000 l1.2.2]
          refine z_c rfl (by omega) (by omega) ?_
          rw [z_let, z_cl (by omega), eA2 11 (by omega) (by omega), l3.1, z_wide (by omega)]
          have k1' : fX6_fall_122 (fX6_fall_2 f) (gJ_up (gJ_up T 8 (61 * c + y) (gJ T 8 (61 * c + y) + lN (zsn Sy c))) 9 (244 + y) (gJ (gJ_up T 8 (61 * c + y) (gJ T 8 (61 * c + y) + lN (zsn Sy c))) 9 (244 + y) + lN (zsn Sy c))) (nI c) (lN (zmlt Sy c)) = fX6_fall_2 f S' (nI (c + 1)) := k1
          have k106 : (gA Sy 5 c = 2 ∨ gA Sy 5 c = 3) → fX6_fall_106 (fX6_fall_2 f) (gJ_up (gJ_up T 8 (61 * c + y) (gJ T 8 (61 * c + y) + lN (zsn Sy c))) 9 (244 + y) (gJ (gJ_up T 8 (61 * c + y) (gJ T 8 (61 * c + y) + lN (zsn Sy c))) 9 (244 + y) + lN (zsn Sy c))) (nI c) (lN (zm0 Sy c)) = fX6_fall_2 f S' (nI (c + 1)) := fun k => by
            refine z_c rfl hc (by omega) ?_
            rw [z_let, z_cl (by omega), eA2 6 (by omega) (by omega), l4.1, z_hundr l3.2.2 l4.2.2, ← k1']
            congr 1
            unfold zmlt
            rw [if_pos k]
          refine z_c rfl hc (by omega) ?_
          rw [eA2 5 (by omega) (by omega)]
          by_cases q2 : gA Sy 5 c = 2
          · exact z_t q2 (k106 (Or.inl q2))
          · refine z_f q2 (z_c rfl hc (by omega) ?_)
            by_cases q3 : gA Sy 5 c = 3
            · exact z_t q3 (k106 (Or.inr q3))
            · refine z_f q3 ?_
              rw [← k1']
              congr 1
              unfold zmlt
              rw [if_neg (fun e => e.elim q2 q3)]
      · have e : c = 64 := by omega
        subst e
        refine Or.inl ⟨((), T), ?_, h1, h2⟩
        show fX6_fall_2L (fX6_fall_2 f) T (nI 64) = _
        unfold fX6_fall_2L
        exact z_t (z_len (a := 64) (b := 64) (by omega) (by omega)) rfl)
    64 gx_fuel 0 Sy (by omega) (by have := z_fuelB; omega) (by omega) ⟨hY, gOff_rf⟩
  obtain ⟨⟨u, S'⟩, k1, k2, k3⟩ := key
  exact ⟨S', k1, k2, k3⟩

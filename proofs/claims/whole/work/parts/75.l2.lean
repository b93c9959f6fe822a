/-! turn: the reference -/
theorem z_AuA (S : gS) (o k : Nat) (r : Nat → Int32) (v : Int32) : gA_up (gA_row S o r) o k v = gA_row S o (fun j => if j = k then v else r j) := by
  unfold gA_up gA_row
  congr 2
  funext i j
  by_cases hi : i = o
  · subst hi; simp [gup, grow]
  · simp [gup, grow, hi]
theorem z_tn25 (S : gS) (v : Int32) : ∃ S', fX6_turn_25 gx_fuel S v 0 = fX6_turn_75 gx_fuel S' v 0 ∧ gOff [17, 18, 19] S S' ∧ ∀ k, k < 64 → gA S' 17 k = gA S 5 k ∧ gA S' 18 k = gA S 6 k ∧ gA S' 19 k = gA S 7 k := by
  have key := z_lp (E := fun r : gS => fX6_turn_75 gx_fuel r v 0) 64 (fun f k t => fX6_turn_25 f t v (nI k)) (fun k t => gOff [17, 18, 19] S t ∧ ∀ j, j < k → gA t 17 j = gA S 5 j ∧ gA t 18 j = gA S 6 j ∧ gA t 19 j = gA S 7 j) (fun r => gOff [17, 18, 19] S r ∧ ∀ j, j < 64 → gA r 17 j = gA S 5 j ∧ gA r 18 j = gA S 6 j ∧ gA r 19 j = gA S 7 j) (by
    intro f k t hk hp
    obtain ⟨p1, p2⟩ := hp
    rcases Nat.lt_or_ge k 64 with h1 | h1
    · refine Or.inr ⟨h1, gA_up (gA_up (gA_up t 17 k (gA t 5 k)) 18 k (gA t 6 k)) 19 k (gA t 7 k), ?_, ?_, fun j hj => ?_⟩
      · show fX6_turn_25L (fX6_turn_25 f) t v (nI k) = _
        unfold fX6_turn_25L
        refine z_f (z_nle (a := 64) h1 (by omega)) (z_c rfl h1 (by omega) (z_c rfl h1 (by omega) ?_))
        rw [z_let]
        refine z_c rfl h1 (by omega) (z_c rfl h1 (by omega) ?_)
        rw [z_let]
        refine z_c rfl h1 (by omega) (z_c rfl h1 (by omega) ?_)
        rw [z_let, z_let, z_cl (by omega), z_inc, z_Ao (p := 7) (o := 18) _ _ _ (by omega), z_Ao (p := 7) (o := 17) _ _ _ (by omega), z_Ao (p := 6) (o := 17) _ _ _ (by omega)]
      · exact gOff_tr p1 (gOff_tr (gOff_tr (gOff_A (by simp)) (gOff_A (by simp))) (gOff_A (by simp)))
      · rw [z_Ao (p := 17) (o := 19) _ _ _ (by omega), z_Ao (p := 17) (o := 18) _ _ _ (by omega), z_Ar, z_Ao (p := 18) (o := 19) _ _ _ (by omega), z_Ar, z_Ao (p := 18) (o := 17) _ _ _ (by omega), z_Ar, z_Ao (p := 19) (o := 18) _ _ _ (by omega), z_Ao (p := 19) (o := 17) _ _ _ (by omega)]
        rw [(p1 5 (by simp)).2.1, (p1 6 (by simp)).2.1, (p1 7 (by simp)).2.1]
        dsimp only
        by_cases e : j = k
        · rw [if_pos e, if_pos e, if_pos e, e]
          exact ⟨rfl, rfl, rfl⟩
        · rw [if_neg e, if_neg e, if_neg e]
          exact p2 j (by omega)
    · refine Or.inl ⟨t, ?_, p1, fun j hj => p2 j (by omega)⟩
      show fX6_turn_25L (fX6_turn_25 f) t v (nI k) = _
      unfold fX6_turn_25L
      exact z_t (z_len (a := 64) h1 (by omega)) rfl) 64 gx_fuel 0 S (by omega) (by have := z_fuelB; omega) (by omega) ⟨gOff_rf, fun j hj => absurd hj (by omega)⟩
  exact key
theorem z_tn75 (S : gS) (v : Int32) : ∃ S' f, fX6_turn_75 gx_fuel S v 0 = fX6_turn_75 (f + 1) S' v (nI 3904) ∧ gOff [8, 15] S S' ∧ ∀ k, k < 3904 → gJ S' 15 k = gJ S 8 k ∧ gJ S' 8 k = 0 := by
  have key : ∀ (d f k : Nat) (t : gS), k + d = 3904 → d < f → gOff [8, 15] S t → (∀ j, j < 3904 → (j < k → gJ t 15 j = gJ S 8 j ∧ gJ t 8 j = 0) ∧ (k ≤ j → gJ t 8 j = gJ S 8 j)) → ∃ S' q, fX6_turn_75 f t v (nI k) = fX6_turn_75 (q + 1) S' v (nI 3904) ∧ gOff [8, 15] S S' ∧ ∀ k, k < 3904 → gJ S' 15 k = gJ S 8 k ∧ gJ S' 8 k = 0 := by
    intro d
    induction d with
    | zero =>
      intro f k t e hf o hp
      obtain ⟨f, rfl⟩ : ∃ q, f = q + 1 := ⟨f - 1, by omega⟩
      have e2 : k = 3904 := by omega
      rw [e2] at hp ⊢
      exact ⟨t, f, rfl, o, fun j hj => (hp j hj).1 hj⟩
    | succ d ih =>
      intro f k t e hf o hp
      obtain ⟨f, rfl⟩ : ∃ q, f = q + 1 := ⟨f - 1, by omega⟩
      have hk : k < 3904 := by omega
      obtain ⟨S', q, k1, k2, k3⟩ := ih f (k + 1) (gJ_up (gJ_up t 15 k (gJ t 8 k)) 8 k 0) (by omega) (by omega) (gOff_tr o (gOff_tr (gOff_J (by simp)) (gOff_J (by simp)))) (fun j hj => by
        rw [z_Jo (p := 15) (o := 8) _ _ _ (by omega), z_Jr, z_Jr, z_Jo (p := 8) (o := 15) _ _ _ (by omega)]
        dsimp only
        by_cases e3 : j = k
        · rw [if_pos e3, if_pos e3, e3]
          exact ⟨fun _ => ⟨(hp k hk).2 (Nat.le_refl k), rfl⟩, fun z => absurd z (by omega)⟩
        · rw [if_neg e3, if_neg e3]
          exact ⟨fun z => (hp j hj).1 (by omega), fun z => (hp j hj).2 (by omega)⟩)
      refine ⟨S', q, Eq.trans ?_ k1, k2, k3⟩
      show fX6_turn_75L (fX6_turn_75 f) t v (nI k) = _
      unfold fX6_turn_75L
      refine z_f (z_nle (a := 3904) hk (by omega)) (z_c rfl hk (by omega) (z_c rfl hk (by omega) ?_))
      rw [z_let]
      refine z_c rfl hk (by omega) ?_
      rw [z_let, z_let, z_cl (by omega), z_inc]
  exact key 3904 gx_fuel 0 S (by omega) (by have := z_fuelB; omega) gOff_rf (fun j hj => ⟨fun z => absurd z (by omega), fun _ => rfl⟩)
theorem z_tn249 (K146 : gS → Int32 → Int32 → Int32 → Int32 → Option (Int32 × gS)) (K155 : gS → Int32 → Int32 → Int32 → Int32 → Int32 → Option (Int32 × gS)) (S : gS) (v1 v2 v3 v4 : Int32) {x c o : Nat} (hc : c < 64) (ho : o < 64) :
    fX6_turn_249 K146 K155 gx_fuel S v1 v2 v3 v4 (nI x) (nI c) (nI o) 0 = K155 (gJ_row S 8 (fun i => if 61 * o ≤ i ∧ i < 61 * o + 61 then gJ S 15 (61 * c + (i - 61 * o)) else gJ S 8 i)) v1 v2 v3 v4 (nI (x + 1)) := by
  have key := z_lp (E := fun r : gS => K155 r v1 v2 v3 v4 (nI (x + 1))) 61 (fun f k t => fX6_turn_249 K146 K155 f t v1 v2 v3 v4 (nI x) (nI c) (nI o) (nI k)) (fun k t => t = gJ_row S 8 (fun i => if 61 * o ≤ i ∧ i < 61 * o + k then gJ S 15 (61 * c + (i - 61 * o)) else gJ S 8 i)) (fun r => r = gJ_row S 8 (fun i => if 61 * o ≤ i ∧ i < 61 * o + 61 then gJ S 15 (61 * c + (i - 61 * o)) else gJ S 8 i)) (by
    intro f k t hk hp
    rcases Nat.lt_or_ge k 61 with h1 | h1
    · refine Or.inr ⟨h1, gJ_up t 8 (61 * o + k) (gJ S 15 (61 * c + k)), ?_, ?_⟩
      · show fX6_turn_249L K146 K155 (fX6_turn_249 K146 K155 f) t v1 v2 v3 v4 (nI x) (nI c) (nI o) (nI k) = _
        unfold fX6_turn_249L
        rw [z_61m, z_61m]
        refine z_f (z_nle (a := 61) h1 (by omega)) (z_c rfl (by omega) (by omega) (z_c rfl (by omega) (by omega) ?_))
        have e15 : gJ t 15 = gJ S 15 := by rw [hp, z_JrJ, if_neg (by omega)]
        rw [z_let, z_let, z_cl (n := 61 * o + k) (by omega), z_cl (n := 61 * c + k) (by omega), z_inc, e15]
      · rw [hp, z_uprow]
        exact z_rowcg _ _ (fun i => by
          by_cases h2 : i = 61 * o + k
          · rw [if_pos h2, if_pos (by omega), h2]
            congr 1
            omega
          · rw [if_neg h2]
            by_cases h3 : 61 * o ≤ i ∧ i < 61 * o + k
            · rw [if_pos h3, if_pos (by omega)]
            · rw [if_neg h3, if_neg (by omega)])
    · refine Or.inl ⟨t, ?_, by rw [hp, show k = 61 by omega]⟩
      show fX6_turn_249L K146 K155 (fX6_turn_249 K146 K155 f) t v1 v2 v3 v4 (nI x) (nI c) (nI o) (nI k) = _
      unfold fX6_turn_249L
      refine z_t (z_len (a := 61) h1 (by omega)) ?_
      rw [z_let, z_inc]) 61 gx_fuel 0 S (by omega) (by have := z_fuelB; omega) (by omega) (by
        rw [z_rowcg S 8 (r2 := gJ S 8) (fun k => by rw [if_neg (by omega)]), z_rowself])
  obtain ⟨r, h1, h2⟩ := key
  rw [h2] at h1
  exact h1
/-- a row, where the cells before c have come to their places -/
def zQt (p2 : Nat → Bool) (s : Nat → Nat) (c : Nat) (a r : Nat → Int32) : Prop := ∀ j, j < 64 → r j = if p2 j = true ∧ s j < c then a (s j) else a j
theorem zQt_0 {p2 : Nat → Bool} {s : Nat → Nat} {a : Nat → Int32} : zQt p2 s 0 a a := fun j _ => by rw [if_neg (by omega)]
theorem zQt_s {w h w2 h2 c : Nat} {s t : Nat → Nat} {a r : Nat → Int32} {v : Int32} (hb : zBij w h w2 h2 s t) (hp : zpl w h c = true) (hv : v = a c) (H : zQt (zpl w2 h2) s c a r) : zQt (zpl w2 h2) s (c + 1) a (fun j => if j = t c then v else r j) := fun j hj => by
  obtain ⟨t1, t2, t3⟩ := zBij_t hb hp
  show (if j = t c then v else r j) = _
  by_cases e : j = t c
  · rw [if_pos e, e, if_pos ⟨t2, by omega⟩, t3, hv]
  · rw [if_neg e, H j hj]
    by_cases q : zpl w2 h2 j = true ∧ s j < c
    · rw [if_pos q, if_pos ⟨q.1, by omega⟩]
    · rw [if_neg q, if_neg (fun z => ?_)]
      rcases Nat.lt_or_ge (s j) c with u | u
      · exact q ⟨z.1, u⟩
      · have e2 : s j = c := by omega
        exact e (by rw [← e2]; exact (zBij_s hb z.1).2.2.symm)
theorem zGap_s {w h w2 h2 c d j : Nat} {s t : Nat → Nat} (hb : zBij w h w2 h2 s t) (hcd : c ≤ d) (hg : zGap w h c d) : (zpl w2 h2 j = true ∧ s j < d) ↔ (zpl w2 h2 j = true ∧ s j < c) := by
  constructor
  · intro z
    rcases Nat.lt_or_ge (s j) c with u | u
    · exact ⟨z.1, u⟩
    · exact absurd (zpl_iff.1 (zBij_s hb z.1).2.1) (hg _ u z.2)
  · exact fun z => ⟨z.1, by omega⟩
theorem zQt_sk {w h w2 h2 c d : Nat} {s t : Nat → Nat} {a r : Nat → Int32} (hb : zBij w h w2 h2 s t) (hcd : c ≤ d) (hg : zGap w h c d) (H : zQt (zpl w2 h2) s c a r) : zQt (zpl w2 h2) s d a r := fun j hj => by
  rw [H j hj]
  by_cases q : zpl w2 h2 j = true ∧ s j < c
  · rw [if_pos q, if_pos ((zGap_s hb hcd hg).2 q)]
  · rw [if_neg q, if_neg (fun z => q ((zGap_s hb hcd hg).1 z))]
theorem zQt_end {w h w2 h2 : Nat} {s t : Nat → Nat} {a r : Nat → Int32} (hb : zBij w h w2 h2 s t) (H : zQt (zpl w2 h2) s 64 a r) {j : Nat} (hj : j < 64) : r j = zKt w2 h2 s a j := by
  rw [H j hj]
  unfold zKt
  by_cases q : zpl w2 h2 j = true
  · rw [if_pos ⟨q, (zBij_s hb q).1⟩, if_pos q]
  · rw [if_neg (fun z => q z.1), if_neg q]
def zPYT (w2 h2 : Nat) (s : Nat → Nat) (B : gS) (c : Nat) (S : gS) : Prop :=
  zQt (zpl w2 h2) s c (gA B 5) (gA S 5) ∧ zQt (zpl w2 h2) s c (gA B 6) (gA S 6) ∧ zQt (zpl w2 h2) s c (gA B 7) (gA S 7) ∧
  (∀ j k, j < 64 → k < 61 → gJ S 8 (61 * j + k) = if zpl w2 h2 j = true ∧ s j < c then gJ B 15 (61 * s j + k) else 0) ∧ gOff [5, 6, 7, 8] B S
theorem z_tnY {w h w2 h2 : Nat} {v : Int32} {s t : Nat → Nat} {B : gS} (hb : zBij w h w2 h2 s t) (e17 : ∀ k, k < 64 → gA B 17 k = gA B 5 k ∧ gA B 18 k = gA B 6 k ∧ gA B 19 k = gA B 7 k) (e8 : ∀ k, k < 3904 → gJ B 8 k = 0)
    (hv : (v = 0 ∧ ∀ x y, x < w → y < h → t (8 * y + x) = 8 * y + w - 1 - x) ∨ (¬ v = 0 ∧ ∀ x y, x < w → y < h → t (8 * y + x) = 8 * x + h - 1 - y)) :
    ∃ S f, fX6_turn_146 gx_fuel B v (nI w) (nI h) 0 = fX6_turn_146 (f + 1) S v (nI w) (nI h) (nI h) ∧ zPYT w2 h2 s B 64 S := by
  have hw := hb.1
  have hh := hb.2.1
  have key := z_nest (w := w) (h := h) (fun f y S => fX6_turn_146 f S v (nI w) (nI h) (nI y)) (fun f g y x S => fX6_turn_155 (fX6_turn_146 f) g S v (nI w) (nI h) (nI y) (nI x)) (zPYT w2 h2 s B) hw hh
    (fun f y S hy hp => by
      show fX6_turn_146L (fX6_turn_146 f) S v (nI w) (nI h) (nI y) = _
      unfold fX6_turn_146L
      exact z_f (z_nle hy (by omega)) rfl)
    (fun f g y S hy hp => by
      show fX6_turn_155L (fX6_turn_146 f) (fX6_turn_155 (fX6_turn_146 f) g) S v (nI w) (nI h) (nI y) (nI w) = _
      unfold fX6_turn_155L
      refine z_t (z_len (Nat.le_refl _) (by omega)) ?_
      rw [z_let, z_inc])
    (fun f g y x S hy hx hp => by
      obtain ⟨p1, p2, p3, p4, p5⟩ := hp
      obtain ⟨hc, c1, c2⟩ := z_xy hx hy hw hh
      have hpl : zpl w h (8 * y + x) = true := zpl_iff.2 ⟨by omega, by omega⟩
      obtain ⟨t1, t2, t3⟩ := zBij_t hb hpl
      obtain ⟨q17, q18, q19⟩ := e17 _ hc
      obtain ⟨W, hW⟩ : ∃ W, W = gA_up (gA_up (gA_up S 5 (t (8 * y + x)) (gA B 5 (8 * y + x))) 6 (t (8 * y + x)) (gA B 6 (8 * y + x))) 7 (t (8 * y + x)) (gA B 7 (8 * y + x)) := ⟨_, rfl⟩
      have e202 : fX6_turn_202 (fX6_turn_146 f) (fX6_turn_155 (fX6_turn_146 f) g) S v (nI w) (nI h) (nI y) (nI x) (nI (8 * y + x)) (nI (t (8 * y + x))) = fX6_turn_155 (fX6_turn_146 f) g (gJ_row W 8 (fun i => if 61 * t (8 * y + x) ≤ i ∧ i < 61 * t (8 * y + x) + 61 then gJ W 15 (61 * (8 * y + x) + (i - 61 * t (8 * y + x))) else gJ W 8 i)) v (nI w) (nI h) (nI y) (nI (x + 1)) := by
        unfold fX6_turn_202
        refine z_c rfl hc (by omega) (z_c rfl t1 (by omega) ?_)
        rw [z_let]
        refine z_c rfl hc (by omega) (z_c rfl t1 (by omega) ?_)
        rw [z_let]
        refine z_c rfl hc (by omega) (z_c rfl t1 (by omega) ?_)
        rw [z_let, z_cl (n := 8 * y + x) (by omega), z_cl (n := t (8 * y + x)) (by omega), z_Ao (p := 19) (o := 6) _ _ _ (by omega), z_Ao (p := 19) (o := 5) _ _ _ (by omega), z_Ao (p := 18) (o := 5) _ _ _ (by omega), (p5 17 (by simp)).2.1, (p5 18 (by simp)).2.1, (p5 19 (by simp)).2.1, q17, q18, q19, ← hW]
        exact z_tn249 _ _ W _ _ _ _ hc t1
      have wJ : gJ W = gJ S := by rw [hW]; rfl
      refine ⟨gJ_row W 8 (fun i => if 61 * t (8 * y + x) ≤ i ∧ i < 61 * t (8 * y + x) + 61 then gJ W 15 (61 * (8 * y + x) + (i - 61 * t (8 * y + x))) else gJ W 8 i), ?_, ?_, ?_, ?_, fun j k hj hk => ?_, ?_⟩
      · show fX6_turn_155L (fX6_turn_146 f) (fX6_turn_155 (fX6_turn_146 f) g) S v (nI w) (nI h) (nI y) (nI x) = _
        unfold fX6_turn_155L
        refine z_f (z_nle hx (by omega)) ?_
        rw [z_let, z_yplace S]
        rcases hv with ⟨v0, hv⟩ | ⟨v0, hv⟩
        · have u := hv x y hx hy
          have e : (8 : Int32) * nI y + nI w - 1 - nI x = nI (t (8 * y + x)) := by
            rw [z_lit 8, z_mul, z_add, show nI (8 * y + w) - 1 = nI (8 * y + w - 1) from z_sub (b := 1) (by omega), z_sub (by omega), u]
          refine z_t v0 ?_
          rw [e]
          exact e202
        · have u := hv x y hx hy
          have e : (8 : Int32) * nI x + nI h - 1 - nI y = nI (t (8 * y + x)) := by
            rw [z_lit 8, z_mul, z_add, show nI (8 * x + h) - 1 = nI (8 * x + h - 1) from z_sub (b := 1) (by omega), z_sub (by omega), u]
          refine z_f v0 ?_
          rw [e]
          exact e202
      · rw [z_ArJ, hW, z_Ao _ _ _ (by omega), z_Ao _ _ _ (by omega), z_Ar]
        exact zQt_s hb hpl rfl p1
      · rw [z_ArJ, hW, z_Ao _ _ _ (by omega), z_Ar, z_Ao _ _ _ (by omega)]
        exact zQt_s hb hpl rfl p2
      · rw [z_ArJ, hW, z_Ar, z_Ao _ _ _ (by omega), z_Ao _ _ _ (by omega)]
        exact zQt_s hb hpl rfl p3
      · rw [z_JrJ, if_pos rfl, wJ, (p5 15 (by simp)).2.2]
        by_cases e : j = t (8 * y + x)
        · rw [if_pos (by omega), e, if_pos ⟨t2, by omega⟩, t3]
          congr 1
          omega
        · rw [if_neg (by omega), p4 j k hj hk]
          by_cases q : zpl w2 h2 j = true ∧ s j < 8 * y + x
          · rw [if_pos q, if_pos ⟨q.1, by omega⟩]
          · rw [if_neg q, if_neg (fun z => ?_)]
            rcases Nat.lt_or_ge (s j) (8 * y + x) with u | u
            · exact q ⟨z.1, u⟩
            · have e2 : s j = 8 * y + x := by omega
              exact e (by rw [← e2]; exact (zBij_s hb z.1).2.2.symm)
      · refine gOff_tr p5 (gOff_tr ?_ (gOff_rJ (by simp)))
        rw [hW]
        exact gOff_tr (gOff_tr (gOff_A (by simp)) (gOff_A (by simp))) (gOff_A (by simp)))
    (fun y S hy hp => by
      obtain ⟨p1, p2, p3, p4, p5⟩ := hp
      refine ⟨zQt_sk hb (by omega) zGap_row p1, zQt_sk hb (by omega) zGap_row p2, zQt_sk hb (by omega) zGap_row p3, fun j k hj hk => ?_, p5⟩
      rw [p4 j k hj hk]
      by_cases q : zpl w2 h2 j = true ∧ s j < 8 * y + w
      · rw [if_pos q, if_pos ((zGap_s hb (by omega) zGap_row).2 q)]
      · rw [if_neg q, if_neg (fun z => q ((zGap_s hb (by omega) zGap_row).1 z))]) B ⟨zQt_0, zQt_0, zQt_0, fun j k hj hk => by rw [if_neg (by omega), e8 _ (by omega)], gOff_rf⟩
  obtain ⟨f, S, k1, p1, p2, p3, p4, p5⟩ := key
  refine ⟨S, f, k1, zQt_sk hb (by omega) zGap_end p1, zQt_sk hb (by omega) zGap_end p2, zQt_sk hb (by omega) zGap_end p3, fun j k hj hk => ?_, p5⟩
  rw [p4 j k hj hk]
  by_cases q : zpl w2 h2 j = true ∧ s j < 8 * h
  · rw [if_pos q, if_pos ((zGap_s hb (by omega) zGap_end).2 q)]
  · rw [if_neg q, if_neg (fun z => q ((zGap_s hb (by omega) zGap_end).1 z))]

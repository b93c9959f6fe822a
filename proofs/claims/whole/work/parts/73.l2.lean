/-! turn: sums over the turned ground -/
theorem gsum_add (a b : Nat → Nat) : ∀ n, gsum (fun j => a j + b j) n = gsum a n + gsum b n
  | 0 => rfl
  | n + 1 => by
    show gsum (fun j => a j + b j) n + (a n + b n) = gsum a n + a n + (gsum b n + b n)
    rw [gsum_add a b n]
    omega
theorem gsum_swap (F : Nat → Nat → Nat) (m : Nat) : ∀ n, gsum (fun i => gsum (fun j => F i j) m) n = gsum (fun j => gsum (fun i => F i j) n) m
  | 0 => (gsum_0 (fun _ _ => rfl)).symm
  | n + 1 => by
    show gsum (fun i => gsum (fun j => F i j) m) n + gsum (fun j => F n j) m = gsum (fun j => gsum (fun i => F i j) n + F n j) m
    rw [gsum_add, gsum_swap F m n]
theorem gsum_one {n a : Nat} (v : Nat) (h : a < n) : gsum (fun j => if j = a then v else 0) n = v := by
  have e := gsum_up (fun _ => 0) v h
  rw [gsum_0 (f := fun _ => 0) (fun _ _ => rfl)] at e
  have e2 : gsum (fun j => if j = a then v else 0) n + 0 = 0 + v := e
  omega
theorem gsum_perm {σ τ : Nat → Nat} {p q : Nat → Bool} (h1 : ∀ i, i < 64 → p i = true → σ i < 64 ∧ q (σ i) = true ∧ τ (σ i) = i) (h2 : ∀ j, j < 64 → q j = true → τ j < 64 ∧ p (τ j) = true ∧ σ (τ j) = j) (f : Nat → Nat) :
    gsum (fun i => if p i = true then f (σ i) else 0) 64 = gsum (fun j => if q j = true then f j else 0) 64 := by
  have e1 : gsum (fun i => if p i = true then f (σ i) else 0) 64 = gsum (fun i => gsum (fun j => if p i = true ∧ σ i = j then f j else 0) 64) 64 := gsum_cg (fun i hi => by
    by_cases hp : p i = true
    · rw [if_pos hp, gsum_cg (f := fun j => if p i = true ∧ σ i = j then f j else 0) (f2 := fun j => if j = σ i then f (σ i) else 0) (fun j hj => by
        by_cases e : j = σ i
        · rw [if_pos e, if_pos ⟨hp, e.symm⟩, e]
        · rw [if_neg e, if_neg (fun z => e z.2.symm)])]
      exact (gsum_one _ (h1 i hi hp).1).symm
    · rw [if_neg hp]
      exact (gsum_0 (fun j _ => if_neg (fun z => hp z.1))).symm)
  have e2 : gsum (fun j => gsum (fun i => if p i = true ∧ σ i = j then f j else 0) 64) 64 = gsum (fun j => if q j = true then f j else 0) 64 := gsum_cg (fun j hj => by
    by_cases hq : q j = true
    · obtain ⟨t1, t2, t3⟩ := h2 j hj hq
      rw [if_pos hq, gsum_cg (f := fun i => if p i = true ∧ σ i = j then f j else 0) (f2 := fun i => if i = τ j then f j else 0) (fun i hi => by
        by_cases e : i = τ j
        · rw [if_pos e, if_pos ⟨by rw [e]; exact t2, by rw [e]; exact t3⟩]
        · rw [if_neg e, if_neg (fun z => e (by rw [← z.2]; exact (h1 i hi z.1).2.2.symm))])]
      exact gsum_one _ t1
    · rw [if_neg hq]
      exact gsum_0 (fun i hi => if_neg (fun z => hq (by rw [← z.2]; exact (h1 i hi z.1).2.1))))
  rw [e1, gsum_swap, e2]
/-- the ground of w2, h2 is that of w, h turned: s tells where a cell came from, t where it comes to -/
def zBij (w h w2 h2 : Nat) (s t : Nat → Nat) : Prop := w ≤ 8 ∧ h ≤ 8 ∧ w2 ≤ 8 ∧ h2 ≤ 8 ∧ (∀ c, zpl w2 h2 c = true → zpl w h (s c) = true ∧ t (s c) = c) ∧ ∀ c, zpl w h c = true → zpl w2 h2 (t c) = true ∧ s (t c) = c
theorem zpl_lt {w h c : Nat} (hh : h ≤ 8) (H : zpl w h c = true) : c < 64 := by
  have := (zpl_iff.1 H).2
  omega
theorem zBij_s {w h w2 h2 c : Nat} {s t : Nat → Nat} (H : zBij w h w2 h2 s t) (hc : zpl w2 h2 c = true) : s c < 64 ∧ zpl w h (s c) = true ∧ t (s c) = c := by
  have q := H.2.2.2.2.1 c hc
  exact ⟨zpl_lt H.2.1 q.1, q.1, q.2⟩
theorem zBij_t {w h w2 h2 c : Nat} {s t : Nat → Nat} (H : zBij w h w2 h2 s t) (hc : zpl w h c = true) : t c < 64 ∧ zpl w2 h2 (t c) = true ∧ s (t c) = c := by
  have q := H.2.2.2.2.2 c hc
  exact ⟨zpl_lt H.2.2.2.1 q.1, q.1, q.2⟩
def zS0 (w c : Nat) : Nat := 8 * (c / 8) + (w - 1 - c % 8)
def zS1q (h c : Nat) : Nat := 8 * (h - 1 - c % 8) + c / 8
def zT1q (h c : Nat) : Nat := 8 * (c % 8) + (h - 1 - c / 8)
theorem zBij_0 {w h : Nat} (hw : w ≤ 8) (hh : h ≤ 8) : zBij w h w h (zS0 w) (zS0 w) := by
  refine ⟨hw, hh, hw, hh, fun c hc => ?_, fun c hc => ?_⟩ <;>
  · have q := zpl_iff.1 hc
    rw [zpl_iff]
    unfold zS0
    omega
theorem zBij_1 {w h : Nat} (hw : w ≤ 8) (hh : h ≤ 8) : zBij w h h w (zS1q h) (zT1q h) := by
  refine ⟨hw, hh, hh, hw, fun c hc => ?_, fun c hc => ?_⟩ <;>
  · have q := zpl_iff.1 hc
    rw [zpl_iff]
    unfold zS1q zT1q
    omega
def zTg (w2 h2 : Nat) (s : Nat → Nat) (g : Nat → Nat → Nat) (c k : Nat) : Nat := if zpl w2 h2 c = true then g (s c) k else 0
theorem zTg_sum {w h w2 h2 : Nat} {s t : Nat → Nat} (H : zBij w h w2 h2 s t) (f : Nat → Nat) (hf : ∀ j, zpl w h j = false → f j = 0) : gsum (fun i => if zpl w2 h2 i = true then f (s i) else 0) 64 = gsum f 64 := by
  rw [gsum_perm (q := zpl w h) (τ := t) (fun i _ hp => zBij_s H hp) (fun j _ hq => zBij_t H hq) f]
  refine gsum_cg (fun j _ => ?_)
  cases e : zpl w h j with
  | true => exact if_pos rfl
  | false =>
    rw [if_neg (by simp)]
    exact (hf j e).symm
theorem zTg_col {w h w2 h2 k : Nat} {s t : Nat → Nat} {g : Nat → Nat → Nat} (H : zBij w h w2 h2 s t) (hf : ∀ j k, zpl w h j = false → g j k = 0) : gsum (fun c => zTg w2 h2 s g c k) 64 = gsum (fun c => g c k) 64 :=
  zTg_sum H (fun c => g c k) (fun j hj => hf j k hj)
theorem zTg_row {w2 h2 c : Nat} {s : Nat → Nat} {g : Nat → Nat → Nat} : gsum (zTg w2 h2 s g c) 61 = if zpl w2 h2 c = true then gsum (g (s c)) 61 else 0 := by
  by_cases e : zpl w2 h2 c = true
  · rw [if_pos e]
    exact gsum_cg (fun k _ => if_pos e)
  · rw [if_neg e]
    exact gsum_0 (fun k _ => if_neg e)
theorem zTg_tot {w h w2 h2 : Nat} {s t : Nat → Nat} {g : Nat → Nat → Nat} (H : zBij w h w2 h2 s t) (hf : ∀ j k, zpl w h j = false → g j k = 0) : ztot (zTg w2 h2 s g) = ztot g := by
  unfold ztot
  rw [← zTg_sum H (fun c => gsum (g c) 61) (fun j hj => gsum_0 (fun k _ => hf j k hj))]
  exact gsum_cg (fun c _ => zTg_row)
/-- the ice on the turned ground -/
theorem zTg_ice {n w h w2 h2 y : Nat} {s t : Nat → Nat} {kd kd2 : Nat → Int32} {gr th tl ic su gr2 th2 tl2 ic2 su2 : Nat → Int64} {g : Nat → Nat → Nat} {r : Nat → Int64} (H : zBij w h w2 h2 s t) (hk : ∀ c, zpl w2 h2 c = true → kd2 c = kd (s c)) (I : zIce n w h kd y gr th tl ic su g r)
    (hg : ∀ c, zpl w2 h2 c = true → (∀ k, k < 61 → gr2 (c * 61 + k) = gr (s c * 61 + k)) ∧ th2 c = th (s c)) (hT : tl2 = tl) (hi : ∀ c k, c < 64 → k < 61 → ic2 (61 * c + k) = if zpl w2 h2 c = true then ic (61 * s c + k) else 0) (hS : su2 = su) : zIce n w2 h2 kd2 y gr2 th2 tl2 ic2 su2 (zTg w2 h2 s g) r := by
  obtain ⟨⟨x1, x2, x3⟩, ⟨y1, y2, y3⟩, i1, i2, i3, i4⟩ := I
  have hf : ∀ j k, zpl w h j = false → g j k = 0 := fun j k hj => i1 j k (fun z => by rw [zpl_iff.2 ⟨z.2.1, z.2.2.1⟩] at hj; exact absurd hj (by simp))
  have ho : ∀ c, zOp w2 h2 kd2 c → zpl w2 h2 c = true ∧ zOp w h kd (s c) := fun c hc => by
    have q : zpl w2 h2 c = true := zpl_iff.2 ⟨hc.2.1, hc.2.2.1⟩
    obtain ⟨u1, u2, -⟩ := zBij_s H q
    refine ⟨q, u1, (zpl_iff.1 u2).1, (zpl_iff.1 u2).2, ?_⟩
    rw [← hk c q]
    exact hc.2.2.2
  refine ⟨⟨fun c hc => ⟨fun k hk => ?_, ?_⟩, fun k hk => ?_, ?_⟩, ⟨fun c k hc hk => ?_, ?_, ?_⟩, fun c k hc => ?_, fun c k hk => ?_, i3, ?_⟩
  · obtain ⟨q1, q2⟩ := ho c hc
    rw [(hg c q1).1 k hk, (x1 _ q2).1 k hk]
    unfold zTg
    rw [if_pos q1]
  · obtain ⟨q1, q2⟩ := ho c hc
    rw [(hg c q1).2, (x1 _ q2).2, zTg_row, if_pos q1]
  · rw [hT, x2 k hk, zTg_col H hf]
  · rw [hT]; exact x3
  · rw [hi c k hc hk]
    unfold zTg
    by_cases e : zpl w2 h2 c = true
    · rw [if_pos e, if_pos e, y1 _ k (zBij_s H e).1 hk]
    · rw [if_neg e, if_neg e]; rfl
  · rw [hS]; exact y2
  · rw [hS]; exact y3
  · unfold zTg
    by_cases e : zpl w2 h2 c = true
    · rw [if_pos e]
      refine i1 _ k (fun z => hc ?_)
      have q := zpl_iff.1 e
      refine ⟨zpl_lt H.2.2.2.1 e, q.1, q.2, ?_⟩
      rw [hk c e]
      exact z.2.2.2
    · rw [if_neg e]
  · unfold zTg
    by_cases e : zpl w2 h2 c = true
    · rw [if_pos e]; exact i2 _ k hk
    · rw [if_neg e]
  · rw [zTg_tot H hf]; exact i4

/-! the ice: what lies in each layer of each cell, and the year's sums -/
theorem gsum_cg {f f2 : Nat → Nat} : ∀ {n : Nat}, (∀ k, k < n → f k = f2 k) → gsum f n = gsum f2 n
  | 0, _ => rfl
  | n + 1, h => by
    show gsum f n + f n = gsum f2 n + f2 n
    rw [gsum_cg (fun k hk => h k (by omega)), h n (by omega)]
theorem gsum_up (f : Nat → Nat) {k n : Nat} (x : Nat) (h : k < n) : gsum (fun j => if j = k then x else f j) n + f k = gsum f n + x := by
  induction n with
  | zero => omega
  | succ n ih =>
    show gsum (fun j => if j = k then x else f j) n + (if n = k then x else f n) + f k = gsum f n + f n + x
    rcases Nat.lt_or_ge k n with h1 | h1
    · have := ih h1
      rw [if_neg (by omega)]
      omega
    · have e : n = k := by omega
      subst e
      rw [if_pos rfl, gsum_cg (f := fun j => if j = n then x else f j) (f2 := f) (fun j hj => by rw [if_neg (by omega)])]
      omega
theorem gsum_le (f : Nat → Nat) {k n : Nat} (h : k < n) : f k ≤ gsum f n := by
  induction n with
  | zero => omega
  | succ n ih =>
    show f k ≤ gsum f n + f n
    rcases Nat.lt_or_ge k n with h1 | h1
    · have := ih h1; omega
    · rw [show k = n by omega]; omega
theorem gsum_0 {f : Nat → Nat} : ∀ {n : Nat}, (∀ k, k < n → f k = 0) → gsum f n = 0
  | 0, _ => rfl
  | n + 1, h => by
    show gsum f n + f n = 0
    rw [gsum_0 (fun k hk => h k (by omega)), h n (by omega)]
def gset (g : Nat → Nat → Nat) (c k x : Nat) : Nat → Nat → Nat := fun i j => if i = c ∧ j = k then x else g i j
def sadd (s : Nat → Int64) (i : Nat) (v : Int64) : Nat → Int64 := fun j => if j = i then s j + v else s j
theorem gset_s (g : Nat → Nat → Nat) (c k x : Nat) : gset g c k x c k = x := if_pos ⟨rfl, rfl⟩
theorem gset_o (g : Nat → Nat → Nat) {c k x i j : Nat} (h : ¬ (i = c ∧ j = k)) : gset g c k x i j = g i j := if_neg h
theorem gset_id (g : Nat → Nat → Nat) (c k : Nat) : gset g c k (g c k) = g := by
  funext i j
  unfold gset
  by_cases h : i = c ∧ j = k
  · rw [if_pos h, h.1, h.2]
  · rw [if_neg h]
theorem sadd_0 (s : Nat → Int64) (i : Nat) : sadd s i 0 = s := by
  funext j
  unfold sadd
  split <;> simp
theorem gset_row (g : Nat → Nat → Nat) (c k x : Nat) : gset g c k x c = fun j => if j = k then x else g c j := by
  funext j
  unfold gset
  by_cases h : j = k <;> simp [h]
theorem gset_rowo (g : Nat → Nat → Nat) {c k x i : Nat} (h : i ≠ c) : gset g c k x i = g i := by
  funext j
  unfold gset
  simp [h]
theorem gset_rsum (g : Nat → Nat → Nat) {c k x : Nat} (hk : k < 61) : gsum (gset g c k x c) 61 + g c k = gsum (g c) 61 + x := by
  rw [gset_row]; exact gsum_up _ _ hk
theorem gset_csum (g : Nat → Nat → Nat) {c k x : Nat} (hc : c < 64) : gsum (fun i => gset g c k x i k) 64 + g c k = gsum (fun i => g i k) 64 + x := by
  have e : (fun i => gset g c k x i k) = fun i => if i = c then x else g i k := by
    funext i
    unfold gset
    by_cases h : i = c <;> simp [h]
  rw [e]; exact gsum_up _ _ hc
theorem gset_csumo (g : Nat → Nat → Nat) {c k x j : Nat} (h : j ≠ k) : gsum (fun i => gset g c k x i j) 64 = gsum (fun i => g i j) 64 :=
  gsum_cg (fun i _ => gset_o g (fun q => h q.2))
theorem gset_tot (g : Nat → Nat → Nat) {c k x : Nat} (hc : c < 64) (hk : k < 61) : ztot (gset g c k x) + g c k = ztot g + x := by
  have h1 := gset_rsum g (c := c) (k := k) (x := x) hk
  have e : (fun i => gsum (gset g c k x i) 61) = fun i => if i = c then gsum (gset g c k x c) 61 else gsum (g i) 61 := by
    funext i
    by_cases h : i = c
    · subst h; simp
    · rw [gset_rowo g h, if_neg h]
  have h2 := gsum_up (fun i => gsum (g i) 61) (gsum (gset g c k x c) 61) hc
  rw [← e] at h2
  unfold ztot
  omega
theorem ztot_row (g : Nat → Nat → Nat) {c : Nat} (hc : c < 64) : gsum (g c) 61 ≤ ztot g := gsum_le (fun i => gsum (g i) 61) hc
theorem ztot_le (g : Nat → Nat → Nat) {c k : Nat} (hc : c < 64) (hk : k < 61) : g c k ≤ ztot g := Nat.le_trans (gsum_le (g c) hk) (ztot_row g hc)
abbrev zG := (Nat → Nat → Nat) × (Nat → Int64)
/-- what holds of the ice, within N hundredths -/
def zJn (N : Nat) (op : Nat → Prop) (y : Nat) (G : zG) : Prop :=
  (∀ c k, ¬ op c → G.1 c k = 0) ∧ (∀ c k, y < k → G.1 c k = 0) ∧ (∀ j k, 1 ≤ j → j ≤ 4 → y < k → k < 61 → G.2 (61 * j + k) = 0) ∧ ztot G.1 ≤ N
theorem zJn_in {n : Nat} {op : Nat → Prop} {y : Nat} {G : zG} : zJn (1000000 * n + 6400000 * y) op y G ↔ zIn n op y G.1 G.2 := Iff.rfl
theorem zJn_mo {N M y z : Nat} {op : Nat → Prop} {G : zG} (h : zJn N op y G) (hN : N ≤ M) (hy : y ≤ z) : zJn M op z G :=
  ⟨h.1, fun c k q => h.2.1 c k (by omega), fun j k a b q w => h.2.2.1 j k a b (by omega) w, Nat.le_trans h.2.2.2 hN⟩
/-- layer k of cell c becomes x -/
theorem zJn_set {N y c k x M : Nat} {op : Nat → Prop} {G : zG} (h : zJn N op y G) (hc : c < 64) (ho : op c ∨ x = 0) (hk : k ≤ y) (hy : y ≤ 60) (hM : N + x ≤ M + G.1 c k) : zJn M op y (gset G.1 c k x, G.2) := by
  refine ⟨fun i j hi => ?_, fun i j hj => ?_, h.2.2.1, ?_⟩
  · show gset G.1 c k x i j = 0
    by_cases e : i = c ∧ j = k
    · rcases ho with ho | ho
      · exact absurd (e.1 ▸ ho) hi
      · rw [e.1, e.2, gset_s, ho]
    · rw [gset_o _ e]; exact h.1 i j hi
  · show gset G.1 c k x i j = 0
    rw [gset_o _ (by omega)]; exact h.2.1 i j hj
  · show ztot (gset G.1 c k x) ≤ M
    have := gset_tot G.1 (c := c) (k := k) (x := x) hc (by omega)
    have := h.2.2.2
    omega
theorem zJn_s {N y i : Nat} {op : Nat → Prop} {g : Nat → Nat → Nat} {s : Nat → Int64} {v : Int64} (h : zJn N op y (g, s)) (hi : ∃ q k, i = 61 * q + k ∧ k ≤ y) (hy : y ≤ 60) : zJn N op y (g, sadd s i v) := by
  refine ⟨h.1, h.2.1, fun j k a b d e => ?_, h.2.2.2⟩
  obtain ⟨q, k2, e1, e2⟩ := hi
  show sadd s i v (61 * j + k) = 0
  unfold sadd
  rw [if_neg (by omega)]
  exact h.2.2.1 j k a b d e
theorem zJn_g {N y c k : Nat} {op : Nat → Prop} {G : zG} (h : zJn N op y G) (hc : c < 64) (hk : k < 61) : G.1 c k ≤ N := Nat.le_trans (ztot_le _ hc hk) h.2.2.2
theorem zJn_r {N y c : Nat} {op : Nat → Prop} {G : zG} (h : zJn N op y G) (hc : c < 64) : gsum (G.1 c) 61 ≤ N := Nat.le_trans (ztot_row _ hc) h.2.2.2
/-! m hundredths leave cell c, the youngest layers first, into the q-th sums -/
def zLose (q c : Nat) : Nat → Nat → zG → zG
  | 0, _, G => G
  | k + 1, m, G => zLose q c k (m - min m (G.1 c k)) (gset G.1 c k (G.1 c k - min m (G.1 c k)), sadd G.2 (61 * q + k) (lN (min m (G.1 c k))))
theorem zLose_n (q c : Nat) {k m : Nat} {G : zG} (h : min m (G.1 c k) = 0) : zLose q c (k + 1) m G = zLose q c k m G := by
  show zLose q c k (m - min m (G.1 c k)) (gset G.1 c k (G.1 c k - min m (G.1 c k)), sadd G.2 (61 * q + k) (lN (min m (G.1 c k)))) = _
  rw [h, Nat.sub_zero, Nat.sub_zero, gset_id]
  have : lN 0 = 0 := rfl
  rw [this, sadd_0]
theorem zLose_0 (q c : Nat) : ∀ (k : Nat) (G : zG), zLose q c k 0 G = G
  | 0, _ => rfl
  | k + 1, G => by
    rw [zLose_n q c (by omega)]
    exact zLose_0 q c k G
theorem zLose_hi (q c y m : Nat) {G : zG} (h : ∀ k, y < k → G.1 c k = 0) : ∀ d, zLose q c (y + 1 + d) m G = zLose q c (y + 1) m G
  | 0 => rfl
  | d + 1 => by
    rw [show y + 1 + (d + 1) = (y + 1 + d) + 1 by omega, zLose_n q c (by rw [h _ (by omega)]; omega)]
    exact zLose_hi q c y m h d
theorem zLose_J {N y q c : Nat} {op : Nat → Prop} (hc : c < 64) (ho : op c) (hy : y ≤ 60) : ∀ (k m : Nat) (G : zG), k ≤ y + 1 → zJn N op y G → zJn N op y (zLose q c k m G)
  | 0, _, _, _, h => h
  | k + 1, m, G, hk, h => by
    refine zLose_J hc ho hy k _ _ (by omega) ?_
    have h1 := zJn_set (x := G.1 c k - min m (G.1 c k)) (M := N) h hc (Or.inl ho) (by omega : k ≤ y) hy (by omega)
    exact zJn_s h1 ⟨q, k, rfl, by omega⟩ hy
/-! m hundredths leave cell c for cell o (none: over the ground's edge), layer by layer; b: what was there before -/
abbrev zB := (Nat → Nat → Nat) × zG
def zGet (o : Option Nat) (k t : Nat) (G : zG) : zG :=
  match o with
  | none => (G.1, sadd G.2 (122 + k) (lN t))
  | some i => (gset G.1 i k (G.1 i k + t), G.2)
def zHand1 (c : Nat) (o : Option Nat) (k t : Nat) (B : zB) : zB := (gset B.1 c k (B.1 c k - t), zGet o k t (gset B.2.1 c k (B.2.1 c k - t), B.2.2))
def zHand (c : Nat) (o : Option Nat) : Nat → Nat → zB → zB
  | 0, _, B => B
  | k + 1, m, B => zHand c o k (m - min m (B.1 c k)) (zHand1 c o k (min m (B.1 c k)) B)
theorem zHand1_0 (c : Nat) (o : Option Nat) (k : Nat) (B : zB) : zHand1 c o k 0 B = B := by
  unfold zHand1
  rw [Nat.sub_zero, Nat.sub_zero, gset_id, gset_id]
  unfold zGet
  cases o with
  | none =>
    have : lN 0 = 0 := rfl
    simp only [this, sadd_0]
  | some i => simp only [Nat.add_zero, gset_id]
theorem zHand_n (c : Nat) (o : Option Nat) {k m : Nat} {B : zB} (h : min m (B.1 c k) = 0) : zHand c o (k + 1) m B = zHand c o k m B := by
  show zHand c o k (m - min m (B.1 c k)) (zHand1 c o k (min m (B.1 c k)) B) = _
  rw [h, Nat.sub_zero, zHand1_0]
theorem zHand_0 (c : Nat) (o : Option Nat) : ∀ (k : Nat) (B : zB), zHand c o k 0 B = B
  | 0, _ => rfl
  | k + 1, B => by
    rw [zHand_n c o (by omega)]
    exact zHand_0 c o k B
theorem zHand_hi (c : Nat) (o : Option Nat) (y m : Nat) {B : zB} (h : ∀ k, y < k → B.1 c k = 0) : ∀ d, zHand c o (y + 1 + d) m B = zHand c o (y + 1) m B
  | 0 => rfl
  | d + 1 => by
    rw [show y + 1 + (d + 1) = (y + 1 + d) + 1 by omega, zHand_n c o (by rw [h _ (by omega)]; omega)]
    exact zHand_hi c o y m h d
/-- what was there before is within what is there -/
def zKn (N : Nat) (op : Nat → Prop) (y : Nat) (B : zB) : Prop := zJn N op y B.2 ∧ (∀ c k, B.1 c k ≤ B.2.1 c k)
theorem zKn_b {N y : Nat} {op : Nat → Prop} {B : zB} (h : zKn N op y B) {c k : Nat} (hk : y < k) : B.1 c k = 0 := by
  have := h.2 c k
  rw [h.1.2.1 c k hk] at this
  omega
theorem zHand1_K {N y c k t : Nat} {op : Nat → Prop} {o : Option Nat} {B : zB} (hc : c < 64) (ho : op c) (hy : y ≤ 60) (hk : k ≤ y) (hi : ∀ i, o = some i → i < 64 ∧ op i) (ht : t ≤ B.1 c k) (h : zKn N op y B) : zKn N op y (zHand1 c o k t B) := by
  obtain ⟨h1, h2⟩ := h
  have hb := h2 c k
  cases o with
  | none =>
    refine ⟨?_, fun i j => ?_⟩
    · exact zJn_s (zJn_set (x := B.2.1 c k - t) (M := N) h1 hc (Or.inl ho) hk hy (by omega)) ⟨2, k, by omega, hk⟩ hy
    · show gset B.1 c k (B.1 c k - t) i j ≤ gset B.2.1 c k (B.2.1 c k - t) i j
      by_cases e : i = c ∧ j = k
      · rw [e.1, e.2, gset_s, gset_s]; omega
      · rw [gset_o _ e, gset_o _ e]; exact h2 i j
  | some o =>
    obtain ⟨i1, i2⟩ := hi o rfl
    have hN := gset_tot B.2.1 (c := c) (k := k) (x := B.2.1 c k - t) hc (by omega)
    have h0 := h1.2.2.2
    refine ⟨?_, fun i j => ?_⟩
    · have h3 := zJn_set (x := B.2.1 c k - t) (M := N - t) h1 hc (Or.inl ho) hk hy (by
        have := ztot_le B.2.1 (c := c) (k := k) hc (by omega)
        omega)
      exact zJn_set (x := gset B.2.1 c k (B.2.1 c k - t) o k + t) (M := N) h3 i1 (Or.inl i2) hk hy (by
        show N - t + (gset B.2.1 c k (B.2.1 c k - t) o k + t) ≤ N + gset B.2.1 c k (B.2.1 c k - t) o k
        have := ztot_le B.2.1 (c := c) (k := k) hc (by omega)
        omega)
    · show gset B.1 c k (B.1 c k - t) i j ≤ gset (gset B.2.1 c k (B.2.1 c k - t)) o k (gset B.2.1 c k (B.2.1 c k - t) o k + t) i j
      have h4 : gset B.1 c k (B.1 c k - t) i j ≤ gset B.2.1 c k (B.2.1 c k - t) i j := by
        by_cases e : i = c ∧ j = k
        · rw [e.1, e.2, gset_s, gset_s]; omega
        · rw [gset_o _ e, gset_o _ e]; exact h2 i j
      by_cases e : i = o ∧ j = k
      · rw [e.1, e.2] at h4 ⊢
        rw [gset_s]; omega
      · rw [gset_o (gset B.2.1 c k (B.2.1 c k - t)) e]; exact h4
theorem zHand_K {N y c : Nat} {op : Nat → Prop} {o : Option Nat} (hc : c < 64) (ho : op c) (hy : y ≤ 60) (hi : ∀ i, o = some i → i < 64 ∧ op i) : ∀ (k m : Nat) (B : zB), k ≤ y + 1 → zKn N op y B → zKn N op y (zHand c o k m B)
  | 0, _, _, _, h => h
  | k + 1, m, B, hk, h => zHand_K hc ho hy hi k _ _ (by omega) (zHand1_K hc ho hy (by omega) hi (Nat.min_le_right _ _) h)

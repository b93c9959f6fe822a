/-! loops that end in a call of what follows -/
theorem z_lp {σ ρ T : Type} (E : ρ → T) (N : Nat) (H : Nat → Nat → σ → T) (P : Nat → σ → Prop) (Q : ρ → Prop)
    (hs : ∀ f j s, j ≤ N → P j s → (∃ r, H (f + 1) j s = E r ∧ Q r) ∨ (j < N ∧ ∃ s', H (f + 1) j s = H f (j + 1) s' ∧ P (j + 1) s')) :
    ∀ (d f j : Nat) (s : σ), N - j ≤ d → d < f → j ≤ N → P j s → ∃ r, H f j s = E r ∧ Q r := by
  intro d
  induction d with
  | zero =>
    intro f j s h1 h2 h3 hp
    obtain ⟨f, rfl⟩ : ∃ g, f = g + 1 := ⟨f - 1, by omega⟩
    rcases hs f j s h3 hp with h | ⟨h, -⟩
    · exact h
    · omega
  | succ d ih =>
    intro f j s h1 h2 h3 hp
    obtain ⟨f, rfl⟩ : ∃ g, f = g + 1 := ⟨f - 1, by omega⟩
    rcases hs f j s h3 hp with h | ⟨hj, s', e, hp'⟩
    · exact h
    · rw [e]
      exact ih f (j + 1) s' (by omega) (by omega) (by omega) hp'
theorem z_lpD {σ ρ T : Type} (E : ρ → T) (H : Nat → Nat → σ → T) (P : Nat → σ → Prop) (Q : ρ → Prop)
    (h0 : ∀ f s, P 0 s → ∃ r, H (f + 1) 0 s = E r ∧ Q r)
    (hs : ∀ f m s, P (m + 1) s → (∃ r, H (f + 1) (m + 1) s = E r ∧ Q r) ∨ (∃ s', H (f + 1) (m + 1) s = H f m s' ∧ P m s')) :
    ∀ (m f : Nat) (s : σ), m < f → P m s → ∃ r, H f m s = E r ∧ Q r := by
  intro m
  induction m with
  | zero =>
    intro f s h1 hp
    obtain ⟨f, rfl⟩ : ∃ g, f = g + 1 := ⟨f - 1, by omega⟩
    exact h0 f s hp
  | succ m ih =>
    intro f s h1 hp
    obtain ⟨f, rfl⟩ : ∃ g, f = g + 1 := ⟨f - 1, by omega⟩
    rcases hs f m s hp with h | ⟨s', e, hp'⟩
    · exact h
    · rw [e]
      exact ih f s' (by omega) hp'
/-- a loop over the listed cells -/
theorem z_lpO {σ ρ T : Type} (E : ρ → T) (p : Nat → Bool) (H : Nat → Nat → σ → T) (P : Nat → σ → Prop) (Q : ρ → Prop)
    (hk : ∀ c s, c < 64 → p c = false → P c s → P (c + 1) s)
    (hs : ∀ f c s, c < 64 → p c = true → P c s → (∃ r, H (f + 1) (zcnt p c) s = E r ∧ Q r) ∨ (∃ s', H (f + 1) (zcnt p c) s = H f (zcnt p c + 1) s' ∧ P (c + 1) s'))
    (he : ∀ f s, P 64 s → ∃ r, H (f + 1) (zcnt p 64) s = E r ∧ Q r) :
    ∀ (d f c : Nat) (s : σ), 64 - c ≤ d → d < f → c ≤ 64 → P c s → ∃ r, H f (zcnt p c) s = E r ∧ Q r := by
  intro d
  induction d with
  | zero =>
    intro f c s h1 h2 h3 hp
    obtain ⟨f, rfl⟩ : ∃ g, f = g + 1 := ⟨f - 1, by omega⟩
    have : c = 64 := by omega
    subst this
    exact he f s hp
  | succ d ih =>
    intro f c s h1 h2 h3 hp
    rcases Nat.lt_or_ge c 64 with h4 | h4
    · cases hb : p c with
      | false =>
        have e : zcnt p (c + 1) = zcnt p c := by simp [zcnt, hb]
        have := ih f (c + 1) s (by omega) (by omega) (by omega) (hk c s h4 hb hp)
        rw [e] at this
        exact this
      | true =>
        obtain ⟨f, rfl⟩ : ∃ g, f = g + 1 := ⟨f - 1, by omega⟩
        have e : zcnt p (c + 1) = zcnt p c + 1 := by simp [zcnt, hb]
        rcases hs f c s h4 hb hp with h | ⟨s', e2, hp'⟩
        · exact h
        · rw [e2, ← e]
          exact ih f (c + 1) s' (by omega) (by omega) (by omega) hp'
    · obtain ⟨f, rfl⟩ : ∃ g, f = g + 1 := ⟨f - 1, by omega⟩
      have : c = 64 := by omega
      subst this
      exact he f s hp
theorem zcnt_le (p : Nat → Bool) : ∀ n, zcnt p n ≤ n
  | 0 => Nat.le_refl 0
  | n + 1 => by
    have := zcnt_le p n
    unfold zcnt
    split <;> omega
theorem zcnt_mo (p : Nat → Bool) {a b : Nat} (h : a ≤ b) : zcnt p a ≤ zcnt p b := by
  induction b with
  | zero => rw [show a = 0 by omega]; exact Nat.le_refl _
  | succ b ih =>
    rcases Nat.lt_or_ge a (b + 1) with h1 | h1
    · have := ih (by omega)
      have h2 : zcnt p b ≤ zcnt p (b + 1) := by
        show _ ≤ zcnt p b + _
        omega
      omega
    · rw [show a = b + 1 by omega]; exact Nat.le_refl _
theorem zcnt_lt (p : Nat → Bool) {a b : Nat} (h : a < b) (hp : p a = true) : zcnt p a < zcnt p b := by
  have := zcnt_mo p (show a + 1 ≤ b by omega)
  have e : zcnt p (a + 1) = zcnt p a + 1 := by simp [zcnt, hp]
  omega
/-! a place of the ground -/
theorem z_inWt (S : gS) {x w : Nat} (h : x < w) (hw : w ≤ 8) : fX6_in S (nI x).toInt64 0 (Int32.toInt64 (nI w - 1)) = some (1, S) := by
  have e : nI w - 1 = nI (w - 1) := z_sub (a := w) (b := 1) (by omega)
  rw [e]
  exact z_inT0 S (by omega) (by omega)
theorem z_inWf (S : gS) {v : Int32} {w : Nat} (hw : w ≤ 8) (h : v < 0 ∨ nI w ≤ v) : fX6_in S v.toInt64 0 (Int32.toInt64 (nI w - 1)) = some (0, S) := by
  refine z_inF S (a := 0) (h.imp id (fun q => ?_))
  have e : (nI w - 1).toInt = (w : Int) - 1 := z_subT hw (c := 1) (by omega)
  rw [Int32.le_iff_toInt_le, nI_toInt (by omega)] at q
  rw [Int32.lt_iff_toInt_lt, e]
  omega
theorem z_plX_t {S : gS} {o w h x y : Nat} (h5 : gI S o 5 = nI w) (h6 : gI S o 6 = nI h) (hx : x < w) (hy : y < h) (hw : w ≤ 8) (hh : h ≤ 8) : fX1_placeAt o S (nI x) (nI y) = some (nI (8 * y + x), S) := by
  unfold fX1_placeAt
  refine z_f (z_nneg (by omega)) (z_f (by rw [h5]; exact z_nle hx (by omega)) (z_f (z_nneg (by omega)) (z_f (by rw [h6]; exact z_nle hy (by omega)) ?_)))
  rw [z_lit 8, z_mul, z_add, Nat.mul_comm]
theorem z_plX_f1 {S : gS} {o w : Nat} (h5 : gI S o 5 = nI w) {v v2 : Int32} (hb : v < 0 ∨ nI w ≤ v) : fX1_placeAt o S v v2 = some (-1, S) := by
  unfold fX1_placeAt
  by_cases h1 : v < 0
  · exact z_t h1 rfl
  · exact z_f h1 (z_t (by rw [h5]; exact hb.resolve_left h1) rfl)
theorem z_plX_f2 {S : gS} {o h : Nat} (h6 : gI S o 6 = nI h) {v v2 : Int32} (hb : v2 < 0 ∨ nI h ≤ v2) : fX1_placeAt o S v v2 = some (-1, S) := by
  unfold fX1_placeAt
  by_cases h1 : v < 0
  · exact z_t h1 rfl
  · refine z_f h1 ?_
    by_cases h2 : gI S o 5 ≤ v
    · exact z_t h2 rfl
    · refine z_f h2 ?_
      by_cases h3 : v2 < 0
      · exact z_t h3 rfl
      · exact z_f h3 (z_t (by rw [h6]; exact hb.resolve_left h3) rfl)
theorem z_plY_t {S : gS} {w h x y : Nat} (h5 : gI S 0 5 = nI w) (h6 : gI S 0 6 = nI h) (hx : x < w) (hy : y < h) (hw : w ≤ 8) (hh : h ≤ 8) : fX6_isPlace S (nI x) (nI y) = some (1, S) := by
  unfold fX6_isPlace
  rw [h5]
  exact z_b (z_inWt S hx hw) (z_f (by decide) (by rw [h6]; exact z_b (z_inWt S hy hh) (z_f (by decide) rfl)))
theorem z_plY_f1 {S : gS} {w : Nat} (h5 : gI S 0 5 = nI w) (hw : w ≤ 8) {v v2 : Int32} (hb : v < 0 ∨ nI w ≤ v) : fX6_isPlace S v v2 = some (0, S) := by
  unfold fX6_isPlace
  rw [h5]
  exact z_b (z_inWf S hw hb) (z_t rfl rfl)
theorem z_plY_f2 {S : gS} {w h : Nat} (h5 : gI S 0 5 = nI w) (h6 : gI S 0 6 = nI h) (hw : w ≤ 8) (hh : h ≤ 8) {v v2 : Int32} (hb : v2 < 0 ∨ nI h ≤ v2) : fX6_isPlace S v v2 = some (0, S) := by
  unfold fX6_isPlace
  rw [h5]
  rcases z_ix v (n := w) (by omega) with ⟨x, hx, rfl⟩ | h1
  · exact z_b (z_inWt S hx hw) (z_f (by decide) (by rw [h6]; exact z_b (z_inWf S hh hb) (z_t rfl rfl)))
  · exact z_b (z_inWf S hw h1) (z_t rfl rfl)
/-- a pair of numbers is a place of the ground on both sides, or on neither -/
theorem z_place {w h : Nat} {Sx Sy : gS} (H : zLand w h Sx Sy) (v1 v2 : Int32) :
    (∃ x y, x < w ∧ y < h ∧ w ≤ 8 ∧ h ≤ 8 ∧ v1 = nI x ∧ v2 = nI y ∧ fX1_placeAt 5 Sx v1 v2 = some (nI (8 * y + x), Sx) ∧ fX6_isPlace Sy v1 v2 = some (1, Sy)) ∨ (fX1_placeAt 5 Sx v1 v2 = some (-1, Sx) ∧ fX6_isPlace Sy v1 v2 = some (0, Sy)) := by
  obtain ⟨h1, h2, h3, h4, h5, -⟩ := H
  have hw : w ≤ 8 := by omega
  have hh : h ≤ 8 := by omega
  rcases z_ix v1 (n := w) (by omega) with ⟨x, hx, rfl⟩ | hb
  · rcases z_ix v2 (n := h) (by omega) with ⟨y, hy, rfl⟩ | hb
    · exact Or.inl ⟨x, y, hx, hy, hw, hh, rfl, rfl, z_plX_t h1 h2 hx hy hw hh, z_plY_t h3 h4 hx hy hw hh⟩
    · exact Or.inr ⟨z_plX_f2 h2 hb, z_plY_f2 h3 h4 hw hh hb⟩
  · exact Or.inr ⟨z_plX_f1 h1 hb, z_plY_f1 h3 hw hb⟩
/-- an int lies from 0 to b, on both sides -/
theorem z_rng (v : Int32) {a b : Nat} (hb : b + 1 = a) (ha : a < 2147483648) : (∃ j, j ≤ b ∧ v = nI j ∧ ¬ v < 0 ∧ v ≤ nI b ∧ ¬ nI b < v ∧ ∀ S, fX6_in S v.toInt64 (Int32.toInt64 0) (Int32.toInt64 (nI b)) = some (1, S)) ∨ ((v < 0 ∨ (¬ v < 0 ∧ ¬ v ≤ nI b ∧ nI b < v)) ∧ ∀ S, fX6_in S v.toInt64 (Int32.toInt64 0) (Int32.toInt64 (nI b)) = some (0, S)) := by
  rcases z_ix v (n := a) ha with ⟨j, hj, rfl⟩ | h
  · exact Or.inl ⟨j, by omega, rfl, z_nneg (by omega), z_len (by omega) (by omega), z_nlt (by omega) (by omega), fun S => z_inT0 S (by omega) (by omega)⟩
  · refine Or.inr ⟨?_, fun S => z_inF0 S hb ha h⟩
    by_cases h1 : v < 0
    · exact Or.inl h1
    · have h2 := h.resolve_left h1
      exact Or.inr ⟨h1, z_big_n (by omega) ha h2, z_big_gt (by omega) ha h2⟩

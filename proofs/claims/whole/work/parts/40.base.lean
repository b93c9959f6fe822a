/-! L2: the two programs over gS, plain mathematics -/
theorem z_II (S : gS) (o k : Nat) (v : Int32) (i j : Nat) : gI (gI_up S o k v) i j = if i = o ∧ j = k then v else gI S i j := rfl
theorem z_IA (S : gS) (o k : Nat) (v : Int32) : gI (gA_up S o k v) = gI S := rfl
theorem z_IJ (S : gS) (o k : Nat) (v : Int64) : gI (gJ_up S o k v) = gI S := rfl
theorem z_AI (S : gS) (o k : Nat) (v : Int32) : gA (gI_up S o k v) = gA S := rfl
theorem z_AA (S : gS) (o k : Nat) (v : Int32) (i j : Nat) : gA (gA_up S o k v) i j = if i = o ∧ j = k then v else gA S i j := rfl
theorem z_AJ (S : gS) (o k : Nat) (v : Int64) : gA (gJ_up S o k v) = gA S := rfl
theorem z_JI (S : gS) (o k : Nat) (v : Int32) : gJ (gI_up S o k v) = gJ S := rfl
theorem z_JA (S : gS) (o k : Nat) (v : Int32) : gJ (gA_up S o k v) = gJ S := rfl
theorem z_JJ (S : gS) (o k : Nat) (v : Int64) (i j : Nat) : gJ (gJ_up S o k v) i j = if i = o ∧ j = k then v else gJ S i j := rfl
theorem z_IrA (S : gS) (o : Nat) (r : Nat → Int32) : gI (gA_row S o r) = gI S := rfl
theorem z_IrJ (S : gS) (o : Nat) (r : Nat → Int64) : gI (gJ_row S o r) = gI S := rfl
theorem z_ArJ (S : gS) (o : Nat) (r : Nat → Int64) : gA (gJ_row S o r) = gA S := rfl
theorem z_JrA (S : gS) (o : Nat) (r : Nat → Int32) : gJ (gA_row S o r) = gJ S := rfl
theorem z_ArA (S : gS) (o : Nat) (r : Nat → Int32) (i : Nat) : gA (gA_row S o r) i = if i = o then r else gA S i := rfl
theorem z_JrJ (S : gS) (o : Nat) (r : Nat → Int64) (i : Nat) : gJ (gJ_row S o r) i = if i = o then r else gJ S i := rfl
/-- S' differs from S at the cells of l alone -/
def gOff (l : List Nat) (S S' : gS) : Prop := ∀ o, o ∉ l → gI S' o = gI S o ∧ gA S' o = gA S o ∧ gJ S' o = gJ S o
theorem gOff_rf {l : List Nat} {S : gS} : gOff l S S := fun _ _ => ⟨rfl, rfl, rfl⟩
theorem gOff_tr {l : List Nat} {S S1 S2 : gS} (h : gOff l S S1) (h2 : gOff l S1 S2) : gOff l S S2 := fun o ho => ⟨(h2 o ho).1.trans (h o ho).1, (h2 o ho).2.1.trans (h o ho).2.1, (h2 o ho).2.2.trans (h o ho).2.2⟩
theorem gOff_mo {l l2 : List Nat} {S S1 : gS} (h : gOff l S S1) (hl : ∀ o, o ∈ l → o ∈ l2) : gOff l2 S S1 := fun o ho => h o (fun q => ho (hl o q))
theorem gOff_I {l : List Nat} {S : gS} {o k : Nat} {v : Int32} (h : o ∈ l) : gOff l S (gI_up S o k v) := fun i hi => by
  have e : i ≠ o := fun e => hi (e ▸ h)
  exact ⟨by funext j; simp [z_II, e], rfl, rfl⟩
theorem gOff_A {l : List Nat} {S : gS} {o k : Nat} {v : Int32} (h : o ∈ l) : gOff l S (gA_up S o k v) := fun i hi => by
  have e : i ≠ o := fun e => hi (e ▸ h)
  exact ⟨rfl, by funext j; simp [z_AA, e], rfl⟩
theorem gOff_J {l : List Nat} {S : gS} {o k : Nat} {v : Int64} (h : o ∈ l) : gOff l S (gJ_up S o k v) := fun i hi => by
  have e : i ≠ o := fun e => hi (e ▸ h)
  exact ⟨rfl, rfl, by funext j; simp [z_JJ, e]⟩
theorem gOff_rA {l : List Nat} {S : gS} {o : Nat} {r : Nat → Int32} (h : o ∈ l) : gOff l S (gA_row S o r) := fun i hi => by
  have e : i ≠ o := fun e => hi (e ▸ h)
  exact ⟨rfl, by simp [z_ArA, e], rfl⟩
theorem gOff_rJ {l : List Nat} {S : gS} {o : Nat} {r : Nat → Int64} (h : o ∈ l) : gOff l S (gJ_row S o r) := fun i hi => by
  have e : i ≠ o := fun e => hi (e ▸ h)
  exact ⟨rfl, rfl, by simp [z_JrJ, e]⟩
/-! steps of the programs -/
theorem z_let {α β : Type} (v : α) (f : α → β) : gx_let v f = f v := rfl
theorem z_bind {α β : Type} {x : Option (α × gS)} {a : α} {S : gS} {f : α → gS → Option β} (h : x = some (a, S)) : gx_bind x f = f a S := by rw [h]; rfl
theorem z_bindS {α β : Type} (a : α) (S : gS) (f : α → gS → Option β) : gx_bind (some (a, S)) f = f a S := rfl
theorem z_chk {β : Type} {n N : Nat} {k : Option β} (h : n < N) (hN : N < 2147483648) : gx_chk (nI n) N k = k := by
  have := vp_in_nI h (by omega)
  unfold gx_chk
  rw [if_neg this]
theorem z_b {α β : Type} {x : Option (α × gS)} {a : α} {S : gS} {f : α → gS → Option β} {r : Option β} (h : x = some (a, S)) (k : f a S = r) : gx_bind x f = r := by rw [h]; exact k
theorem z_c {β : Type} {v : Int32} {n N : Nat} {k r : Option β} (hv : v = nI n) (h : n < N) (hN : N < 2147483648) (hk : k = r) : gx_chk v N k = r := by rw [hv, z_chk h hN]; exact hk
theorem z_t {α : Type} {c : Prop} [Decidable c] {a b r : α} (h : c) (k : a = r) : (if c then a else b) = r := by rw [if_pos h]; exact k
theorem z_f {α : Type} {c : Prop} [Decidable c] {a b r : α} (h : ¬ c) (k : b = r) : (if c then a else b) = r := by rw [if_neg h]; exact k
theorem z_ok {β : Type} {c : Bool} {k : Option β} (h : c = true) : gx_ok c k = k := by unfold gx_ok; rw [if_pos h]
theorem z_fuel : ∃ f, gx_fuel = f + 1 ∧ 99990 < f := ⟨99999, rfl, by decide⟩
theorem z_fuelB : 99990 < gx_fuel := by decide
theorem z_lt0 {n : Nat} (h : n < 2147483648) : (nI n < 0) = False := eq_false (nI_pos (by omega))
theorem z_ltN {a b : Nat} (ha : a < 2147483648) (hb : b < 2147483648) : (nI a < nI b) = (a < b) := propext (nI_ltI (by omega) (by omega))
theorem z_leN {a b : Nat} (ha : a < 2147483648) (hb : b < 2147483648) : (nI a ≤ nI b) = (a ≤ b) := propext (nI_leI (by omega) (by omega))
theorem z_eqN {a b : Nat} (ha : a < 2147483648) (hb : b < 2147483648) : (nI a = nI b) = (a = b) := propext (nI_eq (by omega) (by omega))
theorem z_ltL {a b : Nat} (ha : a < 9223372036854775808) (hb : b < 9223372036854775808) : (lN a < lN b) = (a < b) := propext (pk_lLT (by omega) (by omega))
theorem z_leL {a b : Nat} (ha : a < 9223372036854775808) (hb : b < 9223372036854775808) : (lN a ≤ lN b) = (a ≤ b) := propext (pk_lLE (by omega) (by omega))
theorem z_eqL {a b : Nat} (ha : a < 9223372036854775808) (hb : b < 9223372036854775808) : (lN a = lN b) = (a = b) := propext (pk_lEQ (by omega) (by omega))
theorem z_cl {n : Nat} (h : n < 2147483648) : (nI n).toNatClampNeg = n := nI_clamp (by omega)
theorem z_lit (n : Nat) : (OfNat.ofNat n : Int32) = nI n := rfl
theorem z_litL (n : Nat) : (OfNat.ofNat n : Int64) = lN n := rfl
theorem z_wide {n : Nat} (h : n < 2147483648) : (nI n).toInt64 = lN n := nI_l (by omega)
theorem z_negI {b : Nat} (hb : b < 2147483648) : (-(nI b)).toInt = -(b : Int) := by
  rcases Nat.eq_zero_or_pos b with h | h
  · subst h; decide
  · rw [Int32.toInt_neg, nI_toInt (by omega)]
    exact Int.bmod_eq_of_le (by omega) (by omega)
theorem z_eqNeg {a b : Nat} (ha : a < 2147483648) (hb : b < 2147483648) (h : 0 < b) : (nI a = -(nI b)) = False := eq_false (fun e => by
  have h1 := congrArg Int32.toInt e
  rw [z_negI hb, nI_toInt (by omega)] at h1
  omega)
theorem z_eqNeg2 {a b : Nat} (ha : a < 2147483648) (hb : b < 2147483648) (h : 0 < b) : (-(nI b) = nI a) = False := eq_false (fun e => by
  have h1 := congrArg Int32.toInt e
  rw [z_negI hb, nI_toInt (by omega)] at h1
  omega)
theorem z_mul (a b : Nat) : nI a * nI b = nI (a * b) := pk_mul a b
theorem z_add (a b : Nat) : nI a + nI b = nI (a + b) := nI_add a b
theorem z_sub {a b : Nat} (h : b ≤ a) : nI a - nI b = nI (a - b) := pk_sub h
theorem z_div {a b : Nat} (ha : a < 2147483648) (h0 : 0 < b) (hb : b < 2147483648) : nI a / nI b = nI (a / b) := pk_div (by omega) h0 (by omega)
theorem z_m1 (n : Nat) : nI (n + 1) + -(nI 1) = nI n := pk_m1 n
/-- an int is a place below n, or below 0, or not below n -/
theorem z_ix (v : Int32) {n : Nat} (hn : n < 2147483648) : (∃ j, j < n ∧ v = nI j) ∨ (v < 0 ∨ nI n ≤ v) := by
  rcases pk_ix v (n := n) (by omega) with h | h | h
  · exact Or.inr (Or.inl h)
  · exact Or.inr (Or.inr h)
  · exact Or.inl h
theorem z_wlt (a b : Int32) : (a.toInt64 < b.toInt64) = (a < b) := by
  rw [Int64.lt_iff_toInt_lt, Int32.lt_iff_toInt_lt, Int32.toInt_toInt64, Int32.toInt_toInt64]
theorem z_wle (a b : Int32) : (a.toInt64 ≤ b.toInt64) = (a ≤ b) := by
  rw [Int64.le_iff_toInt_le, Int32.le_iff_toInt_le, Int32.toInt_toInt64, Int32.toInt_toInt64]
/-! loops -/
theorem z_loop {σ R : Type} (N : Nat) (H : Nat → Nat → σ → Option R) (P : Nat → σ → Prop) (Q : R → Prop)
    (hs : ∀ f j s, j ≤ N → P j s → (∃ r, H (f + 1) j s = some r ∧ Q r) ∨ (j < N ∧ ∃ s', H (f + 1) j s = H f (j + 1) s' ∧ P (j + 1) s')) :
    ∀ (d f j : Nat) (s : σ), N - j ≤ d → d < f → j ≤ N → P j s → ∃ r, H f j s = some r ∧ Q r := by
  intro d
  induction d with
  | zero =>
    intro f j s h1 h2 h3 hp
    obtain ⟨f, rfl⟩ : ∃ g, f = g + 1 := ⟨f - 1, by omega⟩
    rcases hs f j s h3 hp with h | ⟨h, -⟩
    · exact h
    · omega
  | succ d ih =>
    intro f j s h1 h2 h3 hp
    obtain ⟨f, rfl⟩ : ∃ g, f = g + 1 := ⟨f - 1, by omega⟩
    rcases hs f j s h3 hp with h | ⟨hj, s', e, hp'⟩
    · exact h
    · rw [e]
      exact ih f (j + 1) s' (by omega) (by omega) (by omega) hp'
/-- a loop that counts down: m is one more than its place -/
theorem z_loopD {σ R : Type} (H : Nat → Nat → σ → Option R) (P : Nat → σ → Prop) (Q : R → Prop)
    (h0 : ∀ f s, P 0 s → ∃ r, H (f + 1) 0 s = some r ∧ Q r)
    (hs : ∀ f m s, P (m + 1) s → (∃ r, H (f + 1) (m + 1) s = some r ∧ Q r) ∨ (∃ s', H (f + 1) (m + 1) s = H f m s' ∧ P m s')) :
    ∀ (m f : Nat) (s : σ), m < f → P m s → ∃ r, H f m s = some r ∧ Q r := by
  intro m
  induction m with
  | zero =>
    intro f s h1 hp
    obtain ⟨f, rfl⟩ : ∃ g, f = g + 1 := ⟨f - 1, by omega⟩
    exact h0 f s hp
  | succ m ih =>
    intro f s h1 hp
    obtain ⟨f, rfl⟩ : ∃ g, f = g + 1 := ⟨f - 1, by omega⟩
    rcases hs f m s hp with h | ⟨s', e, hp'⟩
    · exact h
    · rw [e]
      exact ih f s' (by omega) hp'
def zD (m : Nat) : Int32 := nI m + -1
theorem zD_0 : zD 0 < 0 := by decide
theorem zD_s (m : Nat) : zD (m + 1) = nI m := pk_m1 m
theorem zD_n (m : Nat) : nI m + -1 = zD m := rfl
theorem zD_lt {m : Nat} (h : m < 2147483648) : ¬ zD (m + 1) < 0 := by rw [zD_s]; exact nI_pos (by omega)
/-! small programs of both sides -/
theorem z_in (S : gS) (v a b : Int64) : fX6_in S v a b = some (if v < a ∨ b < v then 0 else 1, S) := by
  unfold fX6_in fX6_in_17
  by_cases h1 : v < a
  · rw [if_pos h1, if_pos (Or.inl h1)]
  · by_cases h2 : b < v
    · rw [if_neg h1, if_pos h2, if_pos (Or.inr h2)]
    · rw [if_neg h1, if_neg h2, if_neg (fun h => h.elim h1 h2)]
theorem z_inw (S : gS) (v a b : Int32) : fX6_in S v.toInt64 a.toInt64 b.toInt64 = some (if v < a ∨ b < v then 0 else 1, S) := by
  rw [z_in]; simp only [z_wlt]
theorem z_inT (S : gS) {v a b : Int32} (h1 : ¬ v < a) (h2 : ¬ b < v) : fX6_in S v.toInt64 a.toInt64 b.toInt64 = some (1, S) := by
  rw [z_inw, if_neg (fun h => h.elim h1 h2)]
theorem z_inF (S : gS) {v a b : Int32} (h : v < a ∨ b < v) : fX6_in S v.toInt64 a.toInt64 b.toInt64 = some (0, S) := by
  rw [z_inw, if_pos h]

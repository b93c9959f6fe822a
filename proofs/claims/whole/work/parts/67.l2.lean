/-! about the ice as a whole -/
def zFst (f : Nat → Nat) : Nat → Option Nat
  | 0 => none
  | n + 1 => match zFst f n with
    | some j => some j
    | none => if f n = 0 then none else some n
theorem zFst_sp (f : Nat → Nat) : ∀ n, (zFst f n = none ∧ ∀ j, j < n → f j = 0) ∨ ∃ k, zFst f n = some k ∧ k < n ∧ f k ≠ 0 ∧ ∀ j, j < k → f j = 0
  | 0 => Or.inl ⟨rfl, fun j hj => absurd hj (by omega)⟩
  | n + 1 => by
    rcases zFst_sp f n with ⟨h1, h2⟩ | ⟨k, h1, h2, h3, h4⟩
    · by_cases h0 : f n = 0
      · refine Or.inl ⟨?_, fun j hj => ?_⟩
        · unfold zFst
          rw [h1]
          exact if_pos h0
        · rcases Nat.lt_or_ge j n with q | q
          · exact h2 j q
          · rw [show j = n by omega]; exact h0
      · refine Or.inr ⟨n, ?_, by omega, h0, h2⟩
        unfold zFst
        rw [h1]
        exact if_neg h0
    · refine Or.inr ⟨k, ?_, by omega, h3, h4⟩
      unfold zFst
      rw [h1]
theorem zFst_n {f : Nat → Nat} {n : Nat} (h : ∀ j, j < n → f j = 0) : zFst f n = none := by
  rcases zFst_sp f n with ⟨h1, -⟩ | ⟨k, -, h2, h3, -⟩
  · exact h1
  · exact absurd (h k h2) h3
theorem zFst_k {f : Nat → Nat} {n k : Nat} (h1 : k < n) (h2 : f k ≠ 0) (h3 : ∀ j, j < k → f j = 0) : zFst f n = some k := by
  rcases zFst_sp f n with ⟨-, h4⟩ | ⟨i, e, e1, e2, e3⟩
  · exact absurd (h4 k h1) h2
  · rw [e]
    congr 1
    rcases Nat.lt_trichotomy i k with q | q | q
    · exact absurd (h3 i q) e2
    · exact q
    · exact absurd (e3 k q) h2
def zMinO (o : Option Nat) (r : Nat) : Option Nat :=
  match o with
  | none => some r
  | some v => if v ≤ r then some v else some r
theorem zFst_add {a b : Nat → Nat} {n r : Nat} (hb : zFst b n = some r) : zFst (fun k => a k + b k) n = zMinO (zFst a n) r := by
  rcases zFst_sp b n with ⟨h1, -⟩ | ⟨k, h1, h2, h3, h4⟩
  · rw [h1] at hb; exact absurd hb (by simp)
  · rw [h1] at hb
    injection hb with hb
    subst hb
    rcases zFst_sp a n with ⟨g1, g2⟩ | ⟨i, g1, g2, g3, g4⟩
    · rw [g1]
      refine zFst_k h2 (fun e => h3 ?_) (fun j hj => ?_)
      · have : a k + b k = 0 := e
        omega
      · show a j + b j = 0
        rw [g2 j (by omega), h4 j hj]
    · rw [g1]
      show _ = if i ≤ k then some i else some k
      by_cases hik : i ≤ k
      · rw [if_pos hik]
        refine zFst_k g2 (fun e => g3 ?_) (fun j hj => ?_)
        · have : a i + b i = 0 := e
          omega
        · show a j + b j = 0
          rw [g4 j hj, h4 j (by omega)]
      · rw [if_neg hik]
        refine zFst_k h2 (fun e => h3 ?_) (fun j hj => ?_)
        · have : a k + b k = 0 := e
          omega
        · show a j + b j = 0
          rw [g4 j (by omega), h4 j hj]
theorem zFst_cg {f f2 : Nat → Nat} {n : Nat} (h : ∀ k, k < n → f k = f2 k) : zFst f n = zFst f2 n := by
  induction n with
  | zero => rfl
  | succ n ih =>
    unfold zFst
    rw [ih (fun k hk => h k (by omega)), h n (by omega)]
theorem zLy_old (f : Nat → Nat) : ∀ n, (zLc f n = 0 → zFst f n = none) ∧ (0 < zLc f n → zLy f n (zLc f n - 1) = zFst f n ∧ zFst f n ≠ none)
  | 0 => ⟨fun _ => rfl, fun h => absurd h (by simp [zLc])⟩
  | n + 1 => by
    obtain ⟨i1, i2⟩ := zLy_old f n
    by_cases h0 : f n = 0
    · have e1 : zLc f (n + 1) = zLc f n := by
        show zLc f n + (if f n = 0 then 0 else 1) = _
        rw [if_pos h0]; rfl
      have e2 : zFst f (n + 1) = zFst f n := by
        show (match zFst f n with | some j => some j | none => if f n = 0 then none else some n) = _
        cases zFst f n with
        | none => exact if_pos h0
        | some j => rfl
      rw [e1, e2]
      refine ⟨i1, fun h => ⟨?_, (i2 h).2⟩⟩
      show (if f n = 0 then zLy f n (zLc f n - 1) else _) = _
      rw [if_pos h0]
      exact (i2 h).1
    · have e1 : zLc f (n + 1) = zLc f n + 1 := by
        show zLc f n + (if f n = 0 then 0 else 1) = _
        rw [if_neg h0]
      rw [e1]
      refine ⟨fun h => absurd h (by omega), fun _ => ?_⟩
      rw [Nat.add_sub_cancel]
      show (if f n = 0 then zLy f n (zLc f n) else if zLc f n = 0 then some n else zLy f n (zLc f n - 1)) = _ ∧ _
      rw [if_neg h0]
      by_cases h1 : zLc f n = 0
      · have e2 : zFst f (n + 1) = some n := by
          unfold zFst
          rw [i1 h1]
          exact if_neg h0
        rw [if_pos h1, e2]
        exact ⟨rfl, by simp⟩
      · obtain ⟨i3, i4⟩ := i2 (by omega)
        rw [if_neg h1, i3]
        have e2 : zFst f (n + 1) = zFst f n := by
          show (match zFst f n with | some j => some j | none => if f n = 0 then none else some n) = _
          cases e : zFst f n with
          | none => exact absurd e i4
          | some j => rfl
        rw [e2]
        exact ⟨rfl, i4⟩
def zBt (p : Nat → Bool) (T : Nat → Nat) : Nat → Nat × Option Nat
  | 0 => (0, none)
  | c + 1 => if p c = true ∧ (zBt p T c).1 < T c then (T c, some c) else zBt p T c
def zLo (p : Nat → Bool) (T sf : Nat → Nat) : Nat → Option Nat
  | 0 => none
  | c + 1 => if p c = true ∧ 0 < T c then zMinO (zLo p T sf c) (sf c) else zLo p T sf c
def zIcy (p : Nat → Bool) (T : Nat → Nat) (c : Nat) : Bool := p c && decide (0 < T c)
def zPl (d : Int32) : Option Nat → Int32
  | none => d
  | some k => nI k
def zO64 : Option Nat → Int64
  | none => -9
  | some k => lN k
theorem zBt_in (p : Nat → Bool) (T : Nat → Nat) {B : Nat} (hB : ∀ c, c < 64 → T c ≤ B) : ∀ c, c ≤ 64 → (zBt p T c).1 ≤ B ∧ (((zBt p T c).2 = none ∧ (zBt p T c).1 = 0) ∨ ∃ o, (zBt p T c).2 = some o ∧ o < 64 ∧ p o = true ∧ (zBt p T c).1 = T o)
  | 0, _ => ⟨Nat.zero_le _, Or.inl ⟨rfl, rfl⟩⟩
  | c + 1, hc => by
    by_cases h : p c = true ∧ (zBt p T c).1 < T c
    · have e : zBt p T (c + 1) = (T c, some c) := if_pos h
      rw [e]
      exact ⟨hB c (by omega), Or.inr ⟨c, rfl, by omega, h.1, rfl⟩⟩
    · have e : zBt p T (c + 1) = zBt p T c := if_neg h
      rw [e]
      exact zBt_in p T hB c (by omega)
theorem zLo_in (p : Nat → Bool) (T sf : Nat → Nat) {B : Nat} (hB : ∀ c, c < 64 → sf c ≤ B) : ∀ c, c ≤ 64 → ∀ v, zLo p T sf c = some v → v ≤ B
  | 0, _, v, h => absurd h (by simp [zLo])
  | c + 1, hc, v, h => by
    have ih := zLo_in p T sf hB c (by omega)
    have hs := hB c (by omega)
    unfold zLo at h
    split at h
    · cases e : zLo p T sf c with
      | none =>
        rw [e] at h
        injection h with h
        omega
      | some u =>
        rw [e] at h
        have hu := ih u e
        have h' : (if u ≤ sf c then some u else some (sf c)) = some v := h
        split at h'
        · injection h' with h'; omega
        · injection h' with h'; omega
    · exact ih v h
theorem z_m9L {a : Nat} (h : a < 9223372036854775808) : ¬ lN a = -9 := by
  intro e
  have := congrArg Int64.toInt e
  rw [pk_lT (by omega)] at this
  have e9 : (-9 : Int64).toInt = -9 := rfl
  omega
/-- the lesser of what was found and r, in the program's longs -/
theorem zO64_step {o : Option Nat} {r : Nat} (hr : r < 9223372036854775808) (ho : ∀ v, o = some v → v < 9223372036854775808) {α : Type} {A B R : α} (hA : R = A ∨ True) (h1 : zO64 (zMinO o r) = lN r → B = R) (h2 : zO64 (zMinO o r) = zO64 o → A = R) :
    (if zO64 o = -9 then B else if zO64 o ≤ lN r then A else B) = R := by
  cases o with
  | none => exact z_t rfl (h1 rfl)
  | some v =>
    have hv := ho v rfl
    refine z_f (z_m9L hv) ?_
    show (if lN v ≤ lN r then A else B) = R
    by_cases h : v ≤ r
    · refine z_t (by rw [z_leL hv hr]; exact h) (h2 ?_)
      show zO64 (if v ≤ r then some v else some r) = _
      rw [if_pos h]
    · refine z_f (by rw [z_leL hv hr]; exact h) (h1 ?_)
      show zO64 (if v ≤ r then some v else some r) = _
      rw [if_neg h]
      rfl
theorem zOr_step {o : Option Nat} {r : Nat} (hr : r < 2147483648) (ho : ∀ v, o = some v → v < 2147483648) {α : Type} {A B R : α} (h1 : zOr (zMinO o r) = nI r → B = R) (h2 : zOr (zMinO o r) = zOr o → A = R) :
    (if zOr o = -9 then B else if zOr o ≤ nI r then A else B) = R := by
  cases o with
  | none => exact z_t rfl (h1 rfl)
  | some v =>
    have hv := ho v rfl
    refine z_f (z_nm9 hv) ?_
    show (if nI v ≤ nI r then A else B) = R
    by_cases h : v ≤ r
    · refine z_t (by rw [z_leN hv hr]; exact h) (h2 ?_)
      show zOr (if v ≤ r then some v else some r) = _
      rw [if_pos h]
    · refine z_f (by rw [z_leN hv hr]; exact h) (h1 ?_)
      show zOr (if v ≤ r then some v else some r) = _
      rw [if_neg h]
      rfl

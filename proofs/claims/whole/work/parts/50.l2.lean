/-! the ice in the two programs' rows -/
theorem z_can {a b c v x : Int64} (h : a + b = c + x) (hx : x = b + v) : a = c + v := by
  subst hx
  have e : a + b + -b = c + (b + v) + -b := by rw [h]
  rw [Int64.add_assoc, Int64.add_right_neg, Int64.add_zero] at e
  rw [e, Int64.add_comm b v, ← Int64.add_assoc, Int64.add_assoc (c + v), Int64.add_right_neg, Int64.add_zero]
theorem z_lsub {a t : Nat} (h : t ≤ a) : lN (a - t) = lN a + -lN t := by rw [← Int64.sub_eq_add_neg, lN_sub h]
theorem z_m61 (a b : Nat) : nI a * 61 + nI b = nI (61 * a + b) := by rw [z_lit 61, z_mul, z_add, Nat.mul_comm]
theorem z_61m (a b : Nat) : (61 : Int32) * nI a + nI b = nI (61 * a + b) := by rw [z_lit 61, z_mul, z_add]
theorem z_p (a b : Nat) : (OfNat.ofNat a : Int32) + nI b = nI (a + b) := by rw [z_lit a, z_add]
theorem z_gmin {a b : Nat} (ha : a < 9223372036854775808) (hb : b < 9223372036854775808) : gmin (lN a) (lN b) = lN (min a b) := by
  unfold gmin
  by_cases h : b < a
  · rw [if_pos (by rw [z_ltL hb ha]; exact h), Nat.min_eq_right (by omega)]
  · rw [if_neg (by rw [z_ltL hb ha]; exact h), Nat.min_eq_left (by omega)]
theorem z_lesser {a b : Nat} (S : gS) (ha : a < 9223372036854775808) (hb : b < 9223372036854775808) : fX6_lesser S (lN a) (lN b) = some (lN (min a b), S) := by
  unfold fX6_lesser
  by_cases h : b ≤ a
  · exact z_t (by rw [z_leL hb ha]; exact h) (by rw [Nat.min_eq_right h])
  · exact z_f (by rw [z_leL hb ha]; exact h) (by rw [Nat.min_eq_left (by omega)])
def zX (op : Nat → Prop) (S : gS) (G : zG) : Prop := zXI op (gJ S 11) (gJ S 12) (gJ S 13) G.1 G.2
def zY (S : gS) (G : zG) : Prop := zYI (gJ S 8) (gJ S 9) G.1 G.2
def zXb (op : Nat → Prop) (S : gS) (b : Nat → Nat → Nat) : Prop := ∀ c, op c → ∀ k, k < 61 → gJ S 42 (c * 61 + k) = lN (b c k)
def zYb (S : gS) (b : Nat → Nat → Nat) : Prop := ∀ c k, c < 64 → k < 61 → gJ S 15 (61 * c + k) = lN (b c k)
theorem zX_of {op : Nat → Prop} {S S' : gS} {G : zG} (h : zX op S G) (h1 : gJ S' 11 = gJ S 11) (h2 : gJ S' 12 = gJ S 12) (h3 : gJ S' 13 = gJ S 13) : zX op S' G := by
  unfold zX at h ⊢; rw [h1, h2, h3]; exact h
theorem zY_of {S S' : gS} {G : zG} (h : zY S G) (h1 : gJ S' 8 = gJ S 8) (h2 : gJ S' 9 = gJ S 9) : zY S' G := by
  unfold zY at h ⊢; rw [h1, h2]; exact h
theorem zXb_of {op : Nat → Prop} {S S' : gS} {b : Nat → Nat → Nat} (h : zXb op S b) (h1 : gJ S' 42 = gJ S 42) : zXb op S' b := by
  unfold zXb at h ⊢; rw [h1]; exact h
theorem zYb_of {S S' : gS} {b : Nat → Nat → Nat} (h : zYb S b) (h1 : gJ S' 15 = gJ S 15) : zYb S' b := by
  unfold zYb at h ⊢; rw [h1]; exact h
/-- what fX0_lay leaves behind -/
def zLayS (o : Nat) (S : gS) (c k : Nat) (v : Int64) : gS :=
  gJ_up (gJ_up (gJ_up S (o + 1) (61 * c + k) (gJ S (o + 1) (61 * c + k) + v)) (o + 2) c (gJ S (o + 2) c + v)) (o + 3) k (gJ S (o + 3) k + v)
theorem z_lay (o : Nat) (S : gS) {c k : Nat} (v : Int64) (hc : c < 64) (hk : k < 61) : fX0_lay o S (nI c) (nI k) v = some ((), zLayS o S c k v) := by
  unfold fX0_lay
  rw [z_m61]
  refine z_c rfl (by omega) (by omega) (z_c rfl (by omega) (by omega) ?_)
  rw [z_let, z_cl (by omega)]
  refine z_c rfl hc (by omega) (z_c rfl hc (by omega) ?_)
  rw [z_let, z_cl (by omega), z_p 0, Nat.zero_add]
  refine z_c rfl (by omega) (by omega) (z_c rfl (by omega) (by omega) ?_)
  rw [z_let, z_cl (by omega)]
  rw [z_Jo (p := o + 2) (o := o + 1) _ _ _ (by omega), z_Jo (p := o + 3) (o := o + 2) _ _ _ (by omega), z_Jo (p := o + 3) (o := o + 1) _ _ _ (by omega)]
  rfl
theorem z_lift (o : Nat) (S : gS) {c k : Nat} (v : Int64) (hc : c < 64) (hk : k < 61) : fX0_lift o S (nI c) (nI k) v = some ((), zLayS o S c k (-v)) := z_b (z_lay o S (-v) hc hk) rfl
theorem zLayS_off (o : Nat) (S : gS) (c k : Nat) (v : Int64) {l : List Nat} (h : ∀ i, i = o + 1 ∨ i = o + 2 ∨ i = o + 3 → i ∈ l) : gOff l S (zLayS o S c k v) :=
  gOff_tr (gOff_tr (gOff_J (h _ (by simp))) (gOff_J (h _ (by simp)))) (gOff_J (h _ (by simp)))
theorem zLayS_1 (o : Nat) (S : gS) (c k : Nat) (v : Int64) : gJ (zLayS o S c k v) (o + 1) = fun j => if j = 61 * c + k then gJ S (o + 1) (61 * c + k) + v else gJ S (o + 1) j := by
  unfold zLayS
  rw [z_Jo _ _ _ (by omega), z_Jo _ _ _ (by omega), z_Jr]
theorem zLayS_2 (o : Nat) (S : gS) (c k : Nat) (v : Int64) : gJ (zLayS o S c k v) (o + 2) = fun j => if j = c then gJ S (o + 2) c + v else gJ S (o + 2) j := by
  unfold zLayS
  rw [z_Jo _ _ _ (by omega), z_Jr, z_Jo _ _ _ (by omega)]
theorem zLayS_3 (o : Nat) (S : gS) (c k : Nat) (v : Int64) : gJ (zLayS o S c k v) (o + 3) = fun j => if j = k then gJ S (o + 3) k + v else gJ S (o + 3) j := by
  unfold zLayS
  rw [z_Jr, z_Jo _ _ _ (by omega), z_Jo _ _ _ (by omega)]
theorem zX_lay {op : Nat → Prop} {S : gS} {G : zG} {c k x : Nat} {v : Int64} (h : zX op S G) (hc : c < 64) (hk : k < 61) (hx : lN x = lN (G.1 c k) + v) (ho : op c) : zX op (zLayS 10 S c k v) (gset G.1 c k x, G.2) := by
  obtain ⟨h1, h2, h3⟩ := h
  unfold zX
  rw [zLayS_1 10, zLayS_2 10, zLayS_3 10]
  refine ⟨fun i hi => ⟨fun j hj => ?_, ?_⟩, fun j hj => ?_, fun i a b => ?_⟩
  · show (if i * 61 + j = 61 * c + k then gJ S 11 (61 * c + k) + v else gJ S 11 (i * 61 + j)) = lN (gset G.1 c k x i j)
    by_cases e : i = c ∧ j = k
    · rw [if_pos (by omega), e.1, e.2, gset_s, hx, ← (h1 c ho).1 k hk, Nat.mul_comm]
    · rw [if_neg (by omega), gset_o _ e, (h1 i hi).1 j hj]
  · show (if i = c then gJ S 12 c + v else gJ S 12 i) = lN (gsum (gset G.1 c k x i) 61)
    by_cases e : i = c
    · subst e
      have e2 := congrArg lN (gset_rsum G.1 (c := i) (k := k) (x := x) hk)
      rw [← lN_add, ← lN_add] at e2
      rw [if_pos rfl, (h1 i hi).2]
      exact (z_can e2 hx).symm
    · rw [if_neg e, gset_rowo _ e, (h1 i hi).2]
  · show (if j = k then gJ S 13 k + v else gJ S 13 j) = lN (gsum (fun i => gset G.1 c k x i j) 64)
    by_cases e : j = k
    · subst e
      have e2 := congrArg lN (gset_csum G.1 (c := c) (k := j) (x := x) hc)
      rw [← lN_add, ← lN_add] at e2
      rw [if_pos rfl, h2 j hj]
      exact (z_can e2 hx).symm
    · rw [if_neg e, gset_csumo _ e, h2 j hj]
  · show (if i = k then gJ S 13 k + v else gJ S 13 i) = G.2 i
    rw [if_neg (by omega), h3 i a b]
theorem zX_sum {op : Nat → Prop} {S : gS} {g : Nat → Nat → Nat} {s : Nat → Int64} {i : Nat} {v : Int64} (h : zX op S (g, s)) (hi : 61 ≤ i) (hi2 : i < 305) : zX op (gJ_up S 13 i (gJ S 13 i + v)) (g, sadd s i v) := by
  obtain ⟨h1, h2, h3⟩ := h
  unfold zX
  rw [z_Jo (p := 11) _ _ _ (by omega), z_Jo (p := 12) _ _ _ (by omega), z_Jr]
  refine ⟨h1, fun k hk => ?_, fun j a b => ?_⟩
  · show (if k = i then _ else gJ S 13 k) = _
    rw [if_neg (by omega)]; exact h2 k hk
  · show (if j = i then gJ S 13 i + v else gJ S 13 j) = sadd s i v j
    unfold sadd
    by_cases e : j = i
    · rw [if_pos e, if_pos e, e, h3 i hi hi2]
    · rw [if_neg e, if_neg e, h3 j a b]
theorem zX_g {op : Nat → Prop} {S : gS} {G : zG} (h : zX op S G) {c k : Nat} (ho : op c) (hk : k < 61) : gJ S 11 (61 * c + k) = lN (G.1 c k) := by
  rw [Nat.mul_comm 61 c]
  exact (h.1 c ho).1 k hk
/-- ice leaves a cell, in the class's rows -/
theorem z_loseX {op : Nat → Prop} {S : gS} {G : zG} {N y q c m : Nat} (hX : zX op S G) (hJ : zJn N op y G) (hN : N ≤ 2000000000) (hy : y ≤ 60) (hyr : gI S 10 3 = nI y) (hc : c < 64) (ho : op c) (hq : 1 ≤ q) (hq4 : q ≤ 4) (hm : m < 9223372036854775808) :
    ∃ S', fX0_lose 10 S (nI c) (lN m) (nI q) = some ((), S') ∧ zX op S' (zLose q c (y + 1) m G) ∧ gOff [11, 12, 13] S S' := by
  have key := z_lpD (E := fun r : Unit × gS => some r) (fun f j (t : gS × Int64) => fX0_lose_9 10 f t.1 (nI c) (nI q) t.2 (zD j))
    (fun j t => ∃ mm G', t.2 = lN mm ∧ mm < 9223372036854775808 ∧ j ≤ y + 1 ∧ zX op t.1 G' ∧ zJn N op y G' ∧ zLose q c j mm G' = zLose q c (y + 1) m G ∧ gOff [11, 12, 13] S t.1)
    (fun r => zX op r.2 (zLose q c (y + 1) m G) ∧ gOff [11, 12, 13] S r.2) (by
      rintro f ⟨T, v⟩ ⟨mm, G', rfl, h1, h2, h3, h4, h5, h6⟩
      refine ⟨((), T), ?_, h5 ▸ h3, h6⟩
      show fX0_lose_9L 10 (fX0_lose_9 10 f) T (nI c) (nI q) (lN mm) (zD 0) = _
      unfold fX0_lose_9L
      exact z_t zD_0 rfl) (by
      rintro f j ⟨T, v⟩ ⟨mm, G', rfl, h1, h2, h3, h4, h5, h6⟩
      dsimp only
      rcases Nat.eq_zero_or_pos mm with hz | hz
      · subst hz
        refine Or.inl ⟨((), T), ?_, ?_, h6⟩
        · show fX0_lose_9L 10 (fX0_lose_9 10 f) T (nI c) (nI q) (lN 0) (zD (j + 1)) = _
          unfold fX0_lose_9L
          exact z_f (zD_lt (by omega)) (z_t (by decide) rfl)
        · rw [← h5, zLose_0]; exact h3
      · have hg := zJn_g h4 hc (show j < 61 by omega)
        have ht : min mm (G'.1 c j) ≤ G'.1 c j := Nat.min_le_right _ _
        have hXl := zX_lay (k := j) (x := G'.1 c j - min mm (G'.1 c j)) h3 hc (by omega) (z_lsub ht) ho
        have hXs := zX_sum (i := 61 * q + j) (v := lN (min mm (G'.1 c j))) hXl (by omega) (by omega)
        refine Or.inr ⟨(gJ_up (zLayS 10 T c j (-lN (min mm (G'.1 c j)))) 13 (61 * q + j) (gJ (zLayS 10 T c j (-lN (min mm (G'.1 c j)))) 13 (61 * q + j) + lN (min mm (G'.1 c j))), lN (mm - min mm (G'.1 c j))), ?_, mm - min mm (G'.1 c j), _, rfl, by omega, by omega, hXs, ?_, h5, ?_⟩
        · show fX0_lose_9L 10 (fX0_lose_9 10 f) T (nI c) (nI q) (lN mm) (zD (j + 1)) = _
          unfold fX0_lose_9L
          refine z_f (zD_lt (by omega)) ?_
          rw [zD_s, z_m61, z_m61]
          refine z_f (by rw [show (0 : Int64) = lN 0 from rfl, z_leL (by omega) (by omega)]; omega) (z_c rfl (by omega) (by omega) ?_)
          rw [z_let, z_cl (by omega), zX_g h3 ho (by omega), z_gmin (by omega) (by omega)]
          refine z_b (z_lift 10 T _ hc (by omega)) (z_c rfl (by omega) (by omega) (z_c rfl (by omega) (by omega) ?_))
          rw [z_let, z_let, z_let, z_cl (by omega), lN_sub (Nat.min_le_left _ _), zD_n]
        · refine zJn_s (zJn_set (M := N) h4 hc (Or.inl ho) (by omega) hy (by omega)) ⟨q, j, rfl, by omega⟩ hy
        · exact gOff_tr h6 (gOff_tr (zLayS_off 10 T c j _ (fun i hi => by simp; omega)) (gOff_J (by simp))))
    (y + 1) gx_fuel (S, lN m) (by have := z_fuelB; omega) ⟨m, G, rfl, hm, by omega, hX, hJ, rfl, gOff_rf⟩
  obtain ⟨⟨u, S'⟩, k1, k2, k3⟩ := key
  refine ⟨S', ?_, k2, k3⟩
  unfold fX0_lose
  rw [z_let, hyr, ← zD_s y]
  exact k1

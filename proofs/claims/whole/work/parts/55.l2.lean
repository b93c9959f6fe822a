/-! the ice moves -/
def zTo (w h : Nat) (kd : Nat → Int32) (c sd : Nat) : Option Nat :=
  match zNb w h c sd with
  | none => none
  | some o => if kd o = 4 then none else some o
theorem zTo_n {w h : Nat} {kd : Nat → Int32} {c sd o : Nat} (e : zNb w h c sd = some o) (h4 : kd o = 4) : zTo w h kd c sd = none := by
  unfold zTo
  rw [e]
  exact if_pos h4
theorem zTo_s {w h : Nat} {kd : Nat → Int32} {c sd o : Nat} (e : zNb w h c sd = some o) (h4 : kd o ≠ 4) : zTo w h kd c sd = some o := by
  unfold zTo
  rw [e]
  exact if_neg h4
theorem zTo_in {w h : Nat} {kd : Nat → Int32} {c sd o : Nat} (hw : w ≤ 8) (hh : h ≤ 8) (hc : c % 8 < w ∧ c / 8 < h) (e : zTo w h kd c sd = some o) : o < 64 ∧ zOp w h kd o := by
  cases e2 : zNb w h c sd with
  | none =>
    unfold zTo at e
    rw [e2] at e
    exact absurd e (by simp)
  | some i =>
    have := zNb_in hw hh hc e2
    by_cases h4 : kd i = 4
    · rw [zTo_n e2 h4] at e; exact absurd e (by simp)
    · rw [zTo_s e2 h4] at e
      injection e with e
      subst e
      exact ⟨this.1, this.1, this.2.1, this.2.2, h4⟩
def zMv1 (w h : Nat) (Sy : gS) (y : Nat) (g : Nat → Nat → Nat) (c sd : Nat) (B : zB) : zB := zHand c (zTo w h (gA Sy 5) c sd) (y + 1) (zGive w h Sy g c sd).toInt.toNat B
def zMvF (w h : Nat) (Sy : gS) (y : Nat) (g : Nat → Nat → Nat) : Nat → zB → zB
  | 0, B => B
  | i + 1, B => if zopB w h (gA Sy 5) (i / 4) then zMv1 w h Sy y g (i / 4) (i % 4) (zMvF w h Sy y g i B) else zMvF w h Sy y g i B
theorem zMvF_t {w h y c sd : Nat} {Sy : gS} {g : Nat → Nat → Nat} {B : zB} (hp : zopB w h (gA Sy 5) c = true) (hs : sd < 4) : zMvF w h Sy y g (4 * c + (sd + 1)) B = zMv1 w h Sy y g c sd (zMvF w h Sy y g (4 * c + sd) B) := by
  show (if zopB w h (gA Sy 5) ((4 * c + sd) / 4) then zMv1 w h Sy y g ((4 * c + sd) / 4) ((4 * c + sd) % 4) (zMvF w h Sy y g (4 * c + sd) B) else zMvF w h Sy y g (4 * c + sd) B) = _
  rw [show (4 * c + sd) / 4 = c by omega, show (4 * c + sd) % 4 = sd by omega, if_pos hp]
theorem zMvF_f {w h y i : Nat} {Sy : gS} {g : Nat → Nat → Nat} {B : zB} (hp : zopB w h (gA Sy 5) (i / 4) = false) : zMvF w h Sy y g (i + 1) B = zMvF w h Sy y g i B := by
  show (if zopB w h (gA Sy 5) (i / 4) then _ else _) = _
  rw [if_neg (by rw [hp]; exact Bool.false_ne_true)]
theorem zMvF_f4 {w h y c : Nat} {Sy : gS} {g : Nat → Nat → Nat} {B : zB} (hp : zopB w h (gA Sy 5) c = false) : zMvF w h Sy y g (4 * (c + 1)) B = zMvF w h Sy y g (4 * c) B := by
  show zMvF w h Sy y g (4 * c + 1 + 1 + 1 + 1) B = _
  rw [zMvF_f (by rw [show (4 * c + 1 + 1 + 1) / 4 = c by omega]; exact hp), zMvF_f (by rw [show (4 * c + 1 + 1) / 4 = c by omega]; exact hp), zMvF_f (by rw [show (4 * c + 1) / 4 = c by omega]; exact hp), zMvF_f (by rw [show (4 * c) / 4 = c by omega]; exact hp)]
theorem zMv1_K {w h N y c sd : Nat} {Sy : gS} {g : Nat → Nat → Nat} {B : zB} (hw : w ≤ 8) (hh : h ≤ 8) (hy : y ≤ 60) (ho : zOp w h (gA Sy 5) c) (hK : zKn N (zOp w h (gA Sy 5)) y B) : zKn N (zOp w h (gA Sy 5)) y (zMv1 w h Sy y g c sd B) :=
  zHand_K ho.1 ho hy (fun _ e => zTo_in hw hh ⟨ho.2.1, ho.2.2.1⟩ e) (y + 1) _ _ (Nat.le_refl _) hK
theorem zMvF_K {w h N y : Nat} {Sy : gS} {g : Nat → Nat → Nat} {B : zB} (hw : w ≤ 8) (hh : h ≤ 8) (hy : y ≤ 60) (hK : zKn N (zOp w h (gA Sy 5)) y B) : ∀ i, zKn N (zOp w h (gA Sy 5)) y (zMvF w h Sy y g i B)
  | 0 => hK
  | i + 1 => by
    have ih := zMvF_K (g := g) hw hh hy hK i
    cases hp : zopB w h (gA Sy 5) (i / 4) with
    | true =>
      show zKn N _ y (if zopB w h (gA Sy 5) (i / 4) then zMv1 w h Sy y g (i / 4) (i % 4) (zMvF w h Sy y g i B) else zMvF w h Sy y g i B)
      rw [if_pos hp]
      exact zMv1_K hw hh hy (zopB_iff.1 hp) ih
    | false => rw [zMvF_f hp]; exact ih
theorem z_pos {V : Int64} (h : ¬ V ≤ 0) : ∃ m : Nat, m < 9223372036854775808 ∧ V = lN m ∧ V.toInt.toNat = m := by
  have h0 : ¬ V < 0 := by
    rw [Int64.lt_iff_toInt_lt]
    rw [Int64.le_iff_toInt_le] at h
    omega
  obtain ⟨k, hk, rfl⟩ := pk_lOf h0
  refine ⟨k, by omega, rfl, ?_⟩
  rw [pk_lT hk]
  rfl
theorem z_npos {V : Int64} (h : V ≤ 0) : V.toInt.toNat = 0 := by
  rw [Int64.le_iff_toInt_le] at h
  have : (0 : Int64).toInt = 0 := rfl
  omega
theorem zGive_pos {w h c sd : Nat} {Sy : gS} {g : Nat → Nat → Nat} (h0 : ¬ zGive w h Sy g c sd ≤ 0) : ∃ o, zNb w h c sd = some o := by
  cases e : zNb w h c sd with
  | none =>
    rw [zGive_n e] at h0
    exact absurd (by decide) h0
  | some o => exact ⟨o, rfl⟩
theorem z_hand1X {w h N y c sd : Nat} {S Sy : gS} {g : Nat → Nat → Nat} {B : zB} (H : zRd w h S Sy) (hX : zX (zOp w h (gA Sy 5)) S B.2) (hXb : zXb (zOp w h (gA Sy 5)) S B.1) (hK : zKn N (zOp w h (gA Sy 5)) y B) (hN : N ≤ 2000000000) (hy : y ≤ 60) (hyr : gI S 10 3 = nI y) (ho : zOp w h (gA Sy 5) c) :
    ∃ S', fX5_hand S (nI c) (zNbI (-1) (zNb w h c sd)) (zGive w h Sy g c sd) = some ((), S') ∧ zX (zOp w h (gA Sy 5)) S' (zMv1 w h Sy y g c sd B).2 ∧ zXb (zOp w h (gA Sy 5)) S' (zMv1 w h Sy y g c sd B).1 ∧ gOff [11, 12, 13, 42, 43, 44] S S' := by
  have hw : w ≤ 8 := by have := H.1.2.2.2.2.1; omega
  have hh : h ≤ 8 := by have := H.1.2.2.2.2.1; omega
  by_cases h0 : zGive w h Sy g c sd ≤ 0
  · refine ⟨S, z_hand0 (c := 0) hy hyr h0, ?_, ?_, gOff_rf⟩
    · unfold zMv1
      rw [z_npos h0, zHand_0]; exact hX
    · unfold zMv1
      rw [z_npos h0, zHand_0]; exact hXb
  · obtain ⟨o, e⟩ := zGive_pos h0
    obtain ⟨m, m1, m2, m3⟩ := z_pos h0
    obtain ⟨o1, o2, o3⟩ := zNb_in hw hh ⟨ho.2.1, ho.2.2.1⟩ e
    unfold zMv1
    rw [m3, m2, e]
    refine z_handX hX hXb hK hN hy hyr ho.1 ho o1 ?_ m1
    by_cases h4 : gA Sy 5 o = 4
    · exact Or.inl ⟨(zRd_kd H o1).trans h4, zTo_n e h4⟩
    · exact Or.inr ⟨fun q => h4 ((zRd_kd H o1).symm.trans q), zTo_s e h4, ⟨o1, o2, o3, h4⟩⟩
theorem z_hand1Y {w h N y c sd : Nat} {S Sy Sx : gS} {g : Nat → Nat → Nat} {B : zB} {v1 : Int32} (K74 : gS → Int32 → Option (Unit × gS)) (H : zRd w h Sx S) (h5 : gA Sy 5 = gA S 5) (hY : zY S B.2) (hYb : zYb S B.1) (hK : zKn N (zOp w h (gA Sy 5)) y B) (hN : N ≤ 2000000000) (hy : y ≤ 60) (ho : zOp w h (gA Sy 5) c) (hs : sd < 4) :
    ∃ S', (if zGive w h Sy g c sd ≤ 0 then fX6_move_111 K74 S v1 (nI c) (zGive w h Sy g c sd) (-9) else gx_bind (fX6_beside S (nI c) (nI sd)) fun r103 S103 => fX6_move_111 K74 S103 v1 (nI c) (zGive w h Sy g c sd) r103) = K74 S' (v1 + 1) ∧ zY S' (zMv1 w h Sy y g c sd B).2 ∧ zYb S' (zMv1 w h Sy y g c sd B).1 ∧ gOff [8, 9, 15] S S' := by
  have hw : w ≤ 8 := by have := H.1.2.2.2.2.1; omega
  have hh : h ≤ 8 := by have := H.1.2.2.2.2.1; omega
  by_cases h0 : zGive w h Sy g c sd ≤ 0
  · refine ⟨S, z_t h0 (z_move0 K74 h0), ?_, ?_, gOff_rf⟩
    · unfold zMv1
      rw [z_npos h0, zHand_0]; exact hY
    · unfold zMv1
      rw [z_npos h0, zHand_0]; exact hYb
  · obtain ⟨o, e⟩ := zGive_pos h0
    obtain ⟨m, m1, m2, m3⟩ := z_pos h0
    obtain ⟨o1, o2, o3⟩ := zNb_in hw hh ⟨ho.2.1, ho.2.2.1⟩ e
    have hm : ∃ S', fX6_move_117 K74 gx_fuel S v1 (nI c) (lN m) (nI o) (nI 60) = K74 S' (v1 + 1) ∧ zY S' (zHand c (zTo w h (gA Sy 5) c sd) (y + 1) m B).2 ∧ zYb S' (zHand c (zTo w h (gA Sy 5) c sd) (y + 1) m B).1 ∧ gOff [8, 9, 15] S S' := by
      refine z_move117 K74 hY hYb hK hN hy ho.1 ho o1 ?_ m1
      by_cases h4 : gA Sy 5 o = 4
      · exact Or.inl ⟨by rw [← h5]; exact h4, zTo_n e h4⟩
      · exact Or.inr ⟨by rw [← h5]; exact h4, zTo_s e h4, ⟨o1, o2, o3, h4⟩⟩
    obtain ⟨S', k1, k2, k3, k4⟩ := hm
    refine ⟨S', z_f h0 ?_, ?_, ?_, k4⟩
    · refine z_b (z_nbY H.1.2.2.1 H.1.2.2.2.1 hw hh ho.1 ⟨ho.2.1, ho.2.2.1⟩ hs) ?_
      rw [e, m2]
      exact k1
    · unfold zMv1
      rw [m3]; exact k2
    · unfold zMv1
      rw [m3]; exact k3
/-! rows of one ice become those of another -/
theorem z_cpyOk {n : Nat} (h : n < 2147483648) {N M : Nat} (hN : n ≤ N) (hM : n ≤ M) : decide (¬ (0 : Int32) < 0 ∧ ¬ (0 : Int32) < 0 ∧ ¬ nI n < 0 ∧ (0 : Int32).toNatClampNeg + (nI n).toNatClampNeg ≤ N ∧ (0 : Int32).toNatClampNeg + (nI n).toNatClampNeg ≤ M) = true := by
  rw [decide_eq_true_iff, z_cl h]
  refine ⟨by decide, by decide, z_nneg h, ?_, ?_⟩
  · show 0 + n ≤ N
    omega
  · show 0 + n ≤ M
    omega
theorem z_cpy {S : gS} {a b n : Nat} {k : gS → Option (Unit × gS)} {r : Option (Unit × gS)} (h : n < 2147483648) (hk : k (gJ_row S b (va_cpy (gJ S a) (gJ S b) 0 0 n)) = r) : gx_cpyJ S a b n n 0 0 (nI n) k = r := by
  unfold gx_cpyJ
  rw [z_ok (z_cpyOk h (Nat.le_refl n) (Nat.le_refl n)), z_let, z_cl h]
  exact hk
theorem z_cpyv {α : Type} (f g : Nat → α) {n k : Nat} (h : k < n) : va_cpy f g 0 0 n k = f k := by
  rw [pk_cpy_in (by omega) (by omega)]
  congr 1
  omega
theorem z_become (o a : Nat) (S : gS) (h : o + 3 < a ∨ a + 3 < o) : ∃ S', fX0_become o a S = some ((), S') ∧ gOff [o, o + 1, o + 2, o + 3] S S' ∧ gI S' o 3 = gI S a 3 ∧ (∀ k, k ≠ 3 → gI S' o k = gI S o k) ∧ (∀ k, k < 3904 → gJ S' (o + 1) k = gJ S (a + 1) k) ∧ (∀ k, k < 64 → gJ S' (o + 2) k = gJ S (a + 2) k) ∧ (∀ k, k < 305 → gJ S' (o + 3) k = gJ S (a + 3) k) := by
  have e1 := z_lit 3904
  have e2 := z_lit 64
  have e3 := z_lit 305
  have key : ∃ S', fX0_become o a S = some ((), S') ∧ S' = gJ_row (gJ_row (gJ_row (gI_up S o 3 (gI S a 3)) (o + 1) (va_cpy (gJ (gI_up S o 3 (gI S a 3)) (a + 1)) (gJ (gI_up S o 3 (gI S a 3)) (o + 1)) 0 0 3904)) (o + 2) (va_cpy (gJ (gJ_row (gI_up S o 3 (gI S a 3)) (o + 1) (va_cpy (gJ (gI_up S o 3 (gI S a 3)) (a + 1)) (gJ (gI_up S o 3 (gI S a 3)) (o + 1)) 0 0 3904)) (a + 2)) (gJ (gJ_row (gI_up S o 3 (gI S a 3)) (o + 1) (va_cpy (gJ (gI_up S o 3 (gI S a 3)) (a + 1)) (gJ (gI_up S o 3 (gI S a 3)) (o + 1)) 0 0 3904)) (o + 2)) 0 0 64)) (o + 3) (va_cpy (gJ (gJ_row (gJ_row (gI_up S o 3 (gI S a 3)) (o + 1) (va_cpy (gJ (gI_up S o 3 (gI S a 3)) (a + 1)) (gJ (gI_up S o 3 (gI S a 3)) (o + 1)) 0 0 3904)) (o + 2) (va_cpy (gJ (gJ_row (gI_up S o 3 (gI S a 3)) (o + 1) (va_cpy (gJ (gI_up S o 3 (gI S a 3)) (a + 1)) (gJ (gI_up S o 3 (gI S a 3)) (o + 1)) 0 0 3904)) (a + 2)) (gJ (gJ_row (gI_up S o 3 (gI S a 3)) (o + 1) (va_cpy (gJ (gI_up S o 3 (gI S a 3)) (a + 1)) (gJ (gI_up S o 3 (gI S a 3)) (o + 1)) 0 0 3904)) (o + 2)) 0 0 64)) (a + 3)) (gJ (gJ_row (gJ_row (gI_up S o 3 (gI S a 3)) (o + 1) (va_cpy (gJ (gI_up S o 3 (gI S a 3)) (a + 1)) (gJ (gI_up S o 3 (gI S a 3)) (o + 1)) 0 0 3904)) (o + 2) (va_cpy (gJ (gJ_row (gI_up S o 3 (gI S a 3)) (o + 1) (va_cpy (gJ (gI_up S o 3 (gI S a 3)) (a + 1)) (gJ (gI_up S o 3 (gI S a 3)) (o + 1)) 0 0 3904)) (a + 2)) (gJ (gJ_row (gI_up S o 3 (gI S a 3)) (o + 1) (va_cpy (gJ (gI_up S o 3 (gI S a 3)) (a + 1)) (gJ (gI_up S o 3 (gI S a 3)) (o + 1)) 0 0 3904)) (o + 2)) 0 0 64)) (o + 3)) 0 0 305) := by
    refine ⟨_, ?_, rfl⟩
    unfold fX0_become
    rw [z_let, e1, e2, e3]
    exact z_cpy (n := 3904) (by omega) (z_cpy (n := 64) (by omega) (z_cpy (n := 305) (by omega) rfl))
  obtain ⟨S', k1, k2⟩ := key
  refine ⟨S', k1, ?_, ?_, ?_, ?_, ?_, ?_⟩ <;> rw [k2]
  · exact gOff_tr (gOff_tr (gOff_tr (gOff_I (by simp)) (gOff_rJ (by simp))) (gOff_rJ (by simp))) (gOff_rJ (by simp))
  · simp only [z_IrJ]
    rw [z_Is]
  · intro k hk
    simp only [z_IrJ]
    rw [z_Ik _ _ _ hk]
  · intro k hk
    rw [z_JrJ, if_neg (by omega), z_JrJ, if_neg (by omega), z_JrJ, if_pos rfl, z_cpyv _ _ hk]
    rfl
  · intro k hk
    rw [z_JrJ, if_neg (by omega), z_JrJ, if_pos rfl, z_cpyv _ _ hk, z_JrJ, if_neg (by omega)]
    rfl
  · intro k hk
    rw [z_JrJ, if_pos rfl, z_cpyv _ _ hk, z_JrJ, if_neg (by omega), z_JrJ, if_neg (by omega)]
    rfl
theorem zXI_pw {op : Nat → Prop} {gr th tl gr2 th2 tl2 : Nat → Int64} {g : Nat → Nat → Nat} {s : Nat → Int64} (hop : ∀ c, op c → c < 64) (h1 : ∀ k, k < 3904 → gr2 k = gr k) (h2 : ∀ k, k < 64 → th2 k = th k) (h3 : ∀ k, k < 305 → tl2 k = tl k) (H : zXI op gr th tl g s) : zXI op gr2 th2 tl2 g s := by
  refine ⟨fun c hc => ⟨fun k hk => ?_, ?_⟩, fun k hk => ?_, fun i a b => ?_⟩
  · have := hop c hc
    rw [h1 _ (by omega)]; exact (H.1 c hc).1 k hk
  · rw [h2 _ (hop c hc)]; exact (H.1 c hc).2
  · rw [h3 _ (by omega)]; exact H.2.1 k hk
  · rw [h3 _ b]; exact H.2.2 i a b
theorem zYI_pw {ic su ic2 su2 : Nat → Int64} {g : Nat → Nat → Nat} {s : Nat → Int64} (h1 : ∀ k, k < 3904 → ic2 k = ic k) (h3 : ∀ k, k < 305 → su2 k = su k) (H : zYI ic su g s) : zYI ic2 su2 g s := by
  refine ⟨fun c k hc hk => ?_, fun k hk => ?_, fun i a b => ?_⟩
  · rw [h1 _ (by omega)]; exact H.1 c k hc hk
  · rw [h3 _ (by omega)]; exact H.2.1 k hk
  · rw [h3 _ b]; exact H.2.2 i a b

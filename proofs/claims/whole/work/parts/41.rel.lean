/-! the relation between the class's state and the reference's -/
def gsum (f : Nat → Nat) : Nat → Nat
  | 0 => 0
  | n + 1 => gsum f n + f n
/-- an open cell: of the ground, no cliff -/
def zOp (w h : Nat) (kd : Nat → Int32) (c : Nat) : Prop := c < 64 ∧ c % 8 < w ∧ c / 8 < h ∧ kd c ≠ 4
def zopB (w h : Nat) (kd : Nat → Int32) (c : Nat) : Bool := decide (c < 64 ∧ c % 8 < w ∧ c / 8 < h ∧ kd c ≠ 4)
theorem zopB_iff {w h : Nat} {kd : Nat → Int32} {c : Nat} : zopB w h kd c = true ↔ zOp w h kd c := by
  unfold zopB zOp; simp
def zcnt (p : Nat → Bool) : Nat → Nat
  | 0 => 0
  | n + 1 => zcnt p n + if p n then 1 else 0
/-- the strips -/
def zS1 (Sx Sy : gS) (s : Nat) : Prop :=
  ((gI Sx (47 + 2 * s) 1 = 1 ∧ gA Sy 1 s = -9) ∨ (gI Sx (47 + 2 * s) 1 = 0 ∧ gI Sx (47 + 2 * s) 2 = gA Sy 1 s ∧ ∃ a : Nat, a ≤ 2 ∧ gA Sy 1 s = nI a)) ∧
  (∃ m : Nat, m ≤ 8 ∧ gI Sx (47 + 2 * s) 3 = nI m ∧ gA Sy 2 s = nI m) ∧
  ∀ k, k < 8 → gJ Sx (48 + 2 * s) k = gJ Sy 3 (8 * s + k)
def zStr (Sx Sy : gS) : Prop := gI Sx 0 9 = gI Sy 0 3 ∧ ∀ s, s < 8 → zS1 Sx Sy s
/-- what is told -/
def zTold (Sx Sy : gS) : Prop := gI Sx 2 2 = gI Sy 0 15 ∧ gI Sx 2 3 = gI Sy 0 16 ∧ ∀ b, b < 10 → (∃ v : Nat, v ≤ 100000 ∧ gA Sx 3 b = nI v ∧ gA Sy 10 b = nI v) ∧ (∃ v : Nat, v ≤ 100000 ∧ gA Sx 4 b = nI v ∧ gA Sy 11 b = nI v)
/-- the ground -/
def zLand (w h : Nat) (Sx Sy : gS) : Prop :=
  gI Sx 5 5 = nI w ∧ gI Sx 5 6 = nI h ∧ gI Sy 0 5 = nI w ∧ gI Sy 0 6 = nI h ∧ ((w = 0 ∧ h = 0) ∨ (2 ≤ w ∧ w ≤ 8 ∧ 2 ≤ h ∧ h ≤ 8)) ∧
  (∀ c, c < 64 → gA Sx 7 c = gA Sy 5 c ∧ gA Sx 8 c = gA Sy 6 c ∧ gA Sx 6 c = gA Sy 7 c ∧ (∃ v : Nat, v ≤ 9999 ∧ gA Sy 7 c = nI v) ∧ (∃ v : Nat, v ≤ 100 ∧ gA Sy 6 c = nI v)) ∧
  gI Sx 5 4 = nI (zcnt (zopB w h (gA Sy 5)) 64) ∧
  ∀ c, c < 64 → zOp w h (gA Sy 5) c → gA Sx 9 (zcnt (zopB w h (gA Sy 5)) c) = nI c
/-- the class's rows of ice -/
def zXI (op : Nat → Prop) (gr th tl : Nat → Int64) (g : Nat → Nat → Nat) (s : Nat → Int64) : Prop :=
  (∀ c, op c → (∀ k, k < 61 → gr (c * 61 + k) = lN (g c k)) ∧ th c = lN (gsum (g c) 61)) ∧
  (∀ k, k < 61 → tl k = lN (gsum (fun c => g c k) 64)) ∧ ∀ i, 61 ≤ i → i < 305 → tl i = s i
/-- the reference's -/
def zYI (ic su : Nat → Int64) (g : Nat → Nat → Nat) (s : Nat → Int64) : Prop :=
  (∀ c k, c < 64 → k < 61 → ic (61 * c + k) = lN (g c k)) ∧ (∀ i, i < 61 → su i = 0) ∧ ∀ i, 61 ≤ i → i < 305 → su i = s i
def ztot (g : Nat → Nat → Nat) : Nat := gsum (fun c => gsum (g c) 61) 64
/-- what holds of the ice itself -/
def zIn (n : Nat) (op : Nat → Prop) (y : Nat) (g : Nat → Nat → Nat) (s : Nat → Int64) : Prop :=
  (∀ c k, ¬ op c → g c k = 0) ∧ (∀ c k, y < k → g c k = 0) ∧ (∀ j k, 1 ≤ j → j ≤ 4 → y < k → k < 61 → s (61 * j + k) = 0) ∧ ztot g ≤ 1000000 * n + 6400000 * y
def zIce (n w h : Nat) (kd : Nat → Int32) (y : Nat) (gr th tl ic su : Nat → Int64) (g : Nat → Nat → Nat) (s : Nat → Int64) : Prop :=
  zXI (zOp w h kd) gr th tl g s ∧ zYI ic su g s ∧ zIn n (zOp w h kd) y g s
/-- the years that can be taken back: the j-th of them (0: the latest) -/
def zRing (n w h y rp j : Nat) (Sx Sy : gS) : Prop :=
  ∃ (g : Nat → Nat → Nat) (s : Nat → Int64), gI Sx (16 + 4 * ((rp + 4 - j) % 5)) 3 = nI (y - 1 - j) ∧
    zIce n w h (gA Sy 5) (y - 1 - j) (gJ Sx (17 + 4 * ((rp + 4 - j) % 5))) (gJ Sx (18 + 4 * ((rp + 4 - j) % 5))) (gJ Sx (19 + 4 * ((rp + 4 - j) % 5)))
      (fun i => gJ Sy 12 (3904 * ((rp + 4 - j) % 5) + i)) (fun i => gJ Sy 13 (305 * ((rp + 4 - j) % 5) + i)) g s
def zMain (n : Nat) (Sx Sy : gS) : Prop :=
  ∃ (w h y kp rp : Nat) (g : Nat → Nat → Nat) (s : Nat → Int64), zLand w h Sx Sy ∧ y ≤ 60 ∧ kp ≤ 5 ∧ kp ≤ y ∧ rp < 5 ∧ gI Sx 10 3 = nI y ∧ gI Sy 0 7 = nI y ∧
    gI Sx 14 1 = nI rp ∧ gI Sy 0 18 = nI rp ∧ gI Sx 14 2 = nI kp ∧ gI Sy 0 17 = nI kp ∧
    zIce n w h (gA Sy 5) y (gJ Sx 11) (gJ Sx 12) (gJ Sx 13) (gJ Sy 8) (gJ Sy 9) g s ∧ ∀ j, j < kp → zRing n w h y rp j Sx Sy
def gR (n : Nat) (Sx Sy : gS) : Prop := zStr Sx Sy ∧ zTold Sx Sy ∧ zMain n Sx Sy
/-! frames -/
def zSame (lo hi : Nat) (S S' : gS) : Prop := ∀ o, lo ≤ o → o ≤ hi → gI S' o = gI S o ∧ gA S' o = gA S o ∧ gJ S' o = gJ S o
theorem zIn_mo {n m : Nat} {op : Nat → Prop} {y : Nat} {g : Nat → Nat → Nat} {s : Nat → Int64} (hn : n ≤ m) (h : zIn n op y g s) : zIn m op y g s :=
  ⟨h.1, h.2.1, h.2.2.1, Nat.le_trans h.2.2.2 (by omega)⟩
theorem zIce_mo {n m w h : Nat} {kd : Nat → Int32} {y : Nat} {gr th tl ic su : Nat → Int64} {g : Nat → Nat → Nat} {s : Nat → Int64} (hn : n ≤ m) (H : zIce n w h kd y gr th tl ic su g s) : zIce m w h kd y gr th tl ic su g s := ⟨H.1, H.2.1, zIn_mo hn H.2.2⟩
/-- the reference's cells that the ground and the ice stand in -/
def zSameY (S S' : gS) : Prop := gA S' 5 = gA S 5 ∧ gA S' 6 = gA S 6 ∧ gA S' 7 = gA S 7 ∧ gJ S' 8 = gJ S 8 ∧ gJ S' 9 = gJ S 9 ∧ gJ S' 12 = gJ S 12 ∧ gJ S' 13 = gJ S 13 ∧ gI S' 0 5 = gI S 0 5 ∧ gI S' 0 6 = gI S 0 6 ∧ gI S' 0 7 = gI S 0 7 ∧ gI S' 0 17 = gI S 0 17 ∧ gI S' 0 18 = gI S 0 18
theorem zLand_fr {w h : Nat} {Sx Sy Sx' Sy' : gS} (hx : zSame 5 9 Sx Sx') (h1 : gA Sy' 5 = gA Sy 5) (h2 : gA Sy' 6 = gA Sy 6) (h3 : gA Sy' 7 = gA Sy 7) (h4 : gI Sy' 0 5 = gI Sy 0 5) (h5 : gI Sy' 0 6 = gI Sy 0 6) (H : zLand w h Sx Sy) : zLand w h Sx' Sy' := by
  have x5 := (hx 5 (by omega) (by omega)).1
  have x6 := (hx 6 (by omega) (by omega)).2.1
  have x7 := (hx 7 (by omega) (by omega)).2.1
  have x8 := (hx 8 (by omega) (by omega)).2.1
  have x9 := (hx 9 (by omega) (by omega)).2.1
  unfold zLand at H ⊢
  rw [x5, x6, x7, x8, x9, h1, h2, h3, h4, h5]
  exact H
theorem zRing_fr {n m w h y rp j : Nat} {Sx Sy Sx' Sy' : gS} (hn : n ≤ m) (hx : zSame 16 35 Sx Sx') (h1 : gA Sy' 5 = gA Sy 5) (h2 : gJ Sy' 12 = gJ Sy 12) (h3 : gJ Sy' 13 = gJ Sy 13) (H : zRing n w h y rp j Sx Sy) : zRing m w h y rp j Sx' Sy' := by
  have hq : (rp + 4 - j) % 5 < 5 := Nat.mod_lt _ (by omega)
  unfold zRing at H ⊢
  revert H
  generalize (rp + 4 - j) % 5 = q at hq ⊢
  intro H
  have x1 := (hx (16 + 4 * q) (by omega) (by omega)).1
  have x2 := (hx (17 + 4 * q) (by omega) (by omega)).2.2
  have x3 := (hx (18 + 4 * q) (by omega) (by omega)).2.2
  have x4 := (hx (19 + 4 * q) (by omega) (by omega)).2.2
  rw [x1, x2, x3, x4, h1, h2, h3]
  obtain ⟨g, s, a, b⟩ := H
  exact ⟨g, s, a, zIce_mo hn b⟩
theorem zMain_fr {n m : Nat} {Sx Sy Sx' Sy' : gS} (hn : n ≤ m) (hx : zSame 5 35 Sx Sx') (hy : zSameY Sy Sy') (H : zMain n Sx Sy) : zMain m Sx' Sy' := by
  obtain ⟨w, h, y, kp, rp, g, s, h1, h2, h3, h4, h5, h6, h7, h8, h9, h10, h11, h12, h13⟩ := H
  obtain ⟨y1, y2, y3, y4, y5, y6, y7, y8, y9, y10, y11, y12⟩ := hy
  have x10 := (hx 10 (by omega) (by omega)).1
  have x14 := (hx 14 (by omega) (by omega)).1
  have x11 := (hx 11 (by omega) (by omega)).2.2
  have x12 := (hx 12 (by omega) (by omega)).2.2
  have x13 := (hx 13 (by omega) (by omega)).2.2
  refine ⟨w, h, y, kp, rp, g, s, zLand_fr (fun o a b => hx o (by omega) (by omega)) y1 y2 y3 y8 y9 h1, h2, h3, h4, h5, by rw [x10]; exact h6, by rw [y10]; exact h7, by rw [x14]; exact h8, by rw [y12]; exact h9, by rw [x14]; exact h10, by rw [y11]; exact h11, ?_, fun j hj => zRing_fr hn (fun o a b => hx o (by omega) (by omega)) y1 y6 y7 (h13 j hj)⟩
  rw [x11, x12, x13, y1, y4, y5]
  exact zIce_mo hn h12
theorem zTold_fr {Sx Sy Sx' Sy' : gS} (hx : zSame 2 4 Sx Sx') (h1 : gA Sy' 10 = gA Sy 10) (h2 : gA Sy' 11 = gA Sy 11) (h3 : gI Sy' 0 15 = gI Sy 0 15) (h4 : gI Sy' 0 16 = gI Sy 0 16) (H : zTold Sx Sy) : zTold Sx' Sy' := by
  have x2 := (hx 2 (by omega) (by omega)).1
  have x3 := (hx 3 (by omega) (by omega)).2.1
  have x4 := (hx 4 (by omega) (by omega)).2.1
  unfold zTold at H ⊢
  rw [x2, x3, x4, h1, h2, h3, h4]
  exact H
theorem zStr_fr {Sx Sy Sx' Sy' : gS} (h0 : gI Sx' 0 9 = gI Sx 0 9) (hx : zSame 47 62 Sx Sx') (h1 : gA Sy' 1 = gA Sy 1) (h2 : gA Sy' 2 = gA Sy 2) (h3 : gJ Sy' 3 = gJ Sy 3) (h4 : gI Sy' 0 3 = gI Sy 0 3) (H : zStr Sx Sy) : zStr Sx' Sy' := by
  refine ⟨by rw [h0, h4]; exact H.1, fun s hs => ?_⟩
  have x1 := (hx (47 + 2 * s) (by omega) (by omega)).1
  have x2 := (hx (48 + 2 * s) (by omega) (by omega)).2.2
  have h := H.2 s hs
  unfold zS1 at h ⊢
  rw [x1, x2, h1, h2, h3]
  exact h
theorem z_skip {n : Nat} {Sx Sy : gS} (_ : n < 512) (h : gR n Sx Sy) : gR (n + 1) Sx Sy :=
  ⟨h.1, h.2.1, zMain_fr (Nat.le_succ n) (fun _ _ _ => ⟨rfl, rfl, rfl⟩) ⟨rfl, rfl, rfl, rfl, rfl, rfl, rfl, rfl, rfl, rfl, rfl, rfl⟩ h.2.2⟩

/-! THE CLAIM OUT OF ONE WALK OF THE LAW'S BODY. Your part is whole_start (and what it stands on); all else here is the same for every law, but numbers. -/
def R_law : String := "GlacierYearsLaw"
def lw_P (b : Addr) (xs : List Int32) (args : Array Value) (s : State) : Prop := args = #[.ref b] ∧ s.IntsAt b xs ∧ xs.length ≤ 3072 ∧ (Jvm.Cond.and given_1 narrow_1).before args s = true
def lw_Q (_ : Array Value) (s : State) (o : Outcome) (t : State) : Prop := o = .returned (some (.int 1)) ∧ Framed s o t [] 600000 7302250
def lw_Z (below : List Frame) (a : Array Value) (s : State) : State → Prop := fun t => ∃ o, t.status = .running ∧ Ended t below o ∧ lw_Q a s o t
/-- the law's own end, with 1 on the stack, nothing written that was there before, its room as the claim has it -/
theorem lw_ret {p : Program} {l : Launch} {e : Env} {s : State} {m : MethodId} {below : List Frame} {meth : Method} {c : Code} {b : Nat} (hx : p.tables.exec = Jvm.exec) (hb : c.code = code) (hr : meth.sig.returnType = ret) (hlocks : meth.locks = false) {pc : Nat} {H : Heap} {ls : Array Slot} (hdg : decode code pc = .ok (.ireturn, 1)) : W p l e room_1 s m #[Value.ref b] below meth c H [] 600000 7302250 (lw_Z below #[Value.ref b] s) (F0 m pc ls [.int 1]) := by
  intro T hT X
  obtain ⟨fs, hret, hrun, hended, hW, hframe⟩ := X.leave (v := some (.int 1)) (hlocks := hlocks) (fun h => by rw [hr] at h; cases h)
  have hmeth' : T.vm.method? m = some meth := X.method'
  refine ⟨T.setFrames fs, ?_, .returned (some (.int 1)), hrun, hended, rfl, ⟨_, rfl⟩, hW, hframe⟩
  jvm_step X.here [X.here.top, hx, hb, hdg, hmeth', hr, ret, narrow_b1]
  (try refine ⟨rfl, ?_⟩); (try refine ⟨rfl, ?_⟩)
  first | (intro acts; rw [hret _ acts rfl rfl rfl]) | rw [hret _ _ rfl rfl rfl]
  exact Steps.refl _
/-- what holds at the law's entry: the machine, the code, the tables' words (any of lw_tbl by 'hts w (by decide +kernel)'), the script of L ints xs at the cell b, what the Statement gives of the start (any of its parts by flat_of_before) -/
def lw_At (p : Program) (s : State) (m : MethodId) (meth : Method) (c : Code) (b L : Nat) (xs : Nat → Int32) : Prop :=
  p.tables.exec = Jvm.exec ∧ c.code = code ∧ meth.sig.returnType = ret ∧ c.maxLocals = 4 ∧ s.vm.findClass R_law = some m.cls ∧ (∀ w ∈ lw_tbl, w.before #[Value.ref b] s = true) ∧ va_X b L xs s s.heap ∧ b < s.heap.size ∧ meth.locks = false ∧ (Jvm.Cond.and given_1 narrow_1).before #[Value.ref b] s = true
/-! the law's two systems side by side -/
theorem gl_addr {A : Nat → Prop} {w1 w2 : va_W} (e : w1.map Prod.fst = w2.map Prod.fst) (h : va_D A w1) : va_D A w2 := by
  have key : ∀ (k : Nat) (q : Nat × va_E), w2[k]? = some q → ∃ q0, w1[k]? = some q0 ∧ q0.1 = q.1 := by
    intro k q hk
    have h1 : (w2.map Prod.fst)[k]? = some q.1 := by rw [List.getElem?_map, hk]; rfl
    rw [← e, List.getElem?_map] at h1
    cases h2 : w1[k]? with
    | none => rw [h2] at h1; cases h1
    | some q0 => rw [h2] at h1; exact ⟨q0, rfl, Option.some.inj h1⟩
  refine ⟨fun i j x y hi hj hxy => ?_, fun k q hk => ?_⟩
  · obtain ⟨x0, h1, h2⟩ := key i x hi
    obtain ⟨y0, h3, h4⟩ := key j y hj
    exact h.1 i j x0 y0 h1 h3 (h2.trans (hxy.trans h4.symm))
  · obtain ⟨q0, h1, h2⟩ := key k q hk
    rw [← h2]
    exact h.2 k q0 h1
theorem gl_fX (G : gG) (ad : Nat → Nat) (S : gS) : (wdX G ad S).map Prod.fst = (List.range 63).map ad := by
  unfold wdX; rw [List.map_map]; rfl
theorem gl_fY (G : gG) (ad : Nat → Nat) (S : gS) : (wdY G ad S).map Prod.fst = (List.range 20).map ad := by
  unfold wdY; rw [List.map_map]; rfl
def gVL (G : gG) (ax ay : Nat → Nat) (A : Nat → Prop) (H0 : Heap) (Sx Sy : gS) (H : Heap) (locs : List Loc) : Prop := va_P G.1 vwCl (wdX G ax Sx) H ∧ va_P G.1 vwCl (wdY G ay Sy) H ∧ va_D A (wdX G ax Sx ++ wdY G ay Sy) ∧ va_S A H0 H locs
theorem gl_left {A : Nat → Prop} {w1 w2 : va_W} (h : va_D A (w1 ++ w2)) : va_D A w1 := by
  have hin : ∀ (k : Nat) (x : Nat × va_E), w1[k]? = some x → (w1 ++ w2)[k]? = some x := fun k x hx => by rw [List.getElem?_append_left (List.getElem?_eq_some_iff.mp hx).1]; exact hx
  exact ⟨fun i j x y hi hj hxy => h.1 i j x y (hin i x hi) (hin j y hj) hxy, fun k x hx => h.2 k x (hin k x hx)⟩
theorem gl_right {A : Nat → Prop} {w1 w2 : va_W} (h : va_D A (w1 ++ w2)) : va_D A w2 := by
  have hin : ∀ (k : Nat) (x : Nat × va_E), w2[k]? = some x → (w1 ++ w2)[w1.length + k]? = some x := fun k x hx => by rw [List.getElem?_append_right (by omega)]; simpa using hx
  refine ⟨fun i j x y hi hj hxy => ?_, fun k x hx => h.2 _ x (hin k x hx)⟩
  have := h.1 _ _ x y (hin i x hi) (hin j y hj) hxy
  omega
theorem gl_apart {A : Nat → Prop} {w1 w2 : va_W} (h : va_D A (w1 ++ w2)) {i j : Nat} {x y : Nat × va_E} (hi : w1[i]? = some x) (hj : w2[j]? = some y) : x.1 ≠ y.1 := by
  intro e
  have h1 : (w1 ++ w2)[i]? = some x := by rw [List.getElem?_append_left (List.getElem?_eq_some_iff.mp hi).1]; exact hi
  have h2 : (w1 ++ w2)[w1.length + j]? = some y := by rw [List.getElem?_append_right (by omega)]; simpa using hj
  have h3 := h.1 _ _ x y h1 h2 e
  have h4 := (List.getElem?_eq_some_iff.mp hi).1
  omega
theorem gl_keep {D : va_G} {cl : List vw_C} {wc wr : va_W} {H H1 : Heap} (hP : va_P D cl wr H) (hap : ∀ (i j : Nat) (x y : Nat × va_E), wc[i]? = some x → wr[j]? = some y → x.1 ≠ y.1) (hk : ∀ q : Nat, q < H.size → ¬ va_A wc H.size q → H1[q]? = H[q]?) : va_P D cl wr H1 := fun k x hx => by
  have hl := (hP k x hx).lt
  refine (hP k x hx).kept (hk x.1 hl (fun h => ?_))
  rcases h with ⟨k2, e2, h⟩ | h
  · exact hap k2 k (x.1, e2) x h hx rfl
  · omega
section GL
variable {p : Program} {l : Launch} {e : Env} {R : Room} {s : State} {m : MethodId} {args : Array Value} {below : List Frame} {meth : Method} {c : Code} {H : Heap} {locs : List Loc} {cells slots : Nat} {Q : State → Prop}
variable {cc : ByteArray} {pc : Nat} {ls : Array Slot} {rest : List Value} {G : gG} {own : String} {ret : Option FieldType} {nL : Nat} {ax ay : Nat → Nat} {A : Nat → Prop} {H0 : Heap} {Sx Sy S' : gS} {st : List Value} {a : Array Value}
theorem gl_XI (hA : ∀ q, H0.size ≤ q → A q) (hV : gVL G ax ay A H0 Sx Sy H locs) {r : Int32} (hr : va_Run p l e R s m args below meth c H locs cells slots 0 0 (F0 m pc ls st) rest (gQi wdX G ax (va_A (wdX G ax Sx) H.size) (r, S') a) (va_A (wdX G ax Sx) H.size))
    (kk : ∀ (H1 : Heap) (locs1 : List Loc), gVL G ax ay A H0 S' Sy H1 locs1 → W p l e R s m args below meth c H1 locs1 cells slots Q (F0 m (pc + 3) ls (.int r :: rest))) : W p l e R s m args below meth c H locs cells slots Q (F0 m pc ls st) := by
  obtain ⟨hPx, hPy, hD, hS⟩ := hV
  refine va_calli hr hS (fun q _ h => g_free (gl_left hD) hS hA q h) (g_free (gl_left hD) hS hA) (fun r1 u t H1 locs1 ht hvm hw hB hz1 hk1 hS1 => ?_)
  obtain ⟨rfl, rfl⟩ := hw
  obtain ⟨g1, g2, g3⟩ := hB
  rw [ht] at g1
  exact kk H1 locs1 ⟨g1, gl_keep hPy (fun i j x y hi hj => gl_apart hD hi hj) hk1, gl_addr (by rw [List.map_append, List.map_append, gl_fX, gl_fX]) hD, hS1⟩
theorem gl_XL (hA : ∀ q, H0.size ≤ q → A q) (hV : gVL G ax ay A H0 Sx Sy H locs) {r : Int64} (hr : va_Run p l e R s m args below meth c H locs cells slots 0 0 (F0 m pc ls st) rest (gQl wdX G ax (va_A (wdX G ax Sx) H.size) (r, S') a) (va_A (wdX G ax Sx) H.size))
    (kk : ∀ (H1 : Heap) (locs1 : List Loc), gVL G ax ay A H0 S' Sy H1 locs1 → W p l e R s m args below meth c H1 locs1 cells slots Q (F0 m (pc + 3) ls (.long r :: rest))) : W p l e R s m args below meth c H locs cells slots Q (F0 m pc ls st) := by
  obtain ⟨hPx, hPy, hD, hS⟩ := hV
  refine va_calll hr hS (fun q _ h => g_free (gl_left hD) hS hA q h) (g_free (gl_left hD) hS hA) (fun r1 u t H1 locs1 ht hvm hw hB hz1 hk1 hS1 => ?_)
  obtain ⟨rfl, rfl⟩ := hw
  obtain ⟨g1, g2, g3⟩ := hB
  rw [ht] at g1
  exact kk H1 locs1 ⟨g1, gl_keep hPy (fun i j x y hi hj => gl_apart hD hi hj) hk1, gl_addr (by rw [List.map_append, List.map_append, gl_fX, gl_fX]) hD, hS1⟩
theorem gl_YI (hA : ∀ q, H0.size ≤ q → A q) (hV : gVL G ax ay A H0 Sx Sy H locs) {r : Int32} (hr : va_Run p l e R s m args below meth c H locs cells slots 0 0 (F0 m pc ls st) rest (gQi wdY G ay (va_A (wdY G ay Sy) H.size) (r, S') a) (va_A (wdY G ay Sy) H.size))
    (kk : ∀ (H1 : Heap) (locs1 : List Loc), gVL G ax ay A H0 Sx S' H1 locs1 → W p l e R s m args below meth c H1 locs1 cells slots Q (F0 m (pc + 3) ls (.int r :: rest))) : W p l e R s m args below meth c H locs cells slots Q (F0 m pc ls st) := by
  obtain ⟨hPx, hPy, hD, hS⟩ := hV
  refine va_calli hr hS (fun q _ h => g_free (gl_right hD) hS hA q h) (g_free (gl_right hD) hS hA) (fun r1 u t H1 locs1 ht hvm hw hB hz1 hk1 hS1 => ?_)
  obtain ⟨rfl, rfl⟩ := hw
  obtain ⟨g1, g2, g3⟩ := hB
  rw [ht] at g1
  exact kk H1 locs1 ⟨gl_keep hPx (fun i j x y hi hj e => gl_apart hD hj hi e.symm) hk1, g1, gl_addr (by rw [List.map_append, List.map_append, gl_fY, gl_fY]) hD, hS1⟩
theorem gl_YL (hA : ∀ q, H0.size ≤ q → A q) (hV : gVL G ax ay A H0 Sx Sy H locs) {r : Int64} (hr : va_Run p l e R s m args below meth c H locs cells slots 0 0 (F0 m pc ls st) rest (gQl wdY G ay (va_A (wdY G ay Sy) H.size) (r, S') a) (va_A (wdY G ay Sy) H.size))
    (kk : ∀ (H1 : Heap) (locs1 : List Loc), gVL G ax ay A H0 Sx S' H1 locs1 → W p l e R s m args below meth c H1 locs1 cells slots Q (F0 m (pc + 3) ls (.long r :: rest))) : W p l e R s m args below meth c H locs cells slots Q (F0 m pc ls st) := by
  obtain ⟨hPx, hPy, hD, hS⟩ := hV
  refine va_calll hr hS (fun q _ h => g_free (gl_right hD) hS hA q h) (g_free (gl_right hD) hS hA) (fun r1 u t H1 locs1 ht hvm hw hB hz1 hk1 hS1 => ?_)
  obtain ⟨rfl, rfl⟩ := hw
  obtain ⟨g1, g2, g3⟩ := hB
  rw [ht] at g1
  exact kk H1 locs1 ⟨gl_keep hPx (fun i j x y hi hj e => gl_apart hD hj hi e.symm) hk1, g1, gl_addr (by rw [List.map_append, List.map_append, gl_fY, gl_fY]) hD, hS1⟩
theorem gl_vX (hV : gVL G ax ay A H0 Sx Sy H locs) : gV wdX G ax A H0 Sx H locs := ⟨hV.1, gl_left hV.2.2.1, hV.2.2.2⟩
theorem gl_vY (hV : gVL G ax ay A H0 Sx Sy H locs) : gV wdY G ay A H0 Sy H locs := ⟨hV.2.1, gl_right hV.2.2.1, hV.2.2.2⟩
end GL
theorem gl_in {I L : Nat} (k : Nat) {v : Int32} (hv : v = nI k) (h : I + 6 ≤ L) (hL : L ≤ 3072) (hk : k < 6) : vp_in (nI I + v) L := by
  rw [hv, nI_add]; exact vp_in_nI (by omega) (by omega)
theorem gl_gt {I L : Nat} (hI : I ≤ 4000) (hL : L ≤ 3072) (h : L < I + 6) : nI L - 6 < nI I := by
  have e1 : (nI L - 6 : Int32).toInt = (L : Int) - 6 := pk_sub_toInt (a := L) (b := 6) (by omega) (by omega)
  rw [Int32.lt_iff_toInt_lt, e1, nI_toInt (by omega)]
  omega
theorem gl_ngt {I L : Nat} (hI : I ≤ 4000) (hL : L ≤ 3072) (h : ¬ nI L - 6 < nI I) : I + 6 ≤ L := by
  rcases Nat.lt_or_ge L (I + 6) with q | q
  · exact absurd (gl_gt hI hL q) h
  · exact q
theorem kcL_13 : gKV RL 13 yX5_strip cX5_strip 4 (some .int) 3 := ⟨q_210, q_211, q_212, q_213, q_36, by decide +kernel⟩
theorem kcL_17 : gKV RL 17 yX6_strip cX6_strip 5 (some .int) 3 := ⟨q_620, q_621, q_622, q_623, q_42, by decide +kernel⟩
set_option maxHeartbeats 4000000 in
set_option maxRecDepth 20000 in
theorem law_strip {p : Program} {l : Launch} {e : Env} {s : State} {m : MethodId} {below : List Frame} {meth : Method} {c : Code} {G : gG} {ax ay : Nat → Nat} {b L : Nat} {xs : Nat → Int32} {cells slots : Nat} (hL : L ≤ 3072) (X : gCx p s m #[.ref b] meth c G cL_law RL ret 4) (hX : va_X b L xs s s.heap) (hbl : b < s.heap.size) (hc : cells + 0 ≤ room_1.cells) (hs : slots + 0 ≤ room_1.slots) {I n : Nat} (hI : I + 6 ≤ L) (hn : n < 512) {Q : State → Prop} {Sx Sy : gS} (hR : gR n Sx Sy) {H : Heap} {locs : List Loc} {ls : Array Slot}
    (kk : ∀ (Sx Sy : gS), gR (n + 1) Sx Sy → ∀ (H : Heap) (locs : List Loc), gVL G ax ay (fun q => s.heap.size ≤ q) s.heap Sx Sy H locs → ∀ (ls : Array Slot), lv_has ls 4 [(0, .ref b), (1, .ref (ax 0)), (2, .ref (ay 0)), (3, .int (nI I))] → W p l e room_1 s m #[.ref b] below meth c H locs cells slots Q (F0 m 958 ls []))
    (hV : gVL G ax ay (fun q => s.heap.size ≤ q) s.heap Sx Sy H locs) (hl : lv_has ls 4 [(0, .ref b), (1, .ref (ax 0)), (2, .ref (ay 0)), (3, .int (nI I))]) : W p l e room_1 s m #[.ref b] below meth c H locs cells slots Q (F0 m 132 ls []) := by
  obtain ⟨hx, hb, hr, hml, hown, hts, hlk, hK⟩ := id X
  have hA : ∀ q : Nat, s.heap.size ≤ q → (fun q : Nat => s.heap.size ≤ q) q := fun _ h => h
  have hbA : ¬ (fun q : Nat => s.heap.size ≤ q) b := Nat.not_le.mpr hbl
  refine lv_aload_n hx hb dL_law_132 rfl (lv_at hl 1 rfl) ?_
  refine lv_aload_n hx hb dL_law_133 rfl (lv_at hl 0 rfl) ?_
  refine lv_iload_n hx hb dL_law_134 rfl (lv_at hl 3 rfl) ?_
  refine lv_iconst (v := 1) hx hb dL_law_135 (by decide) ?_
  refine lv_iadd hx hb dL_law_136 ?_
  refine va_sld hx hb hX hbl hbA hV.2.2.2 (gl_in 1 (by decide) hI hL (by decide)) dL_law_137 ?_
  refine lv_aload_n hx hb dL_law_138 rfl (lv_at hl 0 rfl) ?_
  refine lv_iload_n hx hb dL_law_139 rfl (lv_at hl 3 rfl) ?_
  refine lv_iconst (v := 2) hx hb dL_law_140 (by decide) ?_
  refine lv_iadd hx hb dL_law_141 ?_
  refine va_sld hx hb hX hbl hbA hV.2.2.2 (gl_in 2 (by decide) hI hL (by decide)) dL_law_142 ?_
  refine lv_aload_n hx hb dL_law_143 rfl (lv_at hl 0 rfl) ?_
  refine lv_iload_n hx hb dL_law_144 rfl (lv_at hl 3 rfl) ?_
  refine lv_iconst (v := 3) hx hb dL_law_145 (by decide) ?_
  refine lv_iadd hx hb dL_law_146 ?_
  refine va_sld hx hb hX hbl hbA hV.2.2.2 (gl_in 3 (by decide) hI hL (by decide)) dL_law_147 ?_
  obtain ⟨r, Sx, Sy, hx1, hy1, hR⟩ := z_strip hn hR (xs (Int32.toNatClampNeg ((nI I) + (1 : Int32)))) (xs (Int32.toNatClampNeg ((nI I) + (2 : Int32)))) (xs (Int32.toNatClampNeg ((nI I) + (3 : Int32))))
  refine gl_XI hA hV (gw_runV X (gl_vX hV) (o := 0) (As := [.int (xs (Int32.toNatClampNeg ((nI I) + (1 : Int32)))), .int (xs (Int32.toNatClampNeg ((nI I) + (2 : Int32)))), .int (xs (Int32.toNatClampNeg ((nI I) + (3 : Int32))))]) (rest := []) (mX5_strip l G ax _ _ hx1) kcL_13 (iXO_0 rfl) rfl rfl rfl hl.1 rfl (Nat.le_of_ble_eq_true rfl) ⟨rfl, rfl⟩ ⟨Nat.le_of_ble_eq_true rfl, Nat.le_of_ble_eq_true rfl⟩ ⟨hc, hs⟩ dL_law_148) (fun H locs hV => ?_)
  refine lv_aload_n hx hb dL_law_151 rfl (lv_at hl 2 rfl) ?_
  refine lv_aload_n hx hb dL_law_152 rfl (lv_at hl 0 rfl) ?_
  refine lv_iload_n hx hb dL_law_153 rfl (lv_at hl 3 rfl) ?_
  refine lv_iconst (v := 1) hx hb dL_law_154 (by decide) ?_
  refine lv_iadd hx hb dL_law_155 ?_
  refine va_sld hx hb hX hbl hbA hV.2.2.2 (gl_in 1 (by decide) hI hL (by decide)) dL_law_156 ?_
  refine lv_aload_n hx hb dL_law_157 rfl (lv_at hl 0 rfl) ?_
  refine lv_iload_n hx hb dL_law_158 rfl (lv_at hl 3 rfl) ?_
  refine lv_iconst (v := 2) hx hb dL_law_159 (by decide) ?_
  refine lv_iadd hx hb dL_law_160 ?_
  refine va_sld hx hb hX hbl hbA hV.2.2.2 (gl_in 2 (by decide) hI hL (by decide)) dL_law_161 ?_
  refine lv_aload_n hx hb dL_law_162 rfl (lv_at hl 0 rfl) ?_
  refine lv_iload_n hx hb dL_law_163 rfl (lv_at hl 3 rfl) ?_
  refine lv_iconst (v := 3) hx hb dL_law_164 (by decide) ?_
  refine lv_iadd hx hb dL_law_165 ?_
  refine va_sld hx hb hX hbl hbA hV.2.2.2 (gl_in 3 (by decide) hI hL (by decide)) dL_law_166 ?_
  refine gl_YI hA hV (gw_runV X (gl_vY hV) (o := 0) (As := [.int (xs (Int32.toNatClampNeg ((nI I) + (1 : Int32)))), .int (xs (Int32.toNatClampNeg ((nI I) + (2 : Int32)))), .int (xs (Int32.toNatClampNeg ((nI I) + (3 : Int32))))]) (rest := [.int r]) (mX6_strip l G ay _ _ hy1) kcL_17 (iYO_0 rfl) rfl rfl rfl hl.1 rfl (Nat.le_of_ble_eq_true rfl) ⟨rfl, rfl⟩ ⟨Nat.le_of_ble_eq_true rfl, Nat.le_of_ble_eq_true rfl⟩ ⟨hc, hs⟩ dL_law_167) (fun H locs hV => ?_)
  refine lv_icmp_eq (tgt := 958) hx hb dL_law_170 (by decide) (fun _ => ?_) (fun c2 => absurd rfl c2)
  exact kk _ _ hR _ _ hV _ hl
theorem kcL_18 : gKV RL 18 yX5_tear cX5_tear 3 (some .int) 1 := ⟨q_231, q_232, q_233, q_234, q_36, by decide +kernel⟩
theorem kcL_22 : gKV RL 22 yX6_tear cX6_tear 3 (some .int) 1 := ⟨q_636, q_637, q_638, q_639, q_42, by decide +kernel⟩
set_option maxHeartbeats 4000000 in
set_option maxRecDepth 20000 in
theorem law_tear {p : Program} {l : Launch} {e : Env} {s : State} {m : MethodId} {below : List Frame} {meth : Method} {c : Code} {G : gG} {ax ay : Nat → Nat} {b L : Nat} {xs : Nat → Int32} {cells slots : Nat} (hL : L ≤ 3072) (X : gCx p s m #[.ref b] meth c G cL_law RL ret 4) (hX : va_X b L xs s s.heap) (hbl : b < s.heap.size) (hc : cells + 0 ≤ room_1.cells) (hs : slots + 0 ≤ room_1.slots) {I n : Nat} (hI : I + 6 ≤ L) (hn : n < 512) {Q : State → Prop} {Sx Sy : gS} (hR : gR n Sx Sy) {H : Heap} {locs : List Loc} {ls : Array Slot}
    (kk : ∀ (Sx Sy : gS), gR (n + 1) Sx Sy → ∀ (H : Heap) (locs : List Loc), gVL G ax ay (fun q => s.heap.size ≤ q) s.heap Sx Sy H locs → ∀ (ls : Array Slot), lv_has ls 4 [(0, .ref b), (1, .ref (ax 0)), (2, .ref (ay 0)), (3, .int (nI I))] → W p l e room_1 s m #[.ref b] below meth c H locs cells slots Q (F0 m 958 ls []))
    (hV : gVL G ax ay (fun q => s.heap.size ≤ q) s.heap Sx Sy H locs) (hl : lv_has ls 4 [(0, .ref b), (1, .ref (ax 0)), (2, .ref (ay 0)), (3, .int (nI I))]) : W p l e room_1 s m #[.ref b] below meth c H locs cells slots Q (F0 m 175 ls []) := by
  obtain ⟨hx, hb, hr, hml, hown, hts, hlk, hK⟩ := id X
  have hA : ∀ q : Nat, s.heap.size ≤ q → (fun q : Nat => s.heap.size ≤ q) q := fun _ h => h
  have hbA : ¬ (fun q : Nat => s.heap.size ≤ q) b := Nat.not_le.mpr hbl
  refine lv_aload_n hx hb dL_law_175 rfl (lv_at hl 1 rfl) ?_
  refine lv_aload_n hx hb dL_law_176 rfl (lv_at hl 0 rfl) ?_
  refine lv_iload_n hx hb dL_law_177 rfl (lv_at hl 3 rfl) ?_
  refine lv_iconst (v := 1) hx hb dL_law_178 (by decide) ?_
  refine lv_iadd hx hb dL_law_179 ?_
  refine va_sld hx hb hX hbl hbA hV.2.2.2 (gl_in 1 (by decide) hI hL (by decide)) dL_law_180 ?_
  obtain ⟨r, Sx, Sy, hx1, hy1, hR⟩ := z_tear hn hR (xs (Int32.toNatClampNeg ((nI I) + (1 : Int32))))
  refine gl_XI hA hV (gw_runV X (gl_vX hV) (o := 0) (As := [.int (xs (Int32.toNatClampNeg ((nI I) + (1 : Int32))))]) (rest := []) (mX5_tear l G ax _ _ hx1) kcL_18 (iXO_0 rfl) rfl rfl rfl hl.1 rfl (Nat.le_of_ble_eq_true rfl) ⟨rfl, rfl⟩ ⟨Nat.le_of_ble_eq_true rfl, Nat.le_of_ble_eq_true rfl⟩ ⟨hc, hs⟩ dL_law_181) (fun H locs hV => ?_)
  refine lv_aload_n hx hb dL_law_184 rfl (lv_at hl 2 rfl) ?_
  refine lv_aload_n hx hb dL_law_185 rfl (lv_at hl 0 rfl) ?_
  refine lv_iload_n hx hb dL_law_186 rfl (lv_at hl 3 rfl) ?_
  refine lv_iconst (v := 1) hx hb dL_law_187 (by decide) ?_
  refine lv_iadd hx hb dL_law_188 ?_
  refine va_sld hx hb hX hbl hbA hV.2.2.2 (gl_in 1 (by decide) hI hL (by decide)) dL_law_189 ?_
  refine gl_YI hA hV (gw_runV X (gl_vY hV) (o := 0) (As := [.int (xs (Int32.toNatClampNeg ((nI I) + (1 : Int32))))]) (rest := [.int r]) (mX6_tear l G ay _ _ hy1) kcL_22 (iYO_0 rfl) rfl rfl rfl hl.1 rfl (Nat.le_of_ble_eq_true rfl) ⟨rfl, rfl⟩ ⟨Nat.le_of_ble_eq_true rfl, Nat.le_of_ble_eq_true rfl⟩ ⟨hc, hs⟩ dL_law_190) (fun H locs hV => ?_)
  refine lv_icmp_eq (tgt := 958) hx hb dL_law_193 (by decide) (fun _ => ?_) (fun c2 => absurd rfl c2)
  exact kk _ _ hR _ _ hV _ hl
theorem kcL_25 : gKV RL 25 yX5_put cX5_put 6 (some .int) 3 := ⟨q_239, q_240, q_241, q_242, q_36, by decide +kernel⟩
theorem kcL_29 : gKV RL 29 yX6_put cX6_put 5 (some .int) 3 := ⟨q_640, q_641, q_642, q_643, q_42, by decide +kernel⟩
set_option maxHeartbeats 4000000 in
set_option maxRecDepth 20000 in
theorem law_put {p : Program} {l : Launch} {e : Env} {s : State} {m : MethodId} {below : List Frame} {meth : Method} {c : Code} {G : gG} {ax ay : Nat → Nat} {b L : Nat} {xs : Nat → Int32} {cells slots : Nat} (hL : L ≤ 3072) (X : gCx p s m #[.ref b] meth c G cL_law RL ret 4) (hX : va_X b L xs s s.heap) (hbl : b < s.heap.size) (hc : cells + 0 ≤ room_1.cells) (hs : slots + 0 ≤ room_1.slots) {I n : Nat} (hI : I + 6 ≤ L) (hn : n < 512) {Q : State → Prop} {Sx Sy : gS} (hR : gR n Sx Sy) {H : Heap} {locs : List Loc} {ls : Array Slot}
    (kk : ∀ (Sx Sy : gS), gR (n + 1) Sx Sy → ∀ (H : Heap) (locs : List Loc), gVL G ax ay (fun q => s.heap.size ≤ q) s.heap Sx Sy H locs → ∀ (ls : Array Slot), lv_has ls 4 [(0, .ref b), (1, .ref (ax 0)), (2, .ref (ay 0)), (3, .int (nI I))] → W p l e room_1 s m #[.ref b] below meth c H locs cells slots Q (F0 m 958 ls []))
    (hV : gVL G ax ay (fun q => s.heap.size ≤ q) s.heap Sx Sy H locs) (hl : lv_has ls 4 [(0, .ref b), (1, .ref (ax 0)), (2, .ref (ay 0)), (3, .int (nI I))]) : W p l e room_1 s m #[.ref b] below meth c H locs cells slots Q (F0 m 198 ls []) := by
  obtain ⟨hx, hb, hr, hml, hown, hts, hlk, hK⟩ := id X
  have hA : ∀ q : Nat, s.heap.size ≤ q → (fun q : Nat => s.heap.size ≤ q) q := fun _ h => h
  have hbA : ¬ (fun q : Nat => s.heap.size ≤ q) b := Nat.not_le.mpr hbl
  refine lv_aload_n hx hb dL_law_198 rfl (lv_at hl 1 rfl) ?_
  refine lv_aload_n hx hb dL_law_199 rfl (lv_at hl 0 rfl) ?_
  refine lv_iload_n hx hb dL_law_200 rfl (lv_at hl 3 rfl) ?_
  refine lv_iconst (v := 1) hx hb dL_law_201 (by decide) ?_
  refine lv_iadd hx hb dL_law_202 ?_
  refine va_sld hx hb hX hbl hbA hV.2.2.2 (gl_in 1 (by decide) hI hL (by decide)) dL_law_203 ?_
  refine lv_aload_n hx hb dL_law_204 rfl (lv_at hl 0 rfl) ?_
  refine lv_iload_n hx hb dL_law_205 rfl (lv_at hl 3 rfl) ?_
  refine lv_iconst (v := 2) hx hb dL_law_206 (by decide) ?_
  refine lv_iadd hx hb dL_law_207 ?_
  refine va_sld hx hb hX hbl hbA hV.2.2.2 (gl_in 2 (by decide) hI hL (by decide)) dL_law_208 ?_
  refine lv_aload_n hx hb dL_law_209 rfl (lv_at hl 0 rfl) ?_
  refine lv_iload_n hx hb dL_law_210 rfl (lv_at hl 3 rfl) ?_
  refine lv_iconst (v := 3) hx hb dL_law_211 (by decide) ?_
  refine lv_iadd hx hb dL_law_212 ?_
  refine va_sld hx hb hX hbl hbA hV.2.2.2 (gl_in 3 (by decide) hI hL (by decide)) dL_law_213 ?_
  refine lv_i2l hx hb dL_law_214 rfl ?_
  refine lv_bipush (v := 32) hx hb dL_law_215 (by decide) ?_
  refine lv_lshl hx hb dL_law_217 rfl ?_
  refine lv_aload_n hx hb dL_law_218 rfl (lv_at hl 0 rfl) ?_
  refine lv_iload_n hx hb dL_law_219 rfl (lv_at hl 3 rfl) ?_
  refine lv_iconst (v := 4) hx hb dL_law_220 (by decide) ?_
  refine lv_iadd hx hb dL_law_221 ?_
  refine va_sld hx hb hX hbl hbA hV.2.2.2 (gl_in 4 (by decide) hI hL (by decide)) dL_law_222 ?_
  refine lv_i2l hx hb dL_law_223 rfl ?_
  refine lv_ldc2 (v := 4294967295) hx hb hown (hts _ q_792) dL_law_224 ?_
  refine lv_land hx hb dL_law_227 ?_
  refine lv_lor hx hb dL_law_228 ?_
  obtain ⟨r, Sx, Sy, hx1, hy1, hR⟩ := z_put hn hR (xs (Int32.toNatClampNeg ((nI I) + (1 : Int32)))) (xs (Int32.toNatClampNeg ((nI I) + (2 : Int32)))) (((Int32.toInt64 (xs (Int32.toNatClampNeg ((nI I) + (3 : Int32))))) <<< (Int32.toInt64 (32 : Int32) &&& 63)) ||| ((Int32.toInt64 (xs (Int32.toNatClampNeg ((nI I) + (4 : Int32))))) &&& (4294967295 : Int64)))
  refine gl_XI hA hV (gw_runV X (gl_vX hV) (o := 0) (As := [.int (xs (Int32.toNatClampNeg ((nI I) + (1 : Int32)))), .int (xs (Int32.toNatClampNeg ((nI I) + (2 : Int32)))), .long (((Int32.toInt64 (xs (Int32.toNatClampNeg ((nI I) + (3 : Int32))))) <<< (Int32.toInt64 (32 : Int32) &&& 63)) ||| ((Int32.toInt64 (xs (Int32.toNatClampNeg ((nI I) + (4 : Int32))))) &&& (4294967295 : Int64)))]) (rest := []) (mX5_put l G ax _ _ hx1) kcL_25 (iXO_0 rfl) rfl rfl rfl hl.1 rfl (Nat.le_of_ble_eq_true rfl) ⟨rfl, rfl⟩ ⟨Nat.le_of_ble_eq_true rfl, Nat.le_of_ble_eq_true rfl⟩ ⟨hc, hs⟩ dL_law_229) (fun H locs hV => ?_)
  refine lv_aload_n hx hb dL_law_232 rfl (lv_at hl 2 rfl) ?_
  refine lv_aload_n hx hb dL_law_233 rfl (lv_at hl 0 rfl) ?_
  refine lv_iload_n hx hb dL_law_234 rfl (lv_at hl 3 rfl) ?_
  refine lv_iconst (v := 1) hx hb dL_law_235 (by decide) ?_
  refine lv_iadd hx hb dL_law_236 ?_
  refine va_sld hx hb hX hbl hbA hV.2.2.2 (gl_in 1 (by decide) hI hL (by decide)) dL_law_237 ?_
  refine lv_aload_n hx hb dL_law_238 rfl (lv_at hl 0 rfl) ?_
  refine lv_iload_n hx hb dL_law_239 rfl (lv_at hl 3 rfl) ?_
  refine lv_iconst (v := 2) hx hb dL_law_240 (by decide) ?_
  refine lv_iadd hx hb dL_law_241 ?_
  refine va_sld hx hb hX hbl hbA hV.2.2.2 (gl_in 2 (by decide) hI hL (by decide)) dL_law_242 ?_
  refine lv_aload_n hx hb dL_law_243 rfl (lv_at hl 0 rfl) ?_
  refine lv_iload_n hx hb dL_law_244 rfl (lv_at hl 3 rfl) ?_
  refine lv_iconst (v := 3) hx hb dL_law_245 (by decide) ?_
  refine lv_iadd hx hb dL_law_246 ?_
  refine va_sld hx hb hX hbl hbA hV.2.2.2 (gl_in 3 (by decide) hI hL (by decide)) dL_law_247 ?_
  refine lv_i2l hx hb dL_law_248 rfl ?_
  refine lv_bipush (v := 32) hx hb dL_law_249 (by decide) ?_
  refine lv_lshl hx hb dL_law_251 rfl ?_
  refine lv_aload_n hx hb dL_law_252 rfl (lv_at hl 0 rfl) ?_
  refine lv_iload_n hx hb dL_law_253 rfl (lv_at hl 3 rfl) ?_
  refine lv_iconst (v := 4) hx hb dL_law_254 (by decide) ?_
  refine lv_iadd hx hb dL_law_255 ?_
  refine va_sld hx hb hX hbl hbA hV.2.2.2 (gl_in 4 (by decide) hI hL (by decide)) dL_law_256 ?_
  refine lv_i2l hx hb dL_law_257 rfl ?_
  refine lv_ldc2 (v := 4294967295) hx hb hown (hts _ q_792) dL_law_258 ?_
  refine lv_land hx hb dL_law_261 ?_
  refine lv_lor hx hb dL_law_262 ?_
  refine gl_YI hA hV (gw_runV X (gl_vY hV) (o := 0) (As := [.int (xs (Int32.toNatClampNeg ((nI I) + (1 : Int32)))), .int (xs (Int32.toNatClampNeg ((nI I) + (2 : Int32)))), .long (((Int32.toInt64 (xs (Int32.toNatClampNeg ((nI I) + (3 : Int32))))) <<< (Int32.toInt64 (32 : Int32) &&& 63)) ||| ((Int32.toInt64 (xs (Int32.toNatClampNeg ((nI I) + (4 : Int32))))) &&& (4294967295 : Int64)))]) (rest := [.int r]) (mX6_put l G ay _ _ hy1) kcL_29 (iYO_0 rfl) rfl rfl rfl hl.1 rfl (Nat.le_of_ble_eq_true rfl) ⟨rfl, rfl⟩ ⟨Nat.le_of_ble_eq_true rfl, Nat.le_of_ble_eq_true rfl⟩ ⟨hc, hs⟩ dL_law_263) (fun H locs hV => ?_)
  refine lv_icmp_eq (tgt := 958) hx hb dL_law_266 (by decide) (fun _ => ?_) (fun c2 => absurd rfl c2)
  exact kk _ _ hR _ _ hV _ hl
theorem kcL_30 : gKV RL 30 yX5_at cX5_at 5 (some .long) 3 := ⟨q_251, q_252, q_253, q_254, q_36, by decide +kernel⟩
theorem kcL_34 : gKV RL 34 yX6_at cX6_at 4 (some .long) 3 := ⟨q_647, q_648, q_649, q_650, q_42, by decide +kernel⟩
set_option maxHeartbeats 4000000 in
set_option maxRecDepth 20000 in
theorem law_at {p : Program} {l : Launch} {e : Env} {s : State} {m : MethodId} {below : List Frame} {meth : Method} {c : Code} {G : gG} {ax ay : Nat → Nat} {b L : Nat} {xs : Nat → Int32} {cells slots : Nat} (hL : L ≤ 3072) (X : gCx p s m #[.ref b] meth c G cL_law RL ret 4) (hX : va_X b L xs s s.heap) (hbl : b < s.heap.size) (hc : cells + 0 ≤ room_1.cells) (hs : slots + 0 ≤ room_1.slots) {I n : Nat} (hI : I + 6 ≤ L) (hn : n < 512) {Q : State → Prop} {Sx Sy : gS} (hR : gR n Sx Sy) {H : Heap} {locs : List Loc} {ls : Array Slot}
    (kk : ∀ (Sx Sy : gS), gR (n + 1) Sx Sy → ∀ (H : Heap) (locs : List Loc), gVL G ax ay (fun q => s.heap.size ≤ q) s.heap Sx Sy H locs → ∀ (ls : Array Slot), lv_has ls 4 [(0, .ref b), (1, .ref (ax 0)), (2, .ref (ay 0)), (3, .int (nI I))] → W p l e room_1 s m #[.ref b] below meth c H locs cells slots Q (F0 m 958 ls []))
    (hV : gVL G ax ay (fun q => s.heap.size ≤ q) s.heap Sx Sy H locs) (hl : lv_has ls 4 [(0, .ref b), (1, .ref (ax 0)), (2, .ref (ay 0)), (3, .int (nI I))]) : W p l e room_1 s m #[.ref b] below meth c H locs cells slots Q (F0 m 271 ls []) := by
  obtain ⟨hx, hb, hr, hml, hown, hts, hlk, hK⟩ := id X
  have hA : ∀ q : Nat, s.heap.size ≤ q → (fun q : Nat => s.heap.size ≤ q) q := fun _ h => h
  have hbA : ¬ (fun q : Nat => s.heap.size ≤ q) b := Nat.not_le.mpr hbl
  refine lv_aload_n hx hb dL_law_271 rfl (lv_at hl 1 rfl) ?_
  refine lv_aload_n hx hb dL_law_272 rfl (lv_at hl 0 rfl) ?_
  refine lv_iload_n hx hb dL_law_273 rfl (lv_at hl 3 rfl) ?_
  refine lv_iconst (v := 1) hx hb dL_law_274 (by decide) ?_
  refine lv_iadd hx hb dL_law_275 ?_
  refine va_sld hx hb hX hbl hbA hV.2.2.2 (gl_in 1 (by decide) hI hL (by decide)) dL_law_276 ?_
  refine lv_aload_n hx hb dL_law_277 rfl (lv_at hl 0 rfl) ?_
  refine lv_iload_n hx hb dL_law_278 rfl (lv_at hl 3 rfl) ?_
  refine lv_iconst (v := 2) hx hb dL_law_279 (by decide) ?_
  refine lv_iadd hx hb dL_law_280 ?_
  refine va_sld hx hb hX hbl hbA hV.2.2.2 (gl_in 2 (by decide) hI hL (by decide)) dL_law_281 ?_
  refine lv_aload_n hx hb dL_law_282 rfl (lv_at hl 0 rfl) ?_
  refine lv_iload_n hx hb dL_law_283 rfl (lv_at hl 3 rfl) ?_
  refine lv_iconst (v := 3) hx hb dL_law_284 (by decide) ?_
  refine lv_iadd hx hb dL_law_285 ?_
  refine va_sld hx hb hX hbl hbA hV.2.2.2 (gl_in 3 (by decide) hI hL (by decide)) dL_law_286 ?_
  obtain ⟨r, Sx, Sy, hx1, hy1, hR⟩ := z_at hn hR (xs (Int32.toNatClampNeg ((nI I) + (1 : Int32)))) (xs (Int32.toNatClampNeg ((nI I) + (2 : Int32)))) (xs (Int32.toNatClampNeg ((nI I) + (3 : Int32))))
  refine gl_XL hA hV (gw_runV X (gl_vX hV) (o := 0) (As := [.int (xs (Int32.toNatClampNeg ((nI I) + (1 : Int32)))), .int (xs (Int32.toNatClampNeg ((nI I) + (2 : Int32)))), .int (xs (Int32.toNatClampNeg ((nI I) + (3 : Int32))))]) (rest := []) (mX5_at l G ax _ _ hx1) kcL_30 (iXO_0 rfl) rfl rfl rfl hl.1 rfl (Nat.le_of_ble_eq_true rfl) ⟨rfl, rfl⟩ ⟨Nat.le_of_ble_eq_true rfl, Nat.le_of_ble_eq_true rfl⟩ ⟨hc, hs⟩ dL_law_287) (fun H locs hV => ?_)
  refine lv_aload_n hx hb dL_law_290 rfl (lv_at hl 2 rfl) ?_
  refine lv_aload_n hx hb dL_law_291 rfl (lv_at hl 0 rfl) ?_
  refine lv_iload_n hx hb dL_law_292 rfl (lv_at hl 3 rfl) ?_
  refine lv_iconst (v := 1) hx hb dL_law_293 (by decide) ?_
  refine lv_iadd hx hb dL_law_294 ?_
  refine va_sld hx hb hX hbl hbA hV.2.2.2 (gl_in 1 (by decide) hI hL (by decide)) dL_law_295 ?_
  refine lv_aload_n hx hb dL_law_296 rfl (lv_at hl 0 rfl) ?_
  refine lv_iload_n hx hb dL_law_297 rfl (lv_at hl 3 rfl) ?_
  refine lv_iconst (v := 2) hx hb dL_law_298 (by decide) ?_
  refine lv_iadd hx hb dL_law_299 ?_
  refine va_sld hx hb hX hbl hbA hV.2.2.2 (gl_in 2 (by decide) hI hL (by decide)) dL_law_300 ?_
  refine lv_aload_n hx hb dL_law_301 rfl (lv_at hl 0 rfl) ?_
  refine lv_iload_n hx hb dL_law_302 rfl (lv_at hl 3 rfl) ?_
  refine lv_iconst (v := 3) hx hb dL_law_303 (by decide) ?_
  refine lv_iadd hx hb dL_law_304 ?_
  refine va_sld hx hb hX hbl hbA hV.2.2.2 (gl_in 3 (by decide) hI hL (by decide)) dL_law_305 ?_
  refine gl_YL hA hV (gw_runV X (gl_vY hV) (o := 0) (As := [.int (xs (Int32.toNatClampNeg ((nI I) + (1 : Int32)))), .int (xs (Int32.toNatClampNeg ((nI I) + (2 : Int32)))), .int (xs (Int32.toNatClampNeg ((nI I) + (3 : Int32))))]) (rest := [.long r]) (mX6_at l G ay _ _ hy1) kcL_34 (iYO_0 rfl) rfl rfl rfl hl.1 rfl (Nat.le_of_ble_eq_true rfl) ⟨rfl, rfl⟩ ⟨Nat.le_of_ble_eq_true rfl, Nat.le_of_ble_eq_true rfl⟩ ⟨hc, hs⟩ dL_law_306) (fun H locs hV => ?_)
  refine gw_cmp_eq (tgt := 958) X dL_law_309 dL_law_310 (by decide) (fun _ => ?_) (fun c2 => absurd rfl c2)
  exact kk _ _ hR _ _ hV _ hl
theorem kcL_35 : gKV RL 35 yX5_copy cX5_copy 8 (some .int) 5 := ⟨q_257, q_258, q_259, q_260, q_36, by decide +kernel⟩
theorem kcL_39 : gKV RL 39 yX6_copy cX6_copy 7 (some .int) 5 := ⟨q_653, q_654, q_655, q_656, q_42, by decide +kernel⟩
set_option maxHeartbeats 4000000 in
set_option maxRecDepth 20000 in
theorem law_copy {p : Program} {l : Launch} {e : Env} {s : State} {m : MethodId} {below : List Frame} {meth : Method} {c : Code} {G : gG} {ax ay : Nat → Nat} {b L : Nat} {xs : Nat → Int32} {cells slots : Nat} (hL : L ≤ 3072) (X : gCx p s m #[.ref b] meth c G cL_law RL ret 4) (hX : va_X b L xs s s.heap) (hbl : b < s.heap.size) (hc : cells + 0 ≤ room_1.cells) (hs : slots + 0 ≤ room_1.slots) {I n : Nat} (hI : I + 6 ≤ L) (hn : n < 512) {Q : State → Prop} {Sx Sy : gS} (hR : gR n Sx Sy) {H : Heap} {locs : List Loc} {ls : Array Slot}
    (kk : ∀ (Sx Sy : gS), gR (n + 1) Sx Sy → ∀ (H : Heap) (locs : List Loc), gVL G ax ay (fun q => s.heap.size ≤ q) s.heap Sx Sy H locs → ∀ (ls : Array Slot), lv_has ls 4 [(0, .ref b), (1, .ref (ax 0)), (2, .ref (ay 0)), (3, .int (nI I))] → W p l e room_1 s m #[.ref b] below meth c H locs cells slots Q (F0 m 958 ls []))
    (hV : gVL G ax ay (fun q => s.heap.size ≤ q) s.heap Sx Sy H locs) (hl : lv_has ls 4 [(0, .ref b), (1, .ref (ax 0)), (2, .ref (ay 0)), (3, .int (nI I))]) : W p l e room_1 s m #[.ref b] below meth c H locs cells slots Q (F0 m 315 ls []) := by
  obtain ⟨hx, hb, hr, hml, hown, hts, hlk, hK⟩ := id X
  have hA : ∀ q : Nat, s.heap.size ≤ q → (fun q : Nat => s.heap.size ≤ q) q := fun _ h => h
  have hbA : ¬ (fun q : Nat => s.heap.size ≤ q) b := Nat.not_le.mpr hbl
  refine lv_aload_n hx hb dL_law_315 rfl (lv_at hl 1 rfl) ?_
  refine lv_aload_n hx hb dL_law_316 rfl (lv_at hl 0 rfl) ?_
  refine lv_iload_n hx hb dL_law_317 rfl (lv_at hl 3 rfl) ?_
  refine lv_iconst (v := 1) hx hb dL_law_318 (by decide) ?_
  refine lv_iadd hx hb dL_law_319 ?_
  refine va_sld hx hb hX hbl hbA hV.2.2.2 (gl_in 1 (by decide) hI hL (by decide)) dL_law_320 ?_
  refine lv_aload_n hx hb dL_law_321 rfl (lv_at hl 0 rfl) ?_
  refine lv_iload_n hx hb dL_law_322 rfl (lv_at hl 3 rfl) ?_
  refine lv_iconst (v := 2) hx hb dL_law_323 (by decide) ?_
  refine lv_iadd hx hb dL_law_324 ?_
  refine va_sld hx hb hX hbl hbA hV.2.2.2 (gl_in 2 (by decide) hI hL (by decide)) dL_law_325 ?_
  refine lv_aload_n hx hb dL_law_326 rfl (lv_at hl 0 rfl) ?_
  refine lv_iload_n hx hb dL_law_327 rfl (lv_at hl 3 rfl) ?_
  refine lv_iconst (v := 3) hx hb dL_law_328 (by decide) ?_
  refine lv_iadd hx hb dL_law_329 ?_
  refine va_sld hx hb hX hbl hbA hV.2.2.2 (gl_in 3 (by decide) hI hL (by decide)) dL_law_330 ?_
  refine lv_aload_n hx hb dL_law_331 rfl (lv_at hl 0 rfl) ?_
  refine lv_iload_n hx hb dL_law_332 rfl (lv_at hl 3 rfl) ?_
  refine lv_iconst (v := 4) hx hb dL_law_333 (by decide) ?_
  refine lv_iadd hx hb dL_law_334 ?_
  refine va_sld hx hb hX hbl hbA hV.2.2.2 (gl_in 4 (by decide) hI hL (by decide)) dL_law_335 ?_
  refine lv_aload_n hx hb dL_law_336 rfl (lv_at hl 0 rfl) ?_
  refine lv_iload_n hx hb dL_law_337 rfl (lv_at hl 3 rfl) ?_
  refine lv_iconst (v := 5) hx hb dL_law_338 (by decide) ?_
  refine lv_iadd hx hb dL_law_339 ?_
  refine va_sld hx hb hX hbl hbA hV.2.2.2 (gl_in 5 (by decide) hI hL (by decide)) dL_law_340 ?_
  obtain ⟨r, Sx, Sy, hx1, hy1, hR⟩ := z_copy hn hR (xs (Int32.toNatClampNeg ((nI I) + (1 : Int32)))) (xs (Int32.toNatClampNeg ((nI I) + (2 : Int32)))) (xs (Int32.toNatClampNeg ((nI I) + (3 : Int32)))) (xs (Int32.toNatClampNeg ((nI I) + (4 : Int32)))) (xs (Int32.toNatClampNeg ((nI I) + (5 : Int32))))
  refine gl_XI hA hV (gw_runV X (gl_vX hV) (o := 0) (As := [.int (xs (Int32.toNatClampNeg ((nI I) + (1 : Int32)))), .int (xs (Int32.toNatClampNeg ((nI I) + (2 : Int32)))), .int (xs (Int32.toNatClampNeg ((nI I) + (3 : Int32)))), .int (xs (Int32.toNatClampNeg ((nI I) + (4 : Int32)))), .int (xs (Int32.toNatClampNeg ((nI I) + (5 : Int32))))]) (rest := []) (mX5_copy l G ax _ _ hx1) kcL_35 (iXO_0 rfl) rfl rfl rfl hl.1 rfl (Nat.le_of_ble_eq_true rfl) ⟨rfl, rfl⟩ ⟨Nat.le_of_ble_eq_true rfl, Nat.le_of_ble_eq_true rfl⟩ ⟨hc, hs⟩ dL_law_341) (fun H locs hV => ?_)
  refine lv_aload_n hx hb dL_law_344 rfl (lv_at hl 2 rfl) ?_
  refine lv_aload_n hx hb dL_law_345 rfl (lv_at hl 0 rfl) ?_
  refine lv_iload_n hx hb dL_law_346 rfl (lv_at hl 3 rfl) ?_
  refine lv_iconst (v := 1) hx hb dL_law_347 (by decide) ?_
  refine lv_iadd hx hb dL_law_348 ?_
  refine va_sld hx hb hX hbl hbA hV.2.2.2 (gl_in 1 (by decide) hI hL (by decide)) dL_law_349 ?_
  refine lv_aload_n hx hb dL_law_350 rfl (lv_at hl 0 rfl) ?_
  refine lv_iload_n hx hb dL_law_351 rfl (lv_at hl 3 rfl) ?_
  refine lv_iconst (v := 2) hx hb dL_law_352 (by decide) ?_
  refine lv_iadd hx hb dL_law_353 ?_
  refine va_sld hx hb hX hbl hbA hV.2.2.2 (gl_in 2 (by decide) hI hL (by decide)) dL_law_354 ?_
  refine lv_aload_n hx hb dL_law_355 rfl (lv_at hl 0 rfl) ?_
  refine lv_iload_n hx hb dL_law_356 rfl (lv_at hl 3 rfl) ?_
  refine lv_iconst (v := 3) hx hb dL_law_357 (by decide) ?_
  refine lv_iadd hx hb dL_law_358 ?_
  refine va_sld hx hb hX hbl hbA hV.2.2.2 (gl_in 3 (by decide) hI hL (by decide)) dL_law_359 ?_
  refine lv_aload_n hx hb dL_law_360 rfl (lv_at hl 0 rfl) ?_
  refine lv_iload_n hx hb dL_law_361 rfl (lv_at hl 3 rfl) ?_
  refine lv_iconst (v := 4) hx hb dL_law_362 (by decide) ?_
  refine lv_iadd hx hb dL_law_363 ?_
  refine va_sld hx hb hX hbl hbA hV.2.2.2 (gl_in 4 (by decide) hI hL (by decide)) dL_law_364 ?_
  refine lv_aload_n hx hb dL_law_365 rfl (lv_at hl 0 rfl) ?_
  refine lv_iload_n hx hb dL_law_366 rfl (lv_at hl 3 rfl) ?_
  refine lv_iconst (v := 5) hx hb dL_law_367 (by decide) ?_
  refine lv_iadd hx hb dL_law_368 ?_
  refine va_sld hx hb hX hbl hbA hV.2.2.2 (gl_in 5 (by decide) hI hL (by decide)) dL_law_369 ?_
  refine gl_YI hA hV (gw_runV X (gl_vY hV) (o := 0) (As := [.int (xs (Int32.toNatClampNeg ((nI I) + (1 : Int32)))), .int (xs (Int32.toNatClampNeg ((nI I) + (2 : Int32)))), .int (xs (Int32.toNatClampNeg ((nI I) + (3 : Int32)))), .int (xs (Int32.toNatClampNeg ((nI I) + (4 : Int32)))), .int (xs (Int32.toNatClampNeg ((nI I) + (5 : Int32))))]) (rest := [.int r]) (mX6_copy l G ay _ _ hy1) kcL_39 (iYO_0 rfl) rfl rfl rfl hl.1 rfl (Nat.le_of_ble_eq_true rfl) ⟨rfl, rfl⟩ ⟨Nat.le_of_ble_eq_true rfl, Nat.le_of_ble_eq_true rfl⟩ ⟨hc, hs⟩ dL_law_370) (fun H locs hV => ?_)
  refine lv_icmp_eq (tgt := 958) hx hb dL_law_373 (by decide) (fun _ => ?_) (fun c2 => absurd rfl c2)
  exact kk _ _ hR _ _ hV _ hl
theorem kcL_40 : gKV RL 40 yX5_ground cX5_ground 5 (some .int) 2 := ⟨q_268, q_269, q_270, q_271, q_36, by decide +kernel⟩
theorem kcL_44 : gKV RL 44 yX6_ground cX6_ground 8 (some .int) 2 := ⟨q_657, q_658, q_659, q_660, q_42, by decide +kernel⟩
set_option maxHeartbeats 4000000 in
set_option maxRecDepth 20000 in
theorem law_ground {p : Program} {l : Launch} {e : Env} {s : State} {m : MethodId} {below : List Frame} {meth : Method} {c : Code} {G : gG} {ax ay : Nat → Nat} {b L : Nat} {xs : Nat → Int32} {cells slots : Nat} (hL : L ≤ 3072) (X : gCx p s m #[.ref b] meth c G cL_law RL ret 4) (hX : va_X b L xs s s.heap) (hbl : b < s.heap.size) (hc : cells + 0 ≤ room_1.cells) (hs : slots + 0 ≤ room_1.slots) {I n : Nat} (hI : I + 6 ≤ L) (hn : n < 512) {Q : State → Prop} {Sx Sy : gS} (hR : gR n Sx Sy) {H : Heap} {locs : List Loc} {ls : Array Slot}
    (kk : ∀ (Sx Sy : gS), gR (n + 1) Sx Sy → ∀ (H : Heap) (locs : List Loc), gVL G ax ay (fun q => s.heap.size ≤ q) s.heap Sx Sy H locs → ∀ (ls : Array Slot), lv_has ls 4 [(0, .ref b), (1, .ref (ax 0)), (2, .ref (ay 0)), (3, .int (nI I))] → W p l e room_1 s m #[.ref b] below meth c H locs cells slots Q (F0 m 958 ls []))
    (hV : gVL G ax ay (fun q => s.heap.size ≤ q) s.heap Sx Sy H locs) (hl : lv_has ls 4 [(0, .ref b), (1, .ref (ax 0)), (2, .ref (ay 0)), (3, .int (nI I))]) : W p l e room_1 s m #[.ref b] below meth c H locs cells slots Q (F0 m 378 ls []) := by
  obtain ⟨hx, hb, hr, hml, hown, hts, hlk, hK⟩ := id X
  have hA : ∀ q : Nat, s.heap.size ≤ q → (fun q : Nat => s.heap.size ≤ q) q := fun _ h => h
  have hbA : ¬ (fun q : Nat => s.heap.size ≤ q) b := Nat.not_le.mpr hbl
  refine lv_aload_n hx hb dL_law_378 rfl (lv_at hl 1 rfl) ?_
  refine lv_aload_n hx hb dL_law_379 rfl (lv_at hl 0 rfl) ?_
  refine lv_iload_n hx hb dL_law_380 rfl (lv_at hl 3 rfl) ?_
  refine lv_iconst (v := 1) hx hb dL_law_381 (by decide) ?_
  refine lv_iadd hx hb dL_law_382 ?_
  refine va_sld hx hb hX hbl hbA hV.2.2.2 (gl_in 1 (by decide) hI hL (by decide)) dL_law_383 ?_
  refine lv_aload_n hx hb dL_law_384 rfl (lv_at hl 0 rfl) ?_
  refine lv_iload_n hx hb dL_law_385 rfl (lv_at hl 3 rfl) ?_
  refine lv_iconst (v := 2) hx hb dL_law_386 (by decide) ?_
  refine lv_iadd hx hb dL_law_387 ?_
  refine va_sld hx hb hX hbl hbA hV.2.2.2 (gl_in 2 (by decide) hI hL (by decide)) dL_law_388 ?_
  obtain ⟨r, Sx, Sy, hx1, hy1, hR⟩ := z_ground hn hR (xs (Int32.toNatClampNeg ((nI I) + (1 : Int32)))) (xs (Int32.toNatClampNeg ((nI I) + (2 : Int32))))
  refine gl_XI hA hV (gw_runV X (gl_vX hV) (o := 0) (As := [.int (xs (Int32.toNatClampNeg ((nI I) + (1 : Int32)))), .int (xs (Int32.toNatClampNeg ((nI I) + (2 : Int32))))]) (rest := []) (mX5_ground l G ax _ _ hx1) kcL_40 (iXO_0 rfl) rfl rfl rfl hl.1 rfl (Nat.le_of_ble_eq_true rfl) ⟨rfl, rfl⟩ ⟨Nat.le_of_ble_eq_true rfl, Nat.le_of_ble_eq_true rfl⟩ ⟨hc, hs⟩ dL_law_389) (fun H locs hV => ?_)
  refine lv_aload_n hx hb dL_law_392 rfl (lv_at hl 2 rfl) ?_
  refine lv_aload_n hx hb dL_law_393 rfl (lv_at hl 0 rfl) ?_
  refine lv_iload_n hx hb dL_law_394 rfl (lv_at hl 3 rfl) ?_
  refine lv_iconst (v := 1) hx hb dL_law_395 (by decide) ?_
  refine lv_iadd hx hb dL_law_396 ?_
  refine va_sld hx hb hX hbl hbA hV.2.2.2 (gl_in 1 (by decide) hI hL (by decide)) dL_law_397 ?_
  refine lv_aload_n hx hb dL_law_398 rfl (lv_at hl 0 rfl) ?_
  refine lv_iload_n hx hb dL_law_399 rfl (lv_at hl 3 rfl) ?_
  refine lv_iconst (v := 2) hx hb dL_law_400 (by decide) ?_
  refine lv_iadd hx hb dL_law_401 ?_
  refine va_sld hx hb hX hbl hbA hV.2.2.2 (gl_in 2 (by decide) hI hL (by decide)) dL_law_402 ?_
  refine gl_YI hA hV (gw_runV X (gl_vY hV) (o := 0) (As := [.int (xs (Int32.toNatClampNeg ((nI I) + (1 : Int32)))), .int (xs (Int32.toNatClampNeg ((nI I) + (2 : Int32))))]) (rest := [.int r]) (mX6_ground l G ay _ _ hy1) kcL_44 (iYO_0 rfl) rfl rfl rfl hl.1 rfl (Nat.le_of_ble_eq_true rfl) ⟨rfl, rfl⟩ ⟨Nat.le_of_ble_eq_true rfl, Nat.le_of_ble_eq_true rfl⟩ ⟨hc, hs⟩ dL_law_403) (fun H locs hV => ?_)
  refine lv_icmp_eq (tgt := 958) hx hb dL_law_406 (by decide) (fun _ => ?_) (fun c2 => absurd rfl c2)
  exact kk _ _ hR _ _ hV _ hl
theorem kcL_45 : gKV RL 45 yX5_kind cX5_kind 7 (some .int) 4 := ⟨q_309, q_310, q_311, q_312, q_36, by decide +kernel⟩
theorem kcL_49 : gKV RL 49 yX6_kind cX6_kind 7 (some .int) 4 := ⟨q_663, q_664, q_665, q_666, q_42, by decide +kernel⟩
set_option maxHeartbeats 4000000 in
set_option maxRecDepth 20000 in
theorem law_kind {p : Program} {l : Launch} {e : Env} {s : State} {m : MethodId} {below : List Frame} {meth : Method} {c : Code} {G : gG} {ax ay : Nat → Nat} {b L : Nat} {xs : Nat → Int32} {cells slots : Nat} (hL : L ≤ 3072) (X : gCx p s m #[.ref b] meth c G cL_law RL ret 4) (hX : va_X b L xs s s.heap) (hbl : b < s.heap.size) (hc : cells + 0 ≤ room_1.cells) (hs : slots + 0 ≤ room_1.slots) {I n : Nat} (hI : I + 6 ≤ L) (hn : n < 512) {Q : State → Prop} {Sx Sy : gS} (hR : gR n Sx Sy) {H : Heap} {locs : List Loc} {ls : Array Slot}
    (kk : ∀ (Sx Sy : gS), gR (n + 1) Sx Sy → ∀ (H : Heap) (locs : List Loc), gVL G ax ay (fun q => s.heap.size ≤ q) s.heap Sx Sy H locs → ∀ (ls : Array Slot), lv_has ls 4 [(0, .ref b), (1, .ref (ax 0)), (2, .ref (ay 0)), (3, .int (nI I))] → W p l e room_1 s m #[.ref b] below meth c H locs cells slots Q (F0 m 958 ls []))
    (hV : gVL G ax ay (fun q => s.heap.size ≤ q) s.heap Sx Sy H locs) (hl : lv_has ls 4 [(0, .ref b), (1, .ref (ax 0)), (2, .ref (ay 0)), (3, .int (nI I))]) : W p l e room_1 s m #[.ref b] below meth c H locs cells slots Q (F0 m 411 ls []) := by
  obtain ⟨hx, hb, hr, hml, hown, hts, hlk, hK⟩ := id X
  have hA : ∀ q : Nat, s.heap.size ≤ q → (fun q : Nat => s.heap.size ≤ q) q := fun _ h => h
  have hbA : ¬ (fun q : Nat => s.heap.size ≤ q) b := Nat.not_le.mpr hbl
  refine lv_aload_n hx hb dL_law_411 rfl (lv_at hl 1 rfl) ?_
  refine lv_aload_n hx hb dL_law_412 rfl (lv_at hl 0 rfl) ?_
  refine lv_iload_n hx hb dL_law_413 rfl (lv_at hl 3 rfl) ?_
  refine lv_iconst (v := 1) hx hb dL_law_414 (by decide) ?_
  refine lv_iadd hx hb dL_law_415 ?_
  refine va_sld hx hb hX hbl hbA hV.2.2.2 (gl_in 1 (by decide) hI hL (by decide)) dL_law_416 ?_
  refine lv_aload_n hx hb dL_law_417 rfl (lv_at hl 0 rfl) ?_
  refine lv_iload_n hx hb dL_law_418 rfl (lv_at hl 3 rfl) ?_
  refine lv_iconst (v := 2) hx hb dL_law_419 (by decide) ?_
  refine lv_iadd hx hb dL_law_420 ?_
  refine va_sld hx hb hX hbl hbA hV.2.2.2 (gl_in 2 (by decide) hI hL (by decide)) dL_law_421 ?_
  refine lv_aload_n hx hb dL_law_422 rfl (lv_at hl 0 rfl) ?_
  refine lv_iload_n hx hb dL_law_423 rfl (lv_at hl 3 rfl) ?_
  refine lv_iconst (v := 3) hx hb dL_law_424 (by decide) ?_
  refine lv_iadd hx hb dL_law_425 ?_
  refine va_sld hx hb hX hbl hbA hV.2.2.2 (gl_in 3 (by decide) hI hL (by decide)) dL_law_426 ?_
  refine lv_aload_n hx hb dL_law_427 rfl (lv_at hl 0 rfl) ?_
  refine lv_iload_n hx hb dL_law_428 rfl (lv_at hl 3 rfl) ?_
  refine lv_iconst (v := 4) hx hb dL_law_429 (by decide) ?_
  refine lv_iadd hx hb dL_law_430 ?_
  refine va_sld hx hb hX hbl hbA hV.2.2.2 (gl_in 4 (by decide) hI hL (by decide)) dL_law_431 ?_
  obtain ⟨r, Sx, Sy, hx1, hy1, hR⟩ := z_kind hn hR (xs (Int32.toNatClampNeg ((nI I) + (1 : Int32)))) (xs (Int32.toNatClampNeg ((nI I) + (2 : Int32)))) (xs (Int32.toNatClampNeg ((nI I) + (3 : Int32)))) (xs (Int32.toNatClampNeg ((nI I) + (4 : Int32))))
  refine gl_XI hA hV (gw_runV X (gl_vX hV) (o := 0) (As := [.int (xs (Int32.toNatClampNeg ((nI I) + (1 : Int32)))), .int (xs (Int32.toNatClampNeg ((nI I) + (2 : Int32)))), .int (xs (Int32.toNatClampNeg ((nI I) + (3 : Int32)))), .int (xs (Int32.toNatClampNeg ((nI I) + (4 : Int32))))]) (rest := []) (mX5_kind l G ax _ _ hx1) kcL_45 (iXO_0 rfl) rfl rfl rfl hl.1 rfl (Nat.le_of_ble_eq_true rfl) ⟨rfl, rfl⟩ ⟨Nat.le_of_ble_eq_true rfl, Nat.le_of_ble_eq_true rfl⟩ ⟨hc, hs⟩ dL_law_432) (fun H locs hV => ?_)
  refine lv_aload_n hx hb dL_law_435 rfl (lv_at hl 2 rfl) ?_
  refine lv_aload_n hx hb dL_law_436 rfl (lv_at hl 0 rfl) ?_
  refine lv_iload_n hx hb dL_law_437 rfl (lv_at hl 3 rfl) ?_
  refine lv_iconst (v := 1) hx hb dL_law_438 (by decide) ?_
  refine lv_iadd hx hb dL_law_439 ?_
  refine va_sld hx hb hX hbl hbA hV.2.2.2 (gl_in 1 (by decide) hI hL (by decide)) dL_law_440 ?_
  refine lv_aload_n hx hb dL_law_441 rfl (lv_at hl 0 rfl) ?_
  refine lv_iload_n hx hb dL_law_442 rfl (lv_at hl 3 rfl) ?_
  refine lv_iconst (v := 2) hx hb dL_law_443 (by decide) ?_
  refine lv_iadd hx hb dL_law_444 ?_
  refine va_sld hx hb hX hbl hbA hV.2.2.2 (gl_in 2 (by decide) hI hL (by decide)) dL_law_445 ?_
  refine lv_aload_n hx hb dL_law_446 rfl (lv_at hl 0 rfl) ?_
  refine lv_iload_n hx hb dL_law_447 rfl (lv_at hl 3 rfl) ?_
  refine lv_iconst (v := 3) hx hb dL_law_448 (by decide) ?_
  refine lv_iadd hx hb dL_law_449 ?_
  refine va_sld hx hb hX hbl hbA hV.2.2.2 (gl_in 3 (by decide) hI hL (by decide)) dL_law_450 ?_
  refine lv_aload_n hx hb dL_law_451 rfl (lv_at hl 0 rfl) ?_
  refine lv_iload_n hx hb dL_law_452 rfl (lv_at hl 3 rfl) ?_
  refine lv_iconst (v := 4) hx hb dL_law_453 (by decide) ?_
  refine lv_iadd hx hb dL_law_454 ?_
  refine va_sld hx hb hX hbl hbA hV.2.2.2 (gl_in 4 (by decide) hI hL (by decide)) dL_law_455 ?_
  refine gl_YI hA hV (gw_runV X (gl_vY hV) (o := 0) (As := [.int (xs (Int32.toNatClampNeg ((nI I) + (1 : Int32)))), .int (xs (Int32.toNatClampNeg ((nI I) + (2 : Int32)))), .int (xs (Int32.toNatClampNeg ((nI I) + (3 : Int32)))), .int (xs (Int32.toNatClampNeg ((nI I) + (4 : Int32))))]) (rest := [.int r]) (mX6_kind l G ay _ _ hy1) kcL_49 (iYO_0 rfl) rfl rfl rfl hl.1 rfl (Nat.le_of_ble_eq_true rfl) ⟨rfl, rfl⟩ ⟨Nat.le_of_ble_eq_true rfl, Nat.le_of_ble_eq_true rfl⟩ ⟨hc, hs⟩ dL_law_456) (fun H locs hV => ?_)
  refine lv_icmp_eq (tgt := 958) hx hb dL_law_459 (by decide) (fun _ => ?_) (fun c2 => absurd rfl c2)
  exact kk _ _ hR _ _ hV _ hl
theorem kcL_50 : gKV RL 50 yX5_taken cX5_taken 6 (some .int) 4 := ⟨q_317, q_318, q_319, q_320, q_36, by decide +kernel⟩
theorem kcL_53 : gKV RL 53 yX6_taken cX6_taken 8 (some .int) 4 := ⟨q_673, q_674, q_675, q_676, q_42, by decide +kernel⟩
set_option maxHeartbeats 4000000 in
set_option maxRecDepth 20000 in
theorem law_taken {p : Program} {l : Launch} {e : Env} {s : State} {m : MethodId} {below : List Frame} {meth : Method} {c : Code} {G : gG} {ax ay : Nat → Nat} {b L : Nat} {xs : Nat → Int32} {cells slots : Nat} (hL : L ≤ 3072) (X : gCx p s m #[.ref b] meth c G cL_law RL ret 4) (hX : va_X b L xs s s.heap) (hbl : b < s.heap.size) (hc : cells + 0 ≤ room_1.cells) (hs : slots + 0 ≤ room_1.slots) {I n : Nat} (hI : I + 6 ≤ L) (hn : n < 512) {Q : State → Prop} {Sx Sy : gS} (hR : gR n Sx Sy) {H : Heap} {locs : List Loc} {ls : Array Slot}
    (kk : ∀ (Sx Sy : gS), gR (n + 1) Sx Sy → ∀ (H : Heap) (locs : List Loc), gVL G ax ay (fun q => s.heap.size ≤ q) s.heap Sx Sy H locs → ∀ (ls : Array Slot), lv_has ls 4 [(0, .ref b), (1, .ref (ax 0)), (2, .ref (ay 0)), (3, .int (nI I))] → W p l e room_1 s m #[.ref b] below meth c H locs cells slots Q (F0 m 958 ls []))
    (hV : gVL G ax ay (fun q => s.heap.size ≤ q) s.heap Sx Sy H locs) (hl : lv_has ls 4 [(0, .ref b), (1, .ref (ax 0)), (2, .ref (ay 0)), (3, .int (nI I))]) : W p l e room_1 s m #[.ref b] below meth c H locs cells slots Q (F0 m 464 ls []) := by
  obtain ⟨hx, hb, hr, hml, hown, hts, hlk, hK⟩ := id X
  have hA : ∀ q : Nat, s.heap.size ≤ q → (fun q : Nat => s.heap.size ≤ q) q := fun _ h => h
  have hbA : ¬ (fun q : Nat => s.heap.size ≤ q) b := Nat.not_le.mpr hbl
  refine lv_aload_n hx hb dL_law_464 rfl (lv_at hl 1 rfl) ?_
  refine lv_aload_n hx hb dL_law_465 rfl (lv_at hl 0 rfl) ?_
  refine lv_iload_n hx hb dL_law_466 rfl (lv_at hl 3 rfl) ?_
  refine lv_iconst (v := 1) hx hb dL_law_467 (by decide) ?_
  refine lv_iadd hx hb dL_law_468 ?_
  refine va_sld hx hb hX hbl hbA hV.2.2.2 (gl_in 1 (by decide) hI hL (by decide)) dL_law_469 ?_
  refine lv_aload_n hx hb dL_law_470 rfl (lv_at hl 0 rfl) ?_
  refine lv_iload_n hx hb dL_law_471 rfl (lv_at hl 3 rfl) ?_
  refine lv_iconst (v := 2) hx hb dL_law_472 (by decide) ?_
  refine lv_iadd hx hb dL_law_473 ?_
  refine va_sld hx hb hX hbl hbA hV.2.2.2 (gl_in 2 (by decide) hI hL (by decide)) dL_law_474 ?_
  refine lv_aload_n hx hb dL_law_475 rfl (lv_at hl 0 rfl) ?_
  refine lv_iload_n hx hb dL_law_476 rfl (lv_at hl 3 rfl) ?_
  refine lv_iconst (v := 3) hx hb dL_law_477 (by decide) ?_
  refine lv_iadd hx hb dL_law_478 ?_
  refine va_sld hx hb hX hbl hbA hV.2.2.2 (gl_in 3 (by decide) hI hL (by decide)) dL_law_479 ?_
  refine lv_aload_n hx hb dL_law_480 rfl (lv_at hl 0 rfl) ?_
  refine lv_iload_n hx hb dL_law_481 rfl (lv_at hl 3 rfl) ?_
  refine lv_iconst (v := 4) hx hb dL_law_482 (by decide) ?_
  refine lv_iadd hx hb dL_law_483 ?_
  refine va_sld hx hb hX hbl hbA hV.2.2.2 (gl_in 4 (by decide) hI hL (by decide)) dL_law_484 ?_
  obtain ⟨r, Sx, Sy, hx1, hy1, hR⟩ := z_taken hn hR (xs (Int32.toNatClampNeg ((nI I) + (1 : Int32)))) (xs (Int32.toNatClampNeg ((nI I) + (2 : Int32)))) (xs (Int32.toNatClampNeg ((nI I) + (3 : Int32)))) (xs (Int32.toNatClampNeg ((nI I) + (4 : Int32))))
  refine gl_XI hA hV (gw_runV X (gl_vX hV) (o := 0) (As := [.int (xs (Int32.toNatClampNeg ((nI I) + (1 : Int32)))), .int (xs (Int32.toNatClampNeg ((nI I) + (2 : Int32)))), .int (xs (Int32.toNatClampNeg ((nI I) + (3 : Int32)))), .int (xs (Int32.toNatClampNeg ((nI I) + (4 : Int32))))]) (rest := []) (mX5_taken l G ax _ _ hx1) kcL_50 (iXO_0 rfl) rfl rfl rfl hl.1 rfl (Nat.le_of_ble_eq_true rfl) ⟨rfl, rfl⟩ ⟨Nat.le_of_ble_eq_true rfl, Nat.le_of_ble_eq_true rfl⟩ ⟨hc, hs⟩ dL_law_485) (fun H locs hV => ?_)
  refine lv_aload_n hx hb dL_law_488 rfl (lv_at hl 2 rfl) ?_
  refine lv_aload_n hx hb dL_law_489 rfl (lv_at hl 0 rfl) ?_
  refine lv_iload_n hx hb dL_law_490 rfl (lv_at hl 3 rfl) ?_
  refine lv_iconst (v := 1) hx hb dL_law_491 (by decide) ?_
  refine lv_iadd hx hb dL_law_492 ?_
  refine va_sld hx hb hX hbl hbA hV.2.2.2 (gl_in 1 (by decide) hI hL (by decide)) dL_law_493 ?_
  refine lv_aload_n hx hb dL_law_494 rfl (lv_at hl 0 rfl) ?_
  refine lv_iload_n hx hb dL_law_495 rfl (lv_at hl 3 rfl) ?_
  refine lv_iconst (v := 2) hx hb dL_law_496 (by decide) ?_
  refine lv_iadd hx hb dL_law_497 ?_
  refine va_sld hx hb hX hbl hbA hV.2.2.2 (gl_in 2 (by decide) hI hL (by decide)) dL_law_498 ?_
  refine lv_aload_n hx hb dL_law_499 rfl (lv_at hl 0 rfl) ?_
  refine lv_iload_n hx hb dL_law_500 rfl (lv_at hl 3 rfl) ?_
  refine lv_iconst (v := 3) hx hb dL_law_501 (by decide) ?_
  refine lv_iadd hx hb dL_law_502 ?_
  refine va_sld hx hb hX hbl hbA hV.2.2.2 (gl_in 3 (by decide) hI hL (by decide)) dL_law_503 ?_
  refine lv_aload_n hx hb dL_law_504 rfl (lv_at hl 0 rfl) ?_
  refine lv_iload_n hx hb dL_law_505 rfl (lv_at hl 3 rfl) ?_
  refine lv_iconst (v := 4) hx hb dL_law_506 (by decide) ?_
  refine lv_iadd hx hb dL_law_507 ?_
  refine va_sld hx hb hX hbl hbA hV.2.2.2 (gl_in 4 (by decide) hI hL (by decide)) dL_law_508 ?_
  refine gl_YI hA hV (gw_runV X (gl_vY hV) (o := 0) (As := [.int (xs (Int32.toNatClampNeg ((nI I) + (1 : Int32)))), .int (xs (Int32.toNatClampNeg ((nI I) + (2 : Int32)))), .int (xs (Int32.toNatClampNeg ((nI I) + (3 : Int32)))), .int (xs (Int32.toNatClampNeg ((nI I) + (4 : Int32))))]) (rest := [.int r]) (mX6_taken l G ay _ _ hy1) kcL_53 (iYO_0 rfl) rfl rfl rfl hl.1 rfl (Nat.le_of_ble_eq_true rfl) ⟨rfl, rfl⟩ ⟨Nat.le_of_ble_eq_true rfl, Nat.le_of_ble_eq_true rfl⟩ ⟨hc, hs⟩ dL_law_509) (fun H locs hV => ?_)
  refine lv_icmp_eq (tgt := 958) hx hb dL_law_512 (by decide) (fun _ => ?_) (fun c2 => absurd rfl c2)
  exact kk _ _ hR _ _ hV _ hl
theorem kcL_54 : gKV RL 54 yX5_tell cX5_tell 6 (some .int) 3 := ⟨q_324, q_325, q_326, q_327, q_36, by decide +kernel⟩
theorem kcL_58 : gKV RL 58 yX6_tell cX6_tell 5 (some .int) 3 := ⟨q_678, q_679, q_680, q_681, q_42, by decide +kernel⟩
set_option maxHeartbeats 4000000 in
set_option maxRecDepth 20000 in
theorem law_tell {p : Program} {l : Launch} {e : Env} {s : State} {m : MethodId} {below : List Frame} {meth : Method} {c : Code} {G : gG} {ax ay : Nat → Nat} {b L : Nat} {xs : Nat → Int32} {cells slots : Nat} (hL : L ≤ 3072) (X : gCx p s m #[.ref b] meth c G cL_law RL ret 4) (hX : va_X b L xs s s.heap) (hbl : b < s.heap.size) (hc : cells + 0 ≤ room_1.cells) (hs : slots + 0 ≤ room_1.slots) {I n : Nat} (hI : I + 6 ≤ L) (hn : n < 512) {Q : State → Prop} {Sx Sy : gS} (hR : gR n Sx Sy) {H : Heap} {locs : List Loc} {ls : Array Slot}
    (kk : ∀ (Sx Sy : gS), gR (n + 1) Sx Sy → ∀ (H : Heap) (locs : List Loc), gVL G ax ay (fun q => s.heap.size ≤ q) s.heap Sx Sy H locs → ∀ (ls : Array Slot), lv_has ls 4 [(0, .ref b), (1, .ref (ax 0)), (2, .ref (ay 0)), (3, .int (nI I))] → W p l e room_1 s m #[.ref b] below meth c H locs cells slots Q (F0 m 958 ls []))
    (hV : gVL G ax ay (fun q => s.heap.size ≤ q) s.heap Sx Sy H locs) (hl : lv_has ls 4 [(0, .ref b), (1, .ref (ax 0)), (2, .ref (ay 0)), (3, .int (nI I))]) : W p l e room_1 s m #[.ref b] below meth c H locs cells slots Q (F0 m 517 ls []) := by
  obtain ⟨hx, hb, hr, hml, hown, hts, hlk, hK⟩ := id X
  have hA : ∀ q : Nat, s.heap.size ≤ q → (fun q : Nat => s.heap.size ≤ q) q := fun _ h => h
  have hbA : ¬ (fun q : Nat => s.heap.size ≤ q) b := Nat.not_le.mpr hbl
  refine lv_aload_n hx hb dL_law_517 rfl (lv_at hl 1 rfl) ?_
  refine lv_aload_n hx hb dL_law_518 rfl (lv_at hl 0 rfl) ?_
  refine lv_iload_n hx hb dL_law_519 rfl (lv_at hl 3 rfl) ?_
  refine lv_iconst (v := 1) hx hb dL_law_520 (by decide) ?_
  refine lv_iadd hx hb dL_law_521 ?_
  refine va_sld hx hb hX hbl hbA hV.2.2.2 (gl_in 1 (by decide) hI hL (by decide)) dL_law_522 ?_
  refine lv_if_eq (tgt := 530) hx hb dL_law_523 (by decide) (fun c0 => ?_) (fun c0 => ?_)
  · skip
    refine lv_iconst (v := 0) hx hb dL_law_530 (by decide) ?_
    refine lv_aload_n hx hb dL_law_531 rfl (lv_at hl 0 rfl) ?_
    refine lv_iload_n hx hb dL_law_532 rfl (lv_at hl 3 rfl) ?_
    refine lv_iconst (v := 2) hx hb dL_law_533 (by decide) ?_
    refine lv_iadd hx hb dL_law_534 ?_
    refine va_sld hx hb hX hbl hbA hV.2.2.2 (gl_in 2 (by decide) hI hL (by decide)) dL_law_535 ?_
    refine lv_aload_n hx hb dL_law_536 rfl (lv_at hl 0 rfl) ?_
    refine lv_iload_n hx hb dL_law_537 rfl (lv_at hl 3 rfl) ?_
    refine lv_iconst (v := 3) hx hb dL_law_538 (by decide) ?_
    refine lv_iadd hx hb dL_law_539 ?_
    refine va_sld hx hb hX hbl hbA hV.2.2.2 (gl_in 3 (by decide) hI hL (by decide)) dL_law_540 ?_
    obtain ⟨r, Sx, Sy, hx1, hy1, hR⟩ := z_tell hn hR (0 : Int32) (xs (Int32.toNatClampNeg ((nI I) + (2 : Int32)))) (xs (Int32.toNatClampNeg ((nI I) + (3 : Int32))))
    refine gl_XI hA hV (gw_runV X (gl_vX hV) (o := 0) (As := [.int (0 : Int32), .int (xs (Int32.toNatClampNeg ((nI I) + (2 : Int32)))), .int (xs (Int32.toNatClampNeg ((nI I) + (3 : Int32))))]) (rest := []) (mX5_tell l G ax _ _ hx1) kcL_54 (iXO_0 rfl) rfl rfl rfl hl.1 rfl (Nat.le_of_ble_eq_true rfl) ⟨rfl, rfl⟩ ⟨Nat.le_of_ble_eq_true rfl, Nat.le_of_ble_eq_true rfl⟩ ⟨hc, hs⟩ dL_law_541) (fun H locs hV => ?_)
    refine lv_aload_n hx hb dL_law_544 rfl (lv_at hl 2 rfl) ?_
    refine lv_aload_n hx hb dL_law_545 rfl (lv_at hl 0 rfl) ?_
    refine lv_iload_n hx hb dL_law_546 rfl (lv_at hl 3 rfl) ?_
    refine lv_iconst (v := 1) hx hb dL_law_547 (by decide) ?_
    refine lv_iadd hx hb dL_law_548 ?_
    refine va_sld hx hb hX hbl hbA hV.2.2.2 (gl_in 1 (by decide) hI hL (by decide)) dL_law_549 ?_
    refine lv_if_eq (tgt := 557) hx hb dL_law_550 (by decide) (fun _ => ?_) (fun c1 => absurd c0 c1)
    refine lv_iconst (v := 0) hx hb dL_law_557 (by decide) ?_
    refine lv_aload_n hx hb dL_law_558 rfl (lv_at hl 0 rfl) ?_
    refine lv_iload_n hx hb dL_law_559 rfl (lv_at hl 3 rfl) ?_
    refine lv_iconst (v := 2) hx hb dL_law_560 (by decide) ?_
    refine lv_iadd hx hb dL_law_561 ?_
    refine va_sld hx hb hX hbl hbA hV.2.2.2 (gl_in 2 (by decide) hI hL (by decide)) dL_law_562 ?_
    refine lv_aload_n hx hb dL_law_563 rfl (lv_at hl 0 rfl) ?_
    refine lv_iload_n hx hb dL_law_564 rfl (lv_at hl 3 rfl) ?_
    refine lv_iconst (v := 3) hx hb dL_law_565 (by decide) ?_
    refine lv_iadd hx hb dL_law_566 ?_
    refine va_sld hx hb hX hbl hbA hV.2.2.2 (gl_in 3 (by decide) hI hL (by decide)) dL_law_567 ?_
    refine gl_YI hA hV (gw_runV X (gl_vY hV) (o := 0) (As := [.int (0 : Int32), .int (xs (Int32.toNatClampNeg ((nI I) + (2 : Int32)))), .int (xs (Int32.toNatClampNeg ((nI I) + (3 : Int32))))]) (rest := [.int r]) (mX6_tell l G ay _ _ hy1) kcL_58 (iYO_0 rfl) rfl rfl rfl hl.1 rfl (Nat.le_of_ble_eq_true rfl) ⟨rfl, rfl⟩ ⟨Nat.le_of_ble_eq_true rfl, Nat.le_of_ble_eq_true rfl⟩ ⟨hc, hs⟩ dL_law_568) (fun H locs hV => ?_)
    refine lv_icmp_eq (tgt := 958) hx hb dL_law_571 (by decide) (fun _ => ?_) (fun c2 => absurd rfl c2)
    exact kk _ _ hR _ _ hV _ hl
  · skip
    refine lv_iconst (v := 1) hx hb dL_law_526 (by decide) ?_
    refine lv_goto (tgt := 531) hx hb dL_law_527 (by decide) ?_
    refine lv_aload_n hx hb dL_law_531 rfl (lv_at hl 0 rfl) ?_
    refine lv_iload_n hx hb dL_law_532 rfl (lv_at hl 3 rfl) ?_
    refine lv_iconst (v := 2) hx hb dL_law_533 (by decide) ?_
    refine lv_iadd hx hb dL_law_534 ?_
    refine va_sld hx hb hX hbl hbA hV.2.2.2 (gl_in 2 (by decide) hI hL (by decide)) dL_law_535 ?_
    refine lv_aload_n hx hb dL_law_536 rfl (lv_at hl 0 rfl) ?_
    refine lv_iload_n hx hb dL_law_537 rfl (lv_at hl 3 rfl) ?_
    refine lv_iconst (v := 3) hx hb dL_law_538 (by decide) ?_
    refine lv_iadd hx hb dL_law_539 ?_
    refine va_sld hx hb hX hbl hbA hV.2.2.2 (gl_in 3 (by decide) hI hL (by decide)) dL_law_540 ?_
    obtain ⟨r, Sx, Sy, hx1, hy1, hR⟩ := z_tell hn hR (1 : Int32) (xs (Int32.toNatClampNeg ((nI I) + (2 : Int32)))) (xs (Int32.toNatClampNeg ((nI I) + (3 : Int32))))
    refine gl_XI hA hV (gw_runV X (gl_vX hV) (o := 0) (As := [.int (1 : Int32), .int (xs (Int32.toNatClampNeg ((nI I) + (2 : Int32)))), .int (xs (Int32.toNatClampNeg ((nI I) + (3 : Int32))))]) (rest := []) (mX5_tell l G ax _ _ hx1) kcL_54 (iXO_0 rfl) rfl rfl rfl hl.1 rfl (Nat.le_of_ble_eq_true rfl) ⟨rfl, rfl⟩ ⟨Nat.le_of_ble_eq_true rfl, Nat.le_of_ble_eq_true rfl⟩ ⟨hc, hs⟩ dL_law_541) (fun H locs hV => ?_)
    refine lv_aload_n hx hb dL_law_544 rfl (lv_at hl 2 rfl) ?_
    refine lv_aload_n hx hb dL_law_545 rfl (lv_at hl 0 rfl) ?_
    refine lv_iload_n hx hb dL_law_546 rfl (lv_at hl 3 rfl) ?_
    refine lv_iconst (v := 1) hx hb dL_law_547 (by decide) ?_
    refine lv_iadd hx hb dL_law_548 ?_
    refine va_sld hx hb hX hbl hbA hV.2.2.2 (gl_in 1 (by decide) hI hL (by decide)) dL_law_549 ?_
    refine lv_if_eq (tgt := 557) hx hb dL_law_550 (by decide) (fun c1 => absurd c1 c0) (fun _ => ?_)
    refine lv_iconst (v := 1) hx hb dL_law_553 (by decide) ?_
    refine lv_goto (tgt := 558) hx hb dL_law_554 (by decide) ?_
    refine lv_aload_n hx hb dL_law_558 rfl (lv_at hl 0 rfl) ?_
    refine lv_iload_n hx hb dL_law_559 rfl (lv_at hl 3 rfl) ?_
    refine lv_iconst (v := 2) hx hb dL_law_560 (by decide) ?_
    refine lv_iadd hx hb dL_law_561 ?_
    refine va_sld hx hb hX hbl hbA hV.2.2.2 (gl_in 2 (by decide) hI hL (by decide)) dL_law_562 ?_
    refine lv_aload_n hx hb dL_law_563 rfl (lv_at hl 0 rfl) ?_
    refine lv_iload_n hx hb dL_law_564 rfl (lv_at hl 3 rfl) ?_
    refine lv_iconst (v := 3) hx hb dL_law_565 (by decide) ?_
    refine lv_iadd hx hb dL_law_566 ?_
    refine va_sld hx hb hX hbl hbA hV.2.2.2 (gl_in 3 (by decide) hI hL (by decide)) dL_law_567 ?_
    refine gl_YI hA hV (gw_runV X (gl_vY hV) (o := 0) (As := [.int (1 : Int32), .int (xs (Int32.toNatClampNeg ((nI I) + (2 : Int32)))), .int (xs (Int32.toNatClampNeg ((nI I) + (3 : Int32))))]) (rest := [.int r]) (mX6_tell l G ay _ _ hy1) kcL_58 (iYO_0 rfl) rfl rfl rfl hl.1 rfl (Nat.le_of_ble_eq_true rfl) ⟨rfl, rfl⟩ ⟨Nat.le_of_ble_eq_true rfl, Nat.le_of_ble_eq_true rfl⟩ ⟨hc, hs⟩ dL_law_568) (fun H locs hV => ?_)
    refine lv_icmp_eq (tgt := 958) hx hb dL_law_571 (by decide) (fun _ => ?_) (fun c2 => absurd rfl c2)
    exact kk _ _ hR _ _ hV _ hl
theorem kcL_59 : gKV RL 59 yX5_rule cX5_rule 4 (some .int) 2 := ⟨q_329, q_330, q_331, q_332, q_36, by decide +kernel⟩
theorem kcL_62 : gKV RL 62 yX6_rule cX6_rule 4 (some .int) 2 := ⟨q_684, q_685, q_686, q_687, q_42, by decide +kernel⟩
set_option maxHeartbeats 4000000 in
set_option maxRecDepth 20000 in
theorem law_rule {p : Program} {l : Launch} {e : Env} {s : State} {m : MethodId} {below : List Frame} {meth : Method} {c : Code} {G : gG} {ax ay : Nat → Nat} {b L : Nat} {xs : Nat → Int32} {cells slots : Nat} (hL : L ≤ 3072) (X : gCx p s m #[.ref b] meth c G cL_law RL ret 4) (hX : va_X b L xs s s.heap) (hbl : b < s.heap.size) (hc : cells + 0 ≤ room_1.cells) (hs : slots + 0 ≤ room_1.slots) {I n : Nat} (hI : I + 6 ≤ L) (hn : n < 512) {Q : State → Prop} {Sx Sy : gS} (hR : gR n Sx Sy) {H : Heap} {locs : List Loc} {ls : Array Slot}
    (kk : ∀ (Sx Sy : gS), gR (n + 1) Sx Sy → ∀ (H : Heap) (locs : List Loc), gVL G ax ay (fun q => s.heap.size ≤ q) s.heap Sx Sy H locs → ∀ (ls : Array Slot), lv_has ls 4 [(0, .ref b), (1, .ref (ax 0)), (2, .ref (ay 0)), (3, .int (nI I))] → W p l e room_1 s m #[.ref b] below meth c H locs cells slots Q (F0 m 958 ls []))
    (hV : gVL G ax ay (fun q => s.heap.size ≤ q) s.heap Sx Sy H locs) (hl : lv_has ls 4 [(0, .ref b), (1, .ref (ax 0)), (2, .ref (ay 0)), (3, .int (nI I))]) : W p l e room_1 s m #[.ref b] below meth c H locs cells slots Q (F0 m 576 ls []) := by
  obtain ⟨hx, hb, hr, hml, hown, hts, hlk, hK⟩ := id X
  have hA : ∀ q : Nat, s.heap.size ≤ q → (fun q : Nat => s.heap.size ≤ q) q := fun _ h => h
  have hbA : ¬ (fun q : Nat => s.heap.size ≤ q) b := Nat.not_le.mpr hbl
  refine lv_aload_n hx hb dL_law_576 rfl (lv_at hl 1 rfl) ?_
  refine lv_aload_n hx hb dL_law_577 rfl (lv_at hl 0 rfl) ?_
  refine lv_iload_n hx hb dL_law_578 rfl (lv_at hl 3 rfl) ?_
  refine lv_iconst (v := 1) hx hb dL_law_579 (by decide) ?_
  refine lv_iadd hx hb dL_law_580 ?_
  refine va_sld hx hb hX hbl hbA hV.2.2.2 (gl_in 1 (by decide) hI hL (by decide)) dL_law_581 ?_
  refine lv_aload_n hx hb dL_law_582 rfl (lv_at hl 0 rfl) ?_
  refine lv_iload_n hx hb dL_law_583 rfl (lv_at hl 3 rfl) ?_
  refine lv_iconst (v := 2) hx hb dL_law_584 (by decide) ?_
  refine lv_iadd hx hb dL_law_585 ?_
  refine va_sld hx hb hX hbl hbA hV.2.2.2 (gl_in 2 (by decide) hI hL (by decide)) dL_law_586 ?_
  obtain ⟨r, Sx, Sy, hx1, hy1, hR⟩ := z_rule hn hR (xs (Int32.toNatClampNeg ((nI I) + (1 : Int32)))) (xs (Int32.toNatClampNeg ((nI I) + (2 : Int32))))
  refine gl_XI hA hV (gw_runV X (gl_vX hV) (o := 0) (As := [.int (xs (Int32.toNatClampNeg ((nI I) + (1 : Int32)))), .int (xs (Int32.toNatClampNeg ((nI I) + (2 : Int32))))]) (rest := []) (mX5_rule l G ax _ _ hx1) kcL_59 (iXO_0 rfl) rfl rfl rfl hl.1 rfl (Nat.le_of_ble_eq_true rfl) ⟨rfl, rfl⟩ ⟨Nat.le_of_ble_eq_true rfl, Nat.le_of_ble_eq_true rfl⟩ ⟨hc, hs⟩ dL_law_587) (fun H locs hV => ?_)
  refine lv_aload_n hx hb dL_law_590 rfl (lv_at hl 2 rfl) ?_
  refine lv_aload_n hx hb dL_law_591 rfl (lv_at hl 0 rfl) ?_
  refine lv_iload_n hx hb dL_law_592 rfl (lv_at hl 3 rfl) ?_
  refine lv_iconst (v := 1) hx hb dL_law_593 (by decide) ?_
  refine lv_iadd hx hb dL_law_594 ?_
  refine va_sld hx hb hX hbl hbA hV.2.2.2 (gl_in 1 (by decide) hI hL (by decide)) dL_law_595 ?_
  refine lv_aload_n hx hb dL_law_596 rfl (lv_at hl 0 rfl) ?_
  refine lv_iload_n hx hb dL_law_597 rfl (lv_at hl 3 rfl) ?_
  refine lv_iconst (v := 2) hx hb dL_law_598 (by decide) ?_
  refine lv_iadd hx hb dL_law_599 ?_
  refine va_sld hx hb hX hbl hbA hV.2.2.2 (gl_in 2 (by decide) hI hL (by decide)) dL_law_600 ?_
  refine gl_YI hA hV (gw_runV X (gl_vY hV) (o := 0) (As := [.int (xs (Int32.toNatClampNeg ((nI I) + (1 : Int32)))), .int (xs (Int32.toNatClampNeg ((nI I) + (2 : Int32))))]) (rest := [.int r]) (mX6_rule l G ay _ _ hy1) kcL_62 (iYO_0 rfl) rfl rfl rfl hl.1 rfl (Nat.le_of_ble_eq_true rfl) ⟨rfl, rfl⟩ ⟨Nat.le_of_ble_eq_true rfl, Nat.le_of_ble_eq_true rfl⟩ ⟨hc, hs⟩ dL_law_601) (fun H locs hV => ?_)
  refine lv_icmp_eq (tgt := 958) hx hb dL_law_604 (by decide) (fun _ => ?_) (fun c2 => absurd rfl c2)
  exact kk _ _ hR _ _ hV _ hl
theorem kcL_63 : gKV RL 63 yX5_ice cX5_ice 5 (some .long) 3 := ⟨q_334, q_335, q_336, q_337, q_36, by decide +kernel⟩
theorem kcL_66 : gKV RL 66 yX6_ice cX6_ice 5 (some .long) 3 := ⟨q_689, q_690, q_691, q_692, q_42, by decide +kernel⟩
set_option maxHeartbeats 4000000 in
set_option maxRecDepth 20000 in
theorem law_ice {p : Program} {l : Launch} {e : Env} {s : State} {m : MethodId} {below : List Frame} {meth : Method} {c : Code} {G : gG} {ax ay : Nat → Nat} {b L : Nat} {xs : Nat → Int32} {cells slots : Nat} (hL : L ≤ 3072) (X : gCx p s m #[.ref b] meth c G cL_law RL ret 4) (hX : va_X b L xs s s.heap) (hbl : b < s.heap.size) (hc : cells + 0 ≤ room_1.cells) (hs : slots + 0 ≤ room_1.slots) {I n : Nat} (hI : I + 6 ≤ L) (hn : n < 512) {Q : State → Prop} {Sx Sy : gS} (hR : gR n Sx Sy) {H : Heap} {locs : List Loc} {ls : Array Slot}
    (kk : ∀ (Sx Sy : gS), gR (n + 1) Sx Sy → ∀ (H : Heap) (locs : List Loc), gVL G ax ay (fun q => s.heap.size ≤ q) s.heap Sx Sy H locs → ∀ (ls : Array Slot), lv_has ls 4 [(0, .ref b), (1, .ref (ax 0)), (2, .ref (ay 0)), (3, .int (nI I))] → W p l e room_1 s m #[.ref b] below meth c H locs cells slots Q (F0 m 958 ls []))
    (hV : gVL G ax ay (fun q => s.heap.size ≤ q) s.heap Sx Sy H locs) (hl : lv_has ls 4 [(0, .ref b), (1, .ref (ax 0)), (2, .ref (ay 0)), (3, .int (nI I))]) : W p l e room_1 s m #[.ref b] below meth c H locs cells slots Q (F0 m 609 ls []) := by
  obtain ⟨hx, hb, hr, hml, hown, hts, hlk, hK⟩ := id X
  have hA : ∀ q : Nat, s.heap.size ≤ q → (fun q : Nat => s.heap.size ≤ q) q := fun _ h => h
  have hbA : ¬ (fun q : Nat => s.heap.size ≤ q) b := Nat.not_le.mpr hbl
  refine lv_aload_n hx hb dL_law_609 rfl (lv_at hl 1 rfl) ?_
  refine lv_aload_n hx hb dL_law_610 rfl (lv_at hl 0 rfl) ?_
  refine lv_iload_n hx hb dL_law_611 rfl (lv_at hl 3 rfl) ?_
  refine lv_iconst (v := 1) hx hb dL_law_612 (by decide) ?_
  refine lv_iadd hx hb dL_law_613 ?_
  refine va_sld hx hb hX hbl hbA hV.2.2.2 (gl_in 1 (by decide) hI hL (by decide)) dL_law_614 ?_
  refine lv_aload_n hx hb dL_law_615 rfl (lv_at hl 0 rfl) ?_
  refine lv_iload_n hx hb dL_law_616 rfl (lv_at hl 3 rfl) ?_
  refine lv_iconst (v := 2) hx hb dL_law_617 (by decide) ?_
  refine lv_iadd hx hb dL_law_618 ?_
  refine va_sld hx hb hX hbl hbA hV.2.2.2 (gl_in 2 (by decide) hI hL (by decide)) dL_law_619 ?_
  refine lv_aload_n hx hb dL_law_620 rfl (lv_at hl 0 rfl) ?_
  refine lv_iload_n hx hb dL_law_621 rfl (lv_at hl 3 rfl) ?_
  refine lv_iconst (v := 3) hx hb dL_law_622 (by decide) ?_
  refine lv_iadd hx hb dL_law_623 ?_
  refine va_sld hx hb hX hbl hbA hV.2.2.2 (gl_in 3 (by decide) hI hL (by decide)) dL_law_624 ?_
  obtain ⟨r, Sx, Sy, hx1, hy1, hR⟩ := z_ice hn hR (xs (Int32.toNatClampNeg ((nI I) + (1 : Int32)))) (xs (Int32.toNatClampNeg ((nI I) + (2 : Int32)))) (xs (Int32.toNatClampNeg ((nI I) + (3 : Int32))))
  refine gl_XL hA hV (gw_runV X (gl_vX hV) (o := 0) (As := [.int (xs (Int32.toNatClampNeg ((nI I) + (1 : Int32)))), .int (xs (Int32.toNatClampNeg ((nI I) + (2 : Int32)))), .int (xs (Int32.toNatClampNeg ((nI I) + (3 : Int32))))]) (rest := []) (mX5_ice l G ax _ _ hx1) kcL_63 (iXO_0 rfl) rfl rfl rfl hl.1 rfl (Nat.le_of_ble_eq_true rfl) ⟨rfl, rfl⟩ ⟨Nat.le_of_ble_eq_true rfl, Nat.le_of_ble_eq_true rfl⟩ ⟨hc, hs⟩ dL_law_625) (fun H locs hV => ?_)
  refine lv_aload_n hx hb dL_law_628 rfl (lv_at hl 2 rfl) ?_
  refine lv_aload_n hx hb dL_law_629 rfl (lv_at hl 0 rfl) ?_
  refine lv_iload_n hx hb dL_law_630 rfl (lv_at hl 3 rfl) ?_
  refine lv_iconst (v := 1) hx hb dL_law_631 (by decide) ?_
  refine lv_iadd hx hb dL_law_632 ?_
  refine va_sld hx hb hX hbl hbA hV.2.2.2 (gl_in 1 (by decide) hI hL (by decide)) dL_law_633 ?_
  refine lv_aload_n hx hb dL_law_634 rfl (lv_at hl 0 rfl) ?_
  refine lv_iload_n hx hb dL_law_635 rfl (lv_at hl 3 rfl) ?_
  refine lv_iconst (v := 2) hx hb dL_law_636 (by decide) ?_
  refine lv_iadd hx hb dL_law_637 ?_
  refine va_sld hx hb hX hbl hbA hV.2.2.2 (gl_in 2 (by decide) hI hL (by decide)) dL_law_638 ?_
  refine lv_aload_n hx hb dL_law_639 rfl (lv_at hl 0 rfl) ?_
  refine lv_iload_n hx hb dL_law_640 rfl (lv_at hl 3 rfl) ?_
  refine lv_iconst (v := 3) hx hb dL_law_641 (by decide) ?_
  refine lv_iadd hx hb dL_law_642 ?_
  refine va_sld hx hb hX hbl hbA hV.2.2.2 (gl_in 3 (by decide) hI hL (by decide)) dL_law_643 ?_
  refine gl_YL hA hV (gw_runV X (gl_vY hV) (o := 0) (As := [.int (xs (Int32.toNatClampNeg ((nI I) + (1 : Int32)))), .int (xs (Int32.toNatClampNeg ((nI I) + (2 : Int32)))), .int (xs (Int32.toNatClampNeg ((nI I) + (3 : Int32))))]) (rest := [.long r]) (mX6_ice l G ay _ _ hy1) kcL_66 (iYO_0 rfl) rfl rfl rfl hl.1 rfl (Nat.le_of_ble_eq_true rfl) ⟨rfl, rfl⟩ ⟨Nat.le_of_ble_eq_true rfl, Nat.le_of_ble_eq_true rfl⟩ ⟨hc, hs⟩ dL_law_644) (fun H locs hV => ?_)
  refine gw_cmp_eq (tgt := 958) X dL_law_647 dL_law_648 (by decide) (fun _ => ?_) (fun c2 => absurd rfl c2)
  exact kk _ _ hR _ _ hV _ hl
theorem kcL_67 : gKV RL 67 yX5_years cX5_years 4 (some .int) 1 := ⟨q_347, q_348, q_349, q_350, q_36, by decide +kernel⟩
theorem kcL_70 : gKV RL 70 yX6_years cX6_years 3 (some .int) 1 := ⟨q_702, q_703, q_704, q_705, q_42, by decide +kernel⟩
set_option maxHeartbeats 4000000 in
set_option maxRecDepth 20000 in
theorem law_years {p : Program} {l : Launch} {e : Env} {s : State} {m : MethodId} {below : List Frame} {meth : Method} {c : Code} {G : gG} {ax ay : Nat → Nat} {b L : Nat} {xs : Nat → Int32} {cells slots : Nat} (hL : L ≤ 3072) (X : gCx p s m #[.ref b] meth c G cL_law RL ret 4) (hX : va_X b L xs s s.heap) (hbl : b < s.heap.size) (hc : cells + 0 ≤ room_1.cells) (hs : slots + 0 ≤ room_1.slots) {I n : Nat} (hI : I + 6 ≤ L) (hn : n < 512) {Q : State → Prop} {Sx Sy : gS} (hR : gR n Sx Sy) {H : Heap} {locs : List Loc} {ls : Array Slot}
    (kk : ∀ (Sx Sy : gS), gR (n + 1) Sx Sy → ∀ (H : Heap) (locs : List Loc), gVL G ax ay (fun q => s.heap.size ≤ q) s.heap Sx Sy H locs → ∀ (ls : Array Slot), lv_has ls 4 [(0, .ref b), (1, .ref (ax 0)), (2, .ref (ay 0)), (3, .int (nI I))] → W p l e room_1 s m #[.ref b] below meth c H locs cells slots Q (F0 m 958 ls []))
    (hV : gVL G ax ay (fun q => s.heap.size ≤ q) s.heap Sx Sy H locs) (hl : lv_has ls 4 [(0, .ref b), (1, .ref (ax 0)), (2, .ref (ay 0)), (3, .int (nI I))]) : W p l e room_1 s m #[.ref b] below meth c H locs cells slots Q (F0 m 653 ls []) := by
  obtain ⟨hx, hb, hr, hml, hown, hts, hlk, hK⟩ := id X
  have hA : ∀ q : Nat, s.heap.size ≤ q → (fun q : Nat => s.heap.size ≤ q) q := fun _ h => h
  have hbA : ¬ (fun q : Nat => s.heap.size ≤ q) b := Nat.not_le.mpr hbl
  refine lv_aload_n hx hb dL_law_653 rfl (lv_at hl 1 rfl) ?_
  refine lv_aload_n hx hb dL_law_654 rfl (lv_at hl 0 rfl) ?_
  refine lv_iload_n hx hb dL_law_655 rfl (lv_at hl 3 rfl) ?_
  refine lv_iconst (v := 1) hx hb dL_law_656 (by decide) ?_
  refine lv_iadd hx hb dL_law_657 ?_
  refine va_sld hx hb hX hbl hbA hV.2.2.2 (gl_in 1 (by decide) hI hL (by decide)) dL_law_658 ?_
  obtain ⟨r, Sx, Sy, hx1, hy1, hR⟩ := z_years hn hR (xs (Int32.toNatClampNeg ((nI I) + (1 : Int32))))
  refine gl_XI hA hV (gw_runV X (gl_vX hV) (o := 0) (As := [.int (xs (Int32.toNatClampNeg ((nI I) + (1 : Int32))))]) (rest := []) (mX5_years l G ax _ _ hx1) kcL_67 (iXO_0 rfl) rfl rfl rfl hl.1 rfl (Nat.le_of_ble_eq_true rfl) ⟨rfl, rfl⟩ ⟨Nat.le_of_ble_eq_true rfl, Nat.le_of_ble_eq_true rfl⟩ ⟨hc, hs⟩ dL_law_659) (fun H locs hV => ?_)
  refine lv_aload_n hx hb dL_law_662 rfl (lv_at hl 2 rfl) ?_
  refine lv_aload_n hx hb dL_law_663 rfl (lv_at hl 0 rfl) ?_
  refine lv_iload_n hx hb dL_law_664 rfl (lv_at hl 3 rfl) ?_
  refine lv_iconst (v := 1) hx hb dL_law_665 (by decide) ?_
  refine lv_iadd hx hb dL_law_666 ?_
  refine va_sld hx hb hX hbl hbA hV.2.2.2 (gl_in 1 (by decide) hI hL (by decide)) dL_law_667 ?_
  refine gl_YI hA hV (gw_runV X (gl_vY hV) (o := 0) (As := [.int (xs (Int32.toNatClampNeg ((nI I) + (1 : Int32))))]) (rest := [.int r]) (mX6_years l G ay _ _ hy1) kcL_70 (iYO_0 rfl) rfl rfl rfl hl.1 rfl (Nat.le_of_ble_eq_true rfl) ⟨rfl, rfl⟩ ⟨Nat.le_of_ble_eq_true rfl, Nat.le_of_ble_eq_true rfl⟩ ⟨hc, hs⟩ dL_law_668) (fun H locs hV => ?_)
  refine lv_icmp_eq (tgt := 958) hx hb dL_law_671 (by decide) (fun _ => ?_) (fun c2 => absurd rfl c2)
  exact kk _ _ hR _ _ hV _ hl
theorem kcL_71 : gKV RL 71 yX5_back cX5_back 1 (some .int) 0 := ⟨q_426, q_427, q_428, q_429, q_36, by decide +kernel⟩
theorem kcL_75 : gKV RL 75 yX6_back cX6_back 2 (some .int) 0 := ⟨q_698, q_699, q_700, q_701, q_42, by decide +kernel⟩
set_option maxHeartbeats 4000000 in
set_option maxRecDepth 20000 in
theorem law_back {p : Program} {l : Launch} {e : Env} {s : State} {m : MethodId} {below : List Frame} {meth : Method} {c : Code} {G : gG} {ax ay : Nat → Nat} {b L : Nat} {xs : Nat → Int32} {cells slots : Nat} (hL : L ≤ 3072) (X : gCx p s m #[.ref b] meth c G cL_law RL ret 4) (hX : va_X b L xs s s.heap) (hbl : b < s.heap.size) (hc : cells + 0 ≤ room_1.cells) (hs : slots + 0 ≤ room_1.slots) {I n : Nat} (hI : I + 6 ≤ L) (hn : n < 512) {Q : State → Prop} {Sx Sy : gS} (hR : gR n Sx Sy) {H : Heap} {locs : List Loc} {ls : Array Slot}
    (kk : ∀ (Sx Sy : gS), gR (n + 1) Sx Sy → ∀ (H : Heap) (locs : List Loc), gVL G ax ay (fun q => s.heap.size ≤ q) s.heap Sx Sy H locs → ∀ (ls : Array Slot), lv_has ls 4 [(0, .ref b), (1, .ref (ax 0)), (2, .ref (ay 0)), (3, .int (nI I))] → W p l e room_1 s m #[.ref b] below meth c H locs cells slots Q (F0 m 958 ls []))
    (hV : gVL G ax ay (fun q => s.heap.size ≤ q) s.heap Sx Sy H locs) (hl : lv_has ls 4 [(0, .ref b), (1, .ref (ax 0)), (2, .ref (ay 0)), (3, .int (nI I))]) : W p l e room_1 s m #[.ref b] below meth c H locs cells slots Q (F0 m 676 ls []) := by
  obtain ⟨hx, hb, hr, hml, hown, hts, hlk, hK⟩ := id X
  have hA : ∀ q : Nat, s.heap.size ≤ q → (fun q : Nat => s.heap.size ≤ q) q := fun _ h => h
  have hbA : ¬ (fun q : Nat => s.heap.size ≤ q) b := Nat.not_le.mpr hbl
  refine lv_aload_n hx hb dL_law_676 rfl (lv_at hl 1 rfl) ?_
  obtain ⟨r, Sx, Sy, hx1, hy1, hR⟩ := z_back hn hR
  refine gl_XI hA hV (gw_runV X (gl_vX hV) (o := 0) (As := []) (rest := []) (mX5_back l G ax _ _ hx1) kcL_71 (iXO_0 rfl) rfl rfl rfl hl.1 rfl (Nat.le_of_ble_eq_true rfl) ⟨rfl, rfl⟩ ⟨Nat.le_of_ble_eq_true rfl, Nat.le_of_ble_eq_true rfl⟩ ⟨hc, hs⟩ dL_law_677) (fun H locs hV => ?_)
  refine lv_aload_n hx hb dL_law_680 rfl (lv_at hl 2 rfl) ?_
  refine gl_YI hA hV (gw_runV X (gl_vY hV) (o := 0) (As := []) (rest := [.int r]) (mX6_back l G ay _ _ hy1) kcL_75 (iYO_0 rfl) rfl rfl rfl hl.1 rfl (Nat.le_of_ble_eq_true rfl) ⟨rfl, rfl⟩ ⟨Nat.le_of_ble_eq_true rfl, Nat.le_of_ble_eq_true rfl⟩ ⟨hc, hs⟩ dL_law_681) (fun H locs hV => ?_)
  refine lv_icmp_eq (tgt := 958) hx hb dL_law_684 (by decide) (fun _ => ?_) (fun c2 => absurd rfl c2)
  exact kk _ _ hR _ _ hV _ hl
theorem kcL_76 : gKV RL 76 yX5_steady cX5_steady 5 (some .int) 1 := ⟨q_434, q_435, q_436, q_437, q_36, by decide +kernel⟩
theorem kcL_79 : gKV RL 79 yX6_steady cX6_steady 4 (some .int) 1 := ⟨q_742, q_743, q_744, q_745, q_42, by decide +kernel⟩
set_option maxHeartbeats 4000000 in
set_option maxRecDepth 20000 in
theorem law_steady {p : Program} {l : Launch} {e : Env} {s : State} {m : MethodId} {below : List Frame} {meth : Method} {c : Code} {G : gG} {ax ay : Nat → Nat} {b L : Nat} {xs : Nat → Int32} {cells slots : Nat} (hL : L ≤ 3072) (X : gCx p s m #[.ref b] meth c G cL_law RL ret 4) (hX : va_X b L xs s s.heap) (hbl : b < s.heap.size) (hc : cells + 0 ≤ room_1.cells) (hs : slots + 0 ≤ room_1.slots) {I n : Nat} (hI : I + 6 ≤ L) (hn : n < 512) {Q : State → Prop} {Sx Sy : gS} (hR : gR n Sx Sy) {H : Heap} {locs : List Loc} {ls : Array Slot}
    (kk : ∀ (Sx Sy : gS), gR (n + 1) Sx Sy → ∀ (H : Heap) (locs : List Loc), gVL G ax ay (fun q => s.heap.size ≤ q) s.heap Sx Sy H locs → ∀ (ls : Array Slot), lv_has ls 4 [(0, .ref b), (1, .ref (ax 0)), (2, .ref (ay 0)), (3, .int (nI I))] → W p l e room_1 s m #[.ref b] below meth c H locs cells slots Q (F0 m 958 ls []))
    (hV : gVL G ax ay (fun q => s.heap.size ≤ q) s.heap Sx Sy H locs) (hl : lv_has ls 4 [(0, .ref b), (1, .ref (ax 0)), (2, .ref (ay 0)), (3, .int (nI I))]) : W p l e room_1 s m #[.ref b] below meth c H locs cells slots Q (F0 m 689 ls []) := by
  obtain ⟨hx, hb, hr, hml, hown, hts, hlk, hK⟩ := id X
  have hA : ∀ q : Nat, s.heap.size ≤ q → (fun q : Nat => s.heap.size ≤ q) q := fun _ h => h
  have hbA : ¬ (fun q : Nat => s.heap.size ≤ q) b := Nat.not_le.mpr hbl
  refine lv_aload_n hx hb dL_law_689 rfl (lv_at hl 1 rfl) ?_
  refine lv_aload_n hx hb dL_law_690 rfl (lv_at hl 0 rfl) ?_
  refine lv_iload_n hx hb dL_law_691 rfl (lv_at hl 3 rfl) ?_
  refine lv_iconst (v := 1) hx hb dL_law_692 (by decide) ?_
  refine lv_iadd hx hb dL_law_693 ?_
  refine va_sld hx hb hX hbl hbA hV.2.2.2 (gl_in 1 (by decide) hI hL (by decide)) dL_law_694 ?_
  obtain ⟨r, Sx, Sy, hx1, hy1, hR⟩ := z_steady hn hR (xs (Int32.toNatClampNeg ((nI I) + (1 : Int32))))
  refine gl_XI hA hV (gw_runV X (gl_vX hV) (o := 0) (As := [.int (xs (Int32.toNatClampNeg ((nI I) + (1 : Int32))))]) (rest := []) (mX5_steady l G ax _ _ hx1) kcL_76 (iXO_0 rfl) rfl rfl rfl hl.1 rfl (Nat.le_of_ble_eq_true rfl) ⟨rfl, rfl⟩ ⟨Nat.le_of_ble_eq_true rfl, Nat.le_of_ble_eq_true rfl⟩ ⟨hc, hs⟩ dL_law_695) (fun H locs hV => ?_)
  refine lv_aload_n hx hb dL_law_698 rfl (lv_at hl 2 rfl) ?_
  refine lv_aload_n hx hb dL_law_699 rfl (lv_at hl 0 rfl) ?_
  refine lv_iload_n hx hb dL_law_700 rfl (lv_at hl 3 rfl) ?_
  refine lv_iconst (v := 1) hx hb dL_law_701 (by decide) ?_
  refine lv_iadd hx hb dL_law_702 ?_
  refine va_sld hx hb hX hbl hbA hV.2.2.2 (gl_in 1 (by decide) hI hL (by decide)) dL_law_703 ?_
  refine gl_YI hA hV (gw_runV X (gl_vY hV) (o := 0) (As := [.int (xs (Int32.toNatClampNeg ((nI I) + (1 : Int32))))]) (rest := [.int r]) (mX6_steady l G ay _ _ hy1) kcL_79 (iYO_0 rfl) rfl rfl rfl hl.1 rfl (Nat.le_of_ble_eq_true rfl) ⟨rfl, rfl⟩ ⟨Nat.le_of_ble_eq_true rfl, Nat.le_of_ble_eq_true rfl⟩ ⟨hc, hs⟩ dL_law_704) (fun H locs hV => ?_)
  refine lv_icmp_eq (tgt := 958) hx hb dL_law_707 (by decide) (fun _ => ?_) (fun c2 => absurd rfl c2)
  exact kk _ _ hR _ _ hV _ hl
theorem kcL_80 : gKV RL 80 yX5_cell cX5_cell 5 (some .long) 3 := ⟨q_450, q_451, q_452, q_453, q_36, by decide +kernel⟩
theorem kcL_83 : gKV RL 83 yX6_cell cX6_cell 5 (some .long) 3 := ⟨q_754, q_755, q_756, q_757, q_42, by decide +kernel⟩
set_option maxHeartbeats 4000000 in
set_option maxRecDepth 20000 in
theorem law_cell {p : Program} {l : Launch} {e : Env} {s : State} {m : MethodId} {below : List Frame} {meth : Method} {c : Code} {G : gG} {ax ay : Nat → Nat} {b L : Nat} {xs : Nat → Int32} {cells slots : Nat} (hL : L ≤ 3072) (X : gCx p s m #[.ref b] meth c G cL_law RL ret 4) (hX : va_X b L xs s s.heap) (hbl : b < s.heap.size) (hc : cells + 0 ≤ room_1.cells) (hs : slots + 0 ≤ room_1.slots) {I n : Nat} (hI : I + 6 ≤ L) (hn : n < 512) {Q : State → Prop} {Sx Sy : gS} (hR : gR n Sx Sy) {H : Heap} {locs : List Loc} {ls : Array Slot}
    (kk : ∀ (Sx Sy : gS), gR (n + 1) Sx Sy → ∀ (H : Heap) (locs : List Loc), gVL G ax ay (fun q => s.heap.size ≤ q) s.heap Sx Sy H locs → ∀ (ls : Array Slot), lv_has ls 4 [(0, .ref b), (1, .ref (ax 0)), (2, .ref (ay 0)), (3, .int (nI I))] → W p l e room_1 s m #[.ref b] below meth c H locs cells slots Q (F0 m 958 ls []))
    (hV : gVL G ax ay (fun q => s.heap.size ≤ q) s.heap Sx Sy H locs) (hl : lv_has ls 4 [(0, .ref b), (1, .ref (ax 0)), (2, .ref (ay 0)), (3, .int (nI I))]) : W p l e room_1 s m #[.ref b] below meth c H locs cells slots Q (F0 m 712 ls []) := by
  obtain ⟨hx, hb, hr, hml, hown, hts, hlk, hK⟩ := id X
  have hA : ∀ q : Nat, s.heap.size ≤ q → (fun q : Nat => s.heap.size ≤ q) q := fun _ h => h
  have hbA : ¬ (fun q : Nat => s.heap.size ≤ q) b := Nat.not_le.mpr hbl
  refine lv_aload_n hx hb dL_law_712 rfl (lv_at hl 1 rfl) ?_
  refine lv_aload_n hx hb dL_law_713 rfl (lv_at hl 0 rfl) ?_
  refine lv_iload_n hx hb dL_law_714 rfl (lv_at hl 3 rfl) ?_
  refine lv_iconst (v := 1) hx hb dL_law_715 (by decide) ?_
  refine lv_iadd hx hb dL_law_716 ?_
  refine va_sld hx hb hX hbl hbA hV.2.2.2 (gl_in 1 (by decide) hI hL (by decide)) dL_law_717 ?_
  refine lv_aload_n hx hb dL_law_718 rfl (lv_at hl 0 rfl) ?_
  refine lv_iload_n hx hb dL_law_719 rfl (lv_at hl 3 rfl) ?_
  refine lv_iconst (v := 2) hx hb dL_law_720 (by decide) ?_
  refine lv_iadd hx hb dL_law_721 ?_
  refine va_sld hx hb hX hbl hbA hV.2.2.2 (gl_in 2 (by decide) hI hL (by decide)) dL_law_722 ?_
  refine lv_aload_n hx hb dL_law_723 rfl (lv_at hl 0 rfl) ?_
  refine lv_iload_n hx hb dL_law_724 rfl (lv_at hl 3 rfl) ?_
  refine lv_iconst (v := 3) hx hb dL_law_725 (by decide) ?_
  refine lv_iadd hx hb dL_law_726 ?_
  refine va_sld hx hb hX hbl hbA hV.2.2.2 (gl_in 3 (by decide) hI hL (by decide)) dL_law_727 ?_
  obtain ⟨r, Sx, Sy, hx1, hy1, hR⟩ := z_cell hn hR (xs (Int32.toNatClampNeg ((nI I) + (1 : Int32)))) (xs (Int32.toNatClampNeg ((nI I) + (2 : Int32)))) (xs (Int32.toNatClampNeg ((nI I) + (3 : Int32))))
  refine gl_XL hA hV (gw_runV X (gl_vX hV) (o := 0) (As := [.int (xs (Int32.toNatClampNeg ((nI I) + (1 : Int32)))), .int (xs (Int32.toNatClampNeg ((nI I) + (2 : Int32)))), .int (xs (Int32.toNatClampNeg ((nI I) + (3 : Int32))))]) (rest := []) (mX5_cell l G ax _ _ hx1) kcL_80 (iXO_0 rfl) rfl rfl rfl hl.1 rfl (Nat.le_of_ble_eq_true rfl) ⟨rfl, rfl⟩ ⟨Nat.le_of_ble_eq_true rfl, Nat.le_of_ble_eq_true rfl⟩ ⟨hc, hs⟩ dL_law_728) (fun H locs hV => ?_)
  refine lv_aload_n hx hb dL_law_731 rfl (lv_at hl 2 rfl) ?_
  refine lv_aload_n hx hb dL_law_732 rfl (lv_at hl 0 rfl) ?_
  refine lv_iload_n hx hb dL_law_733 rfl (lv_at hl 3 rfl) ?_
  refine lv_iconst (v := 1) hx hb dL_law_734 (by decide) ?_
  refine lv_iadd hx hb dL_law_735 ?_
  refine va_sld hx hb hX hbl hbA hV.2.2.2 (gl_in 1 (by decide) hI hL (by decide)) dL_law_736 ?_
  refine lv_aload_n hx hb dL_law_737 rfl (lv_at hl 0 rfl) ?_
  refine lv_iload_n hx hb dL_law_738 rfl (lv_at hl 3 rfl) ?_
  refine lv_iconst (v := 2) hx hb dL_law_739 (by decide) ?_
  refine lv_iadd hx hb dL_law_740 ?_
  refine va_sld hx hb hX hbl hbA hV.2.2.2 (gl_in 2 (by decide) hI hL (by decide)) dL_law_741 ?_
  refine lv_aload_n hx hb dL_law_742 rfl (lv_at hl 0 rfl) ?_
  refine lv_iload_n hx hb dL_law_743 rfl (lv_at hl 3 rfl) ?_
  refine lv_iconst (v := 3) hx hb dL_law_744 (by decide) ?_
  refine lv_iadd hx hb dL_law_745 ?_
  refine va_sld hx hb hX hbl hbA hV.2.2.2 (gl_in 3 (by decide) hI hL (by decide)) dL_law_746 ?_
  refine gl_YL hA hV (gw_runV X (gl_vY hV) (o := 0) (As := [.int (xs (Int32.toNatClampNeg ((nI I) + (1 : Int32)))), .int (xs (Int32.toNatClampNeg ((nI I) + (2 : Int32)))), .int (xs (Int32.toNatClampNeg ((nI I) + (3 : Int32))))]) (rest := [.long r]) (mX6_cell l G ay _ _ hy1) kcL_83 (iYO_0 rfl) rfl rfl rfl hl.1 rfl (Nat.le_of_ble_eq_true rfl) ⟨rfl, rfl⟩ ⟨Nat.le_of_ble_eq_true rfl, Nat.le_of_ble_eq_true rfl⟩ ⟨hc, hs⟩ dL_law_747) (fun H locs hV => ?_)
  refine gw_cmp_eq (tgt := 958) X dL_law_750 dL_law_751 (by decide) (fun _ => ?_) (fun c2 => absurd rfl c2)
  exact kk _ _ hR _ _ hV _ hl
theorem kcL_84 : gKV RL 84 yX5_layer cX5_layer 7 (some .long) 4 := ⟨q_462, q_463, q_464, q_465, q_36, by decide +kernel⟩
theorem kcL_88 : gKV RL 88 yX6_layer cX6_layer 7 (some .long) 4 := ⟨q_767, q_768, q_769, q_770, q_42, by decide +kernel⟩
set_option maxHeartbeats 4000000 in
set_option maxRecDepth 20000 in
theorem law_layer {p : Program} {l : Launch} {e : Env} {s : State} {m : MethodId} {below : List Frame} {meth : Method} {c : Code} {G : gG} {ax ay : Nat → Nat} {b L : Nat} {xs : Nat → Int32} {cells slots : Nat} (hL : L ≤ 3072) (X : gCx p s m #[.ref b] meth c G cL_law RL ret 4) (hX : va_X b L xs s s.heap) (hbl : b < s.heap.size) (hc : cells + 0 ≤ room_1.cells) (hs : slots + 0 ≤ room_1.slots) {I n : Nat} (hI : I + 6 ≤ L) (hn : n < 512) {Q : State → Prop} {Sx Sy : gS} (hR : gR n Sx Sy) {H : Heap} {locs : List Loc} {ls : Array Slot}
    (kk : ∀ (Sx Sy : gS), gR (n + 1) Sx Sy → ∀ (H : Heap) (locs : List Loc), gVL G ax ay (fun q => s.heap.size ≤ q) s.heap Sx Sy H locs → ∀ (ls : Array Slot), lv_has ls 4 [(0, .ref b), (1, .ref (ax 0)), (2, .ref (ay 0)), (3, .int (nI I))] → W p l e room_1 s m #[.ref b] below meth c H locs cells slots Q (F0 m 958 ls []))
    (hV : gVL G ax ay (fun q => s.heap.size ≤ q) s.heap Sx Sy H locs) (hl : lv_has ls 4 [(0, .ref b), (1, .ref (ax 0)), (2, .ref (ay 0)), (3, .int (nI I))]) : W p l e room_1 s m #[.ref b] below meth c H locs cells slots Q (F0 m 756 ls []) := by
  obtain ⟨hx, hb, hr, hml, hown, hts, hlk, hK⟩ := id X
  have hA : ∀ q : Nat, s.heap.size ≤ q → (fun q : Nat => s.heap.size ≤ q) q := fun _ h => h
  have hbA : ¬ (fun q : Nat => s.heap.size ≤ q) b := Nat.not_le.mpr hbl
  refine lv_aload_n hx hb dL_law_756 rfl (lv_at hl 1 rfl) ?_
  refine lv_aload_n hx hb dL_law_757 rfl (lv_at hl 0 rfl) ?_
  refine lv_iload_n hx hb dL_law_758 rfl (lv_at hl 3 rfl) ?_
  refine lv_iconst (v := 1) hx hb dL_law_759 (by decide) ?_
  refine lv_iadd hx hb dL_law_760 ?_
  refine va_sld hx hb hX hbl hbA hV.2.2.2 (gl_in 1 (by decide) hI hL (by decide)) dL_law_761 ?_
  refine lv_aload_n hx hb dL_law_762 rfl (lv_at hl 0 rfl) ?_
  refine lv_iload_n hx hb dL_law_763 rfl (lv_at hl 3 rfl) ?_
  refine lv_iconst (v := 2) hx hb dL_law_764 (by decide) ?_
  refine lv_iadd hx hb dL_law_765 ?_
  refine va_sld hx hb hX hbl hbA hV.2.2.2 (gl_in 2 (by decide) hI hL (by decide)) dL_law_766 ?_
  refine lv_aload_n hx hb dL_law_767 rfl (lv_at hl 0 rfl) ?_
  refine lv_iload_n hx hb dL_law_768 rfl (lv_at hl 3 rfl) ?_
  refine lv_iconst (v := 3) hx hb dL_law_769 (by decide) ?_
  refine lv_iadd hx hb dL_law_770 ?_
  refine va_sld hx hb hX hbl hbA hV.2.2.2 (gl_in 3 (by decide) hI hL (by decide)) dL_law_771 ?_
  refine lv_aload_n hx hb dL_law_772 rfl (lv_at hl 0 rfl) ?_
  refine lv_iload_n hx hb dL_law_773 rfl (lv_at hl 3 rfl) ?_
  refine lv_iconst (v := 4) hx hb dL_law_774 (by decide) ?_
  refine lv_iadd hx hb dL_law_775 ?_
  refine va_sld hx hb hX hbl hbA hV.2.2.2 (gl_in 4 (by decide) hI hL (by decide)) dL_law_776 ?_
  obtain ⟨r, Sx, Sy, hx1, hy1, hR⟩ := z_layer hn hR (xs (Int32.toNatClampNeg ((nI I) + (1 : Int32)))) (xs (Int32.toNatClampNeg ((nI I) + (2 : Int32)))) (xs (Int32.toNatClampNeg ((nI I) + (3 : Int32)))) (xs (Int32.toNatClampNeg ((nI I) + (4 : Int32))))
  refine gl_XL hA hV (gw_runV X (gl_vX hV) (o := 0) (As := [.int (xs (Int32.toNatClampNeg ((nI I) + (1 : Int32)))), .int (xs (Int32.toNatClampNeg ((nI I) + (2 : Int32)))), .int (xs (Int32.toNatClampNeg ((nI I) + (3 : Int32)))), .int (xs (Int32.toNatClampNeg ((nI I) + (4 : Int32))))]) (rest := []) (mX5_layer l G ax _ _ hx1) kcL_84 (iXO_0 rfl) rfl rfl rfl hl.1 rfl (Nat.le_of_ble_eq_true rfl) ⟨rfl, rfl⟩ ⟨Nat.le_of_ble_eq_true rfl, Nat.le_of_ble_eq_true rfl⟩ ⟨hc, hs⟩ dL_law_777) (fun H locs hV => ?_)
  refine lv_aload_n hx hb dL_law_780 rfl (lv_at hl 2 rfl) ?_
  refine lv_aload_n hx hb dL_law_781 rfl (lv_at hl 0 rfl) ?_
  refine lv_iload_n hx hb dL_law_782 rfl (lv_at hl 3 rfl) ?_
  refine lv_iconst (v := 1) hx hb dL_law_783 (by decide) ?_
  refine lv_iadd hx hb dL_law_784 ?_
  refine va_sld hx hb hX hbl hbA hV.2.2.2 (gl_in 1 (by decide) hI hL (by decide)) dL_law_785 ?_
  refine lv_aload_n hx hb dL_law_786 rfl (lv_at hl 0 rfl) ?_
  refine lv_iload_n hx hb dL_law_787 rfl (lv_at hl 3 rfl) ?_
  refine lv_iconst (v := 2) hx hb dL_law_788 (by decide) ?_
  refine lv_iadd hx hb dL_law_789 ?_
  refine va_sld hx hb hX hbl hbA hV.2.2.2 (gl_in 2 (by decide) hI hL (by decide)) dL_law_790 ?_
  refine lv_aload_n hx hb dL_law_791 rfl (lv_at hl 0 rfl) ?_
  refine lv_iload_n hx hb dL_law_792 rfl (lv_at hl 3 rfl) ?_
  refine lv_iconst (v := 3) hx hb dL_law_793 (by decide) ?_
  refine lv_iadd hx hb dL_law_794 ?_
  refine va_sld hx hb hX hbl hbA hV.2.2.2 (gl_in 3 (by decide) hI hL (by decide)) dL_law_795 ?_
  refine lv_aload_n hx hb dL_law_796 rfl (lv_at hl 0 rfl) ?_
  refine lv_iload_n hx hb dL_law_797 rfl (lv_at hl 3 rfl) ?_
  refine lv_iconst (v := 4) hx hb dL_law_798 (by decide) ?_
  refine lv_iadd hx hb dL_law_799 ?_
  refine va_sld hx hb hX hbl hbA hV.2.2.2 (gl_in 4 (by decide) hI hL (by decide)) dL_law_800 ?_
  refine gl_YL hA hV (gw_runV X (gl_vY hV) (o := 0) (As := [.int (xs (Int32.toNatClampNeg ((nI I) + (1 : Int32)))), .int (xs (Int32.toNatClampNeg ((nI I) + (2 : Int32)))), .int (xs (Int32.toNatClampNeg ((nI I) + (3 : Int32)))), .int (xs (Int32.toNatClampNeg ((nI I) + (4 : Int32))))]) (rest := [.long r]) (mX6_layer l G ay _ _ hy1) kcL_88 (iYO_0 rfl) rfl rfl rfl hl.1 rfl (Nat.le_of_ble_eq_true rfl) ⟨rfl, rfl⟩ ⟨Nat.le_of_ble_eq_true rfl, Nat.le_of_ble_eq_true rfl⟩ ⟨hc, hs⟩ dL_law_801) (fun H locs hV => ?_)
  refine gw_cmp_eq (tgt := 958) X dL_law_804 dL_law_805 (by decide) (fun _ => ?_) (fun c2 => absurd rfl c2)
  exact kk _ _ hR _ _ hV _ hl
theorem kcL_89 : gKV RL 89 yX5_sum cX5_sum 3 (some .long) 2 := ⟨q_466, q_467, q_468, q_469, q_36, by decide +kernel⟩
theorem kcL_93 : gKV RL 93 yX6_sum cX6_sum 7 (some .long) 2 := ⟨q_772, q_773, q_774, q_775, q_42, by decide +kernel⟩
set_option maxHeartbeats 4000000 in
set_option maxRecDepth 20000 in
theorem law_sum {p : Program} {l : Launch} {e : Env} {s : State} {m : MethodId} {below : List Frame} {meth : Method} {c : Code} {G : gG} {ax ay : Nat → Nat} {b L : Nat} {xs : Nat → Int32} {cells slots : Nat} (hL : L ≤ 3072) (X : gCx p s m #[.ref b] meth c G cL_law RL ret 4) (hX : va_X b L xs s s.heap) (hbl : b < s.heap.size) (hc : cells + 0 ≤ room_1.cells) (hs : slots + 0 ≤ room_1.slots) {I n : Nat} (hI : I + 6 ≤ L) (hn : n < 512) {Q : State → Prop} {Sx Sy : gS} (hR : gR n Sx Sy) {H : Heap} {locs : List Loc} {ls : Array Slot}
    (kk : ∀ (Sx Sy : gS), gR (n + 1) Sx Sy → ∀ (H : Heap) (locs : List Loc), gVL G ax ay (fun q => s.heap.size ≤ q) s.heap Sx Sy H locs → ∀ (ls : Array Slot), lv_has ls 4 [(0, .ref b), (1, .ref (ax 0)), (2, .ref (ay 0)), (3, .int (nI I))] → W p l e room_1 s m #[.ref b] below meth c H locs cells slots Q (F0 m 958 ls []))
    (hV : gVL G ax ay (fun q => s.heap.size ≤ q) s.heap Sx Sy H locs) (hl : lv_has ls 4 [(0, .ref b), (1, .ref (ax 0)), (2, .ref (ay 0)), (3, .int (nI I))]) : W p l e room_1 s m #[.ref b] below meth c H locs cells slots Q (F0 m 810 ls []) := by
  obtain ⟨hx, hb, hr, hml, hown, hts, hlk, hK⟩ := id X
  have hA : ∀ q : Nat, s.heap.size ≤ q → (fun q : Nat => s.heap.size ≤ q) q := fun _ h => h
  have hbA : ¬ (fun q : Nat => s.heap.size ≤ q) b := Nat.not_le.mpr hbl
  refine lv_aload_n hx hb dL_law_810 rfl (lv_at hl 1 rfl) ?_
  refine lv_aload_n hx hb dL_law_811 rfl (lv_at hl 0 rfl) ?_
  refine lv_iload_n hx hb dL_law_812 rfl (lv_at hl 3 rfl) ?_
  refine lv_iconst (v := 1) hx hb dL_law_813 (by decide) ?_
  refine lv_iadd hx hb dL_law_814 ?_
  refine va_sld hx hb hX hbl hbA hV.2.2.2 (gl_in 1 (by decide) hI hL (by decide)) dL_law_815 ?_
  refine lv_aload_n hx hb dL_law_816 rfl (lv_at hl 0 rfl) ?_
  refine lv_iload_n hx hb dL_law_817 rfl (lv_at hl 3 rfl) ?_
  refine lv_iconst (v := 2) hx hb dL_law_818 (by decide) ?_
  refine lv_iadd hx hb dL_law_819 ?_
  refine va_sld hx hb hX hbl hbA hV.2.2.2 (gl_in 2 (by decide) hI hL (by decide)) dL_law_820 ?_
  obtain ⟨r, Sx, Sy, hx1, hy1, hR⟩ := z_sum hn hR (xs (Int32.toNatClampNeg ((nI I) + (1 : Int32)))) (xs (Int32.toNatClampNeg ((nI I) + (2 : Int32))))
  refine gl_XL hA hV (gw_runV X (gl_vX hV) (o := 0) (As := [.int (xs (Int32.toNatClampNeg ((nI I) + (1 : Int32)))), .int (xs (Int32.toNatClampNeg ((nI I) + (2 : Int32))))]) (rest := []) (mX5_sum l G ax _ _ hx1) kcL_89 (iXO_0 rfl) rfl rfl rfl hl.1 rfl (Nat.le_of_ble_eq_true rfl) ⟨rfl, rfl⟩ ⟨Nat.le_of_ble_eq_true rfl, Nat.le_of_ble_eq_true rfl⟩ ⟨hc, hs⟩ dL_law_821) (fun H locs hV => ?_)
  refine lv_aload_n hx hb dL_law_824 rfl (lv_at hl 2 rfl) ?_
  refine lv_aload_n hx hb dL_law_825 rfl (lv_at hl 0 rfl) ?_
  refine lv_iload_n hx hb dL_law_826 rfl (lv_at hl 3 rfl) ?_
  refine lv_iconst (v := 1) hx hb dL_law_827 (by decide) ?_
  refine lv_iadd hx hb dL_law_828 ?_
  refine va_sld hx hb hX hbl hbA hV.2.2.2 (gl_in 1 (by decide) hI hL (by decide)) dL_law_829 ?_
  refine lv_aload_n hx hb dL_law_830 rfl (lv_at hl 0 rfl) ?_
  refine lv_iload_n hx hb dL_law_831 rfl (lv_at hl 3 rfl) ?_
  refine lv_iconst (v := 2) hx hb dL_law_832 (by decide) ?_
  refine lv_iadd hx hb dL_law_833 ?_
  refine va_sld hx hb hX hbl hbA hV.2.2.2 (gl_in 2 (by decide) hI hL (by decide)) dL_law_834 ?_
  refine gl_YL hA hV (gw_runV X (gl_vY hV) (o := 0) (As := [.int (xs (Int32.toNatClampNeg ((nI I) + (1 : Int32)))), .int (xs (Int32.toNatClampNeg ((nI I) + (2 : Int32))))]) (rest := [.long r]) (mX6_sum l G ay _ _ hy1) kcL_93 (iYO_0 rfl) rfl rfl rfl hl.1 rfl (Nat.le_of_ble_eq_true rfl) ⟨rfl, rfl⟩ ⟨Nat.le_of_ble_eq_true rfl, Nat.le_of_ble_eq_true rfl⟩ ⟨hc, hs⟩ dL_law_835) (fun H locs hV => ?_)
  refine gw_cmp_eq (tgt := 958) X dL_law_838 dL_law_839 (by decide) (fun _ => ?_) (fun c2 => absurd rfl c2)
  exact kk _ _ hR _ _ hV _ hl
theorem kcL_94 : gKV RL 94 yX5_about cX5_about 3 (some .long) 1 := ⟨q_474, q_475, q_476, q_477, q_36, by decide +kernel⟩
theorem kcL_98 : gKV RL 98 yX6_about cX6_about 13 (some .long) 1 := ⟨q_776, q_777, q_778, q_779, q_42, by decide +kernel⟩
set_option maxHeartbeats 4000000 in
set_option maxRecDepth 20000 in
theorem law_about {p : Program} {l : Launch} {e : Env} {s : State} {m : MethodId} {below : List Frame} {meth : Method} {c : Code} {G : gG} {ax ay : Nat → Nat} {b L : Nat} {xs : Nat → Int32} {cells slots : Nat} (hL : L ≤ 3072) (X : gCx p s m #[.ref b] meth c G cL_law RL ret 4) (hX : va_X b L xs s s.heap) (hbl : b < s.heap.size) (hc : cells + 0 ≤ room_1.cells) (hs : slots + 0 ≤ room_1.slots) {I n : Nat} (hI : I + 6 ≤ L) (hn : n < 512) {Q : State → Prop} {Sx Sy : gS} (hR : gR n Sx Sy) {H : Heap} {locs : List Loc} {ls : Array Slot}
    (kk : ∀ (Sx Sy : gS), gR (n + 1) Sx Sy → ∀ (H : Heap) (locs : List Loc), gVL G ax ay (fun q => s.heap.size ≤ q) s.heap Sx Sy H locs → ∀ (ls : Array Slot), lv_has ls 4 [(0, .ref b), (1, .ref (ax 0)), (2, .ref (ay 0)), (3, .int (nI I))] → W p l e room_1 s m #[.ref b] below meth c H locs cells slots Q (F0 m 958 ls []))
    (hV : gVL G ax ay (fun q => s.heap.size ≤ q) s.heap Sx Sy H locs) (hl : lv_has ls 4 [(0, .ref b), (1, .ref (ax 0)), (2, .ref (ay 0)), (3, .int (nI I))]) : W p l e room_1 s m #[.ref b] below meth c H locs cells slots Q (F0 m 844 ls []) := by
  obtain ⟨hx, hb, hr, hml, hown, hts, hlk, hK⟩ := id X
  have hA : ∀ q : Nat, s.heap.size ≤ q → (fun q : Nat => s.heap.size ≤ q) q := fun _ h => h
  have hbA : ¬ (fun q : Nat => s.heap.size ≤ q) b := Nat.not_le.mpr hbl
  refine lv_aload_n hx hb dL_law_844 rfl (lv_at hl 1 rfl) ?_
  refine lv_aload_n hx hb dL_law_845 rfl (lv_at hl 0 rfl) ?_
  refine lv_iload_n hx hb dL_law_846 rfl (lv_at hl 3 rfl) ?_
  refine lv_iconst (v := 1) hx hb dL_law_847 (by decide) ?_
  refine lv_iadd hx hb dL_law_848 ?_
  refine va_sld hx hb hX hbl hbA hV.2.2.2 (gl_in 1 (by decide) hI hL (by decide)) dL_law_849 ?_
  obtain ⟨r, Sx, Sy, hx1, hy1, hR⟩ := z_about hn hR (xs (Int32.toNatClampNeg ((nI I) + (1 : Int32))))
  refine gl_XL hA hV (gw_runV X (gl_vX hV) (o := 0) (As := [.int (xs (Int32.toNatClampNeg ((nI I) + (1 : Int32))))]) (rest := []) (mX5_about l G ax _ _ hx1) kcL_94 (iXO_0 rfl) rfl rfl rfl hl.1 rfl (Nat.le_of_ble_eq_true rfl) ⟨rfl, rfl⟩ ⟨Nat.le_of_ble_eq_true rfl, Nat.le_of_ble_eq_true rfl⟩ ⟨hc, hs⟩ dL_law_850) (fun H locs hV => ?_)
  refine lv_aload_n hx hb dL_law_853 rfl (lv_at hl 2 rfl) ?_
  refine lv_aload_n hx hb dL_law_854 rfl (lv_at hl 0 rfl) ?_
  refine lv_iload_n hx hb dL_law_855 rfl (lv_at hl 3 rfl) ?_
  refine lv_iconst (v := 1) hx hb dL_law_856 (by decide) ?_
  refine lv_iadd hx hb dL_law_857 ?_
  refine va_sld hx hb hX hbl hbA hV.2.2.2 (gl_in 1 (by decide) hI hL (by decide)) dL_law_858 ?_
  refine gl_YL hA hV (gw_runV X (gl_vY hV) (o := 0) (As := [.int (xs (Int32.toNatClampNeg ((nI I) + (1 : Int32))))]) (rest := [.long r]) (mX6_about l G ay _ _ hy1) kcL_98 (iYO_0 rfl) rfl rfl rfl hl.1 rfl (Nat.le_of_ble_eq_true rfl) ⟨rfl, rfl⟩ ⟨Nat.le_of_ble_eq_true rfl, Nat.le_of_ble_eq_true rfl⟩ ⟨hc, hs⟩ dL_law_859) (fun H locs hV => ?_)
  refine gw_cmp_eq (tgt := 958) X dL_law_862 dL_law_863 (by decide) (fun _ => ?_) (fun c2 => absurd rfl c2)
  exact kk _ _ hR _ _ hV _ hl
theorem kcL_99 : gKV RL 99 yX5_gives cX5_gives 5 (some .long) 3 := ⟨q_495, q_496, q_497, q_498, q_36, by decide +kernel⟩
theorem kcL_102 : gKV RL 102 yX6_gives cX6_gives 4 (some .long) 3 := ⟨q_780, q_781, q_782, q_783, q_42, by decide +kernel⟩
set_option maxHeartbeats 4000000 in
set_option maxRecDepth 20000 in
theorem law_gives {p : Program} {l : Launch} {e : Env} {s : State} {m : MethodId} {below : List Frame} {meth : Method} {c : Code} {G : gG} {ax ay : Nat → Nat} {b L : Nat} {xs : Nat → Int32} {cells slots : Nat} (hL : L ≤ 3072) (X : gCx p s m #[.ref b] meth c G cL_law RL ret 4) (hX : va_X b L xs s s.heap) (hbl : b < s.heap.size) (hc : cells + 0 ≤ room_1.cells) (hs : slots + 0 ≤ room_1.slots) {I n : Nat} (hI : I + 6 ≤ L) (hn : n < 512) {Q : State → Prop} {Sx Sy : gS} (hR : gR n Sx Sy) {H : Heap} {locs : List Loc} {ls : Array Slot}
    (kk : ∀ (Sx Sy : gS), gR (n + 1) Sx Sy → ∀ (H : Heap) (locs : List Loc), gVL G ax ay (fun q => s.heap.size ≤ q) s.heap Sx Sy H locs → ∀ (ls : Array Slot), lv_has ls 4 [(0, .ref b), (1, .ref (ax 0)), (2, .ref (ay 0)), (3, .int (nI I))] → W p l e room_1 s m #[.ref b] below meth c H locs cells slots Q (F0 m 958 ls []))
    (hV : gVL G ax ay (fun q => s.heap.size ≤ q) s.heap Sx Sy H locs) (hl : lv_has ls 4 [(0, .ref b), (1, .ref (ax 0)), (2, .ref (ay 0)), (3, .int (nI I))]) : W p l e room_1 s m #[.ref b] below meth c H locs cells slots Q (F0 m 868 ls []) := by
  obtain ⟨hx, hb, hr, hml, hown, hts, hlk, hK⟩ := id X
  have hA : ∀ q : Nat, s.heap.size ≤ q → (fun q : Nat => s.heap.size ≤ q) q := fun _ h => h
  have hbA : ¬ (fun q : Nat => s.heap.size ≤ q) b := Nat.not_le.mpr hbl
  refine lv_aload_n hx hb dL_law_868 rfl (lv_at hl 1 rfl) ?_
  refine lv_aload_n hx hb dL_law_869 rfl (lv_at hl 0 rfl) ?_
  refine lv_iload_n hx hb dL_law_870 rfl (lv_at hl 3 rfl) ?_
  refine lv_iconst (v := 1) hx hb dL_law_871 (by decide) ?_
  refine lv_iadd hx hb dL_law_872 ?_
  refine va_sld hx hb hX hbl hbA hV.2.2.2 (gl_in 1 (by decide) hI hL (by decide)) dL_law_873 ?_
  refine lv_aload_n hx hb dL_law_874 rfl (lv_at hl 0 rfl) ?_
  refine lv_iload_n hx hb dL_law_875 rfl (lv_at hl 3 rfl) ?_
  refine lv_iconst (v := 2) hx hb dL_law_876 (by decide) ?_
  refine lv_iadd hx hb dL_law_877 ?_
  refine va_sld hx hb hX hbl hbA hV.2.2.2 (gl_in 2 (by decide) hI hL (by decide)) dL_law_878 ?_
  refine lv_aload_n hx hb dL_law_879 rfl (lv_at hl 0 rfl) ?_
  refine lv_iload_n hx hb dL_law_880 rfl (lv_at hl 3 rfl) ?_
  refine lv_iconst (v := 3) hx hb dL_law_881 (by decide) ?_
  refine lv_iadd hx hb dL_law_882 ?_
  refine va_sld hx hb hX hbl hbA hV.2.2.2 (gl_in 3 (by decide) hI hL (by decide)) dL_law_883 ?_
  obtain ⟨r, Sx, Sy, hx1, hy1, hR⟩ := z_gives hn hR (xs (Int32.toNatClampNeg ((nI I) + (1 : Int32)))) (xs (Int32.toNatClampNeg ((nI I) + (2 : Int32)))) (xs (Int32.toNatClampNeg ((nI I) + (3 : Int32))))
  refine gl_XL hA hV (gw_runV X (gl_vX hV) (o := 0) (As := [.int (xs (Int32.toNatClampNeg ((nI I) + (1 : Int32)))), .int (xs (Int32.toNatClampNeg ((nI I) + (2 : Int32)))), .int (xs (Int32.toNatClampNeg ((nI I) + (3 : Int32))))]) (rest := []) (mX5_gives l G ax _ _ hx1) kcL_99 (iXO_0 rfl) rfl rfl rfl hl.1 rfl (Nat.le_of_ble_eq_true rfl) ⟨rfl, rfl⟩ ⟨Nat.le_of_ble_eq_true rfl, Nat.le_of_ble_eq_true rfl⟩ ⟨hc, hs⟩ dL_law_884) (fun H locs hV => ?_)
  refine lv_aload_n hx hb dL_law_887 rfl (lv_at hl 2 rfl) ?_
  refine lv_aload_n hx hb dL_law_888 rfl (lv_at hl 0 rfl) ?_
  refine lv_iload_n hx hb dL_law_889 rfl (lv_at hl 3 rfl) ?_
  refine lv_iconst (v := 1) hx hb dL_law_890 (by decide) ?_
  refine lv_iadd hx hb dL_law_891 ?_
  refine va_sld hx hb hX hbl hbA hV.2.2.2 (gl_in 1 (by decide) hI hL (by decide)) dL_law_892 ?_
  refine lv_aload_n hx hb dL_law_893 rfl (lv_at hl 0 rfl) ?_
  refine lv_iload_n hx hb dL_law_894 rfl (lv_at hl 3 rfl) ?_
  refine lv_iconst (v := 2) hx hb dL_law_895 (by decide) ?_
  refine lv_iadd hx hb dL_law_896 ?_
  refine va_sld hx hb hX hbl hbA hV.2.2.2 (gl_in 2 (by decide) hI hL (by decide)) dL_law_897 ?_
  refine lv_aload_n hx hb dL_law_898 rfl (lv_at hl 0 rfl) ?_
  refine lv_iload_n hx hb dL_law_899 rfl (lv_at hl 3 rfl) ?_
  refine lv_iconst (v := 3) hx hb dL_law_900 (by decide) ?_
  refine lv_iadd hx hb dL_law_901 ?_
  refine va_sld hx hb hX hbl hbA hV.2.2.2 (gl_in 3 (by decide) hI hL (by decide)) dL_law_902 ?_
  refine gl_YL hA hV (gw_runV X (gl_vY hV) (o := 0) (As := [.int (xs (Int32.toNatClampNeg ((nI I) + (1 : Int32)))), .int (xs (Int32.toNatClampNeg ((nI I) + (2 : Int32)))), .int (xs (Int32.toNatClampNeg ((nI I) + (3 : Int32))))]) (rest := [.long r]) (mX6_gives l G ay _ _ hy1) kcL_102 (iYO_0 rfl) rfl rfl rfl hl.1 rfl (Nat.le_of_ble_eq_true rfl) ⟨rfl, rfl⟩ ⟨Nat.le_of_ble_eq_true rfl, Nat.le_of_ble_eq_true rfl⟩ ⟨hc, hs⟩ dL_law_903) (fun H locs hV => ?_)
  refine gw_cmp_eq (tgt := 958) X dL_law_906 dL_law_907 (by decide) (fun _ => ?_) (fun c2 => absurd rfl c2)
  exact kk _ _ hR _ _ hV _ hl
theorem kcL_103 : gKV RL 103 yX5_turn cX5_turn 2 (some .int) 1 := ⟨q_499, q_500, q_501, q_502, q_36, by decide +kernel⟩
theorem kcL_106 : gKV RL 106 yX6_turn cX6_turn 9 (some .int) 1 := ⟨q_784, q_785, q_786, q_787, q_42, by decide +kernel⟩
set_option maxHeartbeats 4000000 in
set_option maxRecDepth 20000 in
theorem law_turn {p : Program} {l : Launch} {e : Env} {s : State} {m : MethodId} {below : List Frame} {meth : Method} {c : Code} {G : gG} {ax ay : Nat → Nat} {b L : Nat} {xs : Nat → Int32} {cells slots : Nat} (hL : L ≤ 3072) (X : gCx p s m #[.ref b] meth c G cL_law RL ret 4) (hX : va_X b L xs s s.heap) (hbl : b < s.heap.size) (hc : cells + 0 ≤ room_1.cells) (hs : slots + 0 ≤ room_1.slots) {I n : Nat} (hI : I + 6 ≤ L) (hn : n < 512) {Q : State → Prop} {Sx Sy : gS} (hR : gR n Sx Sy) {H : Heap} {locs : List Loc} {ls : Array Slot}
    (kk : ∀ (Sx Sy : gS), gR (n + 1) Sx Sy → ∀ (H : Heap) (locs : List Loc), gVL G ax ay (fun q => s.heap.size ≤ q) s.heap Sx Sy H locs → ∀ (ls : Array Slot), lv_has ls 4 [(0, .ref b), (1, .ref (ax 0)), (2, .ref (ay 0)), (3, .int (nI I))] → W p l e room_1 s m #[.ref b] below meth c H locs cells slots Q (F0 m 958 ls []))
    (hV : gVL G ax ay (fun q => s.heap.size ≤ q) s.heap Sx Sy H locs) (hl : lv_has ls 4 [(0, .ref b), (1, .ref (ax 0)), (2, .ref (ay 0)), (3, .int (nI I))]) : W p l e room_1 s m #[.ref b] below meth c H locs cells slots Q (F0 m 912 ls []) := by
  obtain ⟨hx, hb, hr, hml, hown, hts, hlk, hK⟩ := id X
  have hA : ∀ q : Nat, s.heap.size ≤ q → (fun q : Nat => s.heap.size ≤ q) q := fun _ h => h
  have hbA : ¬ (fun q : Nat => s.heap.size ≤ q) b := Nat.not_le.mpr hbl
  refine lv_aload_n hx hb dL_law_912 rfl (lv_at hl 1 rfl) ?_
  refine lv_aload_n hx hb dL_law_913 rfl (lv_at hl 0 rfl) ?_
  refine lv_iload_n hx hb dL_law_914 rfl (lv_at hl 3 rfl) ?_
  refine lv_iconst (v := 1) hx hb dL_law_915 (by decide) ?_
  refine lv_iadd hx hb dL_law_916 ?_
  refine va_sld hx hb hX hbl hbA hV.2.2.2 (gl_in 1 (by decide) hI hL (by decide)) dL_law_917 ?_
  obtain ⟨r, Sx, Sy, hx1, hy1, hR⟩ := z_turn hn hR (xs (Int32.toNatClampNeg ((nI I) + (1 : Int32))))
  refine gl_XI hA hV (gw_runV X (gl_vX hV) (o := 0) (As := [.int (xs (Int32.toNatClampNeg ((nI I) + (1 : Int32))))]) (rest := []) (mX5_turn l G ax _ _ hx1) kcL_103 (iXO_0 rfl) rfl rfl rfl hl.1 rfl (Nat.le_of_ble_eq_true rfl) ⟨rfl, rfl⟩ ⟨Nat.le_of_ble_eq_true rfl, Nat.le_of_ble_eq_true rfl⟩ ⟨hc, hs⟩ dL_law_918) (fun H locs hV => ?_)
  refine lv_aload_n hx hb dL_law_921 rfl (lv_at hl 2 rfl) ?_
  refine lv_aload_n hx hb dL_law_922 rfl (lv_at hl 0 rfl) ?_
  refine lv_iload_n hx hb dL_law_923 rfl (lv_at hl 3 rfl) ?_
  refine lv_iconst (v := 1) hx hb dL_law_924 (by decide) ?_
  refine lv_iadd hx hb dL_law_925 ?_
  refine va_sld hx hb hX hbl hbA hV.2.2.2 (gl_in 1 (by decide) hI hL (by decide)) dL_law_926 ?_
  refine gl_YI hA hV (gw_runV X (gl_vY hV) (o := 0) (As := [.int (xs (Int32.toNatClampNeg ((nI I) + (1 : Int32))))]) (rest := [.int r]) (mX6_turn l G ay _ _ hy1) kcL_106 (iYO_0 rfl) rfl rfl rfl hl.1 rfl (Nat.le_of_ble_eq_true rfl) ⟨rfl, rfl⟩ ⟨Nat.le_of_ble_eq_true rfl, Nat.le_of_ble_eq_true rfl⟩ ⟨hc, hs⟩ dL_law_927) (fun H locs hV => ?_)
  refine lv_icmp_eq (tgt := 958) hx hb dL_law_930 (by decide) (fun _ => ?_) (fun c2 => absurd rfl c2)
  exact kk _ _ hR _ _ hV _ hl
theorem kcL_107 : gKV RL 107 yX5_count cX5_count 2 (some .int) 1 := ⟨q_524, q_525, q_526, q_527, q_36, by decide +kernel⟩
theorem kcL_110 : gKV RL 110 yX6_count cX6_count 4 (some .int) 1 := ⟨q_788, q_789, q_790, q_791, q_42, by decide +kernel⟩
set_option maxHeartbeats 4000000 in
set_option maxRecDepth 20000 in
theorem law_count {p : Program} {l : Launch} {e : Env} {s : State} {m : MethodId} {below : List Frame} {meth : Method} {c : Code} {G : gG} {ax ay : Nat → Nat} {b L : Nat} {xs : Nat → Int32} {cells slots : Nat} (hL : L ≤ 3072) (X : gCx p s m #[.ref b] meth c G cL_law RL ret 4) (hX : va_X b L xs s s.heap) (hbl : b < s.heap.size) (hc : cells + 0 ≤ room_1.cells) (hs : slots + 0 ≤ room_1.slots) {I n : Nat} (hI : I + 6 ≤ L) (hn : n < 512) {Q : State → Prop} {Sx Sy : gS} (hR : gR n Sx Sy) {H : Heap} {locs : List Loc} {ls : Array Slot}
    (kk : ∀ (Sx Sy : gS), gR (n + 1) Sx Sy → ∀ (H : Heap) (locs : List Loc), gVL G ax ay (fun q => s.heap.size ≤ q) s.heap Sx Sy H locs → ∀ (ls : Array Slot), lv_has ls 4 [(0, .ref b), (1, .ref (ax 0)), (2, .ref (ay 0)), (3, .int (nI I))] → W p l e room_1 s m #[.ref b] below meth c H locs cells slots Q (F0 m 958 ls []))
    (hV : gVL G ax ay (fun q => s.heap.size ≤ q) s.heap Sx Sy H locs) (hl : lv_has ls 4 [(0, .ref b), (1, .ref (ax 0)), (2, .ref (ay 0)), (3, .int (nI I))]) : W p l e room_1 s m #[.ref b] below meth c H locs cells slots Q (F0 m 935 ls []) := by
  obtain ⟨hx, hb, hr, hml, hown, hts, hlk, hK⟩ := id X
  have hA : ∀ q : Nat, s.heap.size ≤ q → (fun q : Nat => s.heap.size ≤ q) q := fun _ h => h
  have hbA : ¬ (fun q : Nat => s.heap.size ≤ q) b := Nat.not_le.mpr hbl
  refine lv_aload_n hx hb dL_law_935 rfl (lv_at hl 1 rfl) ?_
  refine lv_aload_n hx hb dL_law_936 rfl (lv_at hl 0 rfl) ?_
  refine lv_iload_n hx hb dL_law_937 rfl (lv_at hl 3 rfl) ?_
  refine lv_iconst (v := 1) hx hb dL_law_938 (by decide) ?_
  refine lv_iadd hx hb dL_law_939 ?_
  refine va_sld hx hb hX hbl hbA hV.2.2.2 (gl_in 1 (by decide) hI hL (by decide)) dL_law_940 ?_
  obtain ⟨r, Sx, Sy, hx1, hy1, hR⟩ := z_count hn hR (xs (Int32.toNatClampNeg ((nI I) + (1 : Int32))))
  refine gl_XI hA hV (gw_runV X (gl_vX hV) (o := 0) (As := [.int (xs (Int32.toNatClampNeg ((nI I) + (1 : Int32))))]) (rest := []) (mX5_count l G ax _ _ hx1) kcL_107 (iXO_0 rfl) rfl rfl rfl hl.1 rfl (Nat.le_of_ble_eq_true rfl) ⟨rfl, rfl⟩ ⟨Nat.le_of_ble_eq_true rfl, Nat.le_of_ble_eq_true rfl⟩ ⟨hc, hs⟩ dL_law_941) (fun H locs hV => ?_)
  refine lv_aload_n hx hb dL_law_944 rfl (lv_at hl 2 rfl) ?_
  refine lv_aload_n hx hb dL_law_945 rfl (lv_at hl 0 rfl) ?_
  refine lv_iload_n hx hb dL_law_946 rfl (lv_at hl 3 rfl) ?_
  refine lv_iconst (v := 1) hx hb dL_law_947 (by decide) ?_
  refine lv_iadd hx hb dL_law_948 ?_
  refine va_sld hx hb hX hbl hbA hV.2.2.2 (gl_in 1 (by decide) hI hL (by decide)) dL_law_949 ?_
  refine gl_YI hA hV (gw_runV X (gl_vY hV) (o := 0) (As := [.int (xs (Int32.toNatClampNeg ((nI I) + (1 : Int32))))]) (rest := [.int r]) (mX6_count l G ay _ _ hy1) kcL_110 (iYO_0 rfl) rfl rfl rfl hl.1 rfl (Nat.le_of_ble_eq_true rfl) ⟨rfl, rfl⟩ ⟨Nat.le_of_ble_eq_true rfl, Nat.le_of_ble_eq_true rfl⟩ ⟨hc, hs⟩ dL_law_950) (fun H locs hV => ?_)
  refine lv_icmp_eq (tgt := 958) hx hb dL_law_953 (by decide) (fun _ => ?_) (fun c2 => absurd rfl c2)
  exact kk _ _ hR _ _ hV _ hl
set_option maxHeartbeats 4000000 in
set_option maxRecDepth 20000 in
theorem law_loop {p : Program} {l : Launch} {e : Env} {s : State} {m : MethodId} {below : List Frame} {meth : Method} {c : Code} {G : gG} {ax ay : Nat → Nat} {b L : Nat} {xs : Nat → Int32} {cells slots : Nat} (hL : L ≤ 3072) (X : gCx p s m #[.ref b] meth c G cL_law RL ret 4) (hX : va_X b L xs s s.heap) (hbl : b < s.heap.size) (hc : cells + 0 ≤ room_1.cells) (hs : slots + 0 ≤ room_1.slots) : ∀ (k I n : Nat), L < I + k → I = 6 * n → I ≤ 4000 → ∀ (Sx Sy : gS), gR n Sx Sy → ∀ (H : Heap) (locs : List Loc), gVL G ax ay (fun q => s.heap.size ≤ q) s.heap Sx Sy H locs → ∀ (ls : Array Slot), lv_has ls 4 [(0, .ref b), (1, .ref (ax 0)), (2, .ref (ay 0)), (3, .int (nI I))] → W p l e room_1 s m #[.ref b] below meth c H locs cells slots (lw_Z below #[.ref b] s) (F0 m 18 ls []) := by
  obtain ⟨hx, hb, hr, hml, hown, hts, hlk, hK⟩ := id X
  have hA : ∀ q : Nat, s.heap.size ≤ q → (fun q : Nat => s.heap.size ≤ q) q := fun _ h => h
  have hbA : ¬ (fun q : Nat => s.heap.size ≤ q) b := Nat.not_le.mpr hbl
  have Exit : ∀ (I : Nat) (H : Heap) (locs : List Loc), va_S (fun q : Nat => s.heap.size ≤ q) s.heap H locs → ∀ (ls : Array Slot), W p l e room_1 s m #[.ref b] below meth c H locs cells slots (lw_Z below #[.ref b] s) (F0 m 964 ls []) := by
    intro I H locs hS ls
    refine lv_iconst (v := 1) hx hb dL_law_964 (by decide) ?_
    refine va_forget (fun q hq => hS.2.2 q hq) ?_
    refine W.widen (k := 600000) (n := 7302250) hc hs ?_
    exact lw_ret hx hb hr hlk dL_law_965
  intro k
  induction k with
  | zero =>
    intro I n h1 h2 h3 Sx Sy hR H locs hV ls hl
    refine lv_iload_n hx hb dL_law_18 rfl (lv_at hl 3 rfl) ?_
    refine lv_aload_n hx hb dL_law_19 rfl (lv_at hl 0 rfl) ?_
    refine va_slen hx hb hX hbl hbA hV.2.2.2 dL_law_20 ?_
    refine lv_bipush (v := 6) hx hb dL_law_21 (by decide) ?_
    refine lv_isub hx hb dL_law_23 ?_
    refine lv_icmp_gt (tgt := 964) hx hb dL_law_24 (by decide) (fun c0 => Exit I _ _ hV.2.2.2 ls) (fun c0 => ?_)
    exact absurd (gl_gt (I := I) (L := L) (by omega) (by omega) (by omega)) c0
  | succ k ih =>
    intro I n h1 h2 h3 Sx Sy hR H locs hV ls hl
    refine lv_iload_n hx hb dL_law_18 rfl (lv_at hl 3 rfl) ?_
    refine lv_aload_n hx hb dL_law_19 rfl (lv_at hl 0 rfl) ?_
    refine va_slen hx hb hX hbl hbA hV.2.2.2 dL_law_20 ?_
    refine lv_bipush (v := 6) hx hb dL_law_21 (by decide) ?_
    refine lv_isub hx hb dL_law_23 ?_
    refine lv_icmp_gt (tgt := 964) hx hb dL_law_24 (by decide) (fun c0 => Exit I _ _ hV.2.2.2 ls) (fun c0 => ?_)
    have hI : I + 6 ≤ L := gl_ngt (by omega) (by omega) c0
    have hn : n < 512 := by omega
    have kk : ∀ (Sx Sy : gS), gR (n + 1) Sx Sy → ∀ (H : Heap) (locs : List Loc), gVL G ax ay (fun q => s.heap.size ≤ q) s.heap Sx Sy H locs → ∀ (ls : Array Slot), lv_has ls 4 [(0, .ref b), (1, .ref (ax 0)), (2, .ref (ay 0)), (3, .int (nI I))] → W p l e room_1 s m #[.ref b] below meth c H locs cells slots (lw_Z below #[.ref b] s) (F0 m 958 ls []) := by
      intro Sx Sy hR H locs hV ls hl
      refine lv_iinc (v := nI (I + 6)) (lv' := [(3, .int (nI (I + 6))), (0, .ref b), (1, .ref (ax 0)), (2, .ref (ay 0))]) hx hb dL_law_958 hl (k := 3) rfl (by rw [← nI_add]; rfl) (by decide) rfl (fun ls hl => ?_)
      refine lv_goto (tgt := 18) hx hb dL_law_961 (by decide) ?_
      exact ih (I + 6) (n + 1) (by omega) (by omega) (by omega) Sx Sy hR H locs hV ls (lv_sub hl [1, 2, 3, 0] rfl)
    refine lv_aload_n hx hb dL_law_27 rfl (lv_at hl 0 rfl) ?_
    refine lv_iload_n hx hb dL_law_28 rfl (lv_at hl 3 rfl) ?_
    refine va_sld hx hb hX hbl hbA hV.2.2.2 (vp_in_nI (by omega) (by omega)) dL_law_29 ?_
    refine lv_bipush (v := 31) hx hb dL_law_30 (by decide) ?_
    refine lv_iand hx hb dL_law_32 ?_
    refine lv_topi (fun y ey => ?_)
    clear ey
    by_cases c_0 : y = 0
    · refine lv_tableIn (off := 99) (tgt := 132) hx hb dL_law_33 (by rw [c_0]; decide) (by rw [c_0]; decide) (by rw [c_0]; rfl) (by decide) ?_
      exact law_strip hL X hX hbl hc hs hI hn hR kk hV hl
    · skip
      by_cases c_1 : y = 1
      · refine lv_tableIn (off := 142) (tgt := 175) hx hb dL_law_33 (by rw [c_1]; decide) (by rw [c_1]; decide) (by rw [c_1]; rfl) (by decide) ?_
        exact law_tear hL X hX hbl hc hs hI hn hR kk hV hl
      · skip
        by_cases c_2 : y = 2
        · refine lv_tableIn (off := 165) (tgt := 198) hx hb dL_law_33 (by rw [c_2]; decide) (by rw [c_2]; decide) (by rw [c_2]; rfl) (by decide) ?_
          exact law_put hL X hX hbl hc hs hI hn hR kk hV hl
        · skip
          by_cases c_3 : y = 3
          · refine lv_tableIn (off := 238) (tgt := 271) hx hb dL_law_33 (by rw [c_3]; decide) (by rw [c_3]; decide) (by rw [c_3]; rfl) (by decide) ?_
            exact law_at hL X hX hbl hc hs hI hn hR kk hV hl
          · skip
            by_cases c_4 : y = 4
            · refine lv_tableIn (off := 282) (tgt := 315) hx hb dL_law_33 (by rw [c_4]; decide) (by rw [c_4]; decide) (by rw [c_4]; rfl) (by decide) ?_
              exact law_copy hL X hX hbl hc hs hI hn hR kk hV hl
            · skip
              by_cases c_5 : y = 5
              · refine lv_tableIn (off := 345) (tgt := 378) hx hb dL_law_33 (by rw [c_5]; decide) (by rw [c_5]; decide) (by rw [c_5]; rfl) (by decide) ?_
                exact law_ground hL X hX hbl hc hs hI hn hR kk hV hl
              · skip
                by_cases c_6 : y = 6
                · refine lv_tableIn (off := 378) (tgt := 411) hx hb dL_law_33 (by rw [c_6]; decide) (by rw [c_6]; decide) (by rw [c_6]; rfl) (by decide) ?_
                  exact law_kind hL X hX hbl hc hs hI hn hR kk hV hl
                · skip
                  by_cases c_7 : y = 7
                  · refine lv_tableIn (off := 431) (tgt := 464) hx hb dL_law_33 (by rw [c_7]; decide) (by rw [c_7]; decide) (by rw [c_7]; rfl) (by decide) ?_
                    exact law_taken hL X hX hbl hc hs hI hn hR kk hV hl
                  · skip
                    by_cases c_8 : y = 8
                    · refine lv_tableIn (off := 484) (tgt := 517) hx hb dL_law_33 (by rw [c_8]; decide) (by rw [c_8]; decide) (by rw [c_8]; rfl) (by decide) ?_
                      exact law_tell hL X hX hbl hc hs hI hn hR kk hV hl
                    · skip
                      by_cases c_9 : y = 9
                      · refine lv_tableIn (off := 543) (tgt := 576) hx hb dL_law_33 (by rw [c_9]; decide) (by rw [c_9]; decide) (by rw [c_9]; rfl) (by decide) ?_
                        exact law_rule hL X hX hbl hc hs hI hn hR kk hV hl
                      · skip
                        by_cases c_10 : y = 10
                        · refine lv_tableIn (off := 576) (tgt := 609) hx hb dL_law_33 (by rw [c_10]; decide) (by rw [c_10]; decide) (by rw [c_10]; rfl) (by decide) ?_
                          exact law_ice hL X hX hbl hc hs hI hn hR kk hV hl
                        · skip
                          by_cases c_11 : y = 11
                          · refine lv_tableIn (off := 620) (tgt := 653) hx hb dL_law_33 (by rw [c_11]; decide) (by rw [c_11]; decide) (by rw [c_11]; rfl) (by decide) ?_
                            exact law_years hL X hX hbl hc hs hI hn hR kk hV hl
                          · skip
                            by_cases c_12 : y = 12
                            · refine lv_tableIn (off := 643) (tgt := 676) hx hb dL_law_33 (by rw [c_12]; decide) (by rw [c_12]; decide) (by rw [c_12]; rfl) (by decide) ?_
                              exact law_back hL X hX hbl hc hs hI hn hR kk hV hl
                            · skip
                              by_cases c_13 : y = 13
                              · refine lv_tableIn (off := 656) (tgt := 689) hx hb dL_law_33 (by rw [c_13]; decide) (by rw [c_13]; decide) (by rw [c_13]; rfl) (by decide) ?_
                                exact law_steady hL X hX hbl hc hs hI hn hR kk hV hl
                              · skip
                                by_cases c_14 : y = 14
                                · refine lv_tableIn (off := 679) (tgt := 712) hx hb dL_law_33 (by rw [c_14]; decide) (by rw [c_14]; decide) (by rw [c_14]; rfl) (by decide) ?_
                                  exact law_cell hL X hX hbl hc hs hI hn hR kk hV hl
                                · skip
                                  by_cases c_15 : y = 15
                                  · refine lv_tableIn (off := 723) (tgt := 756) hx hb dL_law_33 (by rw [c_15]; decide) (by rw [c_15]; decide) (by rw [c_15]; rfl) (by decide) ?_
                                    exact law_layer hL X hX hbl hc hs hI hn hR kk hV hl
                                  · skip
                                    by_cases c_16 : y = 16
                                    · refine lv_tableIn (off := 777) (tgt := 810) hx hb dL_law_33 (by rw [c_16]; decide) (by rw [c_16]; decide) (by rw [c_16]; rfl) (by decide) ?_
                                      exact law_sum hL X hX hbl hc hs hI hn hR kk hV hl
                                    · skip
                                      by_cases c_17 : y = 17
                                      · refine lv_tableIn (off := 811) (tgt := 844) hx hb dL_law_33 (by rw [c_17]; decide) (by rw [c_17]; decide) (by rw [c_17]; rfl) (by decide) ?_
                                        exact law_about hL X hX hbl hc hs hI hn hR kk hV hl
                                      · skip
                                        by_cases c_18 : y = 18
                                        · refine lv_tableIn (off := 835) (tgt := 868) hx hb dL_law_33 (by rw [c_18]; decide) (by rw [c_18]; decide) (by rw [c_18]; rfl) (by decide) ?_
                                          exact law_gives hL X hX hbl hc hs hI hn hR kk hV hl
                                        · skip
                                          by_cases c_19 : y = 19
                                          · refine lv_tableIn (off := 879) (tgt := 912) hx hb dL_law_33 (by rw [c_19]; decide) (by rw [c_19]; decide) (by rw [c_19]; rfl) (by decide) ?_
                                            exact law_turn hL X hX hbl hc hs hI hn hR kk hV hl
                                          · skip
                                            by_cases c_20 : y = 20
                                            · refine lv_tableIn (off := 902) (tgt := 935) hx hb dL_law_33 (by rw [c_20]; decide) (by rw [c_20]; decide) (by rw [c_20]; rfl) (by decide) ?_
                                              exact law_count hL X hX hbl hc hs hI hn hR kk hV hl
                                            · skip
                                              refine lv_tableOut (tgt := 958) hx hb dL_law_33 (g_tabOut 21 (fun j hj => by
                                                match j, hj with
                                                | 0, _ => exact c_0
                                                | 1, _ => exact c_1
                                                | 2, _ => exact c_2
                                                | 3, _ => exact c_3
                                                | 4, _ => exact c_4
                                                | 5, _ => exact c_5
                                                | 6, _ => exact c_6
                                                | 7, _ => exact c_7
                                                | 8, _ => exact c_8
                                                | 9, _ => exact c_9
                                                | 10, _ => exact c_10
                                                | 11, _ => exact c_11
                                                | 12, _ => exact c_12
                                                | 13, _ => exact c_13
                                                | 14, _ => exact c_14
                                                | 15, _ => exact c_15
                                                | 16, _ => exact c_16
                                                | 17, _ => exact c_17
                                                | 18, _ => exact c_18
                                                | 19, _ => exact c_19
                                                | 20, _ => exact c_20
                                                | j + 21, hj => omega)) (by decide) ?_
                                              exact kk Sx Sy (z_skip hn hR) H locs hV ls hl

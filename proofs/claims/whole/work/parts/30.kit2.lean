/-! making objects: a world of the cells made so far, the maker's own object first -/
def gEx (U : State) : Prop := va_AO "GlacierYears$Strip" U ∧ va_AO "GlacierYears$Ice" U ∧ va_Nw (.methodLinkNest RX5 17 yX4_init RX5) U ∧ va_Nw (.methodLinkNest RX5 24 yX1_init RX5) U ∧ va_Nw (.methodLinkNest RX5 31 yX0_init RX5) U ∧ va_Nw (.methodLinkNest RX2 17 yX0_init RX5) U ∧ va_Nw (.methodLinkNest RX5 56 yX3_init RX5) U
theorem gEx_warm {s U : State} (hW : s.WarmedH U.vm) (h : gEx s) : gEx U := by
  obtain ⟨h1, h2, h3, h4, h5, h6, h7⟩ := h
  exact ⟨va_AO.moved hW.alike h1, va_AO.moved hW.alike h2, va_Nw.warmM hW h3, va_Nw.warmM hW h4, va_Nw.warmM hW h5, va_Nw.warmM hW h6, va_Nw.warmM hW h7⟩
theorem gEx_calling {U : State} {g : JFrame} {mk : MethodId} {a : Array Value} (h : gEx U) : gEx (U.calling g mk a) := by
  obtain ⟨h1, h2, h3, h4, h5, h6, h7⟩ := h
  exact ⟨va_AO.moved (u := U) (Vm.Alike.refl U.vm) h1, va_AO.moved (u := U) (Vm.Alike.refl U.vm) h2, va_Nw.same (u := U) rfl rfl h3, va_Nw.same (u := U) rfl rfl h4, va_Nw.same (u := U) rfl rfl h5, va_Nw.same (u := U) rfl rfl h6, va_Nw.same (u := U) rfl rfl h7⟩
def gInPre (G : gG) (h0 : Nat) (e0 : va_E) (sz : Nat) (U : State) : Prop := U.heap.size = sz ∧ va_P G.1 vwCl [(h0, e0)] U.heap ∧ va_K G.1 vwCl (gTys G) U ∧ va_D (fun _ => True) [(h0, e0)] ∧ gEx U
def gInAt (G : gG) (A : Nat → Prop) (w : List Nat → va_W) (_ : Unit) (t : State) : Prop := ∃ u : List Nat, va_P G.1 vwCl (w u) t.heap ∧ va_K G.1 vwCl (gTys G) t ∧ va_D A (w u)
def gIn (l : Launch) (y : MethodName) (cc : ByteArray) (nL : Nat) (rm : Room) (G : gG) (h0 : Nat) (e0 : va_E) (sz : Nat) (w : List Nat → va_W) (mc ms : Nat) : Prop :=
  Met l y (Cond.code y cc nL none :: g_tbl) rm (va_Pc [.ref h0] (gInPre G h0 e0 sz)) (va_Qv (fun _ : Unit => True) (gInAt G (va_A [(h0, e0)] sz) w) (va_A [(h0, e0)] sz)) mc ms (va_A [(h0, e0)] sz)
theorem gIn_blind {G : gG} {h0 : Nat} {e0 : va_E} {sz : Nat} {av : List Value} : FrameBlind (va_Pc av (gInPre G h0 e0 sz)) := fun a U g mk q => by
  obtain ⟨q0, q1, qP, qK, qD, qE⟩ := q
  exact ⟨q0, q1, qP, va_K.moved (u := U) (U := U.calling g mk a) (Vm.Alike.refl U.vm) qK, qD, gEx_calling qE⟩
theorem gIn_of {l : Launch} {y : MethodName} {cc : ByteArray} {nL : Nat} {rm : Room} {G : gG} {h0 : Nat} {e0 : va_E} {sz : Nat} {w : List Nat → va_W} {mc ms : Nat} (hy : plainName y.cls = true)
    (body : ∀ (p : Program) (e : Env) (s : State) (m : MethodId) (below : List Frame) (meth : Method) (c : Code) (A : Nat → Prop), (∀ q, s.heap.size ≤ q → A q) → gCx p s m #[.ref h0] meth c G cc y.cls none nL → meth.name = y.name → gEx s → va_P G.1 vwCl [(h0, e0)] s.heap → va_D A [(h0, e0)] → va_S A s.heap s.heap [] →
      W p l e rm s m #[.ref h0] below meth c s.heap [] 0 0 (MQ below (va_Qv (fun _ : Unit => True) (gInAt G A w) A) #[.ref h0] s mc ms A) (entryFrame m #[.ref h0] nL)) : gIn l y cc nL rm G h0 e0 sz w mc ms := by
  refine Met.ofW (cc := cc) (maxL := nL) (ret := none) hy rfl ?_
  intro p e s m args below meth c s₁ B hml hv
  obtain ⟨rfl, hsz, hP, hK, hD0, hE⟩ := hv
  have hts := atoms_spec (ws := Cond.code y cc nL none :: g_tbl) B.pre
  subst hsz
  exact body p e s m below meth c (va_A [(h0, e0)] s.heap.size) (fun q h => Or.inr h) ⟨B.exec, B.bytes, B.returns, hml, findClass_of_methodNamed B.named, fun w hw => hts w (List.mem_cons_of_mem _ hw), B.notSynchronized, hK⟩ (name_of_methodNamed B.named B.method).1 hE hP hD0.self va_S.rf
theorem g_tyeq {U : State} {c1 c2 : ClassId} {ty : FieldType} (h1 : va_RA U c1 ty) (h2 : va_RA U c2 ty) : c1 = c2 := by
  cases ty with
  | object C =>
    obtain ⟨_, _, _, _, _, a4⟩ := h1
    obtain ⟨_, _, _, _, _, b4⟩ := h2
    exact Option.some.inj (a4.symm.trans b4)
  | _ => exact Option.some.inj (h1.symm.trans h2)
section GN
variable {p : Program} {l : Launch} {e : Env} {R : Room} {s : State} {m : MethodId} {args : Array Value} {below : List Frame} {meth : Method} {c : Code} {H : Heap} {locs : List Loc} {cells slots : Nat} {Q : State → Prop}
variable {cc : ByteArray} {pc : Nat} {ls : Array Slot} {rest : List Value} {G : gG} {own : String} {ret : Option FieldType} {nL : Nat} {A : Nat → Prop} {H0 : Heap} {ws : va_W}
theorem gn_newJ (X : gCx p s m args meth c G cc own ret nL) (hA : ∀ q, H0.size ≤ q → A q) (hP : va_P G.1 vwCl ws H) (hD : va_D A ws) (hS : va_S A H0 H locs) {n : Int32} {N : Nat} (w : Cond.arrayClass .long ∈ g_tbl) (hn : ¬ n < 0) (hN : n.toNatClampNeg = N) (hbytes : N * componentBytes .long ≤ 536870912) (hc : cells + 1 ≤ R.cells) (hs : slots + N ≤ R.slots) (d : decode cc pc = .ok (.newarray .long, 2))
    (kk : ∀ (q : Nat) (H1 : Heap), va_P G.1 vwCl (ws ++ [(q, .inl (G.2 1, N, .inr (.inl (fun _ => 0))))]) H1 → va_D A (ws ++ [(q, .inl (G.2 1, N, .inr (.inl (fun _ => 0))))]) → va_S A H0 H1 locs → W p l e R s m args below meth c H1 locs (cells + 1) (slots + N) Q (F0 m (pc + 2) ls (.ref q :: rest))) : W p l e R s m args below meth c H locs cells slots Q (F0 m pc ls (.int n :: rest)) := by
  obtain ⟨hx, hb, -, -, hown, hts, -, hK⟩ := X
  refine va_newa (atype := .long) (a0 := (N, .inr (.inl (fun _ => 0)))) hx hb (hts _ w) rfl hK hP hD hS hA (fun _ => rfl) hn hN hbytes hc hs d (fun q cA H1 hK1 hP1 hD1 hS1 => ?_)
  have e1 : cA = G.2 1 := g_tyeq (hK1.2 4 (cA, .long) rfl).2 (hK1.2 1 (G.2 1, .long) rfl).2
  subst e1
  exact kk q H1 hP1 hD1 hS1
theorem gn_newI (X : gCx p s m args meth c G cc own ret nL) (hA : ∀ q, H0.size ≤ q → A q) (hP : va_P G.1 vwCl ws H) (hD : va_D A ws) (hS : va_S A H0 H locs) {n : Int32} {N : Nat} (w : Cond.arrayClass .int ∈ g_tbl) (hn : ¬ n < 0) (hN : n.toNatClampNeg = N) (hbytes : N * componentBytes .int ≤ 536870912) (hc : cells + 1 ≤ R.cells) (hs : slots + N ≤ R.slots) (d : decode cc pc = .ok (.newarray .int, 2))
    (kk : ∀ (q : Nat) (H1 : Heap), va_P G.1 vwCl (ws ++ [(q, .inl (G.2 0, N, .inl (fun _ => 0)))]) H1 → va_D A (ws ++ [(q, .inl (G.2 0, N, .inl (fun _ => 0)))]) → va_S A H0 H1 locs → W p l e R s m args below meth c H1 locs (cells + 1) (slots + N) Q (F0 m (pc + 2) ls (.ref q :: rest))) : W p l e R s m args below meth c H locs cells slots Q (F0 m pc ls (.int n :: rest)) := by
  obtain ⟨hx, hb, -, -, hown, hts, -, hK⟩ := X
  refine va_newa (atype := .int) (a0 := (N, .inl (fun _ => 0))) hx hb (hts _ w) rfl hK hP hD hS hA (fun _ => rfl) hn hN hbytes hc hs d (fun q cA H1 hK1 hP1 hD1 hS1 => ?_)
  have e1 : cA = G.2 0 := g_tyeq (hK1.2 4 (cA, .int) rfl).2 (hK1.2 0 (G.2 0, .int) rfl).2
  subst e1
  exact kk q H1 hP1 hD1 hS1
theorem gn_newQ (X : gCx p s m args meth c G cc own ret nL) (hA : ∀ q, H0.size ≤ q → A q) (hP : va_P G.1 vwCl ws H) (hD : va_D A ws) (hS : va_S A H0 H locs) {n : Int32} {N t ix : Nat} {C : String} (ht : (gTys G)[t]? = some (G.2 t, .object C)) (w : Cond.classLink own ix C ∈ g_tbl) (ho : va_AO C s) (hn : ¬ n < 0) (hN : n.toNatClampNeg = N) (hbytes : N * 4 ≤ 536870912) (hc : cells + 1 ≤ R.cells) (hs : slots + N ≤ R.slots) (d : decode cc pc = .ok (.anewarray ix, 3))
    (kk : ∀ (q : Nat) (H1 : Heap), va_P G.1 vwCl (ws ++ [(q, .inl (G.2 t, N, .inr (.inr (.inr (.inr (fun _ => none))))))]) H1 → va_D A (ws ++ [(q, .inl (G.2 t, N, .inr (.inr (.inr (.inr (fun _ => none))))))]) → va_S A H0 H1 locs → W p l e R s m args below meth c H1 locs (cells + 1) (slots + N) Q (F0 m (pc + 3) ls (.ref q :: rest))) : W p l e R s m args below meth c H locs cells slots Q (F0 m pc ls (.int n :: rest)) := by
  obtain ⟨hx, hb, -, -, hown, hts, -, hK⟩ := X
  refine va_newq hx hb hown (hts _ w) ho hK hP hD hS hA hn hN hbytes hc hs d (fun q cA H1 hK1 hP1 hD1 hS1 => ?_)
  have e1 : cA = G.2 t := by
    refine g_tyeq (hK1.2 4 (cA, .object C) rfl).2 (hK1.2 t (G.2 t, .object C) ?_).2
    have hl : t < (gTys G).length := (List.getElem?_eq_some_iff.mp ht).1
    rw [List.getElem?_append_left hl]
    exact ht
  subst e1
  exact kk q H1 hP1 hD1 hS1
theorem gn_new (X : gCx p s m args meth c G cc own ret nL) (hA : ∀ q, H0.size ≤ q → A q) (hP : va_P G.1 vwCl ws H) (hD : va_D A ws) (hS : va_S A H0 H locs) {C : String} {T : u_T} {N ci ix : Nat} {ty : Nat → FieldType} {fs : List Value} (hc : vwCl[ci]? = some (C, T, N)) (hin : ∀ w ∈ u_ws C T N, w ∈ g_tbl) (hty : ∀ k, k < N → parseFieldDescriptor (T k).2.2.1 = some (ty k)) (w1 : Cond.classLink own ix C ∈ g_tbl) (w2 : Cond.instantiable C N ∈ g_tbl) (w3 : Cond.initialized C ∈ g_tbl) (hfs : ∀ j, j < N → defaultValue (ty j) = vp_V fs j) (hcl : cells + 1 ≤ R.cells) (hsl : slots + N ≤ R.slots) (d : decode cc pc = .ok (.new ix, 3))
    (kk : ∀ (q : Nat) (H1 : Heap), va_P G.1 vwCl (ws ++ [(q, .inr (ci, fs))]) H1 → va_D A (ws ++ [(q, .inr (ci, fs))]) → va_S A H0 H1 locs → W p l e R s m args below meth c H1 locs (cells + 1) (slots + N) Q (F0 m (pc + 3) ls (.ref q :: rest))) : W p l e R s m args below meth c H locs cells slots Q (F0 m pc ls rest) := by
  obtain ⟨hx, hb, -, -, hown, hts, -, hK⟩ := X
  exact va_new hx hb hts hin ty hty hown (hts _ w1) (hts _ w2) (hts _ w3) hK hP hD hS hA hc hfs hcl hsl d kk
theorem gn_put (X : gCx p s m args meth c G cc own none nL) (hm : meth.name = "<init>") {h0 : Nat} {tl : va_W} {C : String} {T : u_T} {ty0 : Nat → FieldType} {N ci ix k : Nat} {fs : List Value} (hP : va_P G.1 vwCl ((h0, .inr (ci, fs)) :: tl) H) (hD : va_D A ((h0, .inr (ci, fs)) :: tl)) (hS : va_S A H0 H locs) (hc : vwCl[ci]? = some (C, T, N)) (hin : ∀ w ∈ u_ws C T N, w ∈ g_tbl) (hty : ∀ k, k < N → parseFieldDescriptor (T k).2.2.1 = some (ty0 k)) (hnm : ∀ a, a < N → ∀ b, b < N → a ≠ b → (T a).2.1 ≠ (T b).2.1) (hk : k < N) (hl : Cond.fieldLink own ix C (T k).2.1 (T k).2.2.1 ∈ g_tbl) (hT : (T k).1 = C) (hCo : C = own) {ty : FieldType} (hd : parseFieldDescriptor (T k).2.2.1 = some ty) {v : Value} (hn : narrow ty v = v) (hfit : fits ty v = true) (hlen : k < fs.length) (d : decode cc pc = .ok (.putfield ix, 3))
    (kk : ∀ (H1 : Heap) (locs1 : List Loc), va_P G.1 vwCl ((h0, .inr (ci, fs.set k v)) :: tl) H1 → va_D A ((h0, .inr (ci, fs.set k v)) :: tl) → va_S A H0 H1 locs1 → W p l e R s m args below meth c H1 locs1 cells slots Q (F0 m (pc + 3) ls rest)) : W p l e R s m args below meth c H locs cells slots Q (F0 m pc ls (v :: .ref h0 :: rest)) := by
  obtain ⟨hx, hb, -, -, hown, hts, -, hK⟩ := X
  by_cases hf : (T k).2.2.2 = true
  · exact va_putF hx hb hts hin ty0 hty hnm hown hK hP hD hS 0 rfl hc k hk (hts _ hl) (fun x h => by rw [hT] at h; exact h) hf hm (hT.trans hCo) hd hn hfit hlen d kk
  · exact va_put hx hb hts hin ty0 hty hnm hown hK hP hD hS 0 rfl hc k hk (hts _ hl) (fun x h => by rw [hT] at h; exact h) (by simpa using hf) hd hn hfit hlen d kk
theorem gn_get (X : gCx p s m args meth c G cc own ret nL) {h0 : Nat} {tl : va_W} {C : String} {T : u_T} {N ci ix k : Nat} {fs : List Value} (hP : va_P G.1 vwCl ((h0, .inr (ci, fs)) :: tl) H) (hc : vwCl[ci]? = some (C, T, N)) (hin : ∀ w ∈ u_ws C T N, w ∈ g_tbl) (hk : k < N) (hl : Cond.fieldLink own ix C (T k).2.1 (T k).2.2.1 ∈ g_tbl) (hT : (T k).1 = C) {v : Value} (hv : fs[k]? = some v) (d : decode cc pc = .ok (.getfield ix, 3))
    (kk : W p l e R s m args below meth c H locs cells slots Q (F0 m (pc + 3) ls (v :: rest))) : W p l e R s m args below meth c H locs cells slots Q (F0 m pc ls (.ref h0 :: rest)) := by
  obtain ⟨hx, hb, -, -, hown, hts, -, hK⟩ := X
  exact va_get hx hb hts hin hown hK hP 0 rfl hc k hk (hts _ hl) (fun x h => by rw [hT] at h; exact h) hv d kk
theorem gn_after {A0 : Nat → Prop} {q : Nat} {e0 : va_E} {w1 : va_W} {H1 : Heap} (hP : va_P G.1 vwCl (ws ++ [(q, e0)]) H) (hD : va_D A0 (ws ++ [(q, e0)])) (hF : ∀ z, va_A [(q, e0)] H.size z → A0 z) (hk : ∀ z : Nat, z < H.size → ¬ va_A [(q, e0)] H.size z → H1[z]? = H[z]?) (hP1 : va_P G.1 vwCl w1 H1) (hD1 : va_D (va_A [(q, e0)] H.size) w1) : va_P G.1 vwCl (ws ++ w1) H1 ∧ va_D A0 (ws ++ w1) := by
  have hin : ∀ (k : Nat) (x : Nat × va_E), ws[k]? = some x → (ws ++ [(q, e0)])[k]? = some x := fun k x hx => by rw [List.getElem?_append_left (List.getElem?_eq_some_iff.mp hx).1]; exact hx
  have hlast : (ws ++ [(q, e0)])[ws.length]? = some (q, e0) := by simp
  have hap : ∀ (k : Nat) (x : Nat × va_E), ws[k]? = some x → x.1 < H.size ∧ ¬ va_A [(q, e0)] H.size x.1 := by
    intro k x hx
    have hl := (hP k x (hin k x hx)).lt
    refine ⟨hl, fun h => ?_⟩
    rcases h with ⟨k2, e2, h⟩ | h
    · have hk2 : k2 = 0 := by
        have := (List.getElem?_eq_some_iff.mp h).1
        simp at this
        exact this
      subst hk2
      have hq : x.1 = q := by
        have : some ((q, e0) : Nat × va_E) = some (x.1, e2) := h
        exact (congrArg Prod.fst (Option.some.inj this)).symm
      have := hD.1 k ws.length x (q, e0) (hin k x hx) hlast hq
      have hl2 := (List.getElem?_eq_some_iff.mp hx).1
      omega
    · omega
  refine ⟨va_P.app (fun k x hx => (hP k x (hin k x hx)).kept (hk x.1 (hap k x hx).1 (hap k x hx).2)) hP1, va_D.app ⟨fun i j x y hi hj hxy => hD.1 i j x y (hin i x hi) (hin j y hj) hxy, fun k x hx => hD.2 k x (hin k x hx)⟩ (hD1.weaken (fun k x _ h => hF x.1 h)) (fun i j x y hx hy hxy => (hap i x hx).2 (by rw [hxy]; exact hD1.2 j y hy))⟩
theorem gn_one {q : Nat} {e0 : va_E} (hP : va_P G.1 vwCl (ws ++ [(q, e0)]) H) : va_P G.1 vwCl [(q, e0)] H := fun k x hx => by
  have hk : k = 0 := by
    have := (List.getElem?_eq_some_iff.mp hx).1
    simp at this
    exact this
  subst hk
  cases hx
  exact hP ws.length (q, e0) (by simp)
theorem gn_oneD {q : Nat} {e0 : va_E} {B : Nat → Prop} (h : B q) : va_D B [(q, e0)] := ⟨fun i j x y hi hj _ => by
    have h1 := (List.getElem?_eq_some_iff.mp hi).1
    have h2 := (List.getElem?_eq_some_iff.mp hj).1
    simp at h1 h2
    omega, fun k x hx => by
    have hk : k = 0 := by
      have := (List.getElem?_eq_some_iff.mp hx).1
      simp at this
      exact this
    subst hk
    cases hx
    exact h⟩
theorem gn_freeA {q : Nat} {e0 : va_E} (hA : ∀ q, H0.size ≤ q → A q) (hD : va_D A (ws ++ [(q, e0)])) (hS : va_S A H0 H locs) : ∀ z, va_A [(q, e0)] H.size z → A z := by
  intro z h
  rcases h with ⟨k, e2, h⟩ | h
  · have hk : k = 0 := by
      have := (List.getElem?_eq_some_iff.mp h).1
      simp at this
      exact this
    subst hk
    have hz : (q, e0) = (z, e2) := Option.some.inj h
    have hq : q = z := congrArg Prod.fst hz
    rw [← hq]
    exact hD.2 ws.length (q, e0) (by simp)
  · exact hA z (Nat.le_trans hS.1 h)
/-- a constructor of its own class's nest -/
theorem gn_callN (X : gCx p s m args meth c G cc own ret nL) (hE : gEx s) (hA : ∀ q, H0.size ≤ q → A q) {q : Nat} {e0 : va_E} (hP : va_P G.1 vwCl (ws ++ [(q, e0)]) H) (hD : va_D A (ws ++ [(q, e0)])) (hS : va_S A H0 H locs) {y : MethodName} {bytes : ByteArray} {n2 ix mc ms : Nat} {rm : Room} {w : List Nat → va_W} {host : String} {st : List Value} (hM : gIn l y bytes n2 rm G q e0 H.size w mc ms) (hl : va_Nw (.methodLinkNest own ix y host) s) (w2 : Cond.instanceMethod y ∈ g_tbl) (w4 : Cond.code y bytes n2 none ∈ g_tbl) (w5 : Cond.initialized y.cls ∈ g_tbl) (hd : y.cls ≠ "java/lang/invoke/MethodHandle" ∧ y.cls ≠ "java/lang/invoke/VarHandle" ∧ (parseMethodDescriptor y.desc).map (fun d => d.parameters.length) = some 0) (hnm : y.name = "<init>") (hrc : rm.cells = mc) (hrs : rm.slots = ms) (hR : rm.frames + 1 ≤ R.frames ∧ 8 + (n2 + 11) + rm.locals ≤ R.locals) (hls : ls.size = nL) (hst : st = .ref q :: rest) (hW : (rest.map fun v => v.category).sum ≤ 8) (hz : cells + mc ≤ R.cells ∧ slots + ms ≤ R.slots) (d : decode cc pc = .ok (.invokespecial ix, 3))
    (kk : ∀ (u : List Nat) (H1 : Heap) (locs1 : List Loc), va_P G.1 vwCl (ws ++ w u) H1 → va_D A (ws ++ w u) → va_S A H0 H1 locs1 → W p l e R s m args below meth c H1 locs1 (cells + mc) (slots + ms) Q (F0 m (pc + 3) ls rest)) : W p l e R s m args below meth c H locs cells slots Q (F0 m pc ls st) := by
  obtain ⟨hx, hb, -, hml, hown, hts, -, hK⟩ := X
  have hF := gn_freeA hA hD hS
  refine va_callv (va_runIN (As := []) (rest := rest) (nL := nL) (cc := cc) ⟨hx, hb, hml, hown, hts⟩ hM ⟨va_cnB (ws' := g_tbl) 0 hts (g_good w4) rfl hrc hrs hl (hts _ w5) hd hR, hnm, hts _ w2⟩ ⟨gIn_blind, fun U hU hW => ⟨rfl, by rw [hU], by rw [hU]; exact gn_one hP, va_K.moved hW.alike hK, gn_oneD trivial, gEx_warm hW hE⟩⟩ rfl rfl hls hst (lv_room hW) d hz) hS (fun z _ h => hF z h) hF (fun u t H1 locs1 ht hvm hw hB hz1 hk1 hS1 => ?_)
  obtain ⟨u, g1, g2, g3⟩ := hB
  rw [ht] at g1
  obtain ⟨r1, r2⟩ := gn_after hP hD hF hk1 g1 g3
  exact kk u H1 locs1 r1 r2 hS1
/-- a constructor by its plain link -/
theorem gn_callP (X : gCx p s m args meth c G cc own ret nL) (hE : gEx s) (hA : ∀ q, H0.size ≤ q → A q) {q : Nat} {e0 : va_E} (hP : va_P G.1 vwCl (ws ++ [(q, e0)]) H) (hD : va_D A (ws ++ [(q, e0)])) (hS : va_S A H0 H locs) {y : MethodName} {bytes : ByteArray} {n2 ix mc ms : Nat} {rm : Room} {w : List Nat → va_W} {st : List Value} (hM : gIn l y bytes n2 rm G q e0 H.size w mc ms) (w1 : Cond.methodLink own ix y ∈ g_tbl) (w2 : Cond.instanceMethod y ∈ g_tbl) (w4 : Cond.code y bytes n2 none ∈ g_tbl) (w5 : Cond.initialized y.cls ∈ g_tbl) (hd : y.cls ≠ "java/lang/invoke/MethodHandle" ∧ y.cls ≠ "java/lang/invoke/VarHandle" ∧ (parseMethodDescriptor y.desc).map (fun d => d.parameters.length) = some 0) (hnm : y.name = "<init>") (hrc : rm.cells = mc) (hrs : rm.slots = ms) (hR : rm.frames + 1 ≤ R.frames ∧ 8 + (n2 + 11) + rm.locals ≤ R.locals) (hls : ls.size = nL) (hst : st = .ref q :: rest) (hW : (rest.map fun v => v.category).sum ≤ 8) (hz : cells + mc ≤ R.cells ∧ slots + ms ≤ R.slots) (d : decode cc pc = .ok (.invokespecial ix, 3))
    (kk : ∀ (u : List Nat) (H1 : Heap) (locs1 : List Loc), va_P G.1 vwCl (ws ++ w u) H1 → va_D A (ws ++ w u) → va_S A H0 H1 locs1 → W p l e R s m args below meth c H1 locs1 (cells + mc) (slots + ms) Q (F0 m (pc + 3) ls rest)) : W p l e R s m args below meth c H locs cells slots Q (F0 m pc ls st) := by
  obtain ⟨hx, hb, -, hml, hown, hts, -, hK⟩ := X
  have hF := gn_freeA hA hD hS
  refine va_callv (va_runI (As := []) (rest := rest) (nL := nL) (cc := cc) ⟨hx, hb, hml, hown, hts⟩ hM (cwI (ws' := g_tbl) 0 hts (g_good w4) rfl hrc hrs (hts _ w5) (hts _ w1) (hts _ w2) hnm hd hR) ⟨gIn_blind, fun U hU hW => ⟨rfl, by rw [hU], by rw [hU]; exact gn_one hP, va_K.moved hW.alike hK, gn_oneD trivial, gEx_warm hW hE⟩⟩ rfl rfl hls hst (lv_room hW) d hz) hS (fun z _ h => hF z h) hF (fun u t H1 locs1 ht hvm hw hB hz1 hk1 hS1 => ?_)
  obtain ⟨u, g1, g2, g3⟩ := hB
  rw [ht] at g1
  obtain ⟨r1, r2⟩ := gn_after hP hD hF hk1 g1 g3
  exact kk u H1 locs1 r1 r2 hS1
theorem gn_aast (X : gCx p s m args meth c G cc own ret nL) {a v n t qk ci : Nat} {h1 : Nat × va_E} {tl : va_W} {r : vw_C} {vs : List Value} {f : Nat → Option Nat} (ht : (gTys G)[t]? = some (G.2 t, .object r.1)) (hP : va_P G.1 vwCl (h1 :: (a, .inl (G.2 t, n, .inr (.inr (.inr (.inr f))))) :: tl) H) (hD : va_D A (h1 :: (a, .inl (G.2 t, n, .inr (.inr (.inr (.inr f))))) :: tl)) (hS : va_S A H0 H locs) (hv : tl[qk]? = some (v, .inr (ci, vs))) (hc : vwCl[ci]? = some r) {i : Int32} (hin : vp_in i n) (d : decode cc pc = .ok (.aastore, 1))
    (kk : ∀ (H1 : Heap) (locs1 : List Loc), va_P G.1 vwCl (h1 :: (a, .inl (G.2 t, n, .inr (.inr (.inr (.inr (va_up f i.toNatClampNeg (some v))))))) :: tl) H1 → va_D A (h1 :: (a, .inl (G.2 t, n, .inr (.inr (.inr (.inr (va_up f i.toNatClampNeg (some v))))))) :: tl) → va_S A H0 H1 locs1 → W p l e R s m args below meth c H1 locs1 cells slots Q (F0 m (pc + 1) ls rest)) : W p l e R s m args below meth c H locs cells slots Q (F0 m pc ls (.ref v :: .int i :: .ref a :: rest)) := by
  obtain ⟨hx, hb, -, -, hown, hts, -, hK⟩ := X
  exact va_astq hx hb hK hP hD hS 1 t (qk + 2) ci rfl ht hv hc hin d kk
theorem gn_lastAt {x : Nat × va_E} {T w : va_W} : (T ++ (x :: w))[T.length]? = some x := by simp
theorem gn_iast (X : gCx p s m args meth c G cc own ret nL) {a n : Nat} {h1 : Nat × va_E} {tl : va_W} {f : Nat → Int32} (hP : va_P G.1 vwCl (h1 :: (a, .inl (G.2 0, n, .inl f)) :: tl) H) (hD : va_D A (h1 :: (a, .inl (G.2 0, n, .inl f)) :: tl)) (hS : va_S A H0 H locs) {i x : Int32} (hin : vp_in i n) (d : decode cc pc = .ok (.iastore, 1))
    (kk : ∀ (H1 : Heap) (locs1 : List Loc), va_P G.1 vwCl (h1 :: (a, .inl (G.2 0, n, .inl (upd f i.toNatClampNeg x))) :: tl) H1 → va_D A (h1 :: (a, .inl (G.2 0, n, .inl (upd f i.toNatClampNeg x))) :: tl) → va_S A H0 H1 locs1 → W p l e R s m args below meth c H1 locs1 cells slots Q (F0 m (pc + 1) ls rest)) : W p l e R s m args below meth c H locs cells slots Q (F0 m pc ls (.int x :: .int i :: .ref a :: rest)) := by
  obtain ⟨hx, hb, -, -, hown, hts, -, hK⟩ := X
  exact va_iast hx hb hK hP hD hS 1 0 rfl rfl hin d kk
theorem gn_vret (X : gCx p s m args meth c G cc own none nL) {w : List Nat → va_W} (u : List Nat) (hP : va_P G.1 vwCl (w u) H) (hD : va_D A (w u)) (hS : va_S A s.heap H locs) (d : decode cc pc = .ok (.return_, 1)) : W p l e R s m args below meth c H locs cells slots (MQ below (va_Qv (fun _ : Unit => True) (gInAt G A w) A) args s cells slots A) (F0 m pc ls []) := by
  obtain ⟨hx, hb, hr, hml, hown, hts, hlk, hK⟩ := X
  exact W.vret hx hb hr (fun t ht hW => ⟨⟨(), rfl, trivial, u, by rw [ht]; exact hP, va_K.moved hW.alike hK, hD⟩, hS.F ht⟩) hS.2.2 d hlk
end GN
theorem gn_fixQ {D : va_G} {cl : List vw_C} {ws : va_W} {H : Heap} {i a n : Nat} {cA : ClassId} {f g : Nat → Option Nat} (hP : va_P D cl ws H) (hi : ws[i]? = some (a, .inl (cA, n, .inr (.inr (.inr (.inr f)))))) (hfg : ∀ j, j < n → f j = g j) : va_P D cl (ws.set i (a, .inl (cA, n, .inr (.inr (.inr (.inr g)))))) H := by
  intro k q hk
  by_cases hki : k = i
  · subst hki
    rw [List.getElem?_set_self (List.getElem?_eq_some_iff.mp hi).1] at hk
    cases hk
    have h := hP k _ hi
    show H[a]? = some (vp_cell cA (n, .inr (.inr (.inr (.inr g)))))
    have h2 : H[a]? = some (vp_cell cA (n, .inr (.inr (.inr (.inr f))))) := h
    rw [h2, vp_cell_q, vp_cell_q]
    unfold arrV
    congr 2
    congr 1
    funext j
    exact congrArg va_rf (hfg j.val j.isLt)
  · rw [List.getElem?_set_ne (Ne.symm hki)] at hk
    exact hP k q hk
theorem gn_fixI {D : va_G} {cl : List vw_C} {ws : va_W} {H : Heap} {i a n : Nat} {cA : ClassId} {f g : Nat → Int32} (hP : va_P D cl ws H) (hi : ws[i]? = some (a, .inl (cA, n, .inl f))) (hfg : ∀ j, j < n → f j = g j) : va_P D cl (ws.set i (a, .inl (cA, n, .inl g))) H := by
  intro k q hk
  by_cases hki : k = i
  · subst hki
    rw [List.getElem?_set_self (List.getElem?_eq_some_iff.mp hi).1] at hk
    cases hk
    have h := hP k _ hi
    show H[a]? = some (vp_cell cA (n, .inl g))
    have h2 : H[a]? = some (vp_cell cA (n, .inl f)) := h
    rw [h2, vp_cell_i, vp_cell_i]
    unfold arrV
    congr 2
    congr 1
    funext j
    exact congrArg Value.int (hfg j.val j.isLt)
  · rw [List.getElem?_set_ne (Ne.symm hki)] at hk
    exact hP k q hk

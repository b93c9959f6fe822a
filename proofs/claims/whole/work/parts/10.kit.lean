/-! the state of one side: whole numbers of the objects (by object and field), ints and longs of the rows (by row and place) -/
abbrev gS : Type := (Nat → Nat → Int32) × (Nat → Nat → Int32) × (Nat → Nat → Int64)
def gI (S : gS) : Nat → Nat → Int32 := S.1
def gA (S : gS) : Nat → Nat → Int32 := S.2.1
def gJ (S : gS) : Nat → Nat → Int64 := S.2.2
def gup {α : Type} (f : Nat → Nat → α) (o k : Nat) (v : α) : Nat → Nat → α := fun i j => if i = o ∧ j = k then v else f i j
def grow {α : Type} (f : Nat → Nat → α) (o : Nat) (r : Nat → α) : Nat → Nat → α := fun i => if i = o then r else f i
def gI_up (S : gS) (o k : Nat) (v : Int32) : gS := (gup S.1 o k v, S.2)
def gA_up (S : gS) (o k : Nat) (v : Int32) : gS := (S.1, gup S.2.1 o k v, S.2.2)
def gJ_up (S : gS) (o k : Nat) (v : Int64) : gS := (S.1, S.2.1, gup S.2.2 o k v)
def gA_row (S : gS) (o : Nat) (r : Nat → Int32) : gS := (S.1, grow S.2.1 o r, S.2.2)
def gJ_row (S : gS) (o : Nat) (r : Nat → Int64) : gS := (S.1, S.2.1, grow S.2.2 o r)
theorem gA_row_up (S : gS) (o k : Nat) (v : Int32) : gA_row S o (upd (gA S o) k v) = gA_up S o k v := by
  have h : grow S.2.1 o (upd (S.2.1 o) k v) = gup S.2.1 o k v := by
    funext i j
    by_cases hi : i = o
    · subst hi; simp [grow, gup, upd]
    · simp [grow, gup, hi]
  unfold gA_row gA_up gA; rw [h]
theorem gJ_row_up (S : gS) (o k : Nat) (v : Int64) : gJ_row S o (vp_updL (gJ S o) k v) = gJ_up S o k v := by
  have h : grow S.2.2 o (vp_updL (S.2.2 o) k v) = gup S.2.2 o k v := by
    funext i j
    by_cases hi : i = o
    · subst hi; simp [grow, gup, vp_updL]
    · simp [grow, gup, hi]
  unfold gJ_row gJ_up gJ; rw [h]
/-! the words of the programs: a name, a look at an index, a call -/
def gx_let {α β : Type} (v : α) (f : α → β) : β := f v
def gx_chk {β : Type} (i : Int32) (n : Nat) (k : Option β) : Option β := if i < 0 ∨ n ≤ i.toNatClampNeg then none else k
def gx_ok {β : Type} (c : Bool) (k : Option β) : Option β := if c = true then k else none
def gx_bind {α β : Type} (x : Option (α × gS)) (f : α → gS → Option β) : Option β := match x with
  | none => none
  | some q => f q.1 q.2
def gx_fuel : Nat := 100000
theorem gx_let_e {α β : Type} {v y : α} {f : α → β} {z : β} (e : y = v) (h : gx_let v f = z) : f y = z := by rw [e]; exact h
theorem gx_chk_e {β : Type} {i : Int32} {n : Nat} {k : Option β} {z : β} (h : gx_chk i n k = some z) : vp_in i n ∧ k = some z := by
  unfold gx_chk at h
  by_cases q : i < 0 ∨ n ≤ i.toNatClampNeg
  · rw [if_pos q] at h; cases h
  · rw [if_neg q] at h; exact ⟨q, h⟩
theorem gx_ok_e {β : Type} {c : Bool} {k : Option β} {z : β} (h : gx_ok c k = some z) : c = true ∧ k = some z := by
  unfold gx_ok at h
  by_cases q : c = true
  · rw [if_pos q] at h; exact ⟨q, h⟩
  · rw [if_neg q] at h; cases h
theorem gx_bind_e {α β : Type} {x : Option (α × gS)} {f : α → gS → Option β} {z : β} (h : gx_bind x f = some z) : ∃ (a : α) (S : gS), x = some (a, S) ∧ f a S = some z := by
  cases x with
  | none => cases h
  | some q => exact ⟨q.1, q.2, rfl, h⟩
def gx_cpyJ {β : Type} (S : gS) (a b n0 n1 : Nat) (sp dp n : Int32) (k : gS → Option β) : Option β := gx_ok (decide (¬ sp < 0 ∧ ¬ dp < 0 ∧ ¬ n < 0 ∧ sp.toNatClampNeg + n.toNatClampNeg ≤ n0 ∧ dp.toNatClampNeg + n.toNatClampNeg ≤ n1)) (gx_let (gJ_row S b (va_cpy (gJ S a) (gJ S b) sp.toNatClampNeg dp.toNatClampNeg n.toNatClampNeg)) k)
def gx_cpyA {β : Type} (S : gS) (a b n0 n1 : Nat) (sp dp n : Int32) (k : gS → Option β) : Option β := gx_ok (decide (¬ sp < 0 ∧ ¬ dp < 0 ∧ ¬ n < 0 ∧ sp.toNatClampNeg + n.toNatClampNeg ≤ n0 ∧ dp.toNatClampNeg + n.toNatClampNeg ≤ n1)) (gx_let (gA_row S b (va_cpy (gA S a) (gA S b) sp.toNatClampNeg dp.toNatClampNeg n.toNatClampNeg)) k)
theorem gx_cpyJ_e {β : Type} {S : gS} {a b n0 n1 : Nat} {sp dp n : Int32} {k : gS → Option β} {z : β} (h : gx_cpyJ S a b n0 n1 sp dp n k = some z) : decide (¬ sp < 0 ∧ ¬ dp < 0 ∧ ¬ n < 0 ∧ sp.toNatClampNeg + n.toNatClampNeg ≤ n0 ∧ dp.toNatClampNeg + n.toNatClampNeg ≤ n1) = true ∧ gx_let (gJ_row S b (va_cpy (gJ S a) (gJ S b) sp.toNatClampNeg dp.toNatClampNeg n.toNatClampNeg)) k = some z := gx_ok_e h
theorem gx_cpyA_e {β : Type} {S : gS} {a b n0 n1 : Nat} {sp dp n : Int32} {k : gS → Option β} {z : β} (h : gx_cpyA S a b n0 n1 sp dp n k = some z) : decide (¬ sp < 0 ∧ ¬ dp < 0 ∧ ¬ n < 0 ∧ sp.toNatClampNeg + n.toNatClampNeg ≤ n0 ∧ dp.toNatClampNeg + n.toNatClampNeg ≤ n1) = true ∧ gx_let (gA_row S b (va_cpy (gA S a) (gA S b) sp.toNatClampNeg dp.toNatClampNeg n.toNatClampNeg)) k = some z := gx_ok_e h
def gmin (x y : Int64) : Int64 := if y < x then y else x
theorem g_lt_of_in {i : Int32} {n : Nat} (h : vp_in i n) : i.toNatClampNeg < n := Nat.not_le.mp fun q => h (Or.inr q)
theorem g_tabOut (n : Nat) {x : Int32} (h : ∀ j, j < n → ¬ x = Int32.ofNat j) : x.toInt < 0 ∨ ((n : Int) - 1) < x.toInt := by
  rcases (show x.toInt < 0 ∨ 0 ≤ x.toInt by omega) with q | q
  · exact Or.inl q
  · rcases (show ((n : Int) - 1) < x.toInt ∨ x.toInt ≤ (n : Int) - 1 by omega) with q2 | q2
    · exact Or.inr q2
    · exfalso
      have hx : x < 0 → False := fun z => by
        have := Int32.lt_iff_toInt_lt.mp z
        have e0 : (0 : Int32).toInt = 0 := rfl
        omega
      obtain ⟨j, hj, e⟩ := nI_of (x := x) hx
      have e1 : x.toInt = j := by rw [e]; exact nI_toInt hj
      exact h j (by omega) e
/-! worlds of cells by their numbers -/
abbrev gG : Type := va_G × (Nat → ClassId)
abbrev gW : Type := gG → (Nat → Nat) → gS → va_W
def gTys (G : gG) : List (ClassId × FieldType) := [(G.2 0, .int), (G.2 1, .long), (G.2 2, .object RX0), (G.2 3, .object RX3)]
def gisJ (wd : gW) (o n : Nat) : Prop := ∀ (G : gG) (ad : Nat → Nat) (S : gS), (wd G ad S)[o]? = some (ad o, .inl (G.2 1, n, .inr (.inl (gJ S o)))) ∧ ∀ f, (wd G ad S).set o (ad o, .inl (G.2 1, n, .inr (.inl f))) = wd G ad (gJ_row S o f)
def gisA (wd : gW) (o n : Nat) : Prop := ∀ (G : gG) (ad : Nat → Nat) (S : gS), (wd G ad S)[o]? = some (ad o, .inl (G.2 0, n, .inl (gA S o))) ∧ ∀ f, (wd G ad S).set o (ad o, .inl (G.2 0, n, .inl f)) = wd G ad (gA_row S o f)
def gisQ (wd : gW) (o n t : Nat) (g : Nat → Nat) : Prop := ∀ (G : gG) (ad : Nat → Nat) (S : gS), (wd G ad S)[o]? = some (ad o, .inl (G.2 t, n, .inr (.inr (.inr (.inr (fun k => some (ad (g k))))))))
def gisO (wd : gW) (o ci : Nat) (fs : (Nat → Nat) → gS → List Value) : Prop := ∀ (G : gG) (ad : Nat → Nat) (S : gS), (wd G ad S)[o]? = some (ad o, .inr (ci, fs ad S))
def gisP (wd : gW) (o ci k : Nat) (fs : (Nat → Nat) → gS → List Value) : Prop := ∀ (G : gG) (ad : Nat → Nat) (S : gS) (v : Int32), (wd G ad S).set o (ad o, .inr (ci, (fs ad S).set k (.int v))) = wd G ad (gI_up S o k v)
def gCx (p : Program) (s : State) (m : MethodId) (args : Array Value) (meth : Method) (c : Code) (G : gG) (cc : ByteArray) (own : String) (ret : Option FieldType) (nL : Nat) : Prop :=
  p.tables.exec = Jvm.exec ∧ c.code = cc ∧ meth.sig.returnType = ret ∧ c.maxLocals = nL ∧ s.vm.findClass own = some m.cls ∧ (∀ w ∈ g_tbl, w.before args s = true) ∧ meth.locks = false ∧ va_K G.1 vwCl (gTys G) s
def gV (wd : gW) (G : gG) (ad : Nat → Nat) (A : Nat → Prop) (H0 : Heap) (S : gS) (H : Heap) (locs : List Loc) : Prop := va_P G.1 vwCl (wd G ad S) H ∧ va_D A (wd G ad S) ∧ va_S A H0 H locs
def gPre (wd : gW) (G : gG) (ad : Nat → Nat) (S : gS) (sz : Nat) (U : State) : Prop := U.heap.size = sz ∧ va_P G.1 vwCl (wd G ad S) U.heap ∧ va_K G.1 vwCl (gTys G) U ∧ va_D (fun _ => True) (wd G ad S)
def gAt (wd : gW) (G : gG) (ad : Nat → Nat) (A : Nat → Prop) (u : gS) (t : State) : Prop := va_P G.1 vwCl (wd G ad u) t.heap ∧ va_K G.1 vwCl (gTys G) t ∧ va_D A (wd G ad u)
def gQi (wd : gW) (G : gG) (ad : Nat → Nat) (A : Nat → Prop) (z : Int32 × gS) : Array Value → State → Outcome → State → Prop := va_Qi (fun (r : Int32) (u : gS) => r = z.1 ∧ u = z.2) (gAt wd G ad A) A
def gQl (wd : gW) (G : gG) (ad : Nat → Nat) (A : Nat → Prop) (z : Int64 × gS) : Array Value → State → Outcome → State → Prop := va_Ql (fun (r : Int64) (u : gS) => r = z.1 ∧ u = z.2) (gAt wd G ad A) A
def gQv (wd : gW) (G : gG) (ad : Nat → Nat) (A : Nat → Prop) (z : Unit × gS) : Array Value → State → Outcome → State → Prop := va_Qv (fun (u : gS) => u = z.2) (gAt wd G ad A) A
def gMet (l : Launch) (y : MethodName) (cc : ByteArray) (nL : Nat) (ret : Option FieldType) (rm : Room) (wd : gW) (G : gG) (ad : Nat → Nat) (S : gS) (sz : Nat) (av : List Value) (Q : (Nat → Prop) → Array Value → State → Outcome → State → Prop) : Prop :=
  Met l y (Cond.code y cc nL ret :: g_tbl) rm (va_Pc av (gPre wd G ad S sz)) (Q (va_A (wd G ad S) sz)) 0 0 (va_A (wd G ad S) sz)
def gMetI (l : Launch) (y : MethodName) (cc : ByteArray) (nL : Nat) (ret : Option FieldType) (rm : Room) (wd : gW) (G : gG) (ad : Nat → Nat) (S : gS) (sz : Nat) (av : List Value) (r : Int32) (S' : gS) : Prop := gMet l y cc nL ret rm wd G ad S sz av (fun A => gQi wd G ad A (r, S'))
def gMetL (l : Launch) (y : MethodName) (cc : ByteArray) (nL : Nat) (ret : Option FieldType) (rm : Room) (wd : gW) (G : gG) (ad : Nat → Nat) (S : gS) (sz : Nat) (av : List Value) (r : Int64) (S' : gS) : Prop := gMet l y cc nL ret rm wd G ad S sz av (fun A => gQl wd G ad A (r, S'))
def gMetV (l : Launch) (y : MethodName) (cc : ByteArray) (nL : Nat) (ret : Option FieldType) (rm : Room) (wd : gW) (G : gG) (ad : Nat → Nat) (S : gS) (sz : Nat) (av : List Value) (r : Unit) (S' : gS) : Prop := gMet l y cc nL ret rm wd G ad S sz av (fun A => gQv wd G ad A (r, S'))
theorem g_free {A : Nat → Prop} {ws : va_W} {H0 H : Heap} {locs : List Loc} (hD : va_D A ws) (hS : va_S A H0 H locs) (hA : ∀ q, H0.size ≤ q → A q) : ∀ q, va_A ws H.size q → A q := by
  intro q h
  rcases h with ⟨k, e, h⟩ | h
  · exact hD.2 k (q, e) h
  · exact hA q (Nat.le_trans hS.1 h)
/-- a method's start -/
theorem gMet_of {l : Launch} {y : MethodName} {cc : ByteArray} {nL : Nat} {ret : Option FieldType} {rm : Room} {wd : gW} {G : gG} {ad : Nat → Nat} {S : gS} {sz : Nat} {av : List Value} {Q : (Nat → Prop) → Array Value → State → Outcome → State → Prop} (hy : plainName y.cls = true)
    (body : ∀ (p : Program) (e : Env) (s : State) (m : MethodId) (below : List Frame) (meth : Method) (c : Code) (A : Nat → Prop), (∀ q, s.heap.size ≤ q → A q) → gCx p s m av.toArray meth c G cc y.cls ret nL → meth.name = y.name → gV wd G ad A s.heap S s.heap [] →
      W p l e rm s m av.toArray below meth c s.heap [] 0 0 (MQ below (Q A) av.toArray s 0 0 A) (entryFrame m av.toArray nL)) : gMet l y cc nL ret rm wd G ad S sz av Q := by
  refine Met.ofW (cc := cc) (maxL := nL) (ret := ret) hy rfl ?_
  intro p e s m args below meth c s₁ B hml hv
  obtain ⟨rfl, hsz, hP, hK, hD0⟩ := hv
  have hts := atoms_spec (ws := Cond.code y cc nL ret :: g_tbl) B.pre
  subst hsz
  exact body p e s m below meth c (va_A (wd G ad S) s.heap.size) (fun q h => Or.inr h) ⟨B.exec, B.bytes, B.returns, hml, findClass_of_methodNamed B.named, fun w hw => hts w (List.mem_cons_of_mem _ hw), B.notSynchronized, hK⟩ (name_of_methodNamed B.named B.method).1 ⟨hP, hD0.self, va_S.rf⟩
/-- what a call takes of the tables -/
def gKV (own : String) (ix : Nat) (y : MethodName) (bytes : ByteArray) (nL : Nat) (ret : Option FieldType) (n : Nat) : Prop :=
  Cond.methodLink own ix y ∈ g_tbl ∧ Cond.instanceMethod y ∈ g_tbl ∧ Cond.selects y.cls y y ∈ g_tbl ∧ Cond.code y bytes nL ret ∈ g_tbl ∧ Cond.initialized y.cls ∈ g_tbl ∧ (y.cls ≠ "java/lang/invoke/MethodHandle" ∧ y.cls ≠ "java/lang/invoke/VarHandle" ∧ (parseMethodDescriptor y.desc).map (fun d => d.parameters.length) = some n)
def gKS (own : String) (ix : Nat) (y : MethodName) (bytes : ByteArray) (nL : Nat) (ret : Option FieldType) (n : Nat) : Prop :=
  Cond.methodLink own ix y ∈ g_tbl ∧ Cond.static y ∈ g_tbl ∧ Cond.code y bytes nL ret ∈ g_tbl ∧ Cond.initialized y.cls ∈ g_tbl ∧ (y.cls ≠ "java/lang/invoke/MethodHandle" ∧ y.cls ≠ "java/lang/invoke/VarHandle" ∧ (parseMethodDescriptor y.desc).map (fun d => d.parameters.length) = some n)
section GR
variable {p : Program} {l : Launch} {e : Env} {R : Room} {s : State} {m : MethodId} {args : Array Value} {below : List Frame} {meth : Method} {c : Code} {H : Heap} {locs : List Loc} {cells slots : Nat} {Q : State → Prop}
variable {cc : ByteArray} {pc : Nat} {ls : Array Slot} {rest : List Value} {G : gG} {own : String} {ret : Option FieldType} {nL : Nat} {wd : gW} {ad : Nat → Nat} {A : Nat → Prop} {H0 : Heap} {S : gS}
theorem gw_get (X : gCx p s m args meth c G cc own ret nL) (hV : gV wd G ad A H0 S H locs) {C : String} {T : u_T} {N ci ix o k : Nat} {fs : (Nat → Nat) → gS → List Value} (hc : vwCl[ci]? = some (C, T, N)) (hin : ∀ w ∈ u_ws C T N, w ∈ g_tbl) (hk : k < N) (hl : Cond.fieldLink own ix C (T k).2.1 (T k).2.2.1 ∈ g_tbl) (hT : (T k).1 = C)
    (hO : gisO wd o ci fs) {v : Value} (hv : (fs ad S)[k]? = some v) (d : decode cc pc = .ok (.getfield ix, 3)) (kk : W p l e R s m args below meth c H locs cells slots Q (F0 m (pc + 3) ls (v :: rest))) : W p l e R s m args below meth c H locs cells slots Q (F0 m pc ls (.ref (ad o) :: rest)) := by
  obtain ⟨hx, hb, -, -, hown, hts, -, hK⟩ := X
  exact va_get hx hb hts hin hown hK hV.1 o (hO G ad S) hc k hk (hts _ hl) (fun x h => by rw [hT] at h; exact h) hv d kk
theorem gw_put (X : gCx p s m args meth c G cc own ret nL) (hV : gV wd G ad A H0 S H locs) {C : String} {T : u_T} {ty0 : Nat → FieldType} {N ci ix o k : Nat} {fs : (Nat → Nat) → gS → List Value} (hc : vwCl[ci]? = some (C, T, N)) (hin : ∀ w ∈ u_ws C T N, w ∈ g_tbl) (hty : ∀ k, k < N → parseFieldDescriptor (T k).2.2.1 = some (ty0 k)) (hnm : ∀ a, a < N → ∀ b, b < N → a ≠ b → (T a).2.1 ≠ (T b).2.1) (hk : k < N) (hl : Cond.fieldLink own ix C (T k).2.1 (T k).2.2.1 ∈ g_tbl) (hT : (T k).1 = C) (hfin : (T k).2.2.2 = false) {ty : FieldType} (hd : parseFieldDescriptor (T k).2.2.1 = some ty)
    (hO : gisO wd o ci fs) (hP : gisP wd o ci k fs) {v : Int32} (hn : narrow ty (.int v) = .int v) (hfit : fits ty (.int v) = true) (hlen : k < (fs ad S).length) (d : decode cc pc = .ok (.putfield ix, 3))
    (kk : ∀ S' : gS, S' = gI_up S o k v → ∀ (H1 : Heap) (locs1 : List Loc), gV wd G ad A H0 S' H1 locs1 → W p l e R s m args below meth c H1 locs1 cells slots Q (F0 m (pc + 3) ls rest)) : W p l e R s m args below meth c H locs cells slots Q (F0 m pc ls (.int v :: .ref (ad o) :: rest)) := by
  obtain ⟨hx, hb, -, -, hown, hts, -, hK⟩ := X
  refine va_put hx hb hts hin ty0 hty hnm hown hK hV.1 hV.2.1 hV.2.2 o (hO G ad S) hc k hk (hts _ hl) (fun x h => by rw [hT] at h; exact h) hfin hd hn hfit hlen d (fun H1 l1 h1 h2 h3 => kk _ rfl H1 l1 ?_)
  rw [hP G ad S v] at h1 h2
  exact ⟨h1, h2, h3⟩
theorem gw_lald (X : gCx p s m args meth c G cc own ret nL) (hV : gV wd G ad A H0 S H locs) {o n : Nat} (hJ : gisJ wd o n) {i : Int32} (hi : vp_in i n) (d : decode cc pc = .ok (.laload, 1)) (kk : W p l e R s m args below meth c H locs cells slots Q (F0 m (pc + 1) ls (.long (gJ S o i.toNatClampNeg) :: rest))) : W p l e R s m args below meth c H locs cells slots Q (F0 m pc ls (.int i :: .ref (ad o) :: rest)) := by
  obtain ⟨hx, hb, -, -, hown, hts, -, hK⟩ := X
  exact va_lald hx hb hK hV.1 o 1 (hJ G ad S).1 rfl hi d kk
theorem gw_iald (X : gCx p s m args meth c G cc own ret nL) (hV : gV wd G ad A H0 S H locs) {o n : Nat} (hJ : gisA wd o n) {i : Int32} (hi : vp_in i n) (d : decode cc pc = .ok (.iaload, 1)) (kk : W p l e R s m args below meth c H locs cells slots Q (F0 m (pc + 1) ls (.int (gA S o i.toNatClampNeg) :: rest))) : W p l e R s m args below meth c H locs cells slots Q (F0 m pc ls (.int i :: .ref (ad o) :: rest)) := by
  obtain ⟨hx, hb, -, -, hown, hts, -, hK⟩ := X
  exact va_iald hx hb hK hV.1 o 0 (hJ G ad S).1 rfl hi d kk
theorem gw_last (X : gCx p s m args meth c G cc own ret nL) (hV : gV wd G ad A H0 S H locs) {o n : Nat} (hJ : gisJ wd o n) {i : Int32} {v : Int64} (hi : vp_in i n) (d : decode cc pc = .ok (.lastore, 1))
    (kk : ∀ S' : gS, S' = gJ_up S o i.toNatClampNeg v → ∀ (H1 : Heap) (locs1 : List Loc), gV wd G ad A H0 S' H1 locs1 → W p l e R s m args below meth c H1 locs1 cells slots Q (F0 m (pc + 1) ls rest)) : W p l e R s m args below meth c H locs cells slots Q (F0 m pc ls (.long v :: .int i :: .ref (ad o) :: rest)) := by
  obtain ⟨hx, hb, -, -, hown, hts, -, hK⟩ := X
  refine va_last hx hb hK hV.1 hV.2.1 hV.2.2 o 1 (hJ G ad S).1 rfl hi d (fun H1 l1 h1 h2 h3 => kk _ rfl H1 l1 ?_)
  rw [(hJ G ad S).2, gJ_row_up] at h1 h2
  exact ⟨h1, h2, h3⟩
theorem gw_iast (X : gCx p s m args meth c G cc own ret nL) (hV : gV wd G ad A H0 S H locs) {o n : Nat} (hJ : gisA wd o n) {i : Int32} {v : Int32} (hi : vp_in i n) (d : decode cc pc = .ok (.iastore, 1))
    (kk : ∀ S' : gS, S' = gA_up S o i.toNatClampNeg v → ∀ (H1 : Heap) (locs1 : List Loc), gV wd G ad A H0 S' H1 locs1 → W p l e R s m args below meth c H1 locs1 cells slots Q (F0 m (pc + 1) ls rest)) : W p l e R s m args below meth c H locs cells slots Q (F0 m pc ls (.int v :: .int i :: .ref (ad o) :: rest)) := by
  obtain ⟨hx, hb, -, -, hown, hts, -, hK⟩ := X
  refine va_iast hx hb hK hV.1 hV.2.1 hV.2.2 o 0 (hJ G ad S).1 rfl hi d (fun H1 l1 h1 h2 h3 => kk _ rfl H1 l1 ?_)
  rw [(hJ G ad S).2, gA_row_up] at h1 h2
  exact ⟨h1, h2, h3⟩
theorem gw_aald (X : gCx p s m args meth c G cc own ret nL) (hV : gV wd G ad A H0 S H locs) {o n t : Nat} {g : Nat → Nat} {C : String} (hJ : gisQ wd o n t g) (ht : (gTys G)[t]? = some (G.2 t, .object C)) {i : Int32} (hi : vp_in i n) (d : decode cc pc = .ok (.aaload, 1))
    (kk : ∀ w : Nat, w = g i.toNatClampNeg → W p l e R s m args below meth c H locs cells slots Q (F0 m (pc + 1) ls (.ref (ad w) :: rest))) : W p l e R s m args below meth c H locs cells slots Q (F0 m pc ls (.int i :: .ref (ad o) :: rest)) := by
  obtain ⟨hx, hb, -, -, hown, hts, -, hK⟩ := X
  exact va_aldq hx hb hK hV.1 o t (hJ G ad S) ht hi d (kk _ rfl)
theorem gw_alen (X : gCx p s m args meth c G cc own ret nL) (hV : gV wd G ad A H0 S H locs) {o n : Nat} (hJ : gisJ wd o n) (d : decode cc pc = .ok (.arraylength, 1)) (kk : W p l e R s m args below meth c H locs cells slots Q (F0 m (pc + 1) ls (.int (nI n) :: rest))) : W p l e R s m args below meth c H locs cells slots Q (F0 m pc ls (.ref (ad o) :: rest)) := by
  obtain ⟨hx, hb, -, -, hown, hts, -, hK⟩ := X
  exact va_alen hx hb hK hV.1 o 1 (hJ G ad S).1 (ty := .long) rfl rfl d kk
theorem gw_cpyJ (X : gCx p s m args meth c G cc own ret nL) (hV : gV wd G ad A H0 S H locs) {a b n0 n1 ix : Nat} (h0 : gisJ wd a n0) (h1 : gisJ wd b n1) (hls : ls.size = nL) (w1 : Cond.methodLink own ix arraycopyName ∈ g_tbl) (w2 : Cond.native arraycopyName ∈ g_tbl) (w3 : Cond.static arraycopyName ∈ g_tbl) (w4 : Cond.initialized "java/lang/System" ∈ g_tbl) {sp dp n : Int32} (hi : decide (¬ sp < 0 ∧ ¬ dp < 0 ∧ ¬ n < 0 ∧ sp.toNatClampNeg + n.toNatClampNeg ≤ n0 ∧ dp.toNatClampNeg + n.toNatClampNeg ≤ n1) = true) (hf : 1 ≤ R.frames) (hlo : (rest.map fun v => v.category).sum + (nativeFrameWords "java/lang/System" "arraycopy" 5 + 11) ≤ R.locals) (d : decode cc pc = .ok (.invokestatic ix, 3))
    (kk : ∀ S' : gS, S' = gJ_row S b (va_cpy (gJ S a) (gJ S b) sp.toNatClampNeg dp.toNatClampNeg n.toNatClampNeg) → ∀ (H1 : Heap) (locs1 : List Loc), gV wd G ad A H0 S' H1 locs1 → W p l e R s m args below meth c H1 locs1 cells slots Q (F0 m (pc + 3) ls rest)) : W p l e R s m args below meth c H locs cells slots Q (F0 m pc ls (.int n :: .int dp :: .ref (ad b) :: .int sp :: .ref (ad a) :: rest)) := by
  obtain ⟨hx, hb, -, hml, hown, hts, -, hK⟩ := X
  obtain ⟨i1, i2, i3, i4, i5⟩ := of_decide_eq_true hi
  refine va_copyl hx hb (hml.trans hls.symm) hown (hts _ w1) (hts _ w2) (hts _ w3) (hts _ w4) hK hV.1 hV.2.1 hV.2.2 a b 1 1 (ty := .long) (h0 G ad S).1 (h1 G ad S).1 rfl rfl rfl i1 i2 i3 i4 i5 (fun i _ => rfl) hf hlo d (fun H1 l1 g1 g2 g3 => kk _ rfl H1 l1 ?_)
  rw [(h1 G ad S).2] at g1 g2
  exact ⟨g1, g2, g3⟩
theorem gw_cpyA (X : gCx p s m args meth c G cc own ret nL) (hV : gV wd G ad A H0 S H locs) {a b n0 n1 ix : Nat} (h0 : gisA wd a n0) (h1 : gisA wd b n1) (hls : ls.size = nL) (w1 : Cond.methodLink own ix arraycopyName ∈ g_tbl) (w2 : Cond.native arraycopyName ∈ g_tbl) (w3 : Cond.static arraycopyName ∈ g_tbl) (w4 : Cond.initialized "java/lang/System" ∈ g_tbl) {sp dp n : Int32} (hi : decide (¬ sp < 0 ∧ ¬ dp < 0 ∧ ¬ n < 0 ∧ sp.toNatClampNeg + n.toNatClampNeg ≤ n0 ∧ dp.toNatClampNeg + n.toNatClampNeg ≤ n1) = true) (hf : 1 ≤ R.frames) (hlo : (rest.map fun v => v.category).sum + (nativeFrameWords "java/lang/System" "arraycopy" 5 + 11) ≤ R.locals) (d : decode cc pc = .ok (.invokestatic ix, 3))
    (kk : ∀ S' : gS, S' = gA_row S b (va_cpy (gA S a) (gA S b) sp.toNatClampNeg dp.toNatClampNeg n.toNatClampNeg) → ∀ (H1 : Heap) (locs1 : List Loc), gV wd G ad A H0 S' H1 locs1 → W p l e R s m args below meth c H1 locs1 cells slots Q (F0 m (pc + 3) ls rest)) : W p l e R s m args below meth c H locs cells slots Q (F0 m pc ls (.int n :: .int dp :: .ref (ad b) :: .int sp :: .ref (ad a) :: rest)) := by
  obtain ⟨hx, hb, -, hml, hown, hts, -, hK⟩ := X
  obtain ⟨i1, i2, i3, i4, i5⟩ := of_decide_eq_true hi
  refine va_copyi hx hb (hml.trans hls.symm) hown (hts _ w1) (hts _ w2) (hts _ w3) (hts _ w4) hK hV.1 hV.2.1 hV.2.2 a b 0 0 (ty := .int) (h0 G ad S).1 (h1 G ad S).1 rfl rfl rfl i1 i2 i3 i4 i5 (fun i _ => rfl) hf hlo d (fun H1 l1 g1 g2 g3 => kk _ rfl H1 l1 ?_)
  rw [(h1 G ad S).2] at g1 g2
  exact ⟨g1, g2, g3⟩
theorem gw_min (X : gCx p s m args meth c G cc own ret nL) {ix : Nat} (hls : ls.size = nL) (w1 : Cond.methodLink own ix Lib.MathLoose.min_long.x ∈ g_tbl) (w2 : Cond.static Lib.MathLoose.min_long.x ∈ g_tbl) (w3 : Cond.initialized "java/lang/Math" ∈ g_tbl) (w4 : Cond.code Lib.MathLoose.min_long.x Lib.MathLoose.min_long.code 4 (some .long) ∈ g_tbl) (hf : 1 ≤ R.frames) (hlo : (rest.map fun v => v.category).sum + 15 ≤ R.locals) (hc : cells ≤ R.cells) (hs : slots ≤ R.slots) {x y : Int64} (d : decode cc pc = .ok (.invokestatic ix, 3))
    (kk : W p l e R s m args below meth c H locs cells slots Q (F0 m (pc + 3) ls (.long (gmin x y) :: rest))) : W p l e R s m args below meth c H locs cells slots Q (F0 m pc ls (.long y :: .long x :: rest)) := by
  obtain ⟨hx, hb, -, hml, hown, hts, -, hK⟩ := X
  exact va_mmin_long hx hb (hml.trans hls.symm) hown (hts _ w1) (hts _ w2) (hts _ w3) (hts _ w4) hf hlo hc hs d kk
theorem gw_cmp_lt (X : gCx p s m args meth c G cc own ret nL) {x y : Int64} {off : Int} {tgt : Nat} (d1 : decode cc pc = .ok (.lcmp, 1)) (d : decode cc (pc + 1) = .ok (.ifCond .lt off, 3)) (ht : ((pc + 1 : Nat) : Int) + off = (tgt : Int)) (kt : x < y → W p l e R s m args below meth c H locs cells slots Q (F0 m tgt ls rest)) (kf : ¬ x < y → W p l e R s m args below meth c H locs cells slots Q (F0 m (pc + 4) ls rest)) : W p l e R s m args below meth c H locs cells slots Q (F0 m pc ls (.long y :: .long x :: rest)) :=
  W.lcmp X.1 X.2.1 d1 (lv_if_lt X.1 X.2.1 d ht (fun h => kt ((lg_cmp_lt x y).mp h)) (fun h => kf (fun q => h ((lg_cmp_lt x y).mpr q))))
theorem gw_cmp_ge (X : gCx p s m args meth c G cc own ret nL) {x y : Int64} {off : Int} {tgt : Nat} (d1 : decode cc pc = .ok (.lcmp, 1)) (d : decode cc (pc + 1) = .ok (.ifCond .ge off, 3)) (ht : ((pc + 1 : Nat) : Int) + off = (tgt : Int)) (kt : y ≤ x → W p l e R s m args below meth c H locs cells slots Q (F0 m tgt ls rest)) (kf : ¬ y ≤ x → W p l e R s m args below meth c H locs cells slots Q (F0 m (pc + 4) ls rest)) : W p l e R s m args below meth c H locs cells slots Q (F0 m pc ls (.long y :: .long x :: rest)) :=
  W.lcmp X.1 X.2.1 d1 (lv_if_ge X.1 X.2.1 d ht (fun h => kt ((lg_cmp_ge x y).mp h)) (fun h => kf (fun q => h ((lg_cmp_ge x y).mpr q))))
theorem gw_cmp_gt (X : gCx p s m args meth c G cc own ret nL) {x y : Int64} {off : Int} {tgt : Nat} (d1 : decode cc pc = .ok (.lcmp, 1)) (d : decode cc (pc + 1) = .ok (.ifCond .gt off, 3)) (ht : ((pc + 1 : Nat) : Int) + off = (tgt : Int)) (kt : y < x → W p l e R s m args below meth c H locs cells slots Q (F0 m tgt ls rest)) (kf : ¬ y < x → W p l e R s m args below meth c H locs cells slots Q (F0 m (pc + 4) ls rest)) : W p l e R s m args below meth c H locs cells slots Q (F0 m pc ls (.long y :: .long x :: rest)) :=
  W.lcmp X.1 X.2.1 d1 (lv_if_gt X.1 X.2.1 d ht (fun h => kt ((lg_cmp_gt x y).mp h)) (fun h => kf (fun q => h ((lg_cmp_gt x y).mpr q))))
theorem gw_cmp_le (X : gCx p s m args meth c G cc own ret nL) {x y : Int64} {off : Int} {tgt : Nat} (d1 : decode cc pc = .ok (.lcmp, 1)) (d : decode cc (pc + 1) = .ok (.ifCond .le off, 3)) (ht : ((pc + 1 : Nat) : Int) + off = (tgt : Int)) (kt : x ≤ y → W p l e R s m args below meth c H locs cells slots Q (F0 m tgt ls rest)) (kf : ¬ x ≤ y → W p l e R s m args below meth c H locs cells slots Q (F0 m (pc + 4) ls rest)) : W p l e R s m args below meth c H locs cells slots Q (F0 m pc ls (.long y :: .long x :: rest)) :=
  W.lcmp X.1 X.2.1 d1 (lv_if_le X.1 X.2.1 d ht (fun h => kt ((lg_cmp_le x y).mp h)) (fun h => kf (fun q => h ((lg_cmp_le x y).mpr q))))
theorem gw_cmp_eq (X : gCx p s m args meth c G cc own ret nL) {x y : Int64} {off : Int} {tgt : Nat} (d1 : decode cc pc = .ok (.lcmp, 1)) (d : decode cc (pc + 1) = .ok (.ifCond .eq off, 3)) (ht : ((pc + 1 : Nat) : Int) + off = (tgt : Int)) (kt : x = y → W p l e R s m args below meth c H locs cells slots Q (F0 m tgt ls rest)) (kf : ¬ x = y → W p l e R s m args below meth c H locs cells slots Q (F0 m (pc + 4) ls rest)) : W p l e R s m args below meth c H locs cells slots Q (F0 m pc ls (.long y :: .long x :: rest)) :=
  W.lcmp X.1 X.2.1 d1 (lv_if_eq X.1 X.2.1 d ht (fun h => kt ((lg_cmp_eq x y).mp h)) (fun h => kf (fun q => h ((lg_cmp_eq x y).mpr q))))
theorem gw_cmp_ne (X : gCx p s m args meth c G cc own ret nL) {x y : Int64} {off : Int} {tgt : Nat} (d1 : decode cc pc = .ok (.lcmp, 1)) (d : decode cc (pc + 1) = .ok (.ifCond .ne off, 3)) (ht : ((pc + 1 : Nat) : Int) + off = (tgt : Int)) (kt : ¬ x = y → W p l e R s m args below meth c H locs cells slots Q (F0 m tgt ls rest)) (kf : x = y → W p l e R s m args below meth c H locs cells slots Q (F0 m (pc + 4) ls rest)) : W p l e R s m args below meth c H locs cells slots Q (F0 m pc ls (.long y :: .long x :: rest)) :=
  W.lcmp X.1 X.2.1 d1 (lv_if_ne X.1 X.2.1 d ht (fun h => kt (fun q => h ((lg_cmp_eq x y).mpr q))) (fun h => kf ((lg_cmp_eq x y).mp h)))
theorem g_blind {wd : gW} {G : gG} {ad : Nat → Nat} {S : gS} {sz : Nat} {av : List Value} : FrameBlind (va_Pc av (gPre wd G ad S sz)) := fun a U g mk q => by
  obtain ⟨q0, q1, qP, qK, qD⟩ := q
  exact ⟨q0, q1, qP, va_K.moved (u := U) (U := U.calling g mk a) (Vm.Alike.refl U.vm) qK, qD⟩
theorem gw_runV (X : gCx p s m args meth c G cc own ret nL) (hV : gV wd G ad A H0 S H locs) {y : MethodName} {bytes : ByteArray} {n2 ix n o ci : Nat} {ret2 : Option FieldType} {rm : Room} {As : List Value} {fs : (Nat → Nat) → gS → List Value} {q : vw_C} {QQ : (Nat → Prop) → Array Value → State → Outcome → State → Prop} {st : List Value}
    (hM : gMet l y bytes n2 ret2 rm wd G ad S H.size (.ref (ad o) :: As) QQ) (hk : gKV own ix y bytes n2 ret2 n) (hO : gisO wd o ci fs) (hc : vwCl[ci]? = some q) (hC : q.1 = y.cls) (hn : As.length = n) (hls : ls.size = nL) (hst : st = As.reverse ++ .ref (ad o) :: rest) (hW : (rest.map fun v => v.category).sum ≤ 8) (hrm : rm.cells = 0 ∧ rm.slots = 0) (hR : rm.frames + 1 ≤ R.frames ∧ 8 + (n2 + 11) + rm.locals ≤ R.locals) (hz : cells + 0 ≤ R.cells ∧ slots + 0 ≤ R.slots) (d : decode cc pc = .ok (.invokevirtual ix, 3)) :
    va_Run p l e R s m args below meth c H locs cells slots 0 0 (F0 m pc ls st) rest (QQ (va_A (wd G ad S) H.size) (Value.ref (ad o) :: As).toArray) (va_A (wd G ad S) H.size) := by
  obtain ⟨hx, hb, -, hml, hown, hts, -, hK⟩ := X
  obtain ⟨w1, w2, w3, w4, w5, hd⟩ := hk
  obtain ⟨hP, hD, hS⟩ := hV
  refine va_runV (C := y.cls) (index := ix) (nL := nL) (cc := cc) ⟨hx, hb, hml, hown, hts⟩ hM ⟨callB_of (ws' := g_tbl) n hts (g_good w4) rfl hrm.1 hrm.2 (hts _ w5) (hts _ w1) hd hR, hts _ w2, hts _ w3⟩ ⟨g_blind, ?_, fun U hU hW => ⟨rfl, by rw [hU], by rw [hU]; exact hP, va_K.moved hW.alike hK, hD.weaken (fun _ _ _ _ => trivial)⟩⟩ rfl hn hls hst (lv_room hW) d hz
  have h := va_recv hK hP hc (hO G ad S)
  rw [hC] at h
  exact h
theorem gw_runS (X : gCx p s m args meth c G cc own ret nL) (hV : gV wd G ad A H0 S H locs) {y : MethodName} {bytes : ByteArray} {n2 ix n : Nat} {ret2 : Option FieldType} {rm : Room} {As : List Value} {QQ : (Nat → Prop) → Array Value → State → Outcome → State → Prop} {st : List Value}
    (hM : gMet l y bytes n2 ret2 rm wd G ad S H.size As QQ) (hk : gKS own ix y bytes n2 ret2 n) (hn : As.length = n) (hls : ls.size = nL) (hst : st = As.reverse ++ rest) (hW : (rest.map fun v => v.category).sum ≤ 8) (hrm : rm.cells = 0 ∧ rm.slots = 0) (hR : rm.frames + 1 ≤ R.frames ∧ 8 + (n2 + 11) + rm.locals ≤ R.locals) (hz : cells + 0 ≤ R.cells ∧ slots + 0 ≤ R.slots) (d : decode cc pc = .ok (.invokestatic ix, 3)) :
    va_Run p l e R s m args below meth c H locs cells slots 0 0 (F0 m pc ls st) rest (QQ (va_A (wd G ad S) H.size) As.toArray) (va_A (wd G ad S) H.size) := by
  obtain ⟨hx, hb, -, hml, hown, hts, -, hK⟩ := X
  obtain ⟨w1, w2, w4, w5, hd⟩ := hk
  obtain ⟨hP, hD, hS⟩ := hV
  exact va_runS (index := ix) (nL := nL) (cc := cc) ⟨hx, hb, hml, hown, hts⟩ hM ⟨callB_of (ws' := g_tbl) n hts (g_good w4) rfl hrm.1 hrm.2 (hts _ w5) (hts _ w1) hd hR, hts _ w2⟩ ⟨g_blind, fun U hU hW => ⟨rfl, by rw [hU], by rw [hU]; exact hP, va_K.moved hW.alike hK, hD.weaken (fun _ _ _ _ => trivial)⟩⟩ rfl hn hls hst (lv_room hW) d hz
variable {st : List Value} {a : Array Value} {S' : gS}
theorem gw_back {H1 : Heap} {t : State} {locs1 : List Loc} (X : gCx p s m args meth c G cc own ret nL) (hA : ∀ q, H0.size ≤ q → A q) (hV : gV wd G ad A H0 S H locs) (ht : t.heap = H1) (hB : gAt wd G ad (va_A (wd G ad S) H.size) S' t) (hS1 : va_S A H0 H1 locs1) : gV wd G ad A H0 S' H1 locs1 := by
  obtain ⟨g1, g2, g3⟩ := hB
  rw [ht] at g1
  exact ⟨g1, g3.weaken (fun _ _ _ h => g_free hV.2.1 hV.2.2 hA _ h), hS1⟩
theorem gw_callI (X : gCx p s m args meth c G cc own ret nL) (hA : ∀ q, H0.size ≤ q → A q) (hV : gV wd G ad A H0 S H locs) {r : Int32} (hr : va_Run p l e R s m args below meth c H locs cells slots 0 0 (F0 m pc ls st) rest (gQi wd G ad (va_A (wd G ad S) H.size) (r, S') a) (va_A (wd G ad S) H.size))
    (kk : ∀ (H1 : Heap) (locs1 : List Loc), gV wd G ad A H0 S' H1 locs1 → W p l e R s m args below meth c H1 locs1 cells slots Q (F0 m (pc + 3) ls (.int r :: rest))) : W p l e R s m args below meth c H locs cells slots Q (F0 m pc ls st) := by
  refine va_calli hr hV.2.2 (fun q _ h => g_free hV.2.1 hV.2.2 hA q h) (g_free hV.2.1 hV.2.2 hA) (fun r1 u t H1 locs1 ht hvm hw hB hz1 hk1 hS1 => ?_)
  obtain ⟨rfl, rfl⟩ := hw
  exact kk H1 locs1 (gw_back X hA hV ht hB hS1)
theorem gw_callL (X : gCx p s m args meth c G cc own ret nL) (hA : ∀ q, H0.size ≤ q → A q) (hV : gV wd G ad A H0 S H locs) {r : Int64} (hr : va_Run p l e R s m args below meth c H locs cells slots 0 0 (F0 m pc ls st) rest (gQl wd G ad (va_A (wd G ad S) H.size) (r, S') a) (va_A (wd G ad S) H.size))
    (kk : ∀ (H1 : Heap) (locs1 : List Loc), gV wd G ad A H0 S' H1 locs1 → W p l e R s m args below meth c H1 locs1 cells slots Q (F0 m (pc + 3) ls (.long r :: rest))) : W p l e R s m args below meth c H locs cells slots Q (F0 m pc ls st) := by
  refine va_calll hr hV.2.2 (fun q _ h => g_free hV.2.1 hV.2.2 hA q h) (g_free hV.2.1 hV.2.2 hA) (fun r1 u t H1 locs1 ht hvm hw hB hz1 hk1 hS1 => ?_)
  obtain ⟨rfl, rfl⟩ := hw
  exact kk H1 locs1 (gw_back X hA hV ht hB hS1)
theorem gw_callv (X : gCx p s m args meth c G cc own ret nL) (hA : ∀ q, H0.size ≤ q → A q) (hV : gV wd G ad A H0 S H locs) {r : Unit} (hr : va_Run p l e R s m args below meth c H locs cells slots 0 0 (F0 m pc ls st) rest (gQv wd G ad (va_A (wd G ad S) H.size) (r, S') a) (va_A (wd G ad S) H.size))
    (kk : ∀ (H1 : Heap) (locs1 : List Loc), gV wd G ad A H0 S' H1 locs1 → W p l e R s m args below meth c H1 locs1 cells slots Q (F0 m (pc + 3) ls rest)) : W p l e R s m args below meth c H locs cells slots Q (F0 m pc ls st) := by
  refine va_callv hr hV.2.2 (fun q _ h => g_free hV.2.1 hV.2.2 hA q h) (g_free hV.2.1 hV.2.2 hA) (fun u t H1 locs1 ht hvm hw hB hz1 hk1 hS1 => ?_)
  obtain rfl := hw
  exact kk H1 locs1 (gw_back X hA hV ht hB hS1)
theorem gw_ireti (X : gCx p s m args meth c G cc own (some .int) nL) (hV : gV wd G ad A s.heap S H locs) {v : Int32} {z : Int32 × gS} (h : some (v, S) = some z) (d : decode cc pc = .ok (.ireturn, 1)) : W p l e R s m args below meth c H locs cells slots (MQ below (gQi wd G ad A z) args s cells slots A) (F0 m pc ls [.int v]) := by
  cases h
  obtain ⟨hx, hb, hr, hml, hown, hts, hlk, hK⟩ := X
  obtain ⟨hP, hD, hS⟩ := hV
  exact W.iret hx hb hr (fun t ht hW => ⟨⟨v, S, rfl, ⟨rfl, rfl⟩, by rw [ht]; exact hP, va_K.moved hW.alike hK, hD⟩, hS.F ht⟩) hS.2.2 d hlk
theorem gw_iretz (X : gCx p s m args meth c G cc own (some .boolean) nL) (hV : gV wd G ad A s.heap S H locs) {v : Int32} {z : Int32 × gS} (h : some (v, S) = some z) (hn : narrow .boolean (.int v) = .int v) (d : decode cc pc = .ok (.ireturn, 1)) : W p l e R s m args below meth c H locs cells slots (MQ below (gQi wd G ad A z) args s cells slots A) (F0 m pc ls [.int v]) := by
  cases h
  obtain ⟨hx, hb, hr, hml, hown, hts, hlk, hK⟩ := X
  obtain ⟨hP, hD, hS⟩ := hV
  exact W.zret hx hb hr hn (fun t ht hW => ⟨⟨v, S, rfl, ⟨rfl, rfl⟩, by rw [ht]; exact hP, va_K.moved hW.alike hK, hD⟩, hS.F ht⟩) hS.2.2 d hlk
theorem gw_lret (X : gCx p s m args meth c G cc own (some .long) nL) (hV : gV wd G ad A s.heap S H locs) {v : Int64} {z : Int64 × gS} (h : some (v, S) = some z) (d : decode cc pc = .ok (.lreturn, 1)) : W p l e R s m args below meth c H locs cells slots (MQ below (gQl wd G ad A z) args s cells slots A) (F0 m pc ls [.long v]) := by
  cases h
  obtain ⟨hx, hb, hr, hml, hown, hts, hlk, hK⟩ := X
  obtain ⟨hP, hD, hS⟩ := hV
  exact W.lret hx hb hr (fun t ht hW => ⟨⟨v, S, rfl, ⟨rfl, rfl⟩, by rw [ht]; exact hP, va_K.moved hW.alike hK, hD⟩, hS.F ht⟩) hS.2.2 d hlk
theorem gw_vret (X : gCx p s m args meth c G cc own none nL) (hV : gV wd G ad A s.heap S H locs) {z : Unit × gS} (h : some ((), S) = some z) (d : decode cc pc = .ok (.return_, 1)) : W p l e R s m args below meth c H locs cells slots (MQ below (gQv wd G ad A z) args s cells slots A) (F0 m pc ls []) := by
  cases h
  obtain ⟨hx, hb, hr, hml, hown, hts, hlk, hK⟩ := X
  obtain ⟨hP, hD, hS⟩ := hV
  exact W.vret hx hb hr (fun t ht hW => ⟨⟨S, rfl, rfl, by rw [ht]; exact hP, va_K.moved hW.alike hK, hD⟩, hS.F ht⟩) hS.2.2 d hlk
end GR
theorem g_bool0 : narrow .boolean (.int 0) = .int 0 := by decide
theorem g_bool1 : narrow .boolean (.int 1) = .int 1 := by decide
theorem g_boolv {v : Int32} (h : decide (v = 0 ∨ v = 1) = true) : narrow .boolean (.int v) = .int v := by
  rcases of_decide_eq_true h with rfl | rfl
  · exact g_bool0
  · exact g_bool1
theorem g_boolf {v : Int32} (h : decide (v = 0 ∨ v = 1) = true) : fits .boolean (.int v) = true := by
  rcases of_decide_eq_true h with rfl | rfl <;> decide

section
/-- a private method of a class that the tables say can be made, by its rows of tables_1 -/
def lw_okq (q : MethodName × Nat) : Prop := (q.1.cls ≠ "java/lang/invoke/MethodHandle" ∧ q.1.cls ≠ "java/lang/invoke/VarHandle") ∧ Cond.instantiable q.1.cls q.2 ∈ tables_1 ∧ Cond.privateMethod q.1 ∈ tables_1 ∧ Cond.instanceMethod q.1 ∈ tables_1
theorem lw_p0 : lw_okq (⟨"GlacierYears", "fail", "(I)I"⟩, 10) := ⟨⟨by decide +kernel, by decide +kernel⟩, List.mem_of_getElem? (i := 12) (by decide +kernel), List.mem_of_getElem? (i := 186) (by decide +kernel), List.mem_of_getElem? (i := 187) (by decide +kernel)⟩
theorem lw_p1 : lw_okq (⟨"GlacierYears", "levelFromStrips", "(II)J"⟩, 10) := ⟨⟨by decide +kernel, by decide +kernel⟩, List.mem_of_getElem? (i := 12) (by decide +kernel), List.mem_of_getElem? (i := 245) (by decide +kernel), List.mem_of_getElem? (i := 246) (by decide +kernel)⟩
theorem lw_p2 : lw_okq (⟨"GlacierYears$Land", "listIfOpen", "(I)V"⟩, 7) := ⟨⟨by decide +kernel, by decide +kernel⟩, List.mem_of_getElem? (i := 45) (by decide +kernel), List.mem_of_getElem? (i := 258) (by decide +kernel), List.mem_of_getElem? (i := 259) (by decide +kernel)⟩
theorem lw_p3 : lw_okq (⟨"GlacierYears", "refusalOfYears", "(I)I"⟩, 10) := ⟨⟨by decide +kernel, by decide +kernel⟩, List.mem_of_getElem? (i := 12) (by decide +kernel), List.mem_of_getElem? (i := 317) (by decide +kernel), List.mem_of_getElem? (i := 318) (by decide +kernel)⟩
theorem lw_p4 : lw_okq (⟨"GlacierYears", "passYear", "()V"⟩, 10) := ⟨⟨by decide +kernel, by decide +kernel⟩, List.mem_of_getElem? (i := 12) (by decide +kernel), List.mem_of_getElem? (i := 325) (by decide +kernel), List.mem_of_getElem? (i := 326) (by decide +kernel)⟩
theorem lw_p5 : lw_okq (⟨"GlacierYears", "snowAndMelt", "()V"⟩, 10) := ⟨⟨by decide +kernel, by decide +kernel⟩, List.mem_of_getElem? (i := 12) (by decide +kernel), List.mem_of_getElem? (i := 338) (by decide +kernel), List.mem_of_getElem? (i := 339) (by decide +kernel)⟩
theorem lw_p6 : lw_okq (⟨"GlacierYears", "moveIce", "()V"⟩, 10) := ⟨⟨by decide +kernel, by decide +kernel⟩, List.mem_of_getElem? (i := 12) (by decide +kernel), List.mem_of_getElem? (i := 362) (by decide +kernel), List.mem_of_getElem? (i := 363) (by decide +kernel)⟩
theorem lw_p7 : lw_okq (⟨"GlacierYears", "gift", "(II)J"⟩, 10) := ⟨⟨by decide +kernel, by decide +kernel⟩, List.mem_of_getElem? (i := 12) (by decide +kernel), List.mem_of_getElem? (i := 366) (by decide +kernel), List.mem_of_getElem? (i := 367) (by decide +kernel)⟩
theorem lw_p8 : lw_okq (⟨"GlacierYears", "surface", "(I)J"⟩, 10) := ⟨⟨by decide +kernel, by decide +kernel⟩, List.mem_of_getElem? (i := 12) (by decide +kernel), List.mem_of_getElem? (i := 374) (by decide +kernel), List.mem_of_getElem? (i := 375) (by decide +kernel)⟩
theorem lw_p9 : lw_okq (⟨"GlacierYears", "hand", "(IIJ)V"⟩, 10) := ⟨⟨by decide +kernel, by decide +kernel⟩, List.mem_of_getElem? (i := 12) (by decide +kernel), List.mem_of_getElem? (i := 382) (by decide +kernel), List.mem_of_getElem? (i := 383) (by decide +kernel)⟩
theorem lw_p10 : lw_okq (⟨"GlacierYears", "floatIce", "()V"⟩, 10) := ⟨⟨by decide +kernel, by decide +kernel⟩, List.mem_of_getElem? (i := 12) (by decide +kernel), List.mem_of_getElem? (i := 388) (by decide +kernel), List.mem_of_getElem? (i := 389) (by decide +kernel)⟩
theorem lw_p11 : lw_okq (⟨"GlacierYears", "remember", "(I)V"⟩, 10) := ⟨⟨by decide +kernel, by decide +kernel⟩, List.mem_of_getElem? (i := 12) (by decide +kernel), List.mem_of_getElem? (i := 404) (by decide +kernel), List.mem_of_getElem? (i := 405) (by decide +kernel)⟩
theorem lw_p12 : lw_okq (⟨"GlacierYears", "yearsSinceAlike", "(I)I"⟩, 10) := ⟨⟨by decide +kernel, by decide +kernel⟩, List.mem_of_getElem? (i := 12) (by decide +kernel), List.mem_of_getElem? (i := 408) (by decide +kernel), List.mem_of_getElem? (i := 409) (by decide +kernel)⟩
theorem lw_p13 : lw_okq (⟨"GlacierYears", "liesAsIn", "(I)Z"⟩, 10) := ⟨⟨by decide +kernel, by decide +kernel⟩, List.mem_of_getElem? (i := 12) (by decide +kernel), List.mem_of_getElem? (i := 412) (by decide +kernel), List.mem_of_getElem? (i := 413) (by decide +kernel)⟩
theorem lw_p14 : lw_okq (⟨"GlacierYears", "thickestPlace", "()I"⟩, 10) := ⟨⟨by decide +kernel, by decide +kernel⟩, List.mem_of_getElem? (i := 12) (by decide +kernel), List.mem_of_getElem? (i := 444) (by decide +kernel), List.mem_of_getElem? (i := 445) (by decide +kernel)⟩
theorem lw_p15 : lw_okq (⟨"GlacierYears", "icyCells", "()I"⟩, 10) := ⟨⟨by decide +kernel, by decide +kernel⟩, List.mem_of_getElem? (i := 12) (by decide +kernel), List.mem_of_getElem? (i := 448) (by decide +kernel), List.mem_of_getElem? (i := 449) (by decide +kernel)⟩
def lw_privs_1 : List (MethodName × Nat) := [(⟨"GlacierYears", "fail", "(I)I"⟩, 10), (⟨"GlacierYears", "levelFromStrips", "(II)J"⟩, 10), (⟨"GlacierYears$Land", "listIfOpen", "(I)V"⟩, 7), (⟨"GlacierYears", "refusalOfYears", "(I)I"⟩, 10), (⟨"GlacierYears", "passYear", "()V"⟩, 10), (⟨"GlacierYears", "snowAndMelt", "()V"⟩, 10), (⟨"GlacierYears", "moveIce", "()V"⟩, 10), (⟨"GlacierYears", "gift", "(II)J"⟩, 10), (⟨"GlacierYears", "surface", "(I)J"⟩, 10), (⟨"GlacierYears", "hand", "(IIJ)V"⟩, 10), (⟨"GlacierYears", "floatIce", "()V"⟩, 10), (⟨"GlacierYears", "remember", "(I)V"⟩, 10), (⟨"GlacierYears", "yearsSinceAlike", "(I)I"⟩, 10), (⟨"GlacierYears", "liesAsIn", "(I)Z"⟩, 10), (⟨"GlacierYears", "thickestPlace", "()I"⟩, 10), (⟨"GlacierYears", "icyCells", "()I"⟩, 10)]
theorem lw_r1 : ∀ q ∈ lw_privs_1, lw_okq q := List.forall_mem_cons.mpr ⟨lw_p0, List.forall_mem_cons.mpr ⟨lw_p1, List.forall_mem_cons.mpr ⟨lw_p2, List.forall_mem_cons.mpr ⟨lw_p3, List.forall_mem_cons.mpr ⟨lw_p4, List.forall_mem_cons.mpr ⟨lw_p5, List.forall_mem_cons.mpr ⟨lw_p6, List.forall_mem_cons.mpr ⟨lw_p7, List.forall_mem_cons.mpr ⟨lw_p8, List.forall_mem_cons.mpr ⟨lw_p9, List.forall_mem_cons.mpr ⟨lw_p10, List.forall_mem_cons.mpr ⟨lw_p11, List.forall_mem_cons.mpr ⟨lw_p12, List.forall_mem_cons.mpr ⟨lw_p13, List.forall_mem_cons.mpr ⟨lw_p14, List.forall_mem_cons.mpr ⟨lw_p15, fun _ h => absurd h List.not_mem_nil⟩⟩⟩⟩⟩⟩⟩⟩⟩⟩⟩⟩⟩⟩⟩⟩
theorem lw_p16 : lw_okq (⟨"GlacierYears", "lowestIceSurface", "()J"⟩, 10) := ⟨⟨by decide +kernel, by decide +kernel⟩, List.mem_of_getElem? (i := 12) (by decide +kernel), List.mem_of_getElem? (i := 452) (by decide +kernel), List.mem_of_getElem? (i := 453) (by decide +kernel)⟩
theorem lw_p17 : lw_okq (⟨"GlacierYears", "turnCells", "(Z)V"⟩, 10) := ⟨⟨by decide +kernel, by decide +kernel⟩, List.mem_of_getElem? (i := 12) (by decide +kernel), List.mem_of_getElem? (i := 474) (by decide +kernel), List.mem_of_getElem? (i := 475) (by decide +kernel)⟩
theorem lw_p18 : lw_okq (⟨"GlacierYears", "fetchCell", "(III)V"⟩, 10) := ⟨⟨by decide +kernel, by decide +kernel⟩, List.mem_of_getElem? (i := 12) (by decide +kernel), List.mem_of_getElem? (i := 478) (by decide +kernel), List.mem_of_getElem? (i := 479) (by decide +kernel)⟩
theorem lw_p19 : lw_okq (⟨"GlacierYears", "stripsThere", "()I"⟩, 10) := ⟨⟨by decide +kernel, by decide +kernel⟩, List.mem_of_getElem? (i := 12) (by decide +kernel), List.mem_of_getElem? (i := 494) (by decide +kernel), List.mem_of_getElem? (i := 495) (by decide +kernel)⟩
theorem lw_p20 : lw_okq (⟨"GlacierYearsModel", "failed", "(I)I"⟩, 27) := ⟨⟨by decide +kernel, by decide +kernel⟩, List.mem_of_getElem? (i := 498) (by decide +kernel), List.mem_of_getElem? (i := 598) (by decide +kernel), List.mem_of_getElem? (i := 599) (by decide +kernel)⟩
theorem lw_p21 : lw_okq (⟨"GlacierYearsModel", "isPlace", "(II)Z"⟩, 27) := ⟨⟨by decide +kernel, by decide +kernel⟩, List.mem_of_getElem? (i := 498) (by decide +kernel), List.mem_of_getElem? (i := 633) (by decide +kernel), List.mem_of_getElem? (i := 634) (by decide +kernel)⟩
theorem lw_p22 : lw_okq (⟨"GlacierYearsModel", "thick", "(I)J"⟩, 27) := ⟨⟨by decide +kernel, by decide +kernel⟩, List.mem_of_getElem? (i := 498) (by decide +kernel), List.mem_of_getElem? (i := 660) (by decide +kernel), List.mem_of_getElem? (i := 661) (by decide +kernel)⟩
theorem lw_p23 : lw_okq (⟨"GlacierYearsModel", "oneYear", "()V"⟩, 27) := ⟨⟨by decide +kernel, by decide +kernel⟩, List.mem_of_getElem? (i := 498) (by decide +kernel), List.mem_of_getElem? (i := 673) (by decide +kernel), List.mem_of_getElem? (i := 674) (by decide +kernel)⟩
theorem lw_p24 : lw_okq (⟨"GlacierYearsModel", "keep", "()V"⟩, 27) := ⟨⟨by decide +kernel, by decide +kernel⟩, List.mem_of_getElem? (i := 498) (by decide +kernel), List.mem_of_getElem? (i := 677) (by decide +kernel), List.mem_of_getElem? (i := 678) (by decide +kernel)⟩
theorem lw_p25 : lw_okq (⟨"GlacierYearsModel", "fall", "()V"⟩, 27) := ⟨⟨by decide +kernel, by decide +kernel⟩, List.mem_of_getElem? (i := 498) (by decide +kernel), List.mem_of_getElem? (i := 681) (by decide +kernel), List.mem_of_getElem? (i := 682) (by decide +kernel)⟩
theorem lw_p26 : lw_okq (⟨"GlacierYearsModel", "isIce", "(I)Z"⟩, 27) := ⟨⟨by decide +kernel, by decide +kernel⟩, List.mem_of_getElem? (i := 498) (by decide +kernel), List.mem_of_getElem? (i := 685) (by decide +kernel), List.mem_of_getElem? (i := 686) (by decide +kernel)⟩
theorem lw_p27 : lw_okq (⟨"GlacierYearsModel", "move", "()V"⟩, 27) := ⟨⟨by decide +kernel, by decide +kernel⟩, List.mem_of_getElem? (i := 498) (by decide +kernel), List.mem_of_getElem? (i := 692) (by decide +kernel), List.mem_of_getElem? (i := 693) (by decide +kernel)⟩
theorem lw_p28 : lw_okq (⟨"GlacierYearsModel", "given", "(II)J"⟩, 27) := ⟨⟨by decide +kernel, by decide +kernel⟩, List.mem_of_getElem? (i := 498) (by decide +kernel), List.mem_of_getElem? (i := 696) (by decide +kernel), List.mem_of_getElem? (i := 697) (by decide +kernel)⟩
theorem lw_p29 : lw_okq (⟨"GlacierYearsModel", "beside", "(II)I"⟩, 27) := ⟨⟨by decide +kernel, by decide +kernel⟩, List.mem_of_getElem? (i := 498) (by decide +kernel), List.mem_of_getElem? (i := 700) (by decide +kernel), List.mem_of_getElem? (i := 701) (by decide +kernel)⟩
theorem lw_p30 : lw_okq (⟨"GlacierYearsModel", "swim", "()V"⟩, 27) := ⟨⟨by decide +kernel, by decide +kernel⟩, List.mem_of_getElem? (i := 498) (by decide +kernel), List.mem_of_getElem? (i := 704) (by decide +kernel), List.mem_of_getElem? (i := 705) (by decide +kernel)⟩
theorem lw_p31 : lw_okq (⟨"GlacierYearsModel", "note", "(I)V"⟩, 27) := ⟨⟨by decide +kernel, by decide +kernel⟩, List.mem_of_getElem? (i := 498) (by decide +kernel), List.mem_of_getElem? (i := 712) (by decide +kernel), List.mem_of_getElem? (i := 713) (by decide +kernel)⟩
def lw_privs_2 : List (MethodName × Nat) := [(⟨"GlacierYears", "lowestIceSurface", "()J"⟩, 10), (⟨"GlacierYears", "turnCells", "(Z)V"⟩, 10), (⟨"GlacierYears", "fetchCell", "(III)V"⟩, 10), (⟨"GlacierYears", "stripsThere", "()I"⟩, 10), (⟨"GlacierYearsModel", "failed", "(I)I"⟩, 27), (⟨"GlacierYearsModel", "isPlace", "(II)Z"⟩, 27), (⟨"GlacierYearsModel", "thick", "(I)J"⟩, 27), (⟨"GlacierYearsModel", "oneYear", "()V"⟩, 27), (⟨"GlacierYearsModel", "keep", "()V"⟩, 27), (⟨"GlacierYearsModel", "fall", "()V"⟩, 27), (⟨"GlacierYearsModel", "isIce", "(I)Z"⟩, 27), (⟨"GlacierYearsModel", "move", "()V"⟩, 27), (⟨"GlacierYearsModel", "given", "(II)J"⟩, 27), (⟨"GlacierYearsModel", "beside", "(II)I"⟩, 27), (⟨"GlacierYearsModel", "swim", "()V"⟩, 27), (⟨"GlacierYearsModel", "note", "(I)V"⟩, 27)]
theorem lw_r2 : ∀ q ∈ lw_privs_2, lw_okq q := List.forall_mem_cons.mpr ⟨lw_p16, List.forall_mem_cons.mpr ⟨lw_p17, List.forall_mem_cons.mpr ⟨lw_p18, List.forall_mem_cons.mpr ⟨lw_p19, List.forall_mem_cons.mpr ⟨lw_p20, List.forall_mem_cons.mpr ⟨lw_p21, List.forall_mem_cons.mpr ⟨lw_p22, List.forall_mem_cons.mpr ⟨lw_p23, List.forall_mem_cons.mpr ⟨lw_p24, List.forall_mem_cons.mpr ⟨lw_p25, List.forall_mem_cons.mpr ⟨lw_p26, List.forall_mem_cons.mpr ⟨lw_p27, List.forall_mem_cons.mpr ⟨lw_p28, List.forall_mem_cons.mpr ⟨lw_p29, List.forall_mem_cons.mpr ⟨lw_p30, List.forall_mem_cons.mpr ⟨lw_p31, fun _ h => absurd h List.not_mem_nil⟩⟩⟩⟩⟩⟩⟩⟩⟩⟩⟩⟩⟩⟩⟩⟩
theorem lw_p32 : lw_okq (⟨"GlacierYearsModel", "isLike", "(II)Z"⟩, 27) := ⟨⟨by decide +kernel, by decide +kernel⟩, List.mem_of_getElem? (i := 498) (by decide +kernel), List.mem_of_getElem? (i := 716) (by decide +kernel), List.mem_of_getElem? (i := 717) (by decide +kernel)⟩
theorem lw_p33 : lw_okq (⟨"GlacierYearsModel", "layers", "(I)I"⟩, 27) := ⟨⟨by decide +kernel, by decide +kernel⟩, List.mem_of_getElem? (i := 498) (by decide +kernel), List.mem_of_getElem? (i := 725) (by decide +kernel), List.mem_of_getElem? (i := 726) (by decide +kernel)⟩
theorem lw_p34 : lw_okq (⟨"GlacierYearsModel", "layerOf", "(II)I"⟩, 27) := ⟨⟨by decide +kernel, by decide +kernel⟩, List.mem_of_getElem? (i := 498) (by decide +kernel), List.mem_of_getElem? (i := 729) (by decide +kernel), List.mem_of_getElem? (i := 730) (by decide +kernel)⟩
def lw_privs_3 : List (MethodName × Nat) := [(⟨"GlacierYearsModel", "isLike", "(II)Z"⟩, 27), (⟨"GlacierYearsModel", "layers", "(I)I"⟩, 27), (⟨"GlacierYearsModel", "layerOf", "(II)I"⟩, 27)]
theorem lw_r3 : ∀ q ∈ lw_privs_3, lw_okq q := List.forall_mem_cons.mpr ⟨lw_p32, List.forall_mem_cons.mpr ⟨lw_p33, List.forall_mem_cons.mpr ⟨lw_p34, fun _ h => absurd h List.not_mem_nil⟩⟩⟩
def lw_privs : List (MethodName × Nat) := lw_privs_1 ++ (lw_privs_2 ++ (lw_privs_3))
def lw_tbl : List Cond := k2_sels lw_privs ++ tables_1
theorem lw_privs_ok : ∀ q ∈ lw_privs, lw_okq q := by
  show ∀ q ∈ lw_privs_1 ++ (lw_privs_2 ++ (lw_privs_3)), lw_okq q
  exact List.forall_mem_append.mpr ⟨lw_r1, List.forall_mem_append.mpr ⟨lw_r2, lw_r3⟩⟩
def g_tbl : List Cond := lw_tbl.filter goodWord
theorem g_mem {w : Cond} (i : Nat) (h : lw_tbl[i]? = some w) (hg : goodWord w = true) : w ∈ g_tbl := List.mem_filter.mpr ⟨List.mem_of_getElem? h, hg⟩
theorem g_goodt : ∀ w ∈ g_tbl, w ∈ g_tbl ∧ ((w.onTables && w.keeps) = true ∨ ∃ ty, w = .arrayClass ty) := fun w h => ⟨h, good_of_word (List.mem_filter.mp h).2⟩
theorem g_good {c : Cond} (hc : c ∈ g_tbl) : GoodIn g_tbl (c :: g_tbl) := fun w h => by
  rcases List.mem_cons.mp h with rfl | h
  · exact g_goodt _ hc
  · exact g_goodt _ h
end
section
def RX0 : String := "GlacierYears$Ice"
def TX0 : u_T := fun k => match k with
  | 0 => ("GlacierYears$Ice", "grains", "[J", true)
  | 1 => ("GlacierYears$Ice", "thicknesses", "[J", true)
  | 2 => ("GlacierYears$Ice", "tallies", "[J", true)
  | _ => ("GlacierYears$Ice", "year", "I", false)
def tyX0 : Nat → FieldType := fun k => match k with
  | 0 => .array .long
  | 1 => .array .long
  | 2 => .array .long
  | _ => .int
theorem nmX0 : ∀ a, a < 4 → ∀ b, b < 4 → a ≠ b → (TX0 a).2.1 ≠ (TX0 b).2.1 := by decide +kernel
theorem tyX0_ok : ∀ k, k < 4 → parseFieldDescriptor (TX0 k).2.2.1 = some (tyX0 k) := by decide +kernel
abbrev cX0_init : ByteArray := prog_2_method_1_code
def yX0_init : MethodName := ⟨RX0, "<init>", "()V"⟩
abbrev cX0_clear : ByteArray := prog_2_method_2_code
def yX0_clear : MethodName := ⟨RX0, "clear", "()V"⟩
abbrev cX0_become : ByteArray := prog_2_method_3_code
def yX0_become : MethodName := ⟨RX0, "become", "(LGlacierYears$Ice;)V"⟩
abbrev cX0_settleAs : ByteArray := prog_2_method_4_code
def yX0_settleAs : MethodName := ⟨RX0, "settleAs", "(ILGlacierYears$Ice;I)V"⟩
abbrev cX0_lay : ByteArray := prog_2_method_5_code
def yX0_lay : MethodName := ⟨RX0, "lay", "(IIJ)V"⟩
abbrev cX0_lift : ByteArray := prog_2_method_6_code
def yX0_lift : MethodName := ⟨RX0, "lift", "(IIJ)V"⟩
abbrev cX0_arrive : ByteArray := prog_2_method_7_code
def yX0_arrive : MethodName := ⟨RX0, "arrive", "(IIJ)V"⟩
abbrev cX0_lose : ByteArray := prog_2_method_8_code
def yX0_lose : MethodName := ⟨RX0, "lose", "(IJI)V"⟩
abbrev cX0_layerCount : ByteArray := prog_2_method_9_code
def yX0_layerCount : MethodName := ⟨RX0, "layerCount", "(I)I"⟩
abbrev cX0_layerYear : ByteArray := prog_2_method_10_code
def yX0_layerYear : MethodName := ⟨RX0, "layerYear", "(II)I"⟩
abbrev cX0_oldestYear : ByteArray := prog_2_method_11_code
def yX0_oldestYear : MethodName := ⟨RX0, "oldestYear", "()I"⟩
abbrev cX0_tallyOfAll : ByteArray := prog_2_method_12_code
def yX0_tallyOfAll : MethodName := ⟨RX0, "tallyOfAll", "(I)J"⟩
def RX1 : String := "GlacierYears$Land"
def TX1 : u_T := fun k => match k with
  | 0 => ("GlacierYears$Land", "levels", "[I", true)
  | 1 => ("GlacierYears$Land", "kinds", "[I", true)
  | 2 => ("GlacierYears$Land", "hundredths", "[I", true)
  | 3 => ("GlacierYears$Land", "open", "[I", true)
  | 4 => ("GlacierYears$Land", "openCells", "I", false)
  | 5 => ("GlacierYears$Land", "width", "I", false)
  | _ => ("GlacierYears$Land", "height", "I", false)
def tyX1 : Nat → FieldType := fun k => match k with
  | 0 => .array .int
  | 1 => .array .int
  | 2 => .array .int
  | 3 => .array .int
  | 4 => .int
  | 5 => .int
  | _ => .int
theorem nmX1 : ∀ a, a < 7 → ∀ b, b < 7 → a ≠ b → (TX1 a).2.1 ≠ (TX1 b).2.1 := by decide +kernel
theorem tyX1_ok : ∀ k, k < 7 → parseFieldDescriptor (TX1 k).2.2.1 = some (tyX1 k) := by decide +kernel
abbrev cX1_init : ByteArray := prog_3_method_1_code
def yX1_init : MethodName := ⟨RX1, "<init>", "()V"⟩
abbrev cX1_lies : ByteArray := prog_3_method_2_code
def yX1_lies : MethodName := ⟨RX1, "lies", "()Z"⟩
abbrev cX1_placeAt : ByteArray := prog_3_method_3_code
def yX1_placeAt : MethodName := ⟨RX1, "placeAt", "(II)I"⟩
abbrev cX1_neighbour : ByteArray := prog_3_method_4_code
def yX1_neighbour : MethodName := ⟨RX1, "neighbour", "(II)I"⟩
abbrev cX1_cliffs : ByteArray := prog_3_method_5_code
def yX1_cliffs : MethodName := ⟨RX1, "cliffs", "()I"⟩
abbrev cX1_band : ByteArray := prog_3_method_6_code
def yX1_band : MethodName := ⟨RX1, "band", "(I)I"⟩
abbrev cX1_meltLeft : ByteArray := prog_3_method_7_code
def yX1_meltLeft : MethodName := ⟨RX1, "meltLeft", "(IJ)J"⟩
abbrev cX1_begin : ByteArray := prog_3_method_8_code
def yX1_begin : MethodName := ⟨RX1, "begin", "(II)V"⟩
abbrev cX1_settle : ByteArray := prog_3_method_9_code
def yX1_settle : MethodName := ⟨RX1, "settle", "(IIJ)V"⟩
abbrev cX1_settleAs : ByteArray := prog_3_method_10_code
def yX1_settleAs : MethodName := ⟨RX1, "settleAs", "(ILGlacierYears$Land;I)V"⟩
abbrev cX1_listIfOpen : ByteArray := prog_3_method_11_code
def yX1_listIfOpen : MethodName := ⟨RX1, "listIfOpen", "(I)V"⟩
abbrev cX1_becomeCellsOf : ByteArray := prog_3_method_12_code
def yX1_becomeCellsOf : MethodName := ⟨RX1, "becomeCellsOf", "(LGlacierYears$Land;)V"⟩
def RX2 : String := "GlacierYears$Past"
def TX2 : u_T := fun k => match k with
  | 0 => ("GlacierYears$Past", "ring", "[LGlacierYears$Ice;", true)
  | 1 => ("GlacierYears$Past", "next", "I", false)
  | _ => ("GlacierYears$Past", "kept", "I", false)
def tyX2 : Nat → FieldType := fun k => match k with
  | 0 => .array (.object "GlacierYears$Ice")
  | 1 => .int
  | _ => .int
theorem nmX2 : ∀ a, a < 3 → ∀ b, b < 3 → a ≠ b → (TX2 a).2.1 ≠ (TX2 b).2.1 := by decide +kernel
theorem tyX2_ok : ∀ k, k < 3 → parseFieldDescriptor (TX2 k).2.2.1 = some (tyX2 k) := by decide +kernel
abbrev cX2_init : ByteArray := prog_4_method_1_code
def yX2_init : MethodName := ⟨RX2, "<init>", "()V"⟩
abbrev cX2_keep : ByteArray := prog_4_method_2_code
def yX2_keep : MethodName := ⟨RX2, "keep", "(LGlacierYears$Ice;)V"⟩
abbrev cX2_restore : ByteArray := prog_4_method_3_code
def yX2_restore : MethodName := ⟨RX2, "restore", "(LGlacierYears$Ice;)V"⟩
abbrev cX2_forget : ByteArray := prog_4_method_4_code
def yX2_forget : MethodName := ⟨RX2, "forget", "()V"⟩
def RX3 : String := "GlacierYears$Strip"
def TX3 : u_T := fun k => match k with
  | 0 => ("GlacierYears$Strip", "places", "[J", true)
  | 1 => ("GlacierYears$Strip", "missing", "Z", false)
  | 2 => ("GlacierYears$Strip", "lane", "I", false)
  | _ => ("GlacierYears$Strip", "length", "I", false)
def tyX3 : Nat → FieldType := fun k => match k with
  | 0 => .array .long
  | 1 => .boolean
  | 2 => .int
  | _ => .int
theorem nmX3 : ∀ a, a < 4 → ∀ b, b < 4 → a ≠ b → (TX3 a).2.1 ≠ (TX3 b).2.1 := by decide +kernel
theorem tyX3_ok : ∀ k, k < 4 → parseFieldDescriptor (TX3 k).2.2.1 = some (tyX3 k) := by decide +kernel
abbrev cX3_init : ByteArray := prog_5_method_1_code
def yX3_init : MethodName := ⟨RX3, "<init>", "()V"⟩
abbrev cX3_begin : ByteArray := prog_5_method_2_code
def yX3_begin : MethodName := ⟨RX3, "begin", "(II)V"⟩
abbrev cX3_end : ByteArray := prog_5_method_3_code
def yX3_end : MethodName := ⟨RX3, "end", "()V"⟩
abbrev cX3_has : ByteArray := prog_5_method_4_code
def yX3_has : MethodName := ⟨RX3, "has", "(I)Z"⟩
abbrev cX3_hasAll : ByteArray := prog_5_method_5_code
def yX3_hasAll : MethodName := ⟨RX3, "hasAll", "(II)Z"⟩
abbrev cX3_store : ByteArray := prog_5_method_6_code
def yX3_store : MethodName := ⟨RX3, "store", "(IJ)V"⟩
def RX4 : String := "GlacierYears$Told"
def TX4 : u_T := fun k => match k with
  | 0 => ("GlacierYears$Told", "snow", "[I", true)
  | 1 => ("GlacierYears$Told", "melt", "[I", true)
  | 2 => ("GlacierYears$Told", "fraction", "I", false)
  | _ => ("GlacierYears$Told", "cap", "I", false)
def tyX4 : Nat → FieldType := fun k => match k with
  | 0 => .array .int
  | 1 => .array .int
  | 2 => .int
  | _ => .int
theorem nmX4 : ∀ a, a < 4 → ∀ b, b < 4 → a ≠ b → (TX4 a).2.1 ≠ (TX4 b).2.1 := by decide +kernel
theorem tyX4_ok : ∀ k, k < 4 → parseFieldDescriptor (TX4 k).2.2.1 = some (tyX4 k) := by decide +kernel
abbrev cX4_init : ByteArray := prog_6_method_1_code
def yX4_init : MethodName := ⟨RX4, "<init>", "()V"⟩
def RX5 : String := "GlacierYears"
def TX5 : u_T := fun k => match k with
  | 0 => ("GlacierYears", "strips", "[LGlacierYears$Strip;", true)
  | 1 => ("GlacierYears", "told", "LGlacierYears$Told;", true)
  | 2 => ("GlacierYears", "land", "LGlacierYears$Land;", true)
  | 3 => ("GlacierYears", "ice", "LGlacierYears$Ice;", true)
  | 4 => ("GlacierYears", "past", "LGlacierYears$Past;", true)
  | 5 => ("GlacierYears", "oldLand", "LGlacierYears$Land;", true)
  | 6 => ("GlacierYears", "oldIce", "LGlacierYears$Ice;", true)
  | 7 => ("GlacierYears", "gifts", "[J", true)
  | 8 => ("GlacierYears", "seen", "[J", true)
  | _ => ("GlacierYears", "failures", "I", false)
def tyX5 : Nat → FieldType := fun k => match k with
  | 0 => .array (.object "GlacierYears$Strip")
  | 1 => .object "GlacierYears$Told"
  | 2 => .object "GlacierYears$Land"
  | 3 => .object "GlacierYears$Ice"
  | 4 => .object "GlacierYears$Past"
  | 5 => .object "GlacierYears$Land"
  | 6 => .object "GlacierYears$Ice"
  | 7 => .array .long
  | 8 => .array .long
  | _ => .int
theorem nmX5 : ∀ a, a < 10 → ∀ b, b < 10 → a ≠ b → (TX5 a).2.1 ≠ (TX5 b).2.1 := by decide +kernel
theorem tyX5_ok : ∀ k, k < 10 → parseFieldDescriptor (TX5 k).2.2.1 = some (tyX5 k) := by decide +kernel
abbrev cX5_init : ByteArray := prog_1_method_1_code
def yX5_init : MethodName := ⟨RX5, "<init>", "()V"⟩
abbrev cX5_strip : ByteArray := prog_1_method_2_code
def yX5_strip : MethodName := ⟨RX5, "strip", "(III)I"⟩
abbrev cX5_tear : ByteArray := prog_1_method_3_code
def yX5_tear : MethodName := ⟨RX5, "tear", "(I)I"⟩
abbrev cX5_put : ByteArray := prog_1_method_4_code
def yX5_put : MethodName := ⟨RX5, "put", "(IIJ)I"⟩
abbrev cX5_at : ByteArray := prog_1_method_5_code
def yX5_at : MethodName := ⟨RX5, "at", "(III)J"⟩
abbrev cX5_copy : ByteArray := prog_1_method_6_code
def yX5_copy : MethodName := ⟨RX5, "copy", "(IIIII)I"⟩
abbrev cX5_ground : ByteArray := prog_1_method_7_code
def yX5_ground : MethodName := ⟨RX5, "ground", "(II)I"⟩
abbrev cX5_kind : ByteArray := prog_1_method_8_code
def yX5_kind : MethodName := ⟨RX5, "kind", "(IIII)I"⟩
abbrev cX5_taken : ByteArray := prog_1_method_9_code
def yX5_taken : MethodName := ⟨RX5, "taken", "(IIII)I"⟩
abbrev cX5_tell : ByteArray := prog_1_method_10_code
def yX5_tell : MethodName := ⟨RX5, "tell", "(ZII)I"⟩
abbrev cX5_rule : ByteArray := prog_1_method_11_code
def yX5_rule : MethodName := ⟨RX5, "rule", "(II)I"⟩
abbrev cX5_ice : ByteArray := prog_1_method_12_code
def yX5_ice : MethodName := ⟨RX5, "ice", "(III)J"⟩
abbrev cX5_years : ByteArray := prog_1_method_13_code
def yX5_years : MethodName := ⟨RX5, "years", "(I)I"⟩
abbrev cX5_back : ByteArray := prog_1_method_14_code
def yX5_back : MethodName := ⟨RX5, "back", "()I"⟩
abbrev cX5_steady : ByteArray := prog_1_method_15_code
def yX5_steady : MethodName := ⟨RX5, "steady", "(I)I"⟩
abbrev cX5_cell : ByteArray := prog_1_method_16_code
def yX5_cell : MethodName := ⟨RX5, "cell", "(III)J"⟩
abbrev cX5_layer : ByteArray := prog_1_method_17_code
def yX5_layer : MethodName := ⟨RX5, "layer", "(IIII)J"⟩
abbrev cX5_sum : ByteArray := prog_1_method_18_code
def yX5_sum : MethodName := ⟨RX5, "sum", "(II)J"⟩
abbrev cX5_about : ByteArray := prog_1_method_19_code
def yX5_about : MethodName := ⟨RX5, "about", "(I)J"⟩
abbrev cX5_gives : ByteArray := prog_1_method_20_code
def yX5_gives : MethodName := ⟨RX5, "gives", "(III)J"⟩
abbrev cX5_turn : ByteArray := prog_1_method_21_code
def yX5_turn : MethodName := ⟨RX5, "turn", "(I)I"⟩
abbrev cX5_count : ByteArray := prog_1_method_22_code
def yX5_count : MethodName := ⟨RX5, "count", "(I)I"⟩
abbrev cX5_fail : ByteArray := prog_1_method_23_code
def yX5_fail : MethodName := ⟨RX5, "fail", "(I)I"⟩
abbrev cX5_isStrip : ByteArray := prog_1_method_24_code
def yX5_isStrip : MethodName := ⟨RX5, "isStrip", "(I)Z"⟩
abbrev cX5_isLane : ByteArray := prog_1_method_25_code
def yX5_isLane : MethodName := ⟨RX5, "isLane", "(I)Z"⟩
abbrev cX5_isSide : ByteArray := prog_1_method_26_code
def yX5_isSide : MethodName := ⟨RX5, "isSide", "(I)Z"⟩
abbrev cX5_isHundredths : ByteArray := prog_1_method_27_code
def yX5_isHundredths : MethodName := ⟨RX5, "isHundredths", "(I)Z"⟩
abbrev cX5_countsAs : ByteArray := prog_1_method_28_code
def yX5_countsAs : MethodName := ⟨RX5, "countsAs", "(II)Z"⟩
abbrev cX5_stripsThere : ByteArray := prog_1_method_29_code
def yX5_stripsThere : MethodName := ⟨RX5, "stripsThere", "()I"⟩
abbrev cX5_levelFromStrips : ByteArray := prog_1_method_30_code
def yX5_levelFromStrips : MethodName := ⟨RX5, "levelFromStrips", "(II)J"⟩
abbrev cX5_surface : ByteArray := prog_1_method_31_code
def yX5_surface : MethodName := ⟨RX5, "surface", "(I)J"⟩
abbrev cX5_refusalOfYears : ByteArray := prog_1_method_32_code
def yX5_refusalOfYears : MethodName := ⟨RX5, "refusalOfYears", "(I)I"⟩
abbrev cX5_passYear : ByteArray := prog_1_method_33_code
def yX5_passYear : MethodName := ⟨RX5, "passYear", "()V"⟩
abbrev cX5_snowAndMelt : ByteArray := prog_1_method_34_code
def yX5_snowAndMelt : MethodName := ⟨RX5, "snowAndMelt", "()V"⟩
abbrev cX5_moveIce : ByteArray := prog_1_method_35_code
def yX5_moveIce : MethodName := ⟨RX5, "moveIce", "()V"⟩
abbrev cX5_gift : ByteArray := prog_1_method_36_code
def yX5_gift : MethodName := ⟨RX5, "gift", "(II)J"⟩
abbrev cX5_hand : ByteArray := prog_1_method_37_code
def yX5_hand : MethodName := ⟨RX5, "hand", "(IIJ)V"⟩
abbrev cX5_floatIce : ByteArray := prog_1_method_38_code
def yX5_floatIce : MethodName := ⟨RX5, "floatIce", "()V"⟩
abbrev cX5_remember : ByteArray := prog_1_method_39_code
def yX5_remember : MethodName := ⟨RX5, "remember", "(I)V"⟩
abbrev cX5_yearsSinceAlike : ByteArray := prog_1_method_40_code
def yX5_yearsSinceAlike : MethodName := ⟨RX5, "yearsSinceAlike", "(I)I"⟩
abbrev cX5_liesAsIn : ByteArray := prog_1_method_41_code
def yX5_liesAsIn : MethodName := ⟨RX5, "liesAsIn", "(I)Z"⟩
abbrev cX5_icyCells : ByteArray := prog_1_method_42_code
def yX5_icyCells : MethodName := ⟨RX5, "icyCells", "()I"⟩
abbrev cX5_thickestPlace : ByteArray := prog_1_method_43_code
def yX5_thickestPlace : MethodName := ⟨RX5, "thickestPlace", "()I"⟩
abbrev cX5_lowestIceSurface : ByteArray := prog_1_method_44_code
def yX5_lowestIceSurface : MethodName := ⟨RX5, "lowestIceSurface", "()J"⟩
abbrev cX5_turnCells : ByteArray := prog_1_method_45_code
def yX5_turnCells : MethodName := ⟨RX5, "turnCells", "(Z)V"⟩
abbrev cX5_fetchCell : ByteArray := prog_1_method_46_code
def yX5_fetchCell : MethodName := ⟨RX5, "fetchCell", "(III)V"⟩
def RX6 : String := "GlacierYearsModel"
def TX6 : u_T := fun k => match k with
  | 0 => ("GlacierYearsModel", "laneOf", "[I", true)
  | 1 => ("GlacierYearsModel", "many", "[I", true)
  | 2 => ("GlacierYearsModel", "number", "[J", true)
  | 3 => ("GlacierYearsModel", "failures", "I", false)
  | 4 => ("GlacierYearsModel", "held", "[J", true)
  | 5 => ("GlacierYearsModel", "width", "I", false)
  | 6 => ("GlacierYearsModel", "height", "I", false)
  | 7 => ("GlacierYearsModel", "year", "I", false)
  | 8 => ("GlacierYearsModel", "kind", "[I", true)
  | 9 => ("GlacierYearsModel", "hundredths", "[I", true)
  | 10 => ("GlacierYearsModel", "level", "[I", true)
  | 11 => ("GlacierYearsModel", "ice", "[J", true)
  | 12 => ("GlacierYearsModel", "sums", "[J", true)
  | 13 => ("GlacierYearsModel", "snow", "[I", true)
  | 14 => ("GlacierYearsModel", "melt", "[I", true)
  | 15 => ("GlacierYearsModel", "fraction", "I", false)
  | 16 => ("GlacierYearsModel", "cap", "I", false)
  | 17 => ("GlacierYearsModel", "kept", "I", false)
  | 18 => ("GlacierYearsModel", "ring", "I", false)
  | 19 => ("GlacierYearsModel", "keptIce", "[J", true)
  | 20 => ("GlacierYearsModel", "keptSums", "[J", true)
  | 21 => ("GlacierYearsModel", "gift", "[J", true)
  | 22 => ("GlacierYearsModel", "before", "[J", true)
  | 23 => ("GlacierYearsModel", "stood", "[J", true)
  | 24 => ("GlacierYearsModel", "oldKind", "[I", true)
  | 25 => ("GlacierYearsModel", "oldShare", "[I", true)
  | _ => ("GlacierYearsModel", "oldLevel", "[I", true)
def tyX6 : Nat → FieldType := fun k => match k with
  | 0 => .array .int
  | 1 => .array .int
  | 2 => .array .long
  | 3 => .int
  | 4 => .array .long
  | 5 => .int
  | 6 => .int
  | 7 => .int
  | 8 => .array .int
  | 9 => .array .int
  | 10 => .array .int
  | 11 => .array .long
  | 12 => .array .long
  | 13 => .array .int
  | 14 => .array .int
  | 15 => .int
  | 16 => .int
  | 17 => .int
  | 18 => .int
  | 19 => .array .long
  | 20 => .array .long
  | 21 => .array .long
  | 22 => .array .long
  | 23 => .array .long
  | 24 => .array .int
  | 25 => .array .int
  | _ => .array .int
theorem nmX6 : ∀ a, a < 27 → ∀ b, b < 27 → a ≠ b → (TX6 a).2.1 ≠ (TX6 b).2.1 := by decide +kernel
theorem tyX6_ok : ∀ k, k < 27 → parseFieldDescriptor (TX6 k).2.2.1 = some (tyX6 k) := by decide +kernel
abbrev cX6_init : ByteArray := prog_8_method_1_code
def yX6_init : MethodName := ⟨RX6, "<init>", "()V"⟩
abbrev cX6_in : ByteArray := prog_8_method_3_code
def yX6_in : MethodName := ⟨RX6, "in", "(JJJ)Z"⟩
abbrev cX6_failed : ByteArray := prog_8_method_4_code
def yX6_failed : MethodName := ⟨RX6, "failed", "(I)I"⟩
abbrev cX6_cut : ByteArray := prog_8_method_5_code
def yX6_cut : MethodName := ⟨RX6, "cut", "(IJ)J"⟩
abbrev cX6_isStrip : ByteArray := prog_8_method_6_code
def yX6_isStrip : MethodName := ⟨RX6, "isStrip", "(I)Z"⟩
abbrev cX6_strip : ByteArray := prog_8_method_7_code
def yX6_strip : MethodName := ⟨RX6, "strip", "(III)I"⟩
abbrev cX6_tear : ByteArray := prog_8_method_8_code
def yX6_tear : MethodName := ⟨RX6, "tear", "(I)I"⟩
abbrev cX6_put : ByteArray := prog_8_method_9_code
def yX6_put : MethodName := ⟨RX6, "put", "(IIJ)I"⟩
abbrev cX6_at : ByteArray := prog_8_method_10_code
def yX6_at : MethodName := ⟨RX6, "at", "(III)J"⟩
abbrev cX6_copy : ByteArray := prog_8_method_11_code
def yX6_copy : MethodName := ⟨RX6, "copy", "(IIIII)I"⟩
abbrev cX6_isPlace : ByteArray := prog_8_method_12_code
def yX6_isPlace : MethodName := ⟨RX6, "isPlace", "(II)Z"⟩
abbrev cX6_ground : ByteArray := prog_8_method_13_code
def yX6_ground : MethodName := ⟨RX6, "ground", "(II)I"⟩
abbrev cX6_kind : ByteArray := prog_8_method_14_code
def yX6_kind : MethodName := ⟨RX6, "kind", "(IIII)I"⟩
abbrev cX6_taken : ByteArray := prog_8_method_15_code
def yX6_taken : MethodName := ⟨RX6, "taken", "(IIII)I"⟩
abbrev cX6_tell : ByteArray := prog_8_method_16_code
def yX6_tell : MethodName := ⟨RX6, "tell", "(ZII)I"⟩
abbrev cX6_rule : ByteArray := prog_8_method_17_code
def yX6_rule : MethodName := ⟨RX6, "rule", "(II)I"⟩
abbrev cX6_thick : ByteArray := prog_8_method_18_code
def yX6_thick : MethodName := ⟨RX6, "thick", "(I)J"⟩
abbrev cX6_ice : ByteArray := prog_8_method_19_code
def yX6_ice : MethodName := ⟨RX6, "ice", "(III)J"⟩
abbrev cX6_keep : ByteArray := prog_8_method_20_code
def yX6_keep : MethodName := ⟨RX6, "keep", "()V"⟩
abbrev cX6_back : ByteArray := prog_8_method_21_code
def yX6_back : MethodName := ⟨RX6, "back", "()I"⟩
abbrev cX6_beside : ByteArray := prog_8_method_22_code
def yX6_beside : MethodName := ⟨RX6, "beside", "(II)I"⟩
abbrev cX6_lesser : ByteArray := prog_8_method_23_code
def yX6_lesser : MethodName := ⟨RX6, "lesser", "(JJ)J"⟩
abbrev cX6_given : ByteArray := prog_8_method_24_code
def yX6_given : MethodName := ⟨RX6, "given", "(II)J"⟩
abbrev cX6_isIce : ByteArray := prog_8_method_25_code
def yX6_isIce : MethodName := ⟨RX6, "isIce", "(I)Z"⟩
abbrev cX6_fall : ByteArray := prog_8_method_26_code
def yX6_fall : MethodName := ⟨RX6, "fall", "()V"⟩
abbrev cX6_move : ByteArray := prog_8_method_27_code
def yX6_move : MethodName := ⟨RX6, "move", "()V"⟩
abbrev cX6_swim : ByteArray := prog_8_method_28_code
def yX6_swim : MethodName := ⟨RX6, "swim", "()V"⟩
abbrev cX6_oneYear : ByteArray := prog_8_method_29_code
def yX6_oneYear : MethodName := ⟨RX6, "oneYear", "()V"⟩
abbrev cX6_years : ByteArray := prog_8_method_30_code
def yX6_years : MethodName := ⟨RX6, "years", "(I)I"⟩
abbrev cX6_note : ByteArray := prog_8_method_31_code
def yX6_note : MethodName := ⟨RX6, "note", "(I)V"⟩
abbrev cX6_isLike : ByteArray := prog_8_method_32_code
def yX6_isLike : MethodName := ⟨RX6, "isLike", "(II)Z"⟩
abbrev cX6_steady : ByteArray := prog_8_method_33_code
def yX6_steady : MethodName := ⟨RX6, "steady", "(I)I"⟩
abbrev cX6_layerOf : ByteArray := prog_8_method_34_code
def yX6_layerOf : MethodName := ⟨RX6, "layerOf", "(II)I"⟩
abbrev cX6_layers : ByteArray := prog_8_method_35_code
def yX6_layers : MethodName := ⟨RX6, "layers", "(I)I"⟩
abbrev cX6_cell : ByteArray := prog_8_method_36_code
def yX6_cell : MethodName := ⟨RX6, "cell", "(III)J"⟩
abbrev cX6_layer : ByteArray := prog_8_method_37_code
def yX6_layer : MethodName := ⟨RX6, "layer", "(IIII)J"⟩
abbrev cX6_sum : ByteArray := prog_8_method_38_code
def yX6_sum : MethodName := ⟨RX6, "sum", "(II)J"⟩
abbrev cX6_about : ByteArray := prog_8_method_39_code
def yX6_about : MethodName := ⟨RX6, "about", "(I)J"⟩
abbrev cX6_gives : ByteArray := prog_8_method_40_code
def yX6_gives : MethodName := ⟨RX6, "gives", "(III)J"⟩
abbrev cX6_turn : ByteArray := prog_8_method_41_code
def yX6_turn : MethodName := ⟨RX6, "turn", "(I)I"⟩
abbrev cX6_count : ByteArray := prog_8_method_42_code
def yX6_count : MethodName := ⟨RX6, "count", "(I)I"⟩
def RJ9 : String := "java/lang/Math"
abbrev cJ9_min_f86c9 : ByteArray := prog_9_method_70_code
def yJ9_min_f86c9 : MethodName := ⟨RJ9, "min", "(JJ)J"⟩
def RJ10 : String := "java/lang/System"
def RJ7 : String := "java/util/Arrays"
abbrev cJ7_fill_d0a16 : ByteArray := prog_11_method_101_code
def yJ7_fill_d0a16 : MethodName := ⟨RJ7, "fill", "([JJ)V"⟩
def RL : String := "GlacierYearsLaw"
abbrev cL_law : ByteArray := code
def yL_law : MethodName := ⟨RL, "law", "([I)Z"⟩
abbrev vwCl : List vw_C := [(RX0, TX0, 4), (RX1, TX1, 7), (RX2, TX2, 3), (RX3, TX3, 4), (RX4, TX4, 4), (RX5, TX5, 10), (RX6, TX6, 27)]
/-! the words of the tables that are good anywhere, by their places in lw_tbl -/
theorem q_0 : (Jvm.Cond.selects "GlacierYears" ({ cls := "GlacierYears", name := "fail", desc := "(I)I" } : Jvm.MethodName) ({ cls := "GlacierYears", name := "fail", desc := "(I)I" } : Jvm.MethodName)) ∈ g_tbl := g_mem 0 (by decide +kernel) (by decide +kernel)
theorem q_1 : (Jvm.Cond.selects "GlacierYears" ({ cls := "GlacierYears", name := "levelFromStrips", desc := "(II)J" } : Jvm.MethodName) ({ cls := "GlacierYears", name := "levelFromStrips", desc := "(II)J" } : Jvm.MethodName)) ∈ g_tbl := g_mem 1 (by decide +kernel) (by decide +kernel)
theorem q_2 : (Jvm.Cond.selects "GlacierYears$Land" ({ cls := "GlacierYears$Land", name := "listIfOpen", desc := "(I)V" } : Jvm.MethodName) ({ cls := "GlacierYears$Land", name := "listIfOpen", desc := "(I)V" } : Jvm.MethodName)) ∈ g_tbl := g_mem 2 (by decide +kernel) (by decide +kernel)
theorem q_3 : (Jvm.Cond.selects "GlacierYears" ({ cls := "GlacierYears", name := "refusalOfYears", desc := "(I)I" } : Jvm.MethodName) ({ cls := "GlacierYears", name := "refusalOfYears", desc := "(I)I" } : Jvm.MethodName)) ∈ g_tbl := g_mem 3 (by decide +kernel) (by decide +kernel)
theorem q_4 : (Jvm.Cond.selects "GlacierYears" ({ cls := "GlacierYears", name := "passYear", desc := "()V" } : Jvm.MethodName) ({ cls := "GlacierYears", name := "passYear", desc := "()V" } : Jvm.MethodName)) ∈ g_tbl := g_mem 4 (by decide +kernel) (by decide +kernel)
theorem q_5 : (Jvm.Cond.selects "GlacierYears" ({ cls := "GlacierYears", name := "snowAndMelt", desc := "()V" } : Jvm.MethodName) ({ cls := "GlacierYears", name := "snowAndMelt", desc := "()V" } : Jvm.MethodName)) ∈ g_tbl := g_mem 5 (by decide +kernel) (by decide +kernel)
theorem q_6 : (Jvm.Cond.selects "GlacierYears" ({ cls := "GlacierYears", name := "moveIce", desc := "()V" } : Jvm.MethodName) ({ cls := "GlacierYears", name := "moveIce", desc := "()V" } : Jvm.MethodName)) ∈ g_tbl := g_mem 6 (by decide +kernel) (by decide +kernel)
theorem q_7 : (Jvm.Cond.selects "GlacierYears" ({ cls := "GlacierYears", name := "gift", desc := "(II)J" } : Jvm.MethodName) ({ cls := "GlacierYears", name := "gift", desc := "(II)J" } : Jvm.MethodName)) ∈ g_tbl := g_mem 7 (by decide +kernel) (by decide +kernel)
theorem q_8 : (Jvm.Cond.selects "GlacierYears" ({ cls := "GlacierYears", name := "surface", desc := "(I)J" } : Jvm.MethodName) ({ cls := "GlacierYears", name := "surface", desc := "(I)J" } : Jvm.MethodName)) ∈ g_tbl := g_mem 8 (by decide +kernel) (by decide +kernel)
theorem q_9 : (Jvm.Cond.selects "GlacierYears" ({ cls := "GlacierYears", name := "hand", desc := "(IIJ)V" } : Jvm.MethodName) ({ cls := "GlacierYears", name := "hand", desc := "(IIJ)V" } : Jvm.MethodName)) ∈ g_tbl := g_mem 9 (by decide +kernel) (by decide +kernel)
theorem q_10 : (Jvm.Cond.selects "GlacierYears" ({ cls := "GlacierYears", name := "floatIce", desc := "()V" } : Jvm.MethodName) ({ cls := "GlacierYears", name := "floatIce", desc := "()V" } : Jvm.MethodName)) ∈ g_tbl := g_mem 10 (by decide +kernel) (by decide +kernel)
theorem q_11 : (Jvm.Cond.selects "GlacierYears" ({ cls := "GlacierYears", name := "remember", desc := "(I)V" } : Jvm.MethodName) ({ cls := "GlacierYears", name := "remember", desc := "(I)V" } : Jvm.MethodName)) ∈ g_tbl := g_mem 11 (by decide +kernel) (by decide +kernel)
theorem q_12 : (Jvm.Cond.selects "GlacierYears" ({ cls := "GlacierYears", name := "yearsSinceAlike", desc := "(I)I" } : Jvm.MethodName) ({ cls := "GlacierYears", name := "yearsSinceAlike", desc := "(I)I" } : Jvm.MethodName)) ∈ g_tbl := g_mem 12 (by decide +kernel) (by decide +kernel)
theorem q_13 : (Jvm.Cond.selects "GlacierYears" ({ cls := "GlacierYears", name := "liesAsIn", desc := "(I)Z" } : Jvm.MethodName) ({ cls := "GlacierYears", name := "liesAsIn", desc := "(I)Z" } : Jvm.MethodName)) ∈ g_tbl := g_mem 13 (by decide +kernel) (by decide +kernel)
theorem q_14 : (Jvm.Cond.selects "GlacierYears" ({ cls := "GlacierYears", name := "thickestPlace", desc := "()I" } : Jvm.MethodName) ({ cls := "GlacierYears", name := "thickestPlace", desc := "()I" } : Jvm.MethodName)) ∈ g_tbl := g_mem 14 (by decide +kernel) (by decide +kernel)
theorem q_15 : (Jvm.Cond.selects "GlacierYears" ({ cls := "GlacierYears", name := "icyCells", desc := "()I" } : Jvm.MethodName) ({ cls := "GlacierYears", name := "icyCells", desc := "()I" } : Jvm.MethodName)) ∈ g_tbl := g_mem 15 (by decide +kernel) (by decide +kernel)
theorem q_16 : (Jvm.Cond.selects "GlacierYears" ({ cls := "GlacierYears", name := "lowestIceSurface", desc := "()J" } : Jvm.MethodName) ({ cls := "GlacierYears", name := "lowestIceSurface", desc := "()J" } : Jvm.MethodName)) ∈ g_tbl := g_mem 16 (by decide +kernel) (by decide +kernel)
theorem q_17 : (Jvm.Cond.selects "GlacierYears" ({ cls := "GlacierYears", name := "turnCells", desc := "(Z)V" } : Jvm.MethodName) ({ cls := "GlacierYears", name := "turnCells", desc := "(Z)V" } : Jvm.MethodName)) ∈ g_tbl := g_mem 17 (by decide +kernel) (by decide +kernel)
theorem q_18 : (Jvm.Cond.selects "GlacierYears" ({ cls := "GlacierYears", name := "fetchCell", desc := "(III)V" } : Jvm.MethodName) ({ cls := "GlacierYears", name := "fetchCell", desc := "(III)V" } : Jvm.MethodName)) ∈ g_tbl := g_mem 18 (by decide +kernel) (by decide +kernel)
theorem q_19 : (Jvm.Cond.selects "GlacierYears" ({ cls := "GlacierYears", name := "stripsThere", desc := "()I" } : Jvm.MethodName) ({ cls := "GlacierYears", name := "stripsThere", desc := "()I" } : Jvm.MethodName)) ∈ g_tbl := g_mem 19 (by decide +kernel) (by decide +kernel)
theorem q_20 : (Jvm.Cond.selects "GlacierYearsModel" ({ cls := "GlacierYearsModel", name := "failed", desc := "(I)I" } : Jvm.MethodName) ({ cls := "GlacierYearsModel", name := "failed", desc := "(I)I" } : Jvm.MethodName)) ∈ g_tbl := g_mem 20 (by decide +kernel) (by decide +kernel)
theorem q_21 : (Jvm.Cond.selects "GlacierYearsModel" ({ cls := "GlacierYearsModel", name := "isPlace", desc := "(II)Z" } : Jvm.MethodName) ({ cls := "GlacierYearsModel", name := "isPlace", desc := "(II)Z" } : Jvm.MethodName)) ∈ g_tbl := g_mem 21 (by decide +kernel) (by decide +kernel)
theorem q_22 : (Jvm.Cond.selects "GlacierYearsModel" ({ cls := "GlacierYearsModel", name := "thick", desc := "(I)J" } : Jvm.MethodName) ({ cls := "GlacierYearsModel", name := "thick", desc := "(I)J" } : Jvm.MethodName)) ∈ g_tbl := g_mem 22 (by decide +kernel) (by decide +kernel)
theorem q_23 : (Jvm.Cond.selects "GlacierYearsModel" ({ cls := "GlacierYearsModel", name := "oneYear", desc := "()V" } : Jvm.MethodName) ({ cls := "GlacierYearsModel", name := "oneYear", desc := "()V" } : Jvm.MethodName)) ∈ g_tbl := g_mem 23 (by decide +kernel) (by decide +kernel)
theorem q_24 : (Jvm.Cond.selects "GlacierYearsModel" ({ cls := "GlacierYearsModel", name := "keep", desc := "()V" } : Jvm.MethodName) ({ cls := "GlacierYearsModel", name := "keep", desc := "()V" } : Jvm.MethodName)) ∈ g_tbl := g_mem 24 (by decide +kernel) (by decide +kernel)
theorem q_25 : (Jvm.Cond.selects "GlacierYearsModel" ({ cls := "GlacierYearsModel", name := "fall", desc := "()V" } : Jvm.MethodName) ({ cls := "GlacierYearsModel", name := "fall", desc := "()V" } : Jvm.MethodName)) ∈ g_tbl := g_mem 25 (by decide +kernel) (by decide +kernel)
theorem q_26 : (Jvm.Cond.selects "GlacierYearsModel" ({ cls := "GlacierYearsModel", name := "isIce", desc := "(I)Z" } : Jvm.MethodName) ({ cls := "GlacierYearsModel", name := "isIce", desc := "(I)Z" } : Jvm.MethodName)) ∈ g_tbl := g_mem 26 (by decide +kernel) (by decide +kernel)
theorem q_27 : (Jvm.Cond.selects "GlacierYearsModel" ({ cls := "GlacierYearsModel", name := "move", desc := "()V" } : Jvm.MethodName) ({ cls := "GlacierYearsModel", name := "move", desc := "()V" } : Jvm.MethodName)) ∈ g_tbl := g_mem 27 (by decide +kernel) (by decide +kernel)
theorem q_28 : (Jvm.Cond.selects "GlacierYearsModel" ({ cls := "GlacierYearsModel", name := "given", desc := "(II)J" } : Jvm.MethodName) ({ cls := "GlacierYearsModel", name := "given", desc := "(II)J" } : Jvm.MethodName)) ∈ g_tbl := g_mem 28 (by decide +kernel) (by decide +kernel)
theorem q_29 : (Jvm.Cond.selects "GlacierYearsModel" ({ cls := "GlacierYearsModel", name := "beside", desc := "(II)I" } : Jvm.MethodName) ({ cls := "GlacierYearsModel", name := "beside", desc := "(II)I" } : Jvm.MethodName)) ∈ g_tbl := g_mem 29 (by decide +kernel) (by decide +kernel)
theorem q_30 : (Jvm.Cond.selects "GlacierYearsModel" ({ cls := "GlacierYearsModel", name := "swim", desc := "()V" } : Jvm.MethodName) ({ cls := "GlacierYearsModel", name := "swim", desc := "()V" } : Jvm.MethodName)) ∈ g_tbl := g_mem 30 (by decide +kernel) (by decide +kernel)
theorem q_31 : (Jvm.Cond.selects "GlacierYearsModel" ({ cls := "GlacierYearsModel", name := "note", desc := "(I)V" } : Jvm.MethodName) ({ cls := "GlacierYearsModel", name := "note", desc := "(I)V" } : Jvm.MethodName)) ∈ g_tbl := g_mem 31 (by decide +kernel) (by decide +kernel)
theorem q_32 : (Jvm.Cond.selects "GlacierYearsModel" ({ cls := "GlacierYearsModel", name := "isLike", desc := "(II)Z" } : Jvm.MethodName) ({ cls := "GlacierYearsModel", name := "isLike", desc := "(II)Z" } : Jvm.MethodName)) ∈ g_tbl := g_mem 32 (by decide +kernel) (by decide +kernel)
theorem q_33 : (Jvm.Cond.selects "GlacierYearsModel" ({ cls := "GlacierYearsModel", name := "layers", desc := "(I)I" } : Jvm.MethodName) ({ cls := "GlacierYearsModel", name := "layers", desc := "(I)I" } : Jvm.MethodName)) ∈ g_tbl := g_mem 33 (by decide +kernel) (by decide +kernel)
theorem q_34 : (Jvm.Cond.selects "GlacierYearsModel" ({ cls := "GlacierYearsModel", name := "layerOf", desc := "(II)I" } : Jvm.MethodName) ({ cls := "GlacierYearsModel", name := "layerOf", desc := "(II)I" } : Jvm.MethodName)) ∈ g_tbl := g_mem 34 (by decide +kernel) (by decide +kernel)
theorem q_35 : (Jvm.Cond.initialized "GlacierYearsLaw") ∈ g_tbl := g_mem 35 (by decide +kernel) (by decide +kernel)
theorem q_36 : (Jvm.Cond.initialized "GlacierYears") ∈ g_tbl := g_mem 36 (by decide +kernel) (by decide +kernel)
theorem q_37 : (Jvm.Cond.initialized "GlacierYears$Told") ∈ g_tbl := g_mem 37 (by decide +kernel) (by decide +kernel)
theorem q_38 : (Jvm.Cond.initialized "GlacierYears$Land") ∈ g_tbl := g_mem 38 (by decide +kernel) (by decide +kernel)
theorem q_39 : (Jvm.Cond.initialized "GlacierYears$Ice") ∈ g_tbl := g_mem 39 (by decide +kernel) (by decide +kernel)
theorem q_40 : (Jvm.Cond.initialized "GlacierYears$Past") ∈ g_tbl := g_mem 40 (by decide +kernel) (by decide +kernel)
theorem q_41 : (Jvm.Cond.initialized "GlacierYears$Strip") ∈ g_tbl := g_mem 41 (by decide +kernel) (by decide +kernel)
theorem q_42 : (Jvm.Cond.initialized "GlacierYearsModel") ∈ g_tbl := g_mem 42 (by decide +kernel) (by decide +kernel)
theorem q_43 : (Jvm.Cond.initialized "java/util/Arrays") ∈ g_tbl := g_mem 43 (by decide +kernel) (by decide +kernel)
theorem q_44 : (Jvm.Cond.initialized "java/lang/System") ∈ g_tbl := g_mem 44 (by decide +kernel) (by decide +kernel)
theorem q_45 : (Jvm.Cond.initialized "java/lang/Math") ∈ g_tbl := g_mem 45 (by decide +kernel) (by decide +kernel)
theorem q_46 : (Jvm.Cond.classLink "GlacierYearsLaw" (7 : Nat) "GlacierYears") ∈ g_tbl := g_mem 46 (by decide +kernel) (by decide +kernel)
theorem q_47 : (Jvm.Cond.instantiable "GlacierYears" (10 : Nat)) ∈ g_tbl := g_mem 47 (by decide +kernel) (by decide +kernel)
theorem q_48 : (Jvm.Cond.methodLink "GlacierYearsLaw" (9 : Nat) ({ cls := "GlacierYears", name := "<init>", desc := "()V" } : Jvm.MethodName)) ∈ g_tbl := g_mem 48 (by decide +kernel) (by decide +kernel)
theorem q_49 : (Jvm.Cond.instanceMethod ({ cls := "GlacierYears", name := "<init>", desc := "()V" } : Jvm.MethodName)) ∈ g_tbl := g_mem 49 (by decide +kernel) (by decide +kernel)
theorem q_50 : (Jvm.Cond.code ({ cls := "GlacierYears", name := "<init>", desc := "()V" } : Jvm.MethodName) prog_1_method_1_code (2 : Nat) (Option.none : Option Jvm.ClassFile.FieldType)) ∈ g_tbl := g_mem 50 (by decide +kernel) (by decide +kernel)
theorem q_51 : (Jvm.Cond.methodLink "GlacierYears" (3 : Nat) ({ cls := "java/lang/Object", name := "<init>", desc := "()V" } : Jvm.MethodName)) ∈ g_tbl := g_mem 51 (by decide +kernel) (by decide +kernel)
theorem q_52 : (Jvm.Cond.instanceMethod ({ cls := "java/lang/Object", name := "<init>", desc := "()V" } : Jvm.MethodName)) ∈ g_tbl := g_mem 52 (by decide +kernel) (by decide +kernel)
theorem q_53 : (Jvm.Cond.code ({ cls := "java/lang/Object", name := "<init>", desc := "()V" } : Jvm.MethodName) object_method_1_code (1 : Nat) (Option.none : Option Jvm.ClassFile.FieldType)) ∈ g_tbl := g_mem 53 (by decide +kernel) (by decide +kernel)
theorem q_54 : (Jvm.Cond.classLink "GlacierYears" (9 : Nat) "GlacierYears$Strip") ∈ g_tbl := g_mem 54 (by decide +kernel) (by decide +kernel)
theorem q_56 : (Jvm.Cond.classLink "GlacierYears" (15 : Nat) "GlacierYears$Told") ∈ g_tbl := g_mem 56 (by decide +kernel) (by decide +kernel)
theorem q_57 : (Jvm.Cond.instantiable "GlacierYears$Told" (4 : Nat)) ∈ g_tbl := g_mem 57 (by decide +kernel) (by decide +kernel)
theorem q_59 : (Jvm.Cond.instanceMethod ({ cls := "GlacierYears$Told", name := "<init>", desc := "()V" } : Jvm.MethodName)) ∈ g_tbl := g_mem 59 (by decide +kernel) (by decide +kernel)
theorem q_60 : (Jvm.Cond.code ({ cls := "GlacierYears$Told", name := "<init>", desc := "()V" } : Jvm.MethodName) prog_6_method_1_code (1 : Nat) (Option.none : Option Jvm.ClassFile.FieldType)) ∈ g_tbl := g_mem 60 (by decide +kernel) (by decide +kernel)
theorem q_61 : (Jvm.Cond.methodLink "GlacierYears$Told" (3 : Nat) ({ cls := "java/lang/Object", name := "<init>", desc := "()V" } : Jvm.MethodName)) ∈ g_tbl := g_mem 61 (by decide +kernel) (by decide +kernel)
theorem q_62 : (Jvm.Cond.fieldLink "GlacierYears$Told" (9 : Nat) "GlacierYears$Told" "snow" "[I") ∈ g_tbl := g_mem 62 (by decide +kernel) (by decide +kernel)
theorem q_63 : (Jvm.Cond.fieldLink "GlacierYears" (150 : Nat) "GlacierYears$Told" "snow" "[I") ∈ g_tbl := g_mem 63 (by decide +kernel) (by decide +kernel)
theorem q_64 : (Jvm.Cond.fieldLink "GlacierYears$Told" (15 : Nat) "GlacierYears$Told" "melt" "[I") ∈ g_tbl := g_mem 64 (by decide +kernel) (by decide +kernel)
theorem q_65 : (Jvm.Cond.fieldLink "GlacierYears" (147 : Nat) "GlacierYears$Told" "melt" "[I") ∈ g_tbl := g_mem 65 (by decide +kernel) (by decide +kernel)
theorem q_66 : (Jvm.Cond.fieldLink "GlacierYears" (157 : Nat) "GlacierYears$Told" "fraction" "I") ∈ g_tbl := g_mem 66 (by decide +kernel) (by decide +kernel)
theorem q_67 : (Jvm.Cond.fieldLink "GlacierYears$Told" (18 : Nat) "GlacierYears$Told" "cap" "I") ∈ g_tbl := g_mem 67 (by decide +kernel) (by decide +kernel)
theorem q_68 : (Jvm.Cond.fieldLink "GlacierYears" (154 : Nat) "GlacierYears$Told" "cap" "I") ∈ g_tbl := g_mem 68 (by decide +kernel) (by decide +kernel)
theorem q_69 : (Jvm.Cond.laysFinal "GlacierYears$Told" "GlacierYears$Told" "snow" "[I") ∈ g_tbl := g_mem 69 (by decide +kernel) (by decide +kernel)
theorem q_71 : (Jvm.Cond.laysFinal "GlacierYears$Told" "GlacierYears$Told" "melt" "[I") ∈ g_tbl := g_mem 71 (by decide +kernel) (by decide +kernel)
theorem q_73 : (Jvm.Cond.lays "GlacierYears$Told" "GlacierYears$Told" "fraction" "I") ∈ g_tbl := g_mem 73 (by decide +kernel) (by decide +kernel)
theorem q_75 : (Jvm.Cond.lays "GlacierYears$Told" "GlacierYears$Told" "cap" "I") ∈ g_tbl := g_mem 75 (by decide +kernel) (by decide +kernel)
theorem q_78 : (Jvm.Cond.arrayClass Jvm.ClassFile.FieldType.int) ∈ g_tbl := g_mem 78 (by decide +kernel) (by decide +kernel)
theorem q_79 : (Jvm.Cond.classLink "GlacierYears" (22 : Nat) "GlacierYears$Land") ∈ g_tbl := g_mem 79 (by decide +kernel) (by decide +kernel)
theorem q_80 : (Jvm.Cond.instantiable "GlacierYears$Land" (7 : Nat)) ∈ g_tbl := g_mem 80 (by decide +kernel) (by decide +kernel)
theorem q_82 : (Jvm.Cond.instanceMethod ({ cls := "GlacierYears$Land", name := "<init>", desc := "()V" } : Jvm.MethodName)) ∈ g_tbl := g_mem 82 (by decide +kernel) (by decide +kernel)
theorem q_83 : (Jvm.Cond.code ({ cls := "GlacierYears$Land", name := "<init>", desc := "()V" } : Jvm.MethodName) prog_3_method_1_code (1 : Nat) (Option.none : Option Jvm.ClassFile.FieldType)) ∈ g_tbl := g_mem 83 (by decide +kernel) (by decide +kernel)
theorem q_84 : (Jvm.Cond.methodLink "GlacierYears$Land" (3 : Nat) ({ cls := "java/lang/Object", name := "<init>", desc := "()V" } : Jvm.MethodName)) ∈ g_tbl := g_mem 84 (by decide +kernel) (by decide +kernel)
theorem q_85 : (Jvm.Cond.fieldLink "GlacierYears$Land" (9 : Nat) "GlacierYears$Land" "levels" "[I") ∈ g_tbl := g_mem 85 (by decide +kernel) (by decide +kernel)
theorem q_86 : (Jvm.Cond.fieldLink "GlacierYears" (191 : Nat) "GlacierYears$Land" "levels" "[I") ∈ g_tbl := g_mem 86 (by decide +kernel) (by decide +kernel)
theorem q_87 : (Jvm.Cond.fieldLink "GlacierYears$Land" (15 : Nat) "GlacierYears$Land" "kinds" "[I") ∈ g_tbl := g_mem 87 (by decide +kernel) (by decide +kernel)
theorem q_88 : (Jvm.Cond.fieldLink "GlacierYears" (136 : Nat) "GlacierYears$Land" "kinds" "[I") ∈ g_tbl := g_mem 88 (by decide +kernel) (by decide +kernel)
theorem q_89 : (Jvm.Cond.fieldLink "GlacierYears$Land" (18 : Nat) "GlacierYears$Land" "hundredths" "[I") ∈ g_tbl := g_mem 89 (by decide +kernel) (by decide +kernel)
theorem q_90 : (Jvm.Cond.fieldLink "GlacierYears" (140 : Nat) "GlacierYears$Land" "hundredths" "[I") ∈ g_tbl := g_mem 90 (by decide +kernel) (by decide +kernel)
theorem q_91 : (Jvm.Cond.fieldLink "GlacierYears$Land" (21 : Nat) "GlacierYears$Land" "open" "[I") ∈ g_tbl := g_mem 91 (by decide +kernel) (by decide +kernel)
theorem q_92 : (Jvm.Cond.fieldLink "GlacierYears" (276 : Nat) "GlacierYears$Land" "open" "[I") ∈ g_tbl := g_mem 92 (by decide +kernel) (by decide +kernel)
theorem q_93 : (Jvm.Cond.fieldLink "GlacierYears$Land" (35 : Nat) "GlacierYears$Land" "openCells" "I") ∈ g_tbl := g_mem 93 (by decide +kernel) (by decide +kernel)
theorem q_94 : (Jvm.Cond.fieldLink "GlacierYears" (273 : Nat) "GlacierYears$Land" "openCells" "I") ∈ g_tbl := g_mem 94 (by decide +kernel) (by decide +kernel)
theorem q_95 : (Jvm.Cond.fieldLink "GlacierYears$Land" (24 : Nat) "GlacierYears$Land" "width" "I") ∈ g_tbl := g_mem 95 (by decide +kernel) (by decide +kernel)
theorem q_96 : (Jvm.Cond.fieldLink "GlacierYears" (249 : Nat) "GlacierYears$Land" "width" "I") ∈ g_tbl := g_mem 96 (by decide +kernel) (by decide +kernel)
theorem q_97 : (Jvm.Cond.fieldLink "GlacierYears$Land" (28 : Nat) "GlacierYears$Land" "height" "I") ∈ g_tbl := g_mem 97 (by decide +kernel) (by decide +kernel)
theorem q_98 : (Jvm.Cond.fieldLink "GlacierYears" (252 : Nat) "GlacierYears$Land" "height" "I") ∈ g_tbl := g_mem 98 (by decide +kernel) (by decide +kernel)
theorem q_99 : (Jvm.Cond.laysFinal "GlacierYears$Land" "GlacierYears$Land" "levels" "[I") ∈ g_tbl := g_mem 99 (by decide +kernel) (by decide +kernel)
theorem q_101 : (Jvm.Cond.laysFinal "GlacierYears$Land" "GlacierYears$Land" "kinds" "[I") ∈ g_tbl := g_mem 101 (by decide +kernel) (by decide +kernel)
theorem q_103 : (Jvm.Cond.laysFinal "GlacierYears$Land" "GlacierYears$Land" "hundredths" "[I") ∈ g_tbl := g_mem 103 (by decide +kernel) (by decide +kernel)
theorem q_105 : (Jvm.Cond.laysFinal "GlacierYears$Land" "GlacierYears$Land" "open" "[I") ∈ g_tbl := g_mem 105 (by decide +kernel) (by decide +kernel)
theorem q_107 : (Jvm.Cond.lays "GlacierYears$Land" "GlacierYears$Land" "openCells" "I") ∈ g_tbl := g_mem 107 (by decide +kernel) (by decide +kernel)
theorem q_109 : (Jvm.Cond.lays "GlacierYears$Land" "GlacierYears$Land" "width" "I") ∈ g_tbl := g_mem 109 (by decide +kernel) (by decide +kernel)
theorem q_111 : (Jvm.Cond.lays "GlacierYears$Land" "GlacierYears$Land" "height" "I") ∈ g_tbl := g_mem 111 (by decide +kernel) (by decide +kernel)
theorem q_114 : (Jvm.Cond.classLink "GlacierYears" (29 : Nat) "GlacierYears$Ice") ∈ g_tbl := g_mem 114 (by decide +kernel) (by decide +kernel)
theorem q_115 : (Jvm.Cond.instantiable "GlacierYears$Ice" (4 : Nat)) ∈ g_tbl := g_mem 115 (by decide +kernel) (by decide +kernel)
theorem q_117 : (Jvm.Cond.instanceMethod ({ cls := "GlacierYears$Ice", name := "<init>", desc := "()V" } : Jvm.MethodName)) ∈ g_tbl := g_mem 117 (by decide +kernel) (by decide +kernel)
theorem q_118 : (Jvm.Cond.code ({ cls := "GlacierYears$Ice", name := "<init>", desc := "()V" } : Jvm.MethodName) prog_2_method_1_code (1 : Nat) (Option.none : Option Jvm.ClassFile.FieldType)) ∈ g_tbl := g_mem 118 (by decide +kernel) (by decide +kernel)
theorem q_119 : (Jvm.Cond.methodLink "GlacierYears$Ice" (3 : Nat) ({ cls := "java/lang/Object", name := "<init>", desc := "()V" } : Jvm.MethodName)) ∈ g_tbl := g_mem 119 (by decide +kernel) (by decide +kernel)
theorem q_120 : (Jvm.Cond.fieldLink "GlacierYears$Ice" (9 : Nat) "GlacierYears$Ice" "grains" "[J") ∈ g_tbl := g_mem 120 (by decide +kernel) (by decide +kernel)
theorem q_121 : (Jvm.Cond.fieldLink "GlacierYears" (207 : Nat) "GlacierYears$Ice" "grains" "[J") ∈ g_tbl := g_mem 121 (by decide +kernel) (by decide +kernel)
theorem q_122 : (Jvm.Cond.fieldLink "GlacierYears$Ice" (15 : Nat) "GlacierYears$Ice" "thicknesses" "[J") ∈ g_tbl := g_mem 122 (by decide +kernel) (by decide +kernel)
theorem q_123 : (Jvm.Cond.fieldLink "GlacierYears" (168 : Nat) "GlacierYears$Ice" "thicknesses" "[J") ∈ g_tbl := g_mem 123 (by decide +kernel) (by decide +kernel)
theorem q_124 : (Jvm.Cond.fieldLink "GlacierYears$Ice" (18 : Nat) "GlacierYears$Ice" "tallies" "[J") ∈ g_tbl := g_mem 124 (by decide +kernel) (by decide +kernel)
theorem q_125 : (Jvm.Cond.fieldLink "GlacierYears" (217 : Nat) "GlacierYears$Ice" "tallies" "[J") ∈ g_tbl := g_mem 125 (by decide +kernel) (by decide +kernel)
theorem q_126 : (Jvm.Cond.fieldLink "GlacierYears$Ice" (21 : Nat) "GlacierYears$Ice" "year" "I") ∈ g_tbl := g_mem 126 (by decide +kernel) (by decide +kernel)
theorem q_127 : (Jvm.Cond.fieldLink "GlacierYears" (160 : Nat) "GlacierYears$Ice" "year" "I") ∈ g_tbl := g_mem 127 (by decide +kernel) (by decide +kernel)
theorem q_128 : (Jvm.Cond.laysFinal "GlacierYears$Ice" "GlacierYears$Ice" "grains" "[J") ∈ g_tbl := g_mem 128 (by decide +kernel) (by decide +kernel)
theorem q_130 : (Jvm.Cond.laysFinal "GlacierYears$Ice" "GlacierYears$Ice" "thicknesses" "[J") ∈ g_tbl := g_mem 130 (by decide +kernel) (by decide +kernel)
theorem q_132 : (Jvm.Cond.laysFinal "GlacierYears$Ice" "GlacierYears$Ice" "tallies" "[J") ∈ g_tbl := g_mem 132 (by decide +kernel) (by decide +kernel)
theorem q_134 : (Jvm.Cond.lays "GlacierYears$Ice" "GlacierYears$Ice" "year" "I") ∈ g_tbl := g_mem 134 (by decide +kernel) (by decide +kernel)
theorem q_137 : (Jvm.Cond.arrayClass Jvm.ClassFile.FieldType.long) ∈ g_tbl := g_mem 137 (by decide +kernel) (by decide +kernel)
theorem q_138 : (Jvm.Cond.classLink "GlacierYears" (36 : Nat) "GlacierYears$Past") ∈ g_tbl := g_mem 138 (by decide +kernel) (by decide +kernel)
theorem q_139 : (Jvm.Cond.instantiable "GlacierYears$Past" (3 : Nat)) ∈ g_tbl := g_mem 139 (by decide +kernel) (by decide +kernel)
theorem q_140 : (Jvm.Cond.methodLink "GlacierYears" (38 : Nat) ({ cls := "GlacierYears$Past", name := "<init>", desc := "()V" } : Jvm.MethodName)) ∈ g_tbl := g_mem 140 (by decide +kernel) (by decide +kernel)
theorem q_141 : (Jvm.Cond.instanceMethod ({ cls := "GlacierYears$Past", name := "<init>", desc := "()V" } : Jvm.MethodName)) ∈ g_tbl := g_mem 141 (by decide +kernel) (by decide +kernel)
theorem q_142 : (Jvm.Cond.code ({ cls := "GlacierYears$Past", name := "<init>", desc := "()V" } : Jvm.MethodName) prog_4_method_1_code (2 : Nat) (Option.none : Option Jvm.ClassFile.FieldType)) ∈ g_tbl := g_mem 142 (by decide +kernel) (by decide +kernel)
theorem q_143 : (Jvm.Cond.methodLink "GlacierYears$Past" (3 : Nat) ({ cls := "java/lang/Object", name := "<init>", desc := "()V" } : Jvm.MethodName)) ∈ g_tbl := g_mem 143 (by decide +kernel) (by decide +kernel)
theorem q_144 : (Jvm.Cond.classLink "GlacierYears$Past" (9 : Nat) "GlacierYears$Ice") ∈ g_tbl := g_mem 144 (by decide +kernel) (by decide +kernel)
theorem q_147 : (Jvm.Cond.fieldLink "GlacierYears$Past" (11 : Nat) "GlacierYears$Past" "ring" "[LGlacierYears$Ice;") ∈ g_tbl := g_mem 147 (by decide +kernel) (by decide +kernel)
theorem q_148 : (Jvm.Cond.fieldLink "GlacierYears$Past" (18 : Nat) "GlacierYears$Past" "next" "I") ∈ g_tbl := g_mem 148 (by decide +kernel) (by decide +kernel)
theorem q_149 : (Jvm.Cond.fieldLink "GlacierYears$Past" (26 : Nat) "GlacierYears$Past" "kept" "I") ∈ g_tbl := g_mem 149 (by decide +kernel) (by decide +kernel)
theorem q_150 : (Jvm.Cond.fieldLink "GlacierYears" (177 : Nat) "GlacierYears$Past" "kept" "I") ∈ g_tbl := g_mem 150 (by decide +kernel) (by decide +kernel)
theorem q_151 : (Jvm.Cond.laysFinal "GlacierYears$Past" "GlacierYears$Past" "ring" "[LGlacierYears$Ice;") ∈ g_tbl := g_mem 151 (by decide +kernel) (by decide +kernel)
theorem q_153 : (Jvm.Cond.lays "GlacierYears$Past" "GlacierYears$Past" "next" "I") ∈ g_tbl := g_mem 153 (by decide +kernel) (by decide +kernel)
theorem q_155 : (Jvm.Cond.lays "GlacierYears$Past" "GlacierYears$Past" "kept" "I") ∈ g_tbl := g_mem 155 (by decide +kernel) (by decide +kernel)
theorem q_158 : (Jvm.Cond.instantiable "GlacierYears$Strip" (4 : Nat)) ∈ g_tbl := g_mem 158 (by decide +kernel) (by decide +kernel)
theorem q_160 : (Jvm.Cond.instanceMethod ({ cls := "GlacierYears$Strip", name := "<init>", desc := "()V" } : Jvm.MethodName)) ∈ g_tbl := g_mem 160 (by decide +kernel) (by decide +kernel)
theorem q_161 : (Jvm.Cond.code ({ cls := "GlacierYears$Strip", name := "<init>", desc := "()V" } : Jvm.MethodName) prog_5_method_1_code (1 : Nat) (Option.none : Option Jvm.ClassFile.FieldType)) ∈ g_tbl := g_mem 161 (by decide +kernel) (by decide +kernel)
theorem q_162 : (Jvm.Cond.methodLink "GlacierYears$Strip" (3 : Nat) ({ cls := "java/lang/Object", name := "<init>", desc := "()V" } : Jvm.MethodName)) ∈ g_tbl := g_mem 162 (by decide +kernel) (by decide +kernel)
theorem q_163 : (Jvm.Cond.fieldLink "GlacierYears$Strip" (9 : Nat) "GlacierYears$Strip" "places" "[J") ∈ g_tbl := g_mem 163 (by decide +kernel) (by decide +kernel)
theorem q_164 : (Jvm.Cond.fieldLink "GlacierYears" (94 : Nat) "GlacierYears$Strip" "places" "[J") ∈ g_tbl := g_mem 164 (by decide +kernel) (by decide +kernel)
theorem q_165 : (Jvm.Cond.fieldLink "GlacierYears$Strip" (15 : Nat) "GlacierYears$Strip" "missing" "Z") ∈ g_tbl := g_mem 165 (by decide +kernel) (by decide +kernel)
theorem q_166 : (Jvm.Cond.fieldLink "GlacierYears" (72 : Nat) "GlacierYears$Strip" "missing" "Z") ∈ g_tbl := g_mem 166 (by decide +kernel) (by decide +kernel)
theorem q_167 : (Jvm.Cond.fieldLink "GlacierYears$Strip" (19 : Nat) "GlacierYears$Strip" "lane" "I") ∈ g_tbl := g_mem 167 (by decide +kernel) (by decide +kernel)
theorem q_168 : (Jvm.Cond.fieldLink "GlacierYears" (90 : Nat) "GlacierYears$Strip" "lane" "I") ∈ g_tbl := g_mem 168 (by decide +kernel) (by decide +kernel)
theorem q_169 : (Jvm.Cond.fieldLink "GlacierYears$Strip" (23 : Nat) "GlacierYears$Strip" "length" "I") ∈ g_tbl := g_mem 169 (by decide +kernel) (by decide +kernel)
theorem q_170 : (Jvm.Cond.laysFinal "GlacierYears$Strip" "GlacierYears$Strip" "places" "[J") ∈ g_tbl := g_mem 170 (by decide +kernel) (by decide +kernel)
theorem q_172 : (Jvm.Cond.lays "GlacierYears$Strip" "GlacierYears$Strip" "missing" "Z") ∈ g_tbl := g_mem 172 (by decide +kernel) (by decide +kernel)
theorem q_174 : (Jvm.Cond.lays "GlacierYears$Strip" "GlacierYears$Strip" "lane" "I") ∈ g_tbl := g_mem 174 (by decide +kernel) (by decide +kernel)
theorem q_176 : (Jvm.Cond.lays "GlacierYears$Strip" "GlacierYears$Strip" "length" "I") ∈ g_tbl := g_mem 176 (by decide +kernel) (by decide +kernel)
theorem q_179 : (Jvm.Cond.fieldLink "GlacierYears" (11 : Nat) "GlacierYears" "strips" "[LGlacierYears$Strip;") ∈ g_tbl := g_mem 179 (by decide +kernel) (by decide +kernel)
theorem q_180 : (Jvm.Cond.fieldLink "GlacierYears" (18 : Nat) "GlacierYears" "told" "LGlacierYears$Told;") ∈ g_tbl := g_mem 180 (by decide +kernel) (by decide +kernel)
theorem q_181 : (Jvm.Cond.fieldLink "GlacierYears" (25 : Nat) "GlacierYears" "land" "LGlacierYears$Land;") ∈ g_tbl := g_mem 181 (by decide +kernel) (by decide +kernel)
theorem q_182 : (Jvm.Cond.fieldLink "GlacierYears" (32 : Nat) "GlacierYears" "ice" "LGlacierYears$Ice;") ∈ g_tbl := g_mem 182 (by decide +kernel) (by decide +kernel)
theorem q_183 : (Jvm.Cond.fieldLink "GlacierYears" (39 : Nat) "GlacierYears" "past" "LGlacierYears$Past;") ∈ g_tbl := g_mem 183 (by decide +kernel) (by decide +kernel)
theorem q_184 : (Jvm.Cond.fieldLink "GlacierYears" (43 : Nat) "GlacierYears" "oldLand" "LGlacierYears$Land;") ∈ g_tbl := g_mem 184 (by decide +kernel) (by decide +kernel)
theorem q_185 : (Jvm.Cond.fieldLink "GlacierYears" (46 : Nat) "GlacierYears" "oldIce" "LGlacierYears$Ice;") ∈ g_tbl := g_mem 185 (by decide +kernel) (by decide +kernel)
theorem q_186 : (Jvm.Cond.fieldLink "GlacierYears" (49 : Nat) "GlacierYears" "gifts" "[J") ∈ g_tbl := g_mem 186 (by decide +kernel) (by decide +kernel)
theorem q_187 : (Jvm.Cond.fieldLink "GlacierYears" (53 : Nat) "GlacierYears" "seen" "[J") ∈ g_tbl := g_mem 187 (by decide +kernel) (by decide +kernel)
theorem q_188 : (Jvm.Cond.fieldLink "GlacierYears" (255 : Nat) "GlacierYears" "failures" "I") ∈ g_tbl := g_mem 188 (by decide +kernel) (by decide +kernel)
theorem q_189 : (Jvm.Cond.laysFinal "GlacierYears" "GlacierYears" "strips" "[LGlacierYears$Strip;") ∈ g_tbl := g_mem 189 (by decide +kernel) (by decide +kernel)
theorem q_191 : (Jvm.Cond.laysFinal "GlacierYears" "GlacierYears" "told" "LGlacierYears$Told;") ∈ g_tbl := g_mem 191 (by decide +kernel) (by decide +kernel)
theorem q_193 : (Jvm.Cond.laysFinal "GlacierYears" "GlacierYears" "land" "LGlacierYears$Land;") ∈ g_tbl := g_mem 193 (by decide +kernel) (by decide +kernel)
theorem q_195 : (Jvm.Cond.laysFinal "GlacierYears" "GlacierYears" "ice" "LGlacierYears$Ice;") ∈ g_tbl := g_mem 195 (by decide +kernel) (by decide +kernel)
theorem q_197 : (Jvm.Cond.laysFinal "GlacierYears" "GlacierYears" "past" "LGlacierYears$Past;") ∈ g_tbl := g_mem 197 (by decide +kernel) (by decide +kernel)
theorem q_199 : (Jvm.Cond.laysFinal "GlacierYears" "GlacierYears" "oldLand" "LGlacierYears$Land;") ∈ g_tbl := g_mem 199 (by decide +kernel) (by decide +kernel)
theorem q_201 : (Jvm.Cond.laysFinal "GlacierYears" "GlacierYears" "oldIce" "LGlacierYears$Ice;") ∈ g_tbl := g_mem 201 (by decide +kernel) (by decide +kernel)
theorem q_203 : (Jvm.Cond.laysFinal "GlacierYears" "GlacierYears" "gifts" "[J") ∈ g_tbl := g_mem 203 (by decide +kernel) (by decide +kernel)
theorem q_205 : (Jvm.Cond.laysFinal "GlacierYears" "GlacierYears" "seen" "[J") ∈ g_tbl := g_mem 205 (by decide +kernel) (by decide +kernel)
theorem q_207 : (Jvm.Cond.lays "GlacierYears" "GlacierYears" "failures" "I") ∈ g_tbl := g_mem 207 (by decide +kernel) (by decide +kernel)
theorem q_210 : (Jvm.Cond.methodLink "GlacierYearsLaw" (13 : Nat) ({ cls := "GlacierYears", name := "strip", desc := "(III)I" } : Jvm.MethodName)) ∈ g_tbl := g_mem 210 (by decide +kernel) (by decide +kernel)
theorem q_211 : (Jvm.Cond.instanceMethod ({ cls := "GlacierYears", name := "strip", desc := "(III)I" } : Jvm.MethodName)) ∈ g_tbl := g_mem 211 (by decide +kernel) (by decide +kernel)
theorem q_212 : (Jvm.Cond.selects "GlacierYears" ({ cls := "GlacierYears", name := "strip", desc := "(III)I" } : Jvm.MethodName) ({ cls := "GlacierYears", name := "strip", desc := "(III)I" } : Jvm.MethodName)) ∈ g_tbl := g_mem 212 (by decide +kernel) (by decide +kernel)
theorem q_213 : (Jvm.Cond.code ({ cls := "GlacierYears", name := "strip", desc := "(III)I" } : Jvm.MethodName) prog_1_method_2_code (4 : Nat) (Option.some Jvm.ClassFile.FieldType.int)) ∈ g_tbl := g_mem 213 (by decide +kernel) (by decide +kernel)
theorem q_214 : (Jvm.Cond.methodLink "GlacierYears" (57 : Nat) ({ cls := "GlacierYears", name := "isStrip", desc := "(I)Z" } : Jvm.MethodName)) ∈ g_tbl := g_mem 214 (by decide +kernel) (by decide +kernel)
theorem q_215 : (Jvm.Cond.static ({ cls := "GlacierYears", name := "isStrip", desc := "(I)Z" } : Jvm.MethodName)) ∈ g_tbl := g_mem 215 (by decide +kernel) (by decide +kernel)
theorem q_216 : (Jvm.Cond.code ({ cls := "GlacierYears", name := "isStrip", desc := "(I)Z" } : Jvm.MethodName) prog_1_method_24_code (1 : Nat) (Option.some Jvm.ClassFile.FieldType.boolean)) ∈ g_tbl := g_mem 216 (by decide +kernel) (by decide +kernel)
theorem q_217 : (Jvm.Cond.methodLink "GlacierYears" (61 : Nat) ({ cls := "GlacierYears", name := "isLane", desc := "(I)Z" } : Jvm.MethodName)) ∈ g_tbl := g_mem 217 (by decide +kernel) (by decide +kernel)
theorem q_218 : (Jvm.Cond.static ({ cls := "GlacierYears", name := "isLane", desc := "(I)Z" } : Jvm.MethodName)) ∈ g_tbl := g_mem 218 (by decide +kernel) (by decide +kernel)
theorem q_219 : (Jvm.Cond.code ({ cls := "GlacierYears", name := "isLane", desc := "(I)Z" } : Jvm.MethodName) prog_1_method_25_code (1 : Nat) (Option.some Jvm.ClassFile.FieldType.boolean)) ∈ g_tbl := g_mem 219 (by decide +kernel) (by decide +kernel)
theorem q_220 : (Jvm.Cond.methodLink "GlacierYears" (64 : Nat) ({ cls := "GlacierYears", name := "fail", desc := "(I)I" } : Jvm.MethodName)) ∈ g_tbl := g_mem 220 (by decide +kernel) (by decide +kernel)
theorem q_222 : (Jvm.Cond.instanceMethod ({ cls := "GlacierYears", name := "fail", desc := "(I)I" } : Jvm.MethodName)) ∈ g_tbl := g_mem 222 (by decide +kernel) (by decide +kernel)
theorem q_223 : (Jvm.Cond.code ({ cls := "GlacierYears", name := "fail", desc := "(I)I" } : Jvm.MethodName) prog_1_method_23_code (2 : Nat) (Option.some Jvm.ClassFile.FieldType.int)) ∈ g_tbl := g_mem 223 (by decide +kernel) (by decide +kernel)
theorem q_224 : (Jvm.Cond.methodLink "GlacierYears" (68 : Nat) ({ cls := "GlacierYears$Strip", name := "begin", desc := "(II)V" } : Jvm.MethodName)) ∈ g_tbl := g_mem 224 (by decide +kernel) (by decide +kernel)
theorem q_225 : (Jvm.Cond.instanceMethod ({ cls := "GlacierYears$Strip", name := "begin", desc := "(II)V" } : Jvm.MethodName)) ∈ g_tbl := g_mem 225 (by decide +kernel) (by decide +kernel)
theorem q_226 : (Jvm.Cond.selects "GlacierYears$Strip" ({ cls := "GlacierYears$Strip", name := "begin", desc := "(II)V" } : Jvm.MethodName) ({ cls := "GlacierYears$Strip", name := "begin", desc := "(II)V" } : Jvm.MethodName)) ∈ g_tbl := g_mem 226 (by decide +kernel) (by decide +kernel)
theorem q_227 : (Jvm.Cond.code ({ cls := "GlacierYears$Strip", name := "begin", desc := "(II)V" } : Jvm.MethodName) prog_5_method_2_code (3 : Nat) (Option.none : Option Jvm.ClassFile.FieldType)) ∈ g_tbl := g_mem 227 (by decide +kernel) (by decide +kernel)
theorem q_228 : (Jvm.Cond.methodLink "GlacierYears$Strip" (26 : Nat) ({ cls := "java/util/Arrays", name := "fill", desc := "([JJ)V" } : Jvm.MethodName)) ∈ g_tbl := g_mem 228 (by decide +kernel) (by decide +kernel)
theorem q_229 : (Jvm.Cond.static ({ cls := "java/util/Arrays", name := "fill", desc := "([JJ)V" } : Jvm.MethodName)) ∈ g_tbl := g_mem 229 (by decide +kernel) (by decide +kernel)
theorem q_230 : (Jvm.Cond.code ({ cls := "java/util/Arrays", name := "fill", desc := "([JJ)V" } : Jvm.MethodName) prog_11_method_101_code (5 : Nat) (Option.none : Option Jvm.ClassFile.FieldType)) ∈ g_tbl := g_mem 230 (by decide +kernel) (by decide +kernel)
theorem q_231 : (Jvm.Cond.methodLink "GlacierYearsLaw" (18 : Nat) ({ cls := "GlacierYears", name := "tear", desc := "(I)I" } : Jvm.MethodName)) ∈ g_tbl := g_mem 231 (by decide +kernel) (by decide +kernel)
theorem q_232 : (Jvm.Cond.instanceMethod ({ cls := "GlacierYears", name := "tear", desc := "(I)I" } : Jvm.MethodName)) ∈ g_tbl := g_mem 232 (by decide +kernel) (by decide +kernel)
theorem q_233 : (Jvm.Cond.selects "GlacierYears" ({ cls := "GlacierYears", name := "tear", desc := "(I)I" } : Jvm.MethodName) ({ cls := "GlacierYears", name := "tear", desc := "(I)I" } : Jvm.MethodName)) ∈ g_tbl := g_mem 233 (by decide +kernel) (by decide +kernel)
theorem q_234 : (Jvm.Cond.code ({ cls := "GlacierYears", name := "tear", desc := "(I)I" } : Jvm.MethodName) prog_1_method_3_code (3 : Nat) (Option.some Jvm.ClassFile.FieldType.int)) ∈ g_tbl := g_mem 234 (by decide +kernel) (by decide +kernel)
theorem q_235 : (Jvm.Cond.methodLink "GlacierYears" (76 : Nat) ({ cls := "GlacierYears$Strip", name := "end", desc := "()V" } : Jvm.MethodName)) ∈ g_tbl := g_mem 235 (by decide +kernel) (by decide +kernel)
theorem q_236 : (Jvm.Cond.instanceMethod ({ cls := "GlacierYears$Strip", name := "end", desc := "()V" } : Jvm.MethodName)) ∈ g_tbl := g_mem 236 (by decide +kernel) (by decide +kernel)
theorem q_237 : (Jvm.Cond.selects "GlacierYears$Strip" ({ cls := "GlacierYears$Strip", name := "end", desc := "()V" } : Jvm.MethodName) ({ cls := "GlacierYears$Strip", name := "end", desc := "()V" } : Jvm.MethodName)) ∈ g_tbl := g_mem 237 (by decide +kernel) (by decide +kernel)
theorem q_238 : (Jvm.Cond.code ({ cls := "GlacierYears$Strip", name := "end", desc := "()V" } : Jvm.MethodName) prog_5_method_3_code (1 : Nat) (Option.none : Option Jvm.ClassFile.FieldType)) ∈ g_tbl := g_mem 238 (by decide +kernel) (by decide +kernel)
theorem q_239 : (Jvm.Cond.methodLink "GlacierYearsLaw" (25 : Nat) ({ cls := "GlacierYears", name := "put", desc := "(IIJ)I" } : Jvm.MethodName)) ∈ g_tbl := g_mem 239 (by decide +kernel) (by decide +kernel)
theorem q_240 : (Jvm.Cond.instanceMethod ({ cls := "GlacierYears", name := "put", desc := "(IIJ)I" } : Jvm.MethodName)) ∈ g_tbl := g_mem 240 (by decide +kernel) (by decide +kernel)
theorem q_241 : (Jvm.Cond.selects "GlacierYears" ({ cls := "GlacierYears", name := "put", desc := "(IIJ)I" } : Jvm.MethodName) ({ cls := "GlacierYears", name := "put", desc := "(IIJ)I" } : Jvm.MethodName)) ∈ g_tbl := g_mem 241 (by decide +kernel) (by decide +kernel)
theorem q_242 : (Jvm.Cond.code ({ cls := "GlacierYears", name := "put", desc := "(IIJ)I" } : Jvm.MethodName) prog_1_method_4_code (6 : Nat) (Option.some Jvm.ClassFile.FieldType.int)) ∈ g_tbl := g_mem 242 (by decide +kernel) (by decide +kernel)
theorem q_243 : (Jvm.Cond.methodLink "GlacierYears" (79 : Nat) ({ cls := "GlacierYears$Strip", name := "has", desc := "(I)Z" } : Jvm.MethodName)) ∈ g_tbl := g_mem 243 (by decide +kernel) (by decide +kernel)
theorem q_244 : (Jvm.Cond.instanceMethod ({ cls := "GlacierYears$Strip", name := "has", desc := "(I)Z" } : Jvm.MethodName)) ∈ g_tbl := g_mem 244 (by decide +kernel) (by decide +kernel)
theorem q_245 : (Jvm.Cond.selects "GlacierYears$Strip" ({ cls := "GlacierYears$Strip", name := "has", desc := "(I)Z" } : Jvm.MethodName) ({ cls := "GlacierYears$Strip", name := "has", desc := "(I)Z" } : Jvm.MethodName)) ∈ g_tbl := g_mem 245 (by decide +kernel) (by decide +kernel)
theorem q_246 : (Jvm.Cond.code ({ cls := "GlacierYears$Strip", name := "has", desc := "(I)Z" } : Jvm.MethodName) prog_5_method_4_code (2 : Nat) (Option.some Jvm.ClassFile.FieldType.boolean)) ∈ g_tbl := g_mem 246 (by decide +kernel) (by decide +kernel)
theorem q_247 : (Jvm.Cond.methodLink "GlacierYears" (82 : Nat) ({ cls := "GlacierYears$Strip", name := "store", desc := "(IJ)V" } : Jvm.MethodName)) ∈ g_tbl := g_mem 247 (by decide +kernel) (by decide +kernel)
theorem q_248 : (Jvm.Cond.instanceMethod ({ cls := "GlacierYears$Strip", name := "store", desc := "(IJ)V" } : Jvm.MethodName)) ∈ g_tbl := g_mem 248 (by decide +kernel) (by decide +kernel)
theorem q_249 : (Jvm.Cond.selects "GlacierYears$Strip" ({ cls := "GlacierYears$Strip", name := "store", desc := "(IJ)V" } : Jvm.MethodName) ({ cls := "GlacierYears$Strip", name := "store", desc := "(IJ)V" } : Jvm.MethodName)) ∈ g_tbl := g_mem 249 (by decide +kernel) (by decide +kernel)
theorem q_250 : (Jvm.Cond.code ({ cls := "GlacierYears$Strip", name := "store", desc := "(IJ)V" } : Jvm.MethodName) prog_5_method_6_code (4 : Nat) (Option.none : Option Jvm.ClassFile.FieldType)) ∈ g_tbl := g_mem 250 (by decide +kernel) (by decide +kernel)
theorem q_251 : (Jvm.Cond.methodLink "GlacierYearsLaw" (30 : Nat) ({ cls := "GlacierYears", name := "at", desc := "(III)J" } : Jvm.MethodName)) ∈ g_tbl := g_mem 251 (by decide +kernel) (by decide +kernel)
theorem q_252 : (Jvm.Cond.instanceMethod ({ cls := "GlacierYears", name := "at", desc := "(III)J" } : Jvm.MethodName)) ∈ g_tbl := g_mem 252 (by decide +kernel) (by decide +kernel)
theorem q_253 : (Jvm.Cond.selects "GlacierYears" ({ cls := "GlacierYears", name := "at", desc := "(III)J" } : Jvm.MethodName) ({ cls := "GlacierYears", name := "at", desc := "(III)J" } : Jvm.MethodName)) ∈ g_tbl := g_mem 253 (by decide +kernel) (by decide +kernel)
theorem q_254 : (Jvm.Cond.code ({ cls := "GlacierYears", name := "at", desc := "(III)J" } : Jvm.MethodName) prog_1_method_5_code (5 : Nat) (Option.some Jvm.ClassFile.FieldType.long)) ∈ g_tbl := g_mem 254 (by decide +kernel) (by decide +kernel)
theorem q_255 : (Jvm.Cond.constantLong "GlacierYears" (86 : Nat) (-1 : Int64)) ∈ g_tbl := g_mem 255 (by decide +kernel) (by decide +kernel)
theorem q_256 : (Jvm.Cond.constantLong "GlacierYears" (88 : Nat) (-2 : Int64)) ∈ g_tbl := g_mem 256 (by decide +kernel) (by decide +kernel)
theorem q_257 : (Jvm.Cond.methodLink "GlacierYearsLaw" (35 : Nat) ({ cls := "GlacierYears", name := "copy", desc := "(IIIII)I" } : Jvm.MethodName)) ∈ g_tbl := g_mem 257 (by decide +kernel) (by decide +kernel)
theorem q_258 : (Jvm.Cond.instanceMethod ({ cls := "GlacierYears", name := "copy", desc := "(IIIII)I" } : Jvm.MethodName)) ∈ g_tbl := g_mem 258 (by decide +kernel) (by decide +kernel)
theorem q_259 : (Jvm.Cond.selects "GlacierYears" ({ cls := "GlacierYears", name := "copy", desc := "(IIIII)I" } : Jvm.MethodName) ({ cls := "GlacierYears", name := "copy", desc := "(IIIII)I" } : Jvm.MethodName)) ∈ g_tbl := g_mem 259 (by decide +kernel) (by decide +kernel)
theorem q_260 : (Jvm.Cond.code ({ cls := "GlacierYears", name := "copy", desc := "(IIIII)I" } : Jvm.MethodName) prog_1_method_6_code (8 : Nat) (Option.some Jvm.ClassFile.FieldType.int)) ∈ g_tbl := g_mem 260 (by decide +kernel) (by decide +kernel)
theorem q_261 : (Jvm.Cond.methodLink "GlacierYears" (97 : Nat) ({ cls := "GlacierYears$Strip", name := "hasAll", desc := "(II)Z" } : Jvm.MethodName)) ∈ g_tbl := g_mem 261 (by decide +kernel) (by decide +kernel)
theorem q_262 : (Jvm.Cond.instanceMethod ({ cls := "GlacierYears$Strip", name := "hasAll", desc := "(II)Z" } : Jvm.MethodName)) ∈ g_tbl := g_mem 262 (by decide +kernel) (by decide +kernel)
theorem q_263 : (Jvm.Cond.selects "GlacierYears$Strip" ({ cls := "GlacierYears$Strip", name := "hasAll", desc := "(II)Z" } : Jvm.MethodName) ({ cls := "GlacierYears$Strip", name := "hasAll", desc := "(II)Z" } : Jvm.MethodName)) ∈ g_tbl := g_mem 263 (by decide +kernel) (by decide +kernel)
theorem q_264 : (Jvm.Cond.code ({ cls := "GlacierYears$Strip", name := "hasAll", desc := "(II)Z" } : Jvm.MethodName) prog_5_method_5_code (3 : Nat) (Option.some Jvm.ClassFile.FieldType.boolean)) ∈ g_tbl := g_mem 264 (by decide +kernel) (by decide +kernel)
theorem q_265 : (Jvm.Cond.methodLink "GlacierYears" (101 : Nat) ({ cls := "java/lang/System", name := "arraycopy", desc := "(Ljava/lang/Object;ILjava/lang/Object;II)V" } : Jvm.MethodName)) ∈ g_tbl := g_mem 265 (by decide +kernel) (by decide +kernel)
theorem q_266 : (Jvm.Cond.static ({ cls := "java/lang/System", name := "arraycopy", desc := "(Ljava/lang/Object;ILjava/lang/Object;II)V" } : Jvm.MethodName)) ∈ g_tbl := g_mem 266 (by decide +kernel) (by decide +kernel)
theorem q_267 : (Jvm.Cond.native ({ cls := "java/lang/System", name := "arraycopy", desc := "(Ljava/lang/Object;ILjava/lang/Object;II)V" } : Jvm.MethodName)) ∈ g_tbl := g_mem 267 (by decide +kernel) (by decide +kernel)
theorem q_268 : (Jvm.Cond.methodLink "GlacierYearsLaw" (40 : Nat) ({ cls := "GlacierYears", name := "ground", desc := "(II)I" } : Jvm.MethodName)) ∈ g_tbl := g_mem 268 (by decide +kernel) (by decide +kernel)
theorem q_269 : (Jvm.Cond.instanceMethod ({ cls := "GlacierYears", name := "ground", desc := "(II)I" } : Jvm.MethodName)) ∈ g_tbl := g_mem 269 (by decide +kernel) (by decide +kernel)
theorem q_270 : (Jvm.Cond.selects "GlacierYears" ({ cls := "GlacierYears", name := "ground", desc := "(II)I" } : Jvm.MethodName) ({ cls := "GlacierYears", name := "ground", desc := "(II)I" } : Jvm.MethodName)) ∈ g_tbl := g_mem 270 (by decide +kernel) (by decide +kernel)
theorem q_271 : (Jvm.Cond.code ({ cls := "GlacierYears", name := "ground", desc := "(II)I" } : Jvm.MethodName) prog_1_method_7_code (5 : Nat) (Option.some Jvm.ClassFile.FieldType.int)) ∈ g_tbl := g_mem 271 (by decide +kernel) (by decide +kernel)
theorem q_272 : (Jvm.Cond.methodLink "GlacierYears" (107 : Nat) ({ cls := "GlacierYears", name := "isSide", desc := "(I)Z" } : Jvm.MethodName)) ∈ g_tbl := g_mem 272 (by decide +kernel) (by decide +kernel)
theorem q_273 : (Jvm.Cond.static ({ cls := "GlacierYears", name := "isSide", desc := "(I)Z" } : Jvm.MethodName)) ∈ g_tbl := g_mem 273 (by decide +kernel) (by decide +kernel)
theorem q_274 : (Jvm.Cond.code ({ cls := "GlacierYears", name := "isSide", desc := "(I)Z" } : Jvm.MethodName) prog_1_method_26_code (1 : Nat) (Option.some Jvm.ClassFile.FieldType.boolean)) ∈ g_tbl := g_mem 274 (by decide +kernel) (by decide +kernel)
theorem q_275 : (Jvm.Cond.methodLink "GlacierYears" (110 : Nat) ({ cls := "GlacierYears$Land", name := "begin", desc := "(II)V" } : Jvm.MethodName)) ∈ g_tbl := g_mem 275 (by decide +kernel) (by decide +kernel)
theorem q_276 : (Jvm.Cond.instanceMethod ({ cls := "GlacierYears$Land", name := "begin", desc := "(II)V" } : Jvm.MethodName)) ∈ g_tbl := g_mem 276 (by decide +kernel) (by decide +kernel)
theorem q_277 : (Jvm.Cond.selects "GlacierYears$Land" ({ cls := "GlacierYears$Land", name := "begin", desc := "(II)V" } : Jvm.MethodName) ({ cls := "GlacierYears$Land", name := "begin", desc := "(II)V" } : Jvm.MethodName)) ∈ g_tbl := g_mem 277 (by decide +kernel) (by decide +kernel)
theorem q_278 : (Jvm.Cond.code ({ cls := "GlacierYears$Land", name := "begin", desc := "(II)V" } : Jvm.MethodName) prog_3_method_8_code (3 : Nat) (Option.none : Option Jvm.ClassFile.FieldType)) ∈ g_tbl := g_mem 278 (by decide +kernel) (by decide +kernel)
theorem q_279 : (Jvm.Cond.methodLink "GlacierYears" (111 : Nat) ({ cls := "GlacierYears", name := "levelFromStrips", desc := "(II)J" } : Jvm.MethodName)) ∈ g_tbl := g_mem 279 (by decide +kernel) (by decide +kernel)
theorem q_281 : (Jvm.Cond.instanceMethod ({ cls := "GlacierYears", name := "levelFromStrips", desc := "(II)J" } : Jvm.MethodName)) ∈ g_tbl := g_mem 281 (by decide +kernel) (by decide +kernel)
theorem q_282 : (Jvm.Cond.code ({ cls := "GlacierYears", name := "levelFromStrips", desc := "(II)J" } : Jvm.MethodName) prog_1_method_30_code (4 : Nat) (Option.some Jvm.ClassFile.FieldType.long)) ∈ g_tbl := g_mem 282 (by decide +kernel) (by decide +kernel)
theorem q_283 : (Jvm.Cond.methodLink "GlacierYears" (115 : Nat) ({ cls := "GlacierYears$Land", name := "settle", desc := "(IIJ)V" } : Jvm.MethodName)) ∈ g_tbl := g_mem 283 (by decide +kernel) (by decide +kernel)
theorem q_284 : (Jvm.Cond.instanceMethod ({ cls := "GlacierYears$Land", name := "settle", desc := "(IIJ)V" } : Jvm.MethodName)) ∈ g_tbl := g_mem 284 (by decide +kernel) (by decide +kernel)
theorem q_285 : (Jvm.Cond.selects "GlacierYears$Land" ({ cls := "GlacierYears$Land", name := "settle", desc := "(IIJ)V" } : Jvm.MethodName) ({ cls := "GlacierYears$Land", name := "settle", desc := "(IIJ)V" } : Jvm.MethodName)) ∈ g_tbl := g_mem 285 (by decide +kernel) (by decide +kernel)
theorem q_286 : (Jvm.Cond.code ({ cls := "GlacierYears$Land", name := "settle", desc := "(IIJ)V" } : Jvm.MethodName) prog_3_method_9_code (7 : Nat) (Option.none : Option Jvm.ClassFile.FieldType)) ∈ g_tbl := g_mem 286 (by decide +kernel) (by decide +kernel)
theorem q_287 : (Jvm.Cond.methodLink "GlacierYears$Land" (31 : Nat) ({ cls := "GlacierYears$Land", name := "placeAt", desc := "(II)I" } : Jvm.MethodName)) ∈ g_tbl := g_mem 287 (by decide +kernel) (by decide +kernel)
theorem q_288 : (Jvm.Cond.instanceMethod ({ cls := "GlacierYears$Land", name := "placeAt", desc := "(II)I" } : Jvm.MethodName)) ∈ g_tbl := g_mem 288 (by decide +kernel) (by decide +kernel)
theorem q_289 : (Jvm.Cond.selects "GlacierYears$Land" ({ cls := "GlacierYears$Land", name := "placeAt", desc := "(II)I" } : Jvm.MethodName) ({ cls := "GlacierYears$Land", name := "placeAt", desc := "(II)I" } : Jvm.MethodName)) ∈ g_tbl := g_mem 289 (by decide +kernel) (by decide +kernel)
theorem q_290 : (Jvm.Cond.code ({ cls := "GlacierYears$Land", name := "placeAt", desc := "(II)I" } : Jvm.MethodName) prog_3_method_3_code (3 : Nat) (Option.some Jvm.ClassFile.FieldType.int)) ∈ g_tbl := g_mem 290 (by decide +kernel) (by decide +kernel)
theorem q_291 : (Jvm.Cond.constantLong "GlacierYears$Land" (40 : Nat) (9999 : Int64)) ∈ g_tbl := g_mem 291 (by decide +kernel) (by decide +kernel)
theorem q_292 : (Jvm.Cond.methodLink "GlacierYears$Land" (42 : Nat) ({ cls := "GlacierYears$Land", name := "listIfOpen", desc := "(I)V" } : Jvm.MethodName)) ∈ g_tbl := g_mem 292 (by decide +kernel) (by decide +kernel)
theorem q_294 : (Jvm.Cond.instanceMethod ({ cls := "GlacierYears$Land", name := "listIfOpen", desc := "(I)V" } : Jvm.MethodName)) ∈ g_tbl := g_mem 294 (by decide +kernel) (by decide +kernel)
theorem q_295 : (Jvm.Cond.code ({ cls := "GlacierYears$Land", name := "listIfOpen", desc := "(I)V" } : Jvm.MethodName) prog_3_method_11_code (2 : Nat) (Option.none : Option Jvm.ClassFile.FieldType)) ∈ g_tbl := g_mem 295 (by decide +kernel) (by decide +kernel)
theorem q_296 : (Jvm.Cond.methodLink "GlacierYears" (119 : Nat) ({ cls := "GlacierYears$Ice", name := "clear", desc := "()V" } : Jvm.MethodName)) ∈ g_tbl := g_mem 296 (by decide +kernel) (by decide +kernel)
theorem q_297 : (Jvm.Cond.instanceMethod ({ cls := "GlacierYears$Ice", name := "clear", desc := "()V" } : Jvm.MethodName)) ∈ g_tbl := g_mem 297 (by decide +kernel) (by decide +kernel)
theorem q_298 : (Jvm.Cond.selects "GlacierYears$Ice" ({ cls := "GlacierYears$Ice", name := "clear", desc := "()V" } : Jvm.MethodName) ({ cls := "GlacierYears$Ice", name := "clear", desc := "()V" } : Jvm.MethodName)) ∈ g_tbl := g_mem 298 (by decide +kernel) (by decide +kernel)
theorem q_299 : (Jvm.Cond.code ({ cls := "GlacierYears$Ice", name := "clear", desc := "()V" } : Jvm.MethodName) prog_2_method_2_code (1 : Nat) (Option.none : Option Jvm.ClassFile.FieldType)) ∈ g_tbl := g_mem 299 (by decide +kernel) (by decide +kernel)
theorem q_300 : (Jvm.Cond.methodLink "GlacierYears$Ice" (25 : Nat) ({ cls := "java/util/Arrays", name := "fill", desc := "([JJ)V" } : Jvm.MethodName)) ∈ g_tbl := g_mem 300 (by decide +kernel) (by decide +kernel)
theorem q_301 : (Jvm.Cond.methodLink "GlacierYears" (122 : Nat) ({ cls := "GlacierYears$Past", name := "forget", desc := "()V" } : Jvm.MethodName)) ∈ g_tbl := g_mem 301 (by decide +kernel) (by decide +kernel)
theorem q_302 : (Jvm.Cond.instanceMethod ({ cls := "GlacierYears$Past", name := "forget", desc := "()V" } : Jvm.MethodName)) ∈ g_tbl := g_mem 302 (by decide +kernel) (by decide +kernel)
theorem q_303 : (Jvm.Cond.selects "GlacierYears$Past" ({ cls := "GlacierYears$Past", name := "forget", desc := "()V" } : Jvm.MethodName) ({ cls := "GlacierYears$Past", name := "forget", desc := "()V" } : Jvm.MethodName)) ∈ g_tbl := g_mem 303 (by decide +kernel) (by decide +kernel)
theorem q_304 : (Jvm.Cond.code ({ cls := "GlacierYears$Past", name := "forget", desc := "()V" } : Jvm.MethodName) prog_4_method_4_code (1 : Nat) (Option.none : Option Jvm.ClassFile.FieldType)) ∈ g_tbl := g_mem 304 (by decide +kernel) (by decide +kernel)
theorem q_305 : (Jvm.Cond.methodLink "GlacierYears" (125 : Nat) ({ cls := "GlacierYears$Land", name := "cliffs", desc := "()I" } : Jvm.MethodName)) ∈ g_tbl := g_mem 305 (by decide +kernel) (by decide +kernel)
theorem q_306 : (Jvm.Cond.instanceMethod ({ cls := "GlacierYears$Land", name := "cliffs", desc := "()I" } : Jvm.MethodName)) ∈ g_tbl := g_mem 306 (by decide +kernel) (by decide +kernel)
theorem q_307 : (Jvm.Cond.selects "GlacierYears$Land" ({ cls := "GlacierYears$Land", name := "cliffs", desc := "()I" } : Jvm.MethodName) ({ cls := "GlacierYears$Land", name := "cliffs", desc := "()I" } : Jvm.MethodName)) ∈ g_tbl := g_mem 307 (by decide +kernel) (by decide +kernel)
theorem q_308 : (Jvm.Cond.code ({ cls := "GlacierYears$Land", name := "cliffs", desc := "()I" } : Jvm.MethodName) prog_3_method_5_code (1 : Nat) (Option.some Jvm.ClassFile.FieldType.int)) ∈ g_tbl := g_mem 308 (by decide +kernel) (by decide +kernel)
theorem q_309 : (Jvm.Cond.methodLink "GlacierYearsLaw" (45 : Nat) ({ cls := "GlacierYears", name := "kind", desc := "(IIII)I" } : Jvm.MethodName)) ∈ g_tbl := g_mem 309 (by decide +kernel) (by decide +kernel)
theorem q_310 : (Jvm.Cond.instanceMethod ({ cls := "GlacierYears", name := "kind", desc := "(IIII)I" } : Jvm.MethodName)) ∈ g_tbl := g_mem 310 (by decide +kernel) (by decide +kernel)
theorem q_311 : (Jvm.Cond.selects "GlacierYears" ({ cls := "GlacierYears", name := "kind", desc := "(IIII)I" } : Jvm.MethodName) ({ cls := "GlacierYears", name := "kind", desc := "(IIII)I" } : Jvm.MethodName)) ∈ g_tbl := g_mem 311 (by decide +kernel) (by decide +kernel)
theorem q_312 : (Jvm.Cond.code ({ cls := "GlacierYears", name := "kind", desc := "(IIII)I" } : Jvm.MethodName) prog_1_method_8_code (7 : Nat) (Option.some Jvm.ClassFile.FieldType.int)) ∈ g_tbl := g_mem 312 (by decide +kernel) (by decide +kernel)
theorem q_313 : (Jvm.Cond.methodLink "GlacierYears" (129 : Nat) ({ cls := "GlacierYears$Land", name := "placeAt", desc := "(II)I" } : Jvm.MethodName)) ∈ g_tbl := g_mem 313 (by decide +kernel) (by decide +kernel)
theorem q_314 : (Jvm.Cond.methodLink "GlacierYears" (133 : Nat) ({ cls := "GlacierYears", name := "isHundredths", desc := "(I)Z" } : Jvm.MethodName)) ∈ g_tbl := g_mem 314 (by decide +kernel) (by decide +kernel)
theorem q_315 : (Jvm.Cond.static ({ cls := "GlacierYears", name := "isHundredths", desc := "(I)Z" } : Jvm.MethodName)) ∈ g_tbl := g_mem 315 (by decide +kernel) (by decide +kernel)
theorem q_316 : (Jvm.Cond.code ({ cls := "GlacierYears", name := "isHundredths", desc := "(I)Z" } : Jvm.MethodName) prog_1_method_27_code (1 : Nat) (Option.some Jvm.ClassFile.FieldType.boolean)) ∈ g_tbl := g_mem 316 (by decide +kernel) (by decide +kernel)
theorem q_317 : (Jvm.Cond.methodLink "GlacierYearsLaw" (50 : Nat) ({ cls := "GlacierYears", name := "taken", desc := "(IIII)I" } : Jvm.MethodName)) ∈ g_tbl := g_mem 317 (by decide +kernel) (by decide +kernel)
theorem q_318 : (Jvm.Cond.instanceMethod ({ cls := "GlacierYears", name := "taken", desc := "(IIII)I" } : Jvm.MethodName)) ∈ g_tbl := g_mem 318 (by decide +kernel) (by decide +kernel)
theorem q_319 : (Jvm.Cond.selects "GlacierYears" ({ cls := "GlacierYears", name := "taken", desc := "(IIII)I" } : Jvm.MethodName) ({ cls := "GlacierYears", name := "taken", desc := "(IIII)I" } : Jvm.MethodName)) ∈ g_tbl := g_mem 319 (by decide +kernel) (by decide +kernel)
theorem q_320 : (Jvm.Cond.code ({ cls := "GlacierYears", name := "taken", desc := "(IIII)I" } : Jvm.MethodName) prog_1_method_9_code (6 : Nat) (Option.some Jvm.ClassFile.FieldType.int)) ∈ g_tbl := g_mem 320 (by decide +kernel) (by decide +kernel)
theorem q_321 : (Jvm.Cond.methodLink "GlacierYears" (143 : Nat) ({ cls := "GlacierYears", name := "countsAs", desc := "(II)Z" } : Jvm.MethodName)) ∈ g_tbl := g_mem 321 (by decide +kernel) (by decide +kernel)
theorem q_322 : (Jvm.Cond.static ({ cls := "GlacierYears", name := "countsAs", desc := "(II)Z" } : Jvm.MethodName)) ∈ g_tbl := g_mem 322 (by decide +kernel) (by decide +kernel)
theorem q_323 : (Jvm.Cond.code ({ cls := "GlacierYears", name := "countsAs", desc := "(II)Z" } : Jvm.MethodName) prog_1_method_28_code (2 : Nat) (Option.some Jvm.ClassFile.FieldType.boolean)) ∈ g_tbl := g_mem 323 (by decide +kernel) (by decide +kernel)
theorem q_324 : (Jvm.Cond.methodLink "GlacierYearsLaw" (54 : Nat) ({ cls := "GlacierYears", name := "tell", desc := "(ZII)I" } : Jvm.MethodName)) ∈ g_tbl := g_mem 324 (by decide +kernel) (by decide +kernel)
theorem q_325 : (Jvm.Cond.instanceMethod ({ cls := "GlacierYears", name := "tell", desc := "(ZII)I" } : Jvm.MethodName)) ∈ g_tbl := g_mem 325 (by decide +kernel) (by decide +kernel)
theorem q_326 : (Jvm.Cond.selects "GlacierYears" ({ cls := "GlacierYears", name := "tell", desc := "(ZII)I" } : Jvm.MethodName) ({ cls := "GlacierYears", name := "tell", desc := "(ZII)I" } : Jvm.MethodName)) ∈ g_tbl := g_mem 326 (by decide +kernel) (by decide +kernel)
theorem q_327 : (Jvm.Cond.code ({ cls := "GlacierYears", name := "tell", desc := "(ZII)I" } : Jvm.MethodName) prog_1_method_10_code (6 : Nat) (Option.some Jvm.ClassFile.FieldType.int)) ∈ g_tbl := g_mem 327 (by decide +kernel) (by decide +kernel)
theorem q_328 : (Jvm.Cond.constant "GlacierYears" (146 : Nat) (100000 : Int32)) ∈ g_tbl := g_mem 328 (by decide +kernel) (by decide +kernel)
theorem q_329 : (Jvm.Cond.methodLink "GlacierYearsLaw" (59 : Nat) ({ cls := "GlacierYears", name := "rule", desc := "(II)I" } : Jvm.MethodName)) ∈ g_tbl := g_mem 329 (by decide +kernel) (by decide +kernel)
theorem q_330 : (Jvm.Cond.instanceMethod ({ cls := "GlacierYears", name := "rule", desc := "(II)I" } : Jvm.MethodName)) ∈ g_tbl := g_mem 330 (by decide +kernel) (by decide +kernel)
theorem q_331 : (Jvm.Cond.selects "GlacierYears" ({ cls := "GlacierYears", name := "rule", desc := "(II)I" } : Jvm.MethodName) ({ cls := "GlacierYears", name := "rule", desc := "(II)I" } : Jvm.MethodName)) ∈ g_tbl := g_mem 331 (by decide +kernel) (by decide +kernel)
theorem q_332 : (Jvm.Cond.code ({ cls := "GlacierYears", name := "rule", desc := "(II)I" } : Jvm.MethodName) prog_1_method_11_code (4 : Nat) (Option.some Jvm.ClassFile.FieldType.int)) ∈ g_tbl := g_mem 332 (by decide +kernel) (by decide +kernel)
theorem q_333 : (Jvm.Cond.constant "GlacierYears" (153 : Nat) (1000000 : Int32)) ∈ g_tbl := g_mem 333 (by decide +kernel) (by decide +kernel)
theorem q_334 : (Jvm.Cond.methodLink "GlacierYearsLaw" (63 : Nat) ({ cls := "GlacierYears", name := "ice", desc := "(III)J" } : Jvm.MethodName)) ∈ g_tbl := g_mem 334 (by decide +kernel) (by decide +kernel)
theorem q_335 : (Jvm.Cond.instanceMethod ({ cls := "GlacierYears", name := "ice", desc := "(III)J" } : Jvm.MethodName)) ∈ g_tbl := g_mem 335 (by decide +kernel) (by decide +kernel)
theorem q_336 : (Jvm.Cond.selects "GlacierYears" ({ cls := "GlacierYears", name := "ice", desc := "(III)J" } : Jvm.MethodName) ({ cls := "GlacierYears", name := "ice", desc := "(III)J" } : Jvm.MethodName)) ∈ g_tbl := g_mem 336 (by decide +kernel) (by decide +kernel)
theorem q_337 : (Jvm.Cond.code ({ cls := "GlacierYears", name := "ice", desc := "(III)J" } : Jvm.MethodName) prog_1_method_12_code (5 : Nat) (Option.some Jvm.ClassFile.FieldType.long)) ∈ g_tbl := g_mem 337 (by decide +kernel) (by decide +kernel)
theorem q_338 : (Jvm.Cond.constantLong "GlacierYears" (163 : Nat) (-3 : Int64)) ∈ g_tbl := g_mem 338 (by decide +kernel) (by decide +kernel)
theorem q_339 : (Jvm.Cond.methodLink "GlacierYears" (165 : Nat) ({ cls := "GlacierYears$Ice", name := "arrive", desc := "(IIJ)V" } : Jvm.MethodName)) ∈ g_tbl := g_mem 339 (by decide +kernel) (by decide +kernel)
theorem q_340 : (Jvm.Cond.instanceMethod ({ cls := "GlacierYears$Ice", name := "arrive", desc := "(IIJ)V" } : Jvm.MethodName)) ∈ g_tbl := g_mem 340 (by decide +kernel) (by decide +kernel)
theorem q_341 : (Jvm.Cond.selects "GlacierYears$Ice" ({ cls := "GlacierYears$Ice", name := "arrive", desc := "(IIJ)V" } : Jvm.MethodName) ({ cls := "GlacierYears$Ice", name := "arrive", desc := "(IIJ)V" } : Jvm.MethodName)) ∈ g_tbl := g_mem 341 (by decide +kernel) (by decide +kernel)
theorem q_342 : (Jvm.Cond.code ({ cls := "GlacierYears$Ice", name := "arrive", desc := "(IIJ)V" } : Jvm.MethodName) prog_2_method_7_code (5 : Nat) (Option.none : Option Jvm.ClassFile.FieldType)) ∈ g_tbl := g_mem 342 (by decide +kernel) (by decide +kernel)
theorem q_343 : (Jvm.Cond.methodLink "GlacierYears$Ice" (37 : Nat) ({ cls := "GlacierYears$Ice", name := "lay", desc := "(IIJ)V" } : Jvm.MethodName)) ∈ g_tbl := g_mem 343 (by decide +kernel) (by decide +kernel)
theorem q_344 : (Jvm.Cond.instanceMethod ({ cls := "GlacierYears$Ice", name := "lay", desc := "(IIJ)V" } : Jvm.MethodName)) ∈ g_tbl := g_mem 344 (by decide +kernel) (by decide +kernel)
theorem q_345 : (Jvm.Cond.selects "GlacierYears$Ice" ({ cls := "GlacierYears$Ice", name := "lay", desc := "(IIJ)V" } : Jvm.MethodName) ({ cls := "GlacierYears$Ice", name := "lay", desc := "(IIJ)V" } : Jvm.MethodName)) ∈ g_tbl := g_mem 345 (by decide +kernel) (by decide +kernel)
theorem q_346 : (Jvm.Cond.code ({ cls := "GlacierYears$Ice", name := "lay", desc := "(IIJ)V" } : Jvm.MethodName) prog_2_method_5_code (5 : Nat) (Option.none : Option Jvm.ClassFile.FieldType)) ∈ g_tbl := g_mem 346 (by decide +kernel) (by decide +kernel)
theorem q_347 : (Jvm.Cond.methodLink "GlacierYearsLaw" (67 : Nat) ({ cls := "GlacierYears", name := "years", desc := "(I)I" } : Jvm.MethodName)) ∈ g_tbl := g_mem 347 (by decide +kernel) (by decide +kernel)
theorem q_348 : (Jvm.Cond.instanceMethod ({ cls := "GlacierYears", name := "years", desc := "(I)I" } : Jvm.MethodName)) ∈ g_tbl := g_mem 348 (by decide +kernel) (by decide +kernel)
theorem q_349 : (Jvm.Cond.selects "GlacierYears" ({ cls := "GlacierYears", name := "years", desc := "(I)I" } : Jvm.MethodName) ({ cls := "GlacierYears", name := "years", desc := "(I)I" } : Jvm.MethodName)) ∈ g_tbl := g_mem 349 (by decide +kernel) (by decide +kernel)
theorem q_350 : (Jvm.Cond.code ({ cls := "GlacierYears", name := "years", desc := "(I)I" } : Jvm.MethodName) prog_1_method_13_code (4 : Nat) (Option.some Jvm.ClassFile.FieldType.int)) ∈ g_tbl := g_mem 350 (by decide +kernel) (by decide +kernel)
theorem q_351 : (Jvm.Cond.methodLink "GlacierYears" (171 : Nat) ({ cls := "GlacierYears", name := "refusalOfYears", desc := "(I)I" } : Jvm.MethodName)) ∈ g_tbl := g_mem 351 (by decide +kernel) (by decide +kernel)
theorem q_353 : (Jvm.Cond.instanceMethod ({ cls := "GlacierYears", name := "refusalOfYears", desc := "(I)I" } : Jvm.MethodName)) ∈ g_tbl := g_mem 353 (by decide +kernel) (by decide +kernel)
theorem q_354 : (Jvm.Cond.code ({ cls := "GlacierYears", name := "refusalOfYears", desc := "(I)I" } : Jvm.MethodName) prog_1_method_32_code (2 : Nat) (Option.some Jvm.ClassFile.FieldType.int)) ∈ g_tbl := g_mem 354 (by decide +kernel) (by decide +kernel)
theorem q_355 : (Jvm.Cond.methodLink "GlacierYears" (210 : Nat) ({ cls := "GlacierYears$Land", name := "lies", desc := "()Z" } : Jvm.MethodName)) ∈ g_tbl := g_mem 355 (by decide +kernel) (by decide +kernel)
theorem q_356 : (Jvm.Cond.instanceMethod ({ cls := "GlacierYears$Land", name := "lies", desc := "()Z" } : Jvm.MethodName)) ∈ g_tbl := g_mem 356 (by decide +kernel) (by decide +kernel)
theorem q_357 : (Jvm.Cond.selects "GlacierYears$Land" ({ cls := "GlacierYears$Land", name := "lies", desc := "()Z" } : Jvm.MethodName) ({ cls := "GlacierYears$Land", name := "lies", desc := "()Z" } : Jvm.MethodName)) ∈ g_tbl := g_mem 357 (by decide +kernel) (by decide +kernel)
theorem q_358 : (Jvm.Cond.code ({ cls := "GlacierYears$Land", name := "lies", desc := "()Z" } : Jvm.MethodName) prog_3_method_2_code (1 : Nat) (Option.some Jvm.ClassFile.FieldType.boolean)) ∈ g_tbl := g_mem 358 (by decide +kernel) (by decide +kernel)
theorem q_359 : (Jvm.Cond.methodLink "GlacierYears" (174 : Nat) ({ cls := "GlacierYears", name := "passYear", desc := "()V" } : Jvm.MethodName)) ∈ g_tbl := g_mem 359 (by decide +kernel) (by decide +kernel)
theorem q_361 : (Jvm.Cond.instanceMethod ({ cls := "GlacierYears", name := "passYear", desc := "()V" } : Jvm.MethodName)) ∈ g_tbl := g_mem 361 (by decide +kernel) (by decide +kernel)
theorem q_362 : (Jvm.Cond.code ({ cls := "GlacierYears", name := "passYear", desc := "()V" } : Jvm.MethodName) prog_1_method_33_code (1 : Nat) (Option.none : Option Jvm.ClassFile.FieldType)) ∈ g_tbl := g_mem 362 (by decide +kernel) (by decide +kernel)
theorem q_363 : (Jvm.Cond.methodLink "GlacierYears" (261 : Nat) ({ cls := "GlacierYears$Past", name := "keep", desc := "(LGlacierYears$Ice;)V" } : Jvm.MethodName)) ∈ g_tbl := g_mem 363 (by decide +kernel) (by decide +kernel)
theorem q_364 : (Jvm.Cond.instanceMethod ({ cls := "GlacierYears$Past", name := "keep", desc := "(LGlacierYears$Ice;)V" } : Jvm.MethodName)) ∈ g_tbl := g_mem 364 (by decide +kernel) (by decide +kernel)
theorem q_365 : (Jvm.Cond.selects "GlacierYears$Past" ({ cls := "GlacierYears$Past", name := "keep", desc := "(LGlacierYears$Ice;)V" } : Jvm.MethodName) ({ cls := "GlacierYears$Past", name := "keep", desc := "(LGlacierYears$Ice;)V" } : Jvm.MethodName)) ∈ g_tbl := g_mem 365 (by decide +kernel) (by decide +kernel)
theorem q_366 : (Jvm.Cond.code ({ cls := "GlacierYears$Past", name := "keep", desc := "(LGlacierYears$Ice;)V" } : Jvm.MethodName) prog_4_method_2_code (2 : Nat) (Option.none : Option Jvm.ClassFile.FieldType)) ∈ g_tbl := g_mem 366 (by decide +kernel) (by decide +kernel)
theorem q_367 : (Jvm.Cond.methodLink "GlacierYears$Past" (22 : Nat) ({ cls := "GlacierYears$Ice", name := "become", desc := "(LGlacierYears$Ice;)V" } : Jvm.MethodName)) ∈ g_tbl := g_mem 367 (by decide +kernel) (by decide +kernel)
theorem q_368 : (Jvm.Cond.instanceMethod ({ cls := "GlacierYears$Ice", name := "become", desc := "(LGlacierYears$Ice;)V" } : Jvm.MethodName)) ∈ g_tbl := g_mem 368 (by decide +kernel) (by decide +kernel)
theorem q_369 : (Jvm.Cond.selects "GlacierYears$Ice" ({ cls := "GlacierYears$Ice", name := "become", desc := "(LGlacierYears$Ice;)V" } : Jvm.MethodName) ({ cls := "GlacierYears$Ice", name := "become", desc := "(LGlacierYears$Ice;)V" } : Jvm.MethodName)) ∈ g_tbl := g_mem 369 (by decide +kernel) (by decide +kernel)
theorem q_370 : (Jvm.Cond.code ({ cls := "GlacierYears$Ice", name := "become", desc := "(LGlacierYears$Ice;)V" } : Jvm.MethodName) prog_2_method_3_code (2 : Nat) (Option.none : Option Jvm.ClassFile.FieldType)) ∈ g_tbl := g_mem 370 (by decide +kernel) (by decide +kernel)
theorem q_371 : (Jvm.Cond.methodLink "GlacierYears$Ice" (31 : Nat) ({ cls := "java/lang/System", name := "arraycopy", desc := "(Ljava/lang/Object;ILjava/lang/Object;II)V" } : Jvm.MethodName)) ∈ g_tbl := g_mem 371 (by decide +kernel) (by decide +kernel)
theorem q_372 : (Jvm.Cond.methodLink "GlacierYears" (264 : Nat) ({ cls := "GlacierYears", name := "snowAndMelt", desc := "()V" } : Jvm.MethodName)) ∈ g_tbl := g_mem 372 (by decide +kernel) (by decide +kernel)
theorem q_374 : (Jvm.Cond.instanceMethod ({ cls := "GlacierYears", name := "snowAndMelt", desc := "()V" } : Jvm.MethodName)) ∈ g_tbl := g_mem 374 (by decide +kernel) (by decide +kernel)
theorem q_375 : (Jvm.Cond.code ({ cls := "GlacierYears", name := "snowAndMelt", desc := "()V" } : Jvm.MethodName) prog_1_method_34_code (4 : Nat) (Option.none : Option Jvm.ClassFile.FieldType)) ∈ g_tbl := g_mem 375 (by decide +kernel) (by decide +kernel)
theorem q_376 : (Jvm.Cond.methodLink "GlacierYears" (204 : Nat) ({ cls := "GlacierYears$Land", name := "band", desc := "(I)I" } : Jvm.MethodName)) ∈ g_tbl := g_mem 376 (by decide +kernel) (by decide +kernel)
theorem q_377 : (Jvm.Cond.instanceMethod ({ cls := "GlacierYears$Land", name := "band", desc := "(I)I" } : Jvm.MethodName)) ∈ g_tbl := g_mem 377 (by decide +kernel) (by decide +kernel)
theorem q_378 : (Jvm.Cond.selects "GlacierYears$Land" ({ cls := "GlacierYears$Land", name := "band", desc := "(I)I" } : Jvm.MethodName) ({ cls := "GlacierYears$Land", name := "band", desc := "(I)I" } : Jvm.MethodName)) ∈ g_tbl := g_mem 378 (by decide +kernel) (by decide +kernel)
theorem q_379 : (Jvm.Cond.code ({ cls := "GlacierYears$Land", name := "band", desc := "(I)I" } : Jvm.MethodName) prog_3_method_6_code (2 : Nat) (Option.some Jvm.ClassFile.FieldType.int)) ∈ g_tbl := g_mem 379 (by decide +kernel) (by decide +kernel)
theorem q_380 : (Jvm.Cond.methodLink "GlacierYears" (279 : Nat) ({ cls := "GlacierYears$Land", name := "meltLeft", desc := "(IJ)J" } : Jvm.MethodName)) ∈ g_tbl := g_mem 380 (by decide +kernel) (by decide +kernel)
theorem q_381 : (Jvm.Cond.instanceMethod ({ cls := "GlacierYears$Land", name := "meltLeft", desc := "(IJ)J" } : Jvm.MethodName)) ∈ g_tbl := g_mem 381 (by decide +kernel) (by decide +kernel)
theorem q_382 : (Jvm.Cond.selects "GlacierYears$Land" ({ cls := "GlacierYears$Land", name := "meltLeft", desc := "(IJ)J" } : Jvm.MethodName) ({ cls := "GlacierYears$Land", name := "meltLeft", desc := "(IJ)J" } : Jvm.MethodName)) ∈ g_tbl := g_mem 382 (by decide +kernel) (by decide +kernel)
theorem q_383 : (Jvm.Cond.code ({ cls := "GlacierYears$Land", name := "meltLeft", desc := "(IJ)J" } : Jvm.MethodName) prog_3_method_7_code (5 : Nat) (Option.some Jvm.ClassFile.FieldType.long)) ∈ g_tbl := g_mem 383 (by decide +kernel) (by decide +kernel)
theorem q_384 : (Jvm.Cond.constantLong "GlacierYears$Land" (38 : Nat) (100 : Int64)) ∈ g_tbl := g_mem 384 (by decide +kernel) (by decide +kernel)
theorem q_385 : (Jvm.Cond.methodLink "GlacierYears" (283 : Nat) ({ cls := "GlacierYears$Ice", name := "lose", desc := "(IJI)V" } : Jvm.MethodName)) ∈ g_tbl := g_mem 385 (by decide +kernel) (by decide +kernel)
theorem q_386 : (Jvm.Cond.instanceMethod ({ cls := "GlacierYears$Ice", name := "lose", desc := "(IJI)V" } : Jvm.MethodName)) ∈ g_tbl := g_mem 386 (by decide +kernel) (by decide +kernel)
theorem q_387 : (Jvm.Cond.selects "GlacierYears$Ice" ({ cls := "GlacierYears$Ice", name := "lose", desc := "(IJI)V" } : Jvm.MethodName) ({ cls := "GlacierYears$Ice", name := "lose", desc := "(IJI)V" } : Jvm.MethodName)) ∈ g_tbl := g_mem 387 (by decide +kernel) (by decide +kernel)
theorem q_388 : (Jvm.Cond.code ({ cls := "GlacierYears$Ice", name := "lose", desc := "(IJI)V" } : Jvm.MethodName) prog_2_method_8_code (10 : Nat) (Option.none : Option Jvm.ClassFile.FieldType)) ∈ g_tbl := g_mem 388 (by decide +kernel) (by decide +kernel)
theorem q_389 : (Jvm.Cond.methodLink "GlacierYears$Ice" (41 : Nat) ({ cls := "java/lang/Math", name := "min", desc := "(JJ)J" } : Jvm.MethodName)) ∈ g_tbl := g_mem 389 (by decide +kernel) (by decide +kernel)
theorem q_390 : (Jvm.Cond.static ({ cls := "java/lang/Math", name := "min", desc := "(JJ)J" } : Jvm.MethodName)) ∈ g_tbl := g_mem 390 (by decide +kernel) (by decide +kernel)
theorem q_391 : (Jvm.Cond.code ({ cls := "java/lang/Math", name := "min", desc := "(JJ)J" } : Jvm.MethodName) prog_9_method_70_code (4 : Nat) (Option.some Jvm.ClassFile.FieldType.long)) ∈ g_tbl := g_mem 391 (by decide +kernel) (by decide +kernel)
theorem q_392 : (Jvm.Cond.methodLink "GlacierYears$Ice" (47 : Nat) ({ cls := "GlacierYears$Ice", name := "lift", desc := "(IIJ)V" } : Jvm.MethodName)) ∈ g_tbl := g_mem 392 (by decide +kernel) (by decide +kernel)
theorem q_393 : (Jvm.Cond.instanceMethod ({ cls := "GlacierYears$Ice", name := "lift", desc := "(IIJ)V" } : Jvm.MethodName)) ∈ g_tbl := g_mem 393 (by decide +kernel) (by decide +kernel)
theorem q_394 : (Jvm.Cond.selects "GlacierYears$Ice" ({ cls := "GlacierYears$Ice", name := "lift", desc := "(IIJ)V" } : Jvm.MethodName) ({ cls := "GlacierYears$Ice", name := "lift", desc := "(IIJ)V" } : Jvm.MethodName)) ∈ g_tbl := g_mem 394 (by decide +kernel) (by decide +kernel)
theorem q_395 : (Jvm.Cond.code ({ cls := "GlacierYears$Ice", name := "lift", desc := "(IIJ)V" } : Jvm.MethodName) prog_2_method_6_code (5 : Nat) (Option.none : Option Jvm.ClassFile.FieldType)) ∈ g_tbl := g_mem 395 (by decide +kernel) (by decide +kernel)
theorem q_396 : (Jvm.Cond.methodLink "GlacierYears" (267 : Nat) ({ cls := "GlacierYears", name := "moveIce", desc := "()V" } : Jvm.MethodName)) ∈ g_tbl := g_mem 396 (by decide +kernel) (by decide +kernel)
theorem q_398 : (Jvm.Cond.instanceMethod ({ cls := "GlacierYears", name := "moveIce", desc := "()V" } : Jvm.MethodName)) ∈ g_tbl := g_mem 398 (by decide +kernel) (by decide +kernel)
theorem q_399 : (Jvm.Cond.code ({ cls := "GlacierYears", name := "moveIce", desc := "()V" } : Jvm.MethodName) prog_1_method_35_code (4 : Nat) (Option.none : Option Jvm.ClassFile.FieldType)) ∈ g_tbl := g_mem 399 (by decide +kernel) (by decide +kernel)
theorem q_400 : (Jvm.Cond.methodLink "GlacierYears" (235 : Nat) ({ cls := "GlacierYears", name := "gift", desc := "(II)J" } : Jvm.MethodName)) ∈ g_tbl := g_mem 400 (by decide +kernel) (by decide +kernel)
theorem q_402 : (Jvm.Cond.instanceMethod ({ cls := "GlacierYears", name := "gift", desc := "(II)J" } : Jvm.MethodName)) ∈ g_tbl := g_mem 402 (by decide +kernel) (by decide +kernel)
theorem q_403 : (Jvm.Cond.code ({ cls := "GlacierYears", name := "gift", desc := "(II)J" } : Jvm.MethodName) prog_1_method_36_code (13 : Nat) (Option.some Jvm.ClassFile.FieldType.long)) ∈ g_tbl := g_mem 403 (by decide +kernel) (by decide +kernel)
theorem q_404 : (Jvm.Cond.methodLink "GlacierYears" (287 : Nat) ({ cls := "GlacierYears$Land", name := "neighbour", desc := "(II)I" } : Jvm.MethodName)) ∈ g_tbl := g_mem 404 (by decide +kernel) (by decide +kernel)
theorem q_405 : (Jvm.Cond.instanceMethod ({ cls := "GlacierYears$Land", name := "neighbour", desc := "(II)I" } : Jvm.MethodName)) ∈ g_tbl := g_mem 405 (by decide +kernel) (by decide +kernel)
theorem q_406 : (Jvm.Cond.selects "GlacierYears$Land" ({ cls := "GlacierYears$Land", name := "neighbour", desc := "(II)I" } : Jvm.MethodName) ({ cls := "GlacierYears$Land", name := "neighbour", desc := "(II)I" } : Jvm.MethodName)) ∈ g_tbl := g_mem 406 (by decide +kernel) (by decide +kernel)
theorem q_407 : (Jvm.Cond.code ({ cls := "GlacierYears$Land", name := "neighbour", desc := "(II)I" } : Jvm.MethodName) prog_3_method_4_code (5 : Nat) (Option.some Jvm.ClassFile.FieldType.int)) ∈ g_tbl := g_mem 407 (by decide +kernel) (by decide +kernel)
theorem q_408 : (Jvm.Cond.methodLink "GlacierYears" (194 : Nat) ({ cls := "GlacierYears", name := "surface", desc := "(I)J" } : Jvm.MethodName)) ∈ g_tbl := g_mem 408 (by decide +kernel) (by decide +kernel)
theorem q_410 : (Jvm.Cond.instanceMethod ({ cls := "GlacierYears", name := "surface", desc := "(I)J" } : Jvm.MethodName)) ∈ g_tbl := g_mem 410 (by decide +kernel) (by decide +kernel)
theorem q_411 : (Jvm.Cond.code ({ cls := "GlacierYears", name := "surface", desc := "(I)J" } : Jvm.MethodName) prog_1_method_31_code (2 : Nat) (Option.some Jvm.ClassFile.FieldType.long)) ∈ g_tbl := g_mem 411 (by decide +kernel) (by decide +kernel)
theorem q_412 : (Jvm.Cond.methodLink "GlacierYears" (293 : Nat) ({ cls := "java/lang/Math", name := "min", desc := "(JJ)J" } : Jvm.MethodName)) ∈ g_tbl := g_mem 412 (by decide +kernel) (by decide +kernel)
theorem q_413 : (Jvm.Cond.constantLong "GlacierYears" (299 : Nat) (100 : Int64)) ∈ g_tbl := g_mem 413 (by decide +kernel) (by decide +kernel)
theorem q_414 : (Jvm.Cond.constantLong "GlacierYears" (301 : Nat) (8 : Int64)) ∈ g_tbl := g_mem 414 (by decide +kernel) (by decide +kernel)
theorem q_415 : (Jvm.Cond.methodLink "GlacierYears" (242 : Nat) ({ cls := "GlacierYears$Ice", name := "become", desc := "(LGlacierYears$Ice;)V" } : Jvm.MethodName)) ∈ g_tbl := g_mem 415 (by decide +kernel) (by decide +kernel)
theorem q_416 : (Jvm.Cond.methodLink "GlacierYears" (290 : Nat) ({ cls := "GlacierYears", name := "hand", desc := "(IIJ)V" } : Jvm.MethodName)) ∈ g_tbl := g_mem 416 (by decide +kernel) (by decide +kernel)
theorem q_418 : (Jvm.Cond.instanceMethod ({ cls := "GlacierYears", name := "hand", desc := "(IIJ)V" } : Jvm.MethodName)) ∈ g_tbl := g_mem 418 (by decide +kernel) (by decide +kernel)
theorem q_419 : (Jvm.Cond.code ({ cls := "GlacierYears", name := "hand", desc := "(IIJ)V" } : Jvm.MethodName) prog_1_method_37_code (10 : Nat) (Option.none : Option Jvm.ClassFile.FieldType)) ∈ g_tbl := g_mem 419 (by decide +kernel) (by decide +kernel)
theorem q_420 : (Jvm.Cond.methodLink "GlacierYears" (303 : Nat) ({ cls := "GlacierYears$Ice", name := "lift", desc := "(IIJ)V" } : Jvm.MethodName)) ∈ g_tbl := g_mem 420 (by decide +kernel) (by decide +kernel)
theorem q_421 : (Jvm.Cond.methodLink "GlacierYears" (306 : Nat) ({ cls := "GlacierYears$Ice", name := "lay", desc := "(IIJ)V" } : Jvm.MethodName)) ∈ g_tbl := g_mem 421 (by decide +kernel) (by decide +kernel)
theorem q_422 : (Jvm.Cond.methodLink "GlacierYears" (270 : Nat) ({ cls := "GlacierYears", name := "floatIce", desc := "()V" } : Jvm.MethodName)) ∈ g_tbl := g_mem 422 (by decide +kernel) (by decide +kernel)
theorem q_424 : (Jvm.Cond.instanceMethod ({ cls := "GlacierYears", name := "floatIce", desc := "()V" } : Jvm.MethodName)) ∈ g_tbl := g_mem 424 (by decide +kernel) (by decide +kernel)
theorem q_425 : (Jvm.Cond.code ({ cls := "GlacierYears", name := "floatIce", desc := "()V" } : Jvm.MethodName) prog_1_method_38_code (3 : Nat) (Option.none : Option Jvm.ClassFile.FieldType)) ∈ g_tbl := g_mem 425 (by decide +kernel) (by decide +kernel)
theorem q_426 : (Jvm.Cond.methodLink "GlacierYearsLaw" (71 : Nat) ({ cls := "GlacierYears", name := "back", desc := "()I" } : Jvm.MethodName)) ∈ g_tbl := g_mem 426 (by decide +kernel) (by decide +kernel)
theorem q_427 : (Jvm.Cond.instanceMethod ({ cls := "GlacierYears", name := "back", desc := "()I" } : Jvm.MethodName)) ∈ g_tbl := g_mem 427 (by decide +kernel) (by decide +kernel)
theorem q_428 : (Jvm.Cond.selects "GlacierYears" ({ cls := "GlacierYears", name := "back", desc := "()I" } : Jvm.MethodName) ({ cls := "GlacierYears", name := "back", desc := "()I" } : Jvm.MethodName)) ∈ g_tbl := g_mem 428 (by decide +kernel) (by decide +kernel)
theorem q_429 : (Jvm.Cond.code ({ cls := "GlacierYears", name := "back", desc := "()I" } : Jvm.MethodName) prog_1_method_14_code (1 : Nat) (Option.some Jvm.ClassFile.FieldType.int)) ∈ g_tbl := g_mem 429 (by decide +kernel) (by decide +kernel)
theorem q_430 : (Jvm.Cond.methodLink "GlacierYears" (180 : Nat) ({ cls := "GlacierYears$Past", name := "restore", desc := "(LGlacierYears$Ice;)V" } : Jvm.MethodName)) ∈ g_tbl := g_mem 430 (by decide +kernel) (by decide +kernel)
theorem q_431 : (Jvm.Cond.instanceMethod ({ cls := "GlacierYears$Past", name := "restore", desc := "(LGlacierYears$Ice;)V" } : Jvm.MethodName)) ∈ g_tbl := g_mem 431 (by decide +kernel) (by decide +kernel)
theorem q_432 : (Jvm.Cond.selects "GlacierYears$Past" ({ cls := "GlacierYears$Past", name := "restore", desc := "(LGlacierYears$Ice;)V" } : Jvm.MethodName) ({ cls := "GlacierYears$Past", name := "restore", desc := "(LGlacierYears$Ice;)V" } : Jvm.MethodName)) ∈ g_tbl := g_mem 432 (by decide +kernel) (by decide +kernel)
theorem q_433 : (Jvm.Cond.code ({ cls := "GlacierYears$Past", name := "restore", desc := "(LGlacierYears$Ice;)V" } : Jvm.MethodName) prog_4_method_3_code (2 : Nat) (Option.none : Option Jvm.ClassFile.FieldType)) ∈ g_tbl := g_mem 433 (by decide +kernel) (by decide +kernel)
theorem q_434 : (Jvm.Cond.methodLink "GlacierYearsLaw" (76 : Nat) ({ cls := "GlacierYears", name := "steady", desc := "(I)I" } : Jvm.MethodName)) ∈ g_tbl := g_mem 434 (by decide +kernel) (by decide +kernel)
theorem q_435 : (Jvm.Cond.instanceMethod ({ cls := "GlacierYears", name := "steady", desc := "(I)I" } : Jvm.MethodName)) ∈ g_tbl := g_mem 435 (by decide +kernel) (by decide +kernel)
theorem q_436 : (Jvm.Cond.selects "GlacierYears" ({ cls := "GlacierYears", name := "steady", desc := "(I)I" } : Jvm.MethodName) ({ cls := "GlacierYears", name := "steady", desc := "(I)I" } : Jvm.MethodName)) ∈ g_tbl := g_mem 436 (by decide +kernel) (by decide +kernel)
theorem q_437 : (Jvm.Cond.code ({ cls := "GlacierYears", name := "steady", desc := "(I)I" } : Jvm.MethodName) prog_1_method_15_code (5 : Nat) (Option.some Jvm.ClassFile.FieldType.int)) ∈ g_tbl := g_mem 437 (by decide +kernel) (by decide +kernel)
theorem q_438 : (Jvm.Cond.methodLink "GlacierYears" (184 : Nat) ({ cls := "GlacierYears", name := "remember", desc := "(I)V" } : Jvm.MethodName)) ∈ g_tbl := g_mem 438 (by decide +kernel) (by decide +kernel)
theorem q_440 : (Jvm.Cond.instanceMethod ({ cls := "GlacierYears", name := "remember", desc := "(I)V" } : Jvm.MethodName)) ∈ g_tbl := g_mem 440 (by decide +kernel) (by decide +kernel)
theorem q_441 : (Jvm.Cond.code ({ cls := "GlacierYears", name := "remember", desc := "(I)V" } : Jvm.MethodName) prog_1_method_39_code (2 : Nat) (Option.none : Option Jvm.ClassFile.FieldType)) ∈ g_tbl := g_mem 441 (by decide +kernel) (by decide +kernel)
theorem q_442 : (Jvm.Cond.methodLink "GlacierYears" (188 : Nat) ({ cls := "GlacierYears", name := "yearsSinceAlike", desc := "(I)I" } : Jvm.MethodName)) ∈ g_tbl := g_mem 442 (by decide +kernel) (by decide +kernel)
theorem q_444 : (Jvm.Cond.instanceMethod ({ cls := "GlacierYears", name := "yearsSinceAlike", desc := "(I)I" } : Jvm.MethodName)) ∈ g_tbl := g_mem 444 (by decide +kernel) (by decide +kernel)
theorem q_445 : (Jvm.Cond.code ({ cls := "GlacierYears", name := "yearsSinceAlike", desc := "(I)I" } : Jvm.MethodName) prog_1_method_40_code (3 : Nat) (Option.some Jvm.ClassFile.FieldType.int)) ∈ g_tbl := g_mem 445 (by decide +kernel) (by decide +kernel)
theorem q_446 : (Jvm.Cond.methodLink "GlacierYears" (309 : Nat) ({ cls := "GlacierYears", name := "liesAsIn", desc := "(I)Z" } : Jvm.MethodName)) ∈ g_tbl := g_mem 446 (by decide +kernel) (by decide +kernel)
theorem q_448 : (Jvm.Cond.instanceMethod ({ cls := "GlacierYears", name := "liesAsIn", desc := "(I)Z" } : Jvm.MethodName)) ∈ g_tbl := g_mem 448 (by decide +kernel) (by decide +kernel)
theorem q_449 : (Jvm.Cond.code ({ cls := "GlacierYears", name := "liesAsIn", desc := "(I)Z" } : Jvm.MethodName) prog_1_method_41_code (4 : Nat) (Option.some Jvm.ClassFile.FieldType.boolean)) ∈ g_tbl := g_mem 449 (by decide +kernel) (by decide +kernel)
theorem q_450 : (Jvm.Cond.methodLink "GlacierYearsLaw" (80 : Nat) ({ cls := "GlacierYears", name := "cell", desc := "(III)J" } : Jvm.MethodName)) ∈ g_tbl := g_mem 450 (by decide +kernel) (by decide +kernel)
theorem q_451 : (Jvm.Cond.instanceMethod ({ cls := "GlacierYears", name := "cell", desc := "(III)J" } : Jvm.MethodName)) ∈ g_tbl := g_mem 451 (by decide +kernel) (by decide +kernel)
theorem q_452 : (Jvm.Cond.selects "GlacierYears" ({ cls := "GlacierYears", name := "cell", desc := "(III)J" } : Jvm.MethodName) ({ cls := "GlacierYears", name := "cell", desc := "(III)J" } : Jvm.MethodName)) ∈ g_tbl := g_mem 452 (by decide +kernel) (by decide +kernel)
theorem q_453 : (Jvm.Cond.code ({ cls := "GlacierYears", name := "cell", desc := "(III)J" } : Jvm.MethodName) prog_1_method_16_code (5 : Nat) (Option.some Jvm.ClassFile.FieldType.long)) ∈ g_tbl := g_mem 453 (by decide +kernel) (by decide +kernel)
theorem q_454 : (Jvm.Cond.methodLink "GlacierYears" (198 : Nat) ({ cls := "GlacierYears$Ice", name := "layerCount", desc := "(I)I" } : Jvm.MethodName)) ∈ g_tbl := g_mem 454 (by decide +kernel) (by decide +kernel)
theorem q_455 : (Jvm.Cond.instanceMethod ({ cls := "GlacierYears$Ice", name := "layerCount", desc := "(I)I" } : Jvm.MethodName)) ∈ g_tbl := g_mem 455 (by decide +kernel) (by decide +kernel)
theorem q_456 : (Jvm.Cond.selects "GlacierYears$Ice" ({ cls := "GlacierYears$Ice", name := "layerCount", desc := "(I)I" } : Jvm.MethodName) ({ cls := "GlacierYears$Ice", name := "layerCount", desc := "(I)I" } : Jvm.MethodName)) ∈ g_tbl := g_mem 456 (by decide +kernel) (by decide +kernel)
theorem q_457 : (Jvm.Cond.code ({ cls := "GlacierYears$Ice", name := "layerCount", desc := "(I)I" } : Jvm.MethodName) prog_2_method_9_code (4 : Nat) (Option.some Jvm.ClassFile.FieldType.int)) ∈ g_tbl := g_mem 457 (by decide +kernel) (by decide +kernel)
theorem q_458 : (Jvm.Cond.methodLink "GlacierYears" (201 : Nat) ({ cls := "GlacierYears$Ice", name := "layerYear", desc := "(II)I" } : Jvm.MethodName)) ∈ g_tbl := g_mem 458 (by decide +kernel) (by decide +kernel)
theorem q_459 : (Jvm.Cond.instanceMethod ({ cls := "GlacierYears$Ice", name := "layerYear", desc := "(II)I" } : Jvm.MethodName)) ∈ g_tbl := g_mem 459 (by decide +kernel) (by decide +kernel)
theorem q_460 : (Jvm.Cond.selects "GlacierYears$Ice" ({ cls := "GlacierYears$Ice", name := "layerYear", desc := "(II)I" } : Jvm.MethodName) ({ cls := "GlacierYears$Ice", name := "layerYear", desc := "(II)I" } : Jvm.MethodName)) ∈ g_tbl := g_mem 460 (by decide +kernel) (by decide +kernel)
theorem q_461 : (Jvm.Cond.code ({ cls := "GlacierYears$Ice", name := "layerYear", desc := "(II)I" } : Jvm.MethodName) prog_2_method_10_code (5 : Nat) (Option.some Jvm.ClassFile.FieldType.int)) ∈ g_tbl := g_mem 461 (by decide +kernel) (by decide +kernel)
theorem q_462 : (Jvm.Cond.methodLink "GlacierYearsLaw" (84 : Nat) ({ cls := "GlacierYears", name := "layer", desc := "(IIII)J" } : Jvm.MethodName)) ∈ g_tbl := g_mem 462 (by decide +kernel) (by decide +kernel)
theorem q_463 : (Jvm.Cond.instanceMethod ({ cls := "GlacierYears", name := "layer", desc := "(IIII)J" } : Jvm.MethodName)) ∈ g_tbl := g_mem 463 (by decide +kernel) (by decide +kernel)
theorem q_464 : (Jvm.Cond.selects "GlacierYears" ({ cls := "GlacierYears", name := "layer", desc := "(IIII)J" } : Jvm.MethodName) ({ cls := "GlacierYears", name := "layer", desc := "(IIII)J" } : Jvm.MethodName)) ∈ g_tbl := g_mem 464 (by decide +kernel) (by decide +kernel)
theorem q_465 : (Jvm.Cond.code ({ cls := "GlacierYears", name := "layer", desc := "(IIII)J" } : Jvm.MethodName) prog_1_method_17_code (7 : Nat) (Option.some Jvm.ClassFile.FieldType.long)) ∈ g_tbl := g_mem 465 (by decide +kernel) (by decide +kernel)
theorem q_466 : (Jvm.Cond.methodLink "GlacierYearsLaw" (89 : Nat) ({ cls := "GlacierYears", name := "sum", desc := "(II)J" } : Jvm.MethodName)) ∈ g_tbl := g_mem 466 (by decide +kernel) (by decide +kernel)
theorem q_467 : (Jvm.Cond.instanceMethod ({ cls := "GlacierYears", name := "sum", desc := "(II)J" } : Jvm.MethodName)) ∈ g_tbl := g_mem 467 (by decide +kernel) (by decide +kernel)
theorem q_468 : (Jvm.Cond.selects "GlacierYears" ({ cls := "GlacierYears", name := "sum", desc := "(II)J" } : Jvm.MethodName) ({ cls := "GlacierYears", name := "sum", desc := "(II)J" } : Jvm.MethodName)) ∈ g_tbl := g_mem 468 (by decide +kernel) (by decide +kernel)
theorem q_469 : (Jvm.Cond.code ({ cls := "GlacierYears", name := "sum", desc := "(II)J" } : Jvm.MethodName) prog_1_method_18_code (3 : Nat) (Option.some Jvm.ClassFile.FieldType.long)) ∈ g_tbl := g_mem 469 (by decide +kernel) (by decide +kernel)
theorem q_470 : (Jvm.Cond.methodLink "GlacierYears" (214 : Nat) ({ cls := "GlacierYears$Ice", name := "tallyOfAll", desc := "(I)J" } : Jvm.MethodName)) ∈ g_tbl := g_mem 470 (by decide +kernel) (by decide +kernel)
theorem q_471 : (Jvm.Cond.instanceMethod ({ cls := "GlacierYears$Ice", name := "tallyOfAll", desc := "(I)J" } : Jvm.MethodName)) ∈ g_tbl := g_mem 471 (by decide +kernel) (by decide +kernel)
theorem q_472 : (Jvm.Cond.selects "GlacierYears$Ice" ({ cls := "GlacierYears$Ice", name := "tallyOfAll", desc := "(I)J" } : Jvm.MethodName) ({ cls := "GlacierYears$Ice", name := "tallyOfAll", desc := "(I)J" } : Jvm.MethodName)) ∈ g_tbl := g_mem 472 (by decide +kernel) (by decide +kernel)
theorem q_473 : (Jvm.Cond.code ({ cls := "GlacierYears$Ice", name := "tallyOfAll", desc := "(I)J" } : Jvm.MethodName) prog_2_method_12_code (5 : Nat) (Option.some Jvm.ClassFile.FieldType.long)) ∈ g_tbl := g_mem 473 (by decide +kernel) (by decide +kernel)
theorem q_474 : (Jvm.Cond.methodLink "GlacierYearsLaw" (94 : Nat) ({ cls := "GlacierYears", name := "about", desc := "(I)J" } : Jvm.MethodName)) ∈ g_tbl := g_mem 474 (by decide +kernel) (by decide +kernel)
theorem q_475 : (Jvm.Cond.instanceMethod ({ cls := "GlacierYears", name := "about", desc := "(I)J" } : Jvm.MethodName)) ∈ g_tbl := g_mem 475 (by decide +kernel) (by decide +kernel)
theorem q_476 : (Jvm.Cond.selects "GlacierYears" ({ cls := "GlacierYears", name := "about", desc := "(I)J" } : Jvm.MethodName) ({ cls := "GlacierYears", name := "about", desc := "(I)J" } : Jvm.MethodName)) ∈ g_tbl := g_mem 476 (by decide +kernel) (by decide +kernel)
theorem q_477 : (Jvm.Cond.code ({ cls := "GlacierYears", name := "about", desc := "(I)J" } : Jvm.MethodName) prog_1_method_19_code (3 : Nat) (Option.some Jvm.ClassFile.FieldType.long)) ∈ g_tbl := g_mem 477 (by decide +kernel) (by decide +kernel)
theorem q_478 : (Jvm.Cond.methodLink "GlacierYears" (220 : Nat) ({ cls := "GlacierYears", name := "thickestPlace", desc := "()I" } : Jvm.MethodName)) ∈ g_tbl := g_mem 478 (by decide +kernel) (by decide +kernel)
theorem q_480 : (Jvm.Cond.instanceMethod ({ cls := "GlacierYears", name := "thickestPlace", desc := "()I" } : Jvm.MethodName)) ∈ g_tbl := g_mem 480 (by decide +kernel) (by decide +kernel)
theorem q_481 : (Jvm.Cond.code ({ cls := "GlacierYears", name := "thickestPlace", desc := "()I" } : Jvm.MethodName) prog_1_method_43_code (6 : Nat) (Option.some Jvm.ClassFile.FieldType.int)) ∈ g_tbl := g_mem 481 (by decide +kernel) (by decide +kernel)
theorem q_482 : (Jvm.Cond.methodLink "GlacierYears" (223 : Nat) ({ cls := "GlacierYears", name := "icyCells", desc := "()I" } : Jvm.MethodName)) ∈ g_tbl := g_mem 482 (by decide +kernel) (by decide +kernel)
theorem q_484 : (Jvm.Cond.instanceMethod ({ cls := "GlacierYears", name := "icyCells", desc := "()I" } : Jvm.MethodName)) ∈ g_tbl := g_mem 484 (by decide +kernel) (by decide +kernel)
theorem q_485 : (Jvm.Cond.code ({ cls := "GlacierYears", name := "icyCells", desc := "()I" } : Jvm.MethodName) prog_1_method_42_code (3 : Nat) (Option.some Jvm.ClassFile.FieldType.int)) ∈ g_tbl := g_mem 485 (by decide +kernel) (by decide +kernel)
theorem q_486 : (Jvm.Cond.methodLink "GlacierYears" (226 : Nat) ({ cls := "GlacierYears", name := "lowestIceSurface", desc := "()J" } : Jvm.MethodName)) ∈ g_tbl := g_mem 486 (by decide +kernel) (by decide +kernel)
theorem q_488 : (Jvm.Cond.instanceMethod ({ cls := "GlacierYears", name := "lowestIceSurface", desc := "()J" } : Jvm.MethodName)) ∈ g_tbl := g_mem 488 (by decide +kernel) (by decide +kernel)
theorem q_489 : (Jvm.Cond.code ({ cls := "GlacierYears", name := "lowestIceSurface", desc := "()J" } : Jvm.MethodName) prog_1_method_44_code (5 : Nat) (Option.some Jvm.ClassFile.FieldType.long)) ∈ g_tbl := g_mem 489 (by decide +kernel) (by decide +kernel)
theorem q_490 : (Jvm.Cond.constantLong "GlacierYears" (233 : Nat) (-9 : Int64)) ∈ g_tbl := g_mem 490 (by decide +kernel) (by decide +kernel)
theorem q_491 : (Jvm.Cond.methodLink "GlacierYears" (230 : Nat) ({ cls := "GlacierYears$Ice", name := "oldestYear", desc := "()I" } : Jvm.MethodName)) ∈ g_tbl := g_mem 491 (by decide +kernel) (by decide +kernel)
theorem q_492 : (Jvm.Cond.instanceMethod ({ cls := "GlacierYears$Ice", name := "oldestYear", desc := "()I" } : Jvm.MethodName)) ∈ g_tbl := g_mem 492 (by decide +kernel) (by decide +kernel)
theorem q_493 : (Jvm.Cond.selects "GlacierYears$Ice" ({ cls := "GlacierYears$Ice", name := "oldestYear", desc := "()I" } : Jvm.MethodName) ({ cls := "GlacierYears$Ice", name := "oldestYear", desc := "()I" } : Jvm.MethodName)) ∈ g_tbl := g_mem 493 (by decide +kernel) (by decide +kernel)
theorem q_494 : (Jvm.Cond.code ({ cls := "GlacierYears$Ice", name := "oldestYear", desc := "()I" } : Jvm.MethodName) prog_2_method_11_code (2 : Nat) (Option.some Jvm.ClassFile.FieldType.int)) ∈ g_tbl := g_mem 494 (by decide +kernel) (by decide +kernel)
theorem q_495 : (Jvm.Cond.methodLink "GlacierYearsLaw" (99 : Nat) ({ cls := "GlacierYears", name := "gives", desc := "(III)J" } : Jvm.MethodName)) ∈ g_tbl := g_mem 495 (by decide +kernel) (by decide +kernel)
theorem q_496 : (Jvm.Cond.instanceMethod ({ cls := "GlacierYears", name := "gives", desc := "(III)J" } : Jvm.MethodName)) ∈ g_tbl := g_mem 496 (by decide +kernel) (by decide +kernel)
theorem q_497 : (Jvm.Cond.selects "GlacierYears" ({ cls := "GlacierYears", name := "gives", desc := "(III)J" } : Jvm.MethodName) ({ cls := "GlacierYears", name := "gives", desc := "(III)J" } : Jvm.MethodName)) ∈ g_tbl := g_mem 497 (by decide +kernel) (by decide +kernel)
theorem q_498 : (Jvm.Cond.code ({ cls := "GlacierYears", name := "gives", desc := "(III)J" } : Jvm.MethodName) prog_1_method_20_code (5 : Nat) (Option.some Jvm.ClassFile.FieldType.long)) ∈ g_tbl := g_mem 498 (by decide +kernel) (by decide +kernel)
theorem q_499 : (Jvm.Cond.methodLink "GlacierYearsLaw" (103 : Nat) ({ cls := "GlacierYears", name := "turn", desc := "(I)I" } : Jvm.MethodName)) ∈ g_tbl := g_mem 499 (by decide +kernel) (by decide +kernel)
theorem q_500 : (Jvm.Cond.instanceMethod ({ cls := "GlacierYears", name := "turn", desc := "(I)I" } : Jvm.MethodName)) ∈ g_tbl := g_mem 500 (by decide +kernel) (by decide +kernel)
theorem q_501 : (Jvm.Cond.selects "GlacierYears" ({ cls := "GlacierYears", name := "turn", desc := "(I)I" } : Jvm.MethodName) ({ cls := "GlacierYears", name := "turn", desc := "(I)I" } : Jvm.MethodName)) ∈ g_tbl := g_mem 501 (by decide +kernel) (by decide +kernel)
theorem q_502 : (Jvm.Cond.code ({ cls := "GlacierYears", name := "turn", desc := "(I)I" } : Jvm.MethodName) prog_1_method_21_code (2 : Nat) (Option.some Jvm.ClassFile.FieldType.int)) ∈ g_tbl := g_mem 502 (by decide +kernel) (by decide +kernel)
theorem q_503 : (Jvm.Cond.methodLink "GlacierYears" (238 : Nat) ({ cls := "GlacierYears$Land", name := "becomeCellsOf", desc := "(LGlacierYears$Land;)V" } : Jvm.MethodName)) ∈ g_tbl := g_mem 503 (by decide +kernel) (by decide +kernel)
theorem q_504 : (Jvm.Cond.instanceMethod ({ cls := "GlacierYears$Land", name := "becomeCellsOf", desc := "(LGlacierYears$Land;)V" } : Jvm.MethodName)) ∈ g_tbl := g_mem 504 (by decide +kernel) (by decide +kernel)
theorem q_505 : (Jvm.Cond.selects "GlacierYears$Land" ({ cls := "GlacierYears$Land", name := "becomeCellsOf", desc := "(LGlacierYears$Land;)V" } : Jvm.MethodName) ({ cls := "GlacierYears$Land", name := "becomeCellsOf", desc := "(LGlacierYears$Land;)V" } : Jvm.MethodName)) ∈ g_tbl := g_mem 505 (by decide +kernel) (by decide +kernel)
theorem q_506 : (Jvm.Cond.code ({ cls := "GlacierYears$Land", name := "becomeCellsOf", desc := "(LGlacierYears$Land;)V" } : Jvm.MethodName) prog_3_method_12_code (2 : Nat) (Option.none : Option Jvm.ClassFile.FieldType)) ∈ g_tbl := g_mem 506 (by decide +kernel) (by decide +kernel)
theorem q_507 : (Jvm.Cond.methodLink "GlacierYears$Land" (46 : Nat) ({ cls := "java/lang/System", name := "arraycopy", desc := "(Ljava/lang/Object;ILjava/lang/Object;II)V" } : Jvm.MethodName)) ∈ g_tbl := g_mem 507 (by decide +kernel) (by decide +kernel)
theorem q_508 : (Jvm.Cond.methodLink "GlacierYears" (245 : Nat) ({ cls := "GlacierYears", name := "turnCells", desc := "(Z)V" } : Jvm.MethodName)) ∈ g_tbl := g_mem 508 (by decide +kernel) (by decide +kernel)
theorem q_510 : (Jvm.Cond.instanceMethod ({ cls := "GlacierYears", name := "turnCells", desc := "(Z)V" } : Jvm.MethodName)) ∈ g_tbl := g_mem 510 (by decide +kernel) (by decide +kernel)
theorem q_511 : (Jvm.Cond.code ({ cls := "GlacierYears", name := "turnCells", desc := "(Z)V" } : Jvm.MethodName) prog_1_method_45_code (5 : Nat) (Option.none : Option Jvm.ClassFile.FieldType)) ∈ g_tbl := g_mem 511 (by decide +kernel) (by decide +kernel)
theorem q_512 : (Jvm.Cond.methodLink "GlacierYears" (312 : Nat) ({ cls := "GlacierYears", name := "fetchCell", desc := "(III)V" } : Jvm.MethodName)) ∈ g_tbl := g_mem 512 (by decide +kernel) (by decide +kernel)
theorem q_514 : (Jvm.Cond.instanceMethod ({ cls := "GlacierYears", name := "fetchCell", desc := "(III)V" } : Jvm.MethodName)) ∈ g_tbl := g_mem 514 (by decide +kernel) (by decide +kernel)
theorem q_515 : (Jvm.Cond.code ({ cls := "GlacierYears", name := "fetchCell", desc := "(III)V" } : Jvm.MethodName) prog_1_method_46_code (5 : Nat) (Option.none : Option Jvm.ClassFile.FieldType)) ∈ g_tbl := g_mem 515 (by decide +kernel) (by decide +kernel)
theorem q_516 : (Jvm.Cond.methodLink "GlacierYears" (316 : Nat) ({ cls := "GlacierYears$Land", name := "settleAs", desc := "(ILGlacierYears$Land;I)V" } : Jvm.MethodName)) ∈ g_tbl := g_mem 516 (by decide +kernel) (by decide +kernel)
theorem q_517 : (Jvm.Cond.instanceMethod ({ cls := "GlacierYears$Land", name := "settleAs", desc := "(ILGlacierYears$Land;I)V" } : Jvm.MethodName)) ∈ g_tbl := g_mem 517 (by decide +kernel) (by decide +kernel)
theorem q_518 : (Jvm.Cond.selects "GlacierYears$Land" ({ cls := "GlacierYears$Land", name := "settleAs", desc := "(ILGlacierYears$Land;I)V" } : Jvm.MethodName) ({ cls := "GlacierYears$Land", name := "settleAs", desc := "(ILGlacierYears$Land;I)V" } : Jvm.MethodName)) ∈ g_tbl := g_mem 518 (by decide +kernel) (by decide +kernel)
theorem q_519 : (Jvm.Cond.code ({ cls := "GlacierYears$Land", name := "settleAs", desc := "(ILGlacierYears$Land;I)V" } : Jvm.MethodName) prog_3_method_10_code (4 : Nat) (Option.none : Option Jvm.ClassFile.FieldType)) ∈ g_tbl := g_mem 519 (by decide +kernel) (by decide +kernel)
theorem q_520 : (Jvm.Cond.methodLink "GlacierYears" (320 : Nat) ({ cls := "GlacierYears$Ice", name := "settleAs", desc := "(ILGlacierYears$Ice;I)V" } : Jvm.MethodName)) ∈ g_tbl := g_mem 520 (by decide +kernel) (by decide +kernel)
theorem q_521 : (Jvm.Cond.instanceMethod ({ cls := "GlacierYears$Ice", name := "settleAs", desc := "(ILGlacierYears$Ice;I)V" } : Jvm.MethodName)) ∈ g_tbl := g_mem 521 (by decide +kernel) (by decide +kernel)
theorem q_522 : (Jvm.Cond.selects "GlacierYears$Ice" ({ cls := "GlacierYears$Ice", name := "settleAs", desc := "(ILGlacierYears$Ice;I)V" } : Jvm.MethodName) ({ cls := "GlacierYears$Ice", name := "settleAs", desc := "(ILGlacierYears$Ice;I)V" } : Jvm.MethodName)) ∈ g_tbl := g_mem 522 (by decide +kernel) (by decide +kernel)
theorem q_523 : (Jvm.Cond.code ({ cls := "GlacierYears$Ice", name := "settleAs", desc := "(ILGlacierYears$Ice;I)V" } : Jvm.MethodName) prog_2_method_4_code (4 : Nat) (Option.none : Option Jvm.ClassFile.FieldType)) ∈ g_tbl := g_mem 523 (by decide +kernel) (by decide +kernel)
theorem q_524 : (Jvm.Cond.methodLink "GlacierYearsLaw" (107 : Nat) ({ cls := "GlacierYears", name := "count", desc := "(I)I" } : Jvm.MethodName)) ∈ g_tbl := g_mem 524 (by decide +kernel) (by decide +kernel)
theorem q_525 : (Jvm.Cond.instanceMethod ({ cls := "GlacierYears", name := "count", desc := "(I)I" } : Jvm.MethodName)) ∈ g_tbl := g_mem 525 (by decide +kernel) (by decide +kernel)
theorem q_526 : (Jvm.Cond.selects "GlacierYears" ({ cls := "GlacierYears", name := "count", desc := "(I)I" } : Jvm.MethodName) ({ cls := "GlacierYears", name := "count", desc := "(I)I" } : Jvm.MethodName)) ∈ g_tbl := g_mem 526 (by decide +kernel) (by decide +kernel)
theorem q_527 : (Jvm.Cond.code ({ cls := "GlacierYears", name := "count", desc := "(I)I" } : Jvm.MethodName) prog_1_method_22_code (2 : Nat) (Option.some Jvm.ClassFile.FieldType.int)) ∈ g_tbl := g_mem 527 (by decide +kernel) (by decide +kernel)
theorem q_528 : (Jvm.Cond.methodLink "GlacierYears" (258 : Nat) ({ cls := "GlacierYears", name := "stripsThere", desc := "()I" } : Jvm.MethodName)) ∈ g_tbl := g_mem 528 (by decide +kernel) (by decide +kernel)
theorem q_530 : (Jvm.Cond.instanceMethod ({ cls := "GlacierYears", name := "stripsThere", desc := "()I" } : Jvm.MethodName)) ∈ g_tbl := g_mem 530 (by decide +kernel) (by decide +kernel)
theorem q_531 : (Jvm.Cond.code ({ cls := "GlacierYears", name := "stripsThere", desc := "()I" } : Jvm.MethodName) prog_1_method_29_code (3 : Nat) (Option.some Jvm.ClassFile.FieldType.int)) ∈ g_tbl := g_mem 531 (by decide +kernel) (by decide +kernel)
theorem q_532 : (Jvm.Cond.classLink "GlacierYearsLaw" (10 : Nat) "GlacierYearsModel") ∈ g_tbl := g_mem 532 (by decide +kernel) (by decide +kernel)
theorem q_533 : (Jvm.Cond.instantiable "GlacierYearsModel" (27 : Nat)) ∈ g_tbl := g_mem 533 (by decide +kernel) (by decide +kernel)
theorem q_534 : (Jvm.Cond.methodLink "GlacierYearsLaw" (12 : Nat) ({ cls := "GlacierYearsModel", name := "<init>", desc := "()V" } : Jvm.MethodName)) ∈ g_tbl := g_mem 534 (by decide +kernel) (by decide +kernel)
theorem q_535 : (Jvm.Cond.instanceMethod ({ cls := "GlacierYearsModel", name := "<init>", desc := "()V" } : Jvm.MethodName)) ∈ g_tbl := g_mem 535 (by decide +kernel) (by decide +kernel)
theorem q_536 : (Jvm.Cond.code ({ cls := "GlacierYearsModel", name := "<init>", desc := "()V" } : Jvm.MethodName) prog_8_method_1_code (2 : Nat) (Option.none : Option Jvm.ClassFile.FieldType)) ∈ g_tbl := g_mem 536 (by decide +kernel) (by decide +kernel)
theorem q_537 : (Jvm.Cond.methodLink "GlacierYearsModel" (1 : Nat) ({ cls := "java/lang/Object", name := "<init>", desc := "()V" } : Jvm.MethodName)) ∈ g_tbl := g_mem 537 (by decide +kernel) (by decide +kernel)
theorem q_538 : (Jvm.Cond.fieldLink "GlacierYearsModel" (7 : Nat) "GlacierYearsModel" "laneOf" "[I") ∈ g_tbl := g_mem 538 (by decide +kernel) (by decide +kernel)
theorem q_539 : (Jvm.Cond.fieldLink "GlacierYearsModel" (13 : Nat) "GlacierYearsModel" "many" "[I") ∈ g_tbl := g_mem 539 (by decide +kernel) (by decide +kernel)
theorem q_540 : (Jvm.Cond.fieldLink "GlacierYearsModel" (16 : Nat) "GlacierYearsModel" "number" "[J") ∈ g_tbl := g_mem 540 (by decide +kernel) (by decide +kernel)
theorem q_541 : (Jvm.Cond.fieldLink "GlacierYearsModel" (72 : Nat) "GlacierYearsModel" "failures" "I") ∈ g_tbl := g_mem 541 (by decide +kernel) (by decide +kernel)
theorem q_542 : (Jvm.Cond.fieldLink "GlacierYearsModel" (20 : Nat) "GlacierYearsModel" "held" "[J") ∈ g_tbl := g_mem 542 (by decide +kernel) (by decide +kernel)
theorem q_543 : (Jvm.Cond.fieldLink "GlacierYearsModel" (99 : Nat) "GlacierYearsModel" "width" "I") ∈ g_tbl := g_mem 543 (by decide +kernel) (by decide +kernel)
theorem q_544 : (Jvm.Cond.fieldLink "GlacierYearsModel" (102 : Nat) "GlacierYearsModel" "height" "I") ∈ g_tbl := g_mem 544 (by decide +kernel) (by decide +kernel)
theorem q_545 : (Jvm.Cond.fieldLink "GlacierYearsModel" (107 : Nat) "GlacierYearsModel" "year" "I") ∈ g_tbl := g_mem 545 (by decide +kernel) (by decide +kernel)
theorem q_546 : (Jvm.Cond.fieldLink "GlacierYearsModel" (23 : Nat) "GlacierYearsModel" "kind" "[I") ∈ g_tbl := g_mem 546 (by decide +kernel) (by decide +kernel)
theorem q_547 : (Jvm.Cond.fieldLink "GlacierYearsModel" (26 : Nat) "GlacierYearsModel" "hundredths" "[I") ∈ g_tbl := g_mem 547 (by decide +kernel) (by decide +kernel)
theorem q_548 : (Jvm.Cond.fieldLink "GlacierYearsModel" (29 : Nat) "GlacierYearsModel" "level" "[I") ∈ g_tbl := g_mem 548 (by decide +kernel) (by decide +kernel)
theorem q_549 : (Jvm.Cond.fieldLink "GlacierYearsModel" (32 : Nat) "GlacierYearsModel" "ice" "[J") ∈ g_tbl := g_mem 549 (by decide +kernel) (by decide +kernel)
theorem q_550 : (Jvm.Cond.fieldLink "GlacierYearsModel" (35 : Nat) "GlacierYearsModel" "sums" "[J") ∈ g_tbl := g_mem 550 (by decide +kernel) (by decide +kernel)
theorem q_551 : (Jvm.Cond.fieldLink "GlacierYearsModel" (38 : Nat) "GlacierYearsModel" "snow" "[I") ∈ g_tbl := g_mem 551 (by decide +kernel) (by decide +kernel)
theorem q_552 : (Jvm.Cond.fieldLink "GlacierYearsModel" (41 : Nat) "GlacierYearsModel" "melt" "[I") ∈ g_tbl := g_mem 552 (by decide +kernel) (by decide +kernel)
theorem q_553 : (Jvm.Cond.fieldLink "GlacierYearsModel" (131 : Nat) "GlacierYearsModel" "fraction" "I") ∈ g_tbl := g_mem 553 (by decide +kernel) (by decide +kernel)
theorem q_554 : (Jvm.Cond.fieldLink "GlacierYearsModel" (44 : Nat) "GlacierYearsModel" "cap" "I") ∈ g_tbl := g_mem 554 (by decide +kernel) (by decide +kernel)
theorem q_555 : (Jvm.Cond.fieldLink "GlacierYearsModel" (110 : Nat) "GlacierYearsModel" "kept" "I") ∈ g_tbl := g_mem 555 (by decide +kernel) (by decide +kernel)
theorem q_556 : (Jvm.Cond.fieldLink "GlacierYearsModel" (140 : Nat) "GlacierYearsModel" "ring" "I") ∈ g_tbl := g_mem 556 (by decide +kernel) (by decide +kernel)
theorem q_557 : (Jvm.Cond.fieldLink "GlacierYearsModel" (48 : Nat) "GlacierYearsModel" "keptIce" "[J") ∈ g_tbl := g_mem 557 (by decide +kernel) (by decide +kernel)
theorem q_558 : (Jvm.Cond.fieldLink "GlacierYearsModel" (51 : Nat) "GlacierYearsModel" "keptSums" "[J") ∈ g_tbl := g_mem 558 (by decide +kernel) (by decide +kernel)
theorem q_559 : (Jvm.Cond.fieldLink "GlacierYearsModel" (54 : Nat) "GlacierYearsModel" "gift" "[J") ∈ g_tbl := g_mem 559 (by decide +kernel) (by decide +kernel)
theorem q_560 : (Jvm.Cond.fieldLink "GlacierYearsModel" (57 : Nat) "GlacierYearsModel" "before" "[J") ∈ g_tbl := g_mem 560 (by decide +kernel) (by decide +kernel)
theorem q_561 : (Jvm.Cond.fieldLink "GlacierYearsModel" (60 : Nat) "GlacierYearsModel" "stood" "[J") ∈ g_tbl := g_mem 561 (by decide +kernel) (by decide +kernel)
theorem q_562 : (Jvm.Cond.fieldLink "GlacierYearsModel" (63 : Nat) "GlacierYearsModel" "oldKind" "[I") ∈ g_tbl := g_mem 562 (by decide +kernel) (by decide +kernel)
theorem q_563 : (Jvm.Cond.fieldLink "GlacierYearsModel" (66 : Nat) "GlacierYearsModel" "oldShare" "[I") ∈ g_tbl := g_mem 563 (by decide +kernel) (by decide +kernel)
theorem q_564 : (Jvm.Cond.fieldLink "GlacierYearsModel" (69 : Nat) "GlacierYearsModel" "oldLevel" "[I") ∈ g_tbl := g_mem 564 (by decide +kernel) (by decide +kernel)
theorem q_565 : (Jvm.Cond.laysFinal "GlacierYearsModel" "GlacierYearsModel" "laneOf" "[I") ∈ g_tbl := g_mem 565 (by decide +kernel) (by decide +kernel)
theorem q_567 : (Jvm.Cond.laysFinal "GlacierYearsModel" "GlacierYearsModel" "many" "[I") ∈ g_tbl := g_mem 567 (by decide +kernel) (by decide +kernel)
theorem q_569 : (Jvm.Cond.laysFinal "GlacierYearsModel" "GlacierYearsModel" "number" "[J") ∈ g_tbl := g_mem 569 (by decide +kernel) (by decide +kernel)
theorem q_571 : (Jvm.Cond.lays "GlacierYearsModel" "GlacierYearsModel" "failures" "I") ∈ g_tbl := g_mem 571 (by decide +kernel) (by decide +kernel)
theorem q_573 : (Jvm.Cond.laysFinal "GlacierYearsModel" "GlacierYearsModel" "held" "[J") ∈ g_tbl := g_mem 573 (by decide +kernel) (by decide +kernel)
theorem q_575 : (Jvm.Cond.lays "GlacierYearsModel" "GlacierYearsModel" "width" "I") ∈ g_tbl := g_mem 575 (by decide +kernel) (by decide +kernel)
theorem q_577 : (Jvm.Cond.lays "GlacierYearsModel" "GlacierYearsModel" "height" "I") ∈ g_tbl := g_mem 577 (by decide +kernel) (by decide +kernel)
theorem q_579 : (Jvm.Cond.lays "GlacierYearsModel" "GlacierYearsModel" "year" "I") ∈ g_tbl := g_mem 579 (by decide +kernel) (by decide +kernel)
theorem q_581 : (Jvm.Cond.laysFinal "GlacierYearsModel" "GlacierYearsModel" "kind" "[I") ∈ g_tbl := g_mem 581 (by decide +kernel) (by decide +kernel)
theorem q_583 : (Jvm.Cond.laysFinal "GlacierYearsModel" "GlacierYearsModel" "hundredths" "[I") ∈ g_tbl := g_mem 583 (by decide +kernel) (by decide +kernel)
theorem q_585 : (Jvm.Cond.laysFinal "GlacierYearsModel" "GlacierYearsModel" "level" "[I") ∈ g_tbl := g_mem 585 (by decide +kernel) (by decide +kernel)
theorem q_587 : (Jvm.Cond.laysFinal "GlacierYearsModel" "GlacierYearsModel" "ice" "[J") ∈ g_tbl := g_mem 587 (by decide +kernel) (by decide +kernel)
theorem q_589 : (Jvm.Cond.laysFinal "GlacierYearsModel" "GlacierYearsModel" "sums" "[J") ∈ g_tbl := g_mem 589 (by decide +kernel) (by decide +kernel)
theorem q_591 : (Jvm.Cond.laysFinal "GlacierYearsModel" "GlacierYearsModel" "snow" "[I") ∈ g_tbl := g_mem 591 (by decide +kernel) (by decide +kernel)
theorem q_593 : (Jvm.Cond.laysFinal "GlacierYearsModel" "GlacierYearsModel" "melt" "[I") ∈ g_tbl := g_mem 593 (by decide +kernel) (by decide +kernel)
theorem q_595 : (Jvm.Cond.lays "GlacierYearsModel" "GlacierYearsModel" "fraction" "I") ∈ g_tbl := g_mem 595 (by decide +kernel) (by decide +kernel)
theorem q_597 : (Jvm.Cond.lays "GlacierYearsModel" "GlacierYearsModel" "cap" "I") ∈ g_tbl := g_mem 597 (by decide +kernel) (by decide +kernel)
theorem q_599 : (Jvm.Cond.lays "GlacierYearsModel" "GlacierYearsModel" "kept" "I") ∈ g_tbl := g_mem 599 (by decide +kernel) (by decide +kernel)
theorem q_601 : (Jvm.Cond.lays "GlacierYearsModel" "GlacierYearsModel" "ring" "I") ∈ g_tbl := g_mem 601 (by decide +kernel) (by decide +kernel)
theorem q_603 : (Jvm.Cond.laysFinal "GlacierYearsModel" "GlacierYearsModel" "keptIce" "[J") ∈ g_tbl := g_mem 603 (by decide +kernel) (by decide +kernel)
theorem q_605 : (Jvm.Cond.laysFinal "GlacierYearsModel" "GlacierYearsModel" "keptSums" "[J") ∈ g_tbl := g_mem 605 (by decide +kernel) (by decide +kernel)
theorem q_607 : (Jvm.Cond.laysFinal "GlacierYearsModel" "GlacierYearsModel" "gift" "[J") ∈ g_tbl := g_mem 607 (by decide +kernel) (by decide +kernel)
theorem q_609 : (Jvm.Cond.laysFinal "GlacierYearsModel" "GlacierYearsModel" "before" "[J") ∈ g_tbl := g_mem 609 (by decide +kernel) (by decide +kernel)
theorem q_611 : (Jvm.Cond.laysFinal "GlacierYearsModel" "GlacierYearsModel" "stood" "[J") ∈ g_tbl := g_mem 611 (by decide +kernel) (by decide +kernel)
theorem q_613 : (Jvm.Cond.laysFinal "GlacierYearsModel" "GlacierYearsModel" "oldKind" "[I") ∈ g_tbl := g_mem 613 (by decide +kernel) (by decide +kernel)
theorem q_615 : (Jvm.Cond.laysFinal "GlacierYearsModel" "GlacierYearsModel" "oldShare" "[I") ∈ g_tbl := g_mem 615 (by decide +kernel) (by decide +kernel)
theorem q_617 : (Jvm.Cond.laysFinal "GlacierYearsModel" "GlacierYearsModel" "oldLevel" "[I") ∈ g_tbl := g_mem 617 (by decide +kernel) (by decide +kernel)
theorem q_620 : (Jvm.Cond.methodLink "GlacierYearsLaw" (17 : Nat) ({ cls := "GlacierYearsModel", name := "strip", desc := "(III)I" } : Jvm.MethodName)) ∈ g_tbl := g_mem 620 (by decide +kernel) (by decide +kernel)
theorem q_621 : (Jvm.Cond.instanceMethod ({ cls := "GlacierYearsModel", name := "strip", desc := "(III)I" } : Jvm.MethodName)) ∈ g_tbl := g_mem 621 (by decide +kernel) (by decide +kernel)
theorem q_622 : (Jvm.Cond.selects "GlacierYearsModel" ({ cls := "GlacierYearsModel", name := "strip", desc := "(III)I" } : Jvm.MethodName) ({ cls := "GlacierYearsModel", name := "strip", desc := "(III)I" } : Jvm.MethodName)) ∈ g_tbl := g_mem 622 (by decide +kernel) (by decide +kernel)
theorem q_623 : (Jvm.Cond.code ({ cls := "GlacierYearsModel", name := "strip", desc := "(III)I" } : Jvm.MethodName) prog_8_method_7_code (5 : Nat) (Option.some Jvm.ClassFile.FieldType.int)) ∈ g_tbl := g_mem 623 (by decide +kernel) (by decide +kernel)
theorem q_624 : (Jvm.Cond.methodLink "GlacierYearsModel" (81 : Nat) ({ cls := "GlacierYearsModel", name := "isStrip", desc := "(I)Z" } : Jvm.MethodName)) ∈ g_tbl := g_mem 624 (by decide +kernel) (by decide +kernel)
theorem q_625 : (Jvm.Cond.static ({ cls := "GlacierYearsModel", name := "isStrip", desc := "(I)Z" } : Jvm.MethodName)) ∈ g_tbl := g_mem 625 (by decide +kernel) (by decide +kernel)
theorem q_626 : (Jvm.Cond.code ({ cls := "GlacierYearsModel", name := "isStrip", desc := "(I)Z" } : Jvm.MethodName) prog_8_method_6_code (1 : Nat) (Option.some Jvm.ClassFile.FieldType.boolean)) ∈ g_tbl := g_mem 626 (by decide +kernel) (by decide +kernel)
theorem q_627 : (Jvm.Cond.constantLong "GlacierYearsModel" (75 : Nat) (7 : Int64)) ∈ g_tbl := g_mem 627 (by decide +kernel) (by decide +kernel)
theorem q_628 : (Jvm.Cond.methodLink "GlacierYearsModel" (77 : Nat) ({ cls := "GlacierYearsModel", name := "in", desc := "(JJJ)Z" } : Jvm.MethodName)) ∈ g_tbl := g_mem 628 (by decide +kernel) (by decide +kernel)
theorem q_629 : (Jvm.Cond.static ({ cls := "GlacierYearsModel", name := "in", desc := "(JJJ)Z" } : Jvm.MethodName)) ∈ g_tbl := g_mem 629 (by decide +kernel) (by decide +kernel)
theorem q_630 : (Jvm.Cond.code ({ cls := "GlacierYearsModel", name := "in", desc := "(JJJ)Z" } : Jvm.MethodName) prog_8_method_3_code (6 : Nat) (Option.some Jvm.ClassFile.FieldType.boolean)) ∈ g_tbl := g_mem 630 (by decide +kernel) (by decide +kernel)
theorem q_631 : (Jvm.Cond.constantLong "GlacierYearsModel" (85 : Nat) (2 : Int64)) ∈ g_tbl := g_mem 631 (by decide +kernel) (by decide +kernel)
theorem q_632 : (Jvm.Cond.methodLink "GlacierYearsModel" (87 : Nat) ({ cls := "GlacierYearsModel", name := "failed", desc := "(I)I" } : Jvm.MethodName)) ∈ g_tbl := g_mem 632 (by decide +kernel) (by decide +kernel)
theorem q_634 : (Jvm.Cond.instanceMethod ({ cls := "GlacierYearsModel", name := "failed", desc := "(I)I" } : Jvm.MethodName)) ∈ g_tbl := g_mem 634 (by decide +kernel) (by decide +kernel)
theorem q_635 : (Jvm.Cond.code ({ cls := "GlacierYearsModel", name := "failed", desc := "(I)I" } : Jvm.MethodName) prog_8_method_4_code (2 : Nat) (Option.some Jvm.ClassFile.FieldType.int)) ∈ g_tbl := g_mem 635 (by decide +kernel) (by decide +kernel)
theorem q_636 : (Jvm.Cond.methodLink "GlacierYearsLaw" (22 : Nat) ({ cls := "GlacierYearsModel", name := "tear", desc := "(I)I" } : Jvm.MethodName)) ∈ g_tbl := g_mem 636 (by decide +kernel) (by decide +kernel)
theorem q_637 : (Jvm.Cond.instanceMethod ({ cls := "GlacierYearsModel", name := "tear", desc := "(I)I" } : Jvm.MethodName)) ∈ g_tbl := g_mem 637 (by decide +kernel) (by decide +kernel)
theorem q_638 : (Jvm.Cond.selects "GlacierYearsModel" ({ cls := "GlacierYearsModel", name := "tear", desc := "(I)I" } : Jvm.MethodName) ({ cls := "GlacierYearsModel", name := "tear", desc := "(I)I" } : Jvm.MethodName)) ∈ g_tbl := g_mem 638 (by decide +kernel) (by decide +kernel)
theorem q_639 : (Jvm.Cond.code ({ cls := "GlacierYearsModel", name := "tear", desc := "(I)I" } : Jvm.MethodName) prog_8_method_8_code (3 : Nat) (Option.some Jvm.ClassFile.FieldType.int)) ∈ g_tbl := g_mem 639 (by decide +kernel) (by decide +kernel)
theorem q_640 : (Jvm.Cond.methodLink "GlacierYearsLaw" (29 : Nat) ({ cls := "GlacierYearsModel", name := "put", desc := "(IIJ)I" } : Jvm.MethodName)) ∈ g_tbl := g_mem 640 (by decide +kernel) (by decide +kernel)
theorem q_641 : (Jvm.Cond.instanceMethod ({ cls := "GlacierYearsModel", name := "put", desc := "(IIJ)I" } : Jvm.MethodName)) ∈ g_tbl := g_mem 641 (by decide +kernel) (by decide +kernel)
theorem q_642 : (Jvm.Cond.selects "GlacierYearsModel" ({ cls := "GlacierYearsModel", name := "put", desc := "(IIJ)I" } : Jvm.MethodName) ({ cls := "GlacierYearsModel", name := "put", desc := "(IIJ)I" } : Jvm.MethodName)) ∈ g_tbl := g_mem 642 (by decide +kernel) (by decide +kernel)
theorem q_643 : (Jvm.Cond.code ({ cls := "GlacierYearsModel", name := "put", desc := "(IIJ)I" } : Jvm.MethodName) prog_8_method_9_code (5 : Nat) (Option.some Jvm.ClassFile.FieldType.int)) ∈ g_tbl := g_mem 643 (by decide +kernel) (by decide +kernel)
theorem q_644 : (Jvm.Cond.methodLink "GlacierYearsModel" (91 : Nat) ({ cls := "GlacierYearsModel", name := "cut", desc := "(IJ)J" } : Jvm.MethodName)) ∈ g_tbl := g_mem 644 (by decide +kernel) (by decide +kernel)
theorem q_645 : (Jvm.Cond.static ({ cls := "GlacierYearsModel", name := "cut", desc := "(IJ)J" } : Jvm.MethodName)) ∈ g_tbl := g_mem 645 (by decide +kernel) (by decide +kernel)
theorem q_646 : (Jvm.Cond.code ({ cls := "GlacierYearsModel", name := "cut", desc := "(IJ)J" } : Jvm.MethodName) prog_8_method_5_code (3 : Nat) (Option.some Jvm.ClassFile.FieldType.long)) ∈ g_tbl := g_mem 646 (by decide +kernel) (by decide +kernel)
theorem q_647 : (Jvm.Cond.methodLink "GlacierYearsLaw" (34 : Nat) ({ cls := "GlacierYearsModel", name := "at", desc := "(III)J" } : Jvm.MethodName)) ∈ g_tbl := g_mem 647 (by decide +kernel) (by decide +kernel)
theorem q_648 : (Jvm.Cond.instanceMethod ({ cls := "GlacierYearsModel", name := "at", desc := "(III)J" } : Jvm.MethodName)) ∈ g_tbl := g_mem 648 (by decide +kernel) (by decide +kernel)
theorem q_649 : (Jvm.Cond.selects "GlacierYearsModel" ({ cls := "GlacierYearsModel", name := "at", desc := "(III)J" } : Jvm.MethodName) ({ cls := "GlacierYearsModel", name := "at", desc := "(III)J" } : Jvm.MethodName)) ∈ g_tbl := g_mem 649 (by decide +kernel) (by decide +kernel)
theorem q_650 : (Jvm.Cond.code ({ cls := "GlacierYearsModel", name := "at", desc := "(III)J" } : Jvm.MethodName) prog_8_method_10_code (4 : Nat) (Option.some Jvm.ClassFile.FieldType.long)) ∈ g_tbl := g_mem 650 (by decide +kernel) (by decide +kernel)
theorem q_651 : (Jvm.Cond.constantLong "GlacierYearsModel" (95 : Nat) (-1 : Int64)) ∈ g_tbl := g_mem 651 (by decide +kernel) (by decide +kernel)
theorem q_652 : (Jvm.Cond.constantLong "GlacierYearsModel" (97 : Nat) (-2 : Int64)) ∈ g_tbl := g_mem 652 (by decide +kernel) (by decide +kernel)
theorem q_653 : (Jvm.Cond.methodLink "GlacierYearsLaw" (39 : Nat) ({ cls := "GlacierYearsModel", name := "copy", desc := "(IIIII)I" } : Jvm.MethodName)) ∈ g_tbl := g_mem 653 (by decide +kernel) (by decide +kernel)
theorem q_654 : (Jvm.Cond.instanceMethod ({ cls := "GlacierYearsModel", name := "copy", desc := "(IIIII)I" } : Jvm.MethodName)) ∈ g_tbl := g_mem 654 (by decide +kernel) (by decide +kernel)
theorem q_655 : (Jvm.Cond.selects "GlacierYearsModel" ({ cls := "GlacierYearsModel", name := "copy", desc := "(IIIII)I" } : Jvm.MethodName) ({ cls := "GlacierYearsModel", name := "copy", desc := "(IIIII)I" } : Jvm.MethodName)) ∈ g_tbl := g_mem 655 (by decide +kernel) (by decide +kernel)
theorem q_656 : (Jvm.Cond.code ({ cls := "GlacierYearsModel", name := "copy", desc := "(IIIII)I" } : Jvm.MethodName) prog_8_method_11_code (7 : Nat) (Option.some Jvm.ClassFile.FieldType.int)) ∈ g_tbl := g_mem 656 (by decide +kernel) (by decide +kernel)
theorem q_657 : (Jvm.Cond.methodLink "GlacierYearsLaw" (44 : Nat) ({ cls := "GlacierYearsModel", name := "ground", desc := "(II)I" } : Jvm.MethodName)) ∈ g_tbl := g_mem 657 (by decide +kernel) (by decide +kernel)
theorem q_658 : (Jvm.Cond.instanceMethod ({ cls := "GlacierYearsModel", name := "ground", desc := "(II)I" } : Jvm.MethodName)) ∈ g_tbl := g_mem 658 (by decide +kernel) (by decide +kernel)
theorem q_659 : (Jvm.Cond.selects "GlacierYearsModel" ({ cls := "GlacierYearsModel", name := "ground", desc := "(II)I" } : Jvm.MethodName) ({ cls := "GlacierYearsModel", name := "ground", desc := "(II)I" } : Jvm.MethodName)) ∈ g_tbl := g_mem 659 (by decide +kernel) (by decide +kernel)
theorem q_660 : (Jvm.Cond.code ({ cls := "GlacierYearsModel", name := "ground", desc := "(II)I" } : Jvm.MethodName) prog_8_method_13_code (8 : Nat) (Option.some Jvm.ClassFile.FieldType.int)) ∈ g_tbl := g_mem 660 (by decide +kernel) (by decide +kernel)
theorem q_661 : (Jvm.Cond.constantLong "GlacierYearsModel" (105 : Nat) (8 : Int64)) ∈ g_tbl := g_mem 661 (by decide +kernel) (by decide +kernel)
theorem q_662 : (Jvm.Cond.constantLong "GlacierYearsModel" (113 : Nat) (9999 : Int64)) ∈ g_tbl := g_mem 662 (by decide +kernel) (by decide +kernel)
theorem q_663 : (Jvm.Cond.methodLink "GlacierYearsLaw" (49 : Nat) ({ cls := "GlacierYearsModel", name := "kind", desc := "(IIII)I" } : Jvm.MethodName)) ∈ g_tbl := g_mem 663 (by decide +kernel) (by decide +kernel)
theorem q_664 : (Jvm.Cond.instanceMethod ({ cls := "GlacierYearsModel", name := "kind", desc := "(IIII)I" } : Jvm.MethodName)) ∈ g_tbl := g_mem 664 (by decide +kernel) (by decide +kernel)
theorem q_665 : (Jvm.Cond.selects "GlacierYearsModel" ({ cls := "GlacierYearsModel", name := "kind", desc := "(IIII)I" } : Jvm.MethodName) ({ cls := "GlacierYearsModel", name := "kind", desc := "(IIII)I" } : Jvm.MethodName)) ∈ g_tbl := g_mem 665 (by decide +kernel) (by decide +kernel)
theorem q_666 : (Jvm.Cond.code ({ cls := "GlacierYearsModel", name := "kind", desc := "(IIII)I" } : Jvm.MethodName) prog_8_method_14_code (7 : Nat) (Option.some Jvm.ClassFile.FieldType.int)) ∈ g_tbl := g_mem 666 (by decide +kernel) (by decide +kernel)
theorem q_667 : (Jvm.Cond.methodLink "GlacierYearsModel" (115 : Nat) ({ cls := "GlacierYearsModel", name := "isPlace", desc := "(II)Z" } : Jvm.MethodName)) ∈ g_tbl := g_mem 667 (by decide +kernel) (by decide +kernel)
theorem q_669 : (Jvm.Cond.instanceMethod ({ cls := "GlacierYearsModel", name := "isPlace", desc := "(II)Z" } : Jvm.MethodName)) ∈ g_tbl := g_mem 669 (by decide +kernel) (by decide +kernel)
theorem q_670 : (Jvm.Cond.code ({ cls := "GlacierYearsModel", name := "isPlace", desc := "(II)Z" } : Jvm.MethodName) prog_8_method_12_code (3 : Nat) (Option.some Jvm.ClassFile.FieldType.boolean)) ∈ g_tbl := g_mem 670 (by decide +kernel) (by decide +kernel)
theorem q_671 : (Jvm.Cond.constantLong "GlacierYearsModel" (119 : Nat) (3 : Int64)) ∈ g_tbl := g_mem 671 (by decide +kernel) (by decide +kernel)
theorem q_672 : (Jvm.Cond.constantLong "GlacierYearsModel" (121 : Nat) (100 : Int64)) ∈ g_tbl := g_mem 672 (by decide +kernel) (by decide +kernel)
theorem q_673 : (Jvm.Cond.methodLink "GlacierYearsLaw" (53 : Nat) ({ cls := "GlacierYearsModel", name := "taken", desc := "(IIII)I" } : Jvm.MethodName)) ∈ g_tbl := g_mem 673 (by decide +kernel) (by decide +kernel)
theorem q_674 : (Jvm.Cond.instanceMethod ({ cls := "GlacierYearsModel", name := "taken", desc := "(IIII)I" } : Jvm.MethodName)) ∈ g_tbl := g_mem 674 (by decide +kernel) (by decide +kernel)
theorem q_675 : (Jvm.Cond.selects "GlacierYearsModel" ({ cls := "GlacierYearsModel", name := "taken", desc := "(IIII)I" } : Jvm.MethodName) ({ cls := "GlacierYearsModel", name := "taken", desc := "(IIII)I" } : Jvm.MethodName)) ∈ g_tbl := g_mem 675 (by decide +kernel) (by decide +kernel)
theorem q_676 : (Jvm.Cond.code ({ cls := "GlacierYearsModel", name := "taken", desc := "(IIII)I" } : Jvm.MethodName) prog_8_method_15_code (8 : Nat) (Option.some Jvm.ClassFile.FieldType.int)) ∈ g_tbl := g_mem 676 (by decide +kernel) (by decide +kernel)
theorem q_677 : (Jvm.Cond.constantLong "GlacierYearsModel" (123 : Nat) (4 : Int64)) ∈ g_tbl := g_mem 677 (by decide +kernel) (by decide +kernel)
theorem q_678 : (Jvm.Cond.methodLink "GlacierYearsLaw" (58 : Nat) ({ cls := "GlacierYearsModel", name := "tell", desc := "(ZII)I" } : Jvm.MethodName)) ∈ g_tbl := g_mem 678 (by decide +kernel) (by decide +kernel)
theorem q_679 : (Jvm.Cond.instanceMethod ({ cls := "GlacierYearsModel", name := "tell", desc := "(ZII)I" } : Jvm.MethodName)) ∈ g_tbl := g_mem 679 (by decide +kernel) (by decide +kernel)
theorem q_680 : (Jvm.Cond.selects "GlacierYearsModel" ({ cls := "GlacierYearsModel", name := "tell", desc := "(ZII)I" } : Jvm.MethodName) ({ cls := "GlacierYearsModel", name := "tell", desc := "(ZII)I" } : Jvm.MethodName)) ∈ g_tbl := g_mem 680 (by decide +kernel) (by decide +kernel)
theorem q_681 : (Jvm.Cond.code ({ cls := "GlacierYearsModel", name := "tell", desc := "(ZII)I" } : Jvm.MethodName) prog_8_method_16_code (5 : Nat) (Option.some Jvm.ClassFile.FieldType.int)) ∈ g_tbl := g_mem 681 (by decide +kernel) (by decide +kernel)
theorem q_682 : (Jvm.Cond.constantLong "GlacierYearsModel" (125 : Nat) (9 : Int64)) ∈ g_tbl := g_mem 682 (by decide +kernel) (by decide +kernel)
theorem q_683 : (Jvm.Cond.constantLong "GlacierYearsModel" (127 : Nat) (100000 : Int64)) ∈ g_tbl := g_mem 683 (by decide +kernel) (by decide +kernel)
theorem q_684 : (Jvm.Cond.methodLink "GlacierYearsLaw" (62 : Nat) ({ cls := "GlacierYearsModel", name := "rule", desc := "(II)I" } : Jvm.MethodName)) ∈ g_tbl := g_mem 684 (by decide +kernel) (by decide +kernel)
theorem q_685 : (Jvm.Cond.instanceMethod ({ cls := "GlacierYearsModel", name := "rule", desc := "(II)I" } : Jvm.MethodName)) ∈ g_tbl := g_mem 685 (by decide +kernel) (by decide +kernel)
theorem q_686 : (Jvm.Cond.selects "GlacierYearsModel" ({ cls := "GlacierYearsModel", name := "rule", desc := "(II)I" } : Jvm.MethodName) ({ cls := "GlacierYearsModel", name := "rule", desc := "(II)I" } : Jvm.MethodName)) ∈ g_tbl := g_mem 686 (by decide +kernel) (by decide +kernel)
theorem q_687 : (Jvm.Cond.code ({ cls := "GlacierYearsModel", name := "rule", desc := "(II)I" } : Jvm.MethodName) prog_8_method_17_code (4 : Nat) (Option.some Jvm.ClassFile.FieldType.int)) ∈ g_tbl := g_mem 687 (by decide +kernel) (by decide +kernel)
theorem q_688 : (Jvm.Cond.constantLong "GlacierYearsModel" (129 : Nat) (1000000 : Int64)) ∈ g_tbl := g_mem 688 (by decide +kernel) (by decide +kernel)
theorem q_689 : (Jvm.Cond.methodLink "GlacierYearsLaw" (66 : Nat) ({ cls := "GlacierYearsModel", name := "ice", desc := "(III)J" } : Jvm.MethodName)) ∈ g_tbl := g_mem 689 (by decide +kernel) (by decide +kernel)
theorem q_690 : (Jvm.Cond.instanceMethod ({ cls := "GlacierYearsModel", name := "ice", desc := "(III)J" } : Jvm.MethodName)) ∈ g_tbl := g_mem 690 (by decide +kernel) (by decide +kernel)
theorem q_691 : (Jvm.Cond.selects "GlacierYearsModel" ({ cls := "GlacierYearsModel", name := "ice", desc := "(III)J" } : Jvm.MethodName) ({ cls := "GlacierYearsModel", name := "ice", desc := "(III)J" } : Jvm.MethodName)) ∈ g_tbl := g_mem 691 (by decide +kernel) (by decide +kernel)
theorem q_692 : (Jvm.Cond.code ({ cls := "GlacierYearsModel", name := "ice", desc := "(III)J" } : Jvm.MethodName) prog_8_method_19_code (5 : Nat) (Option.some Jvm.ClassFile.FieldType.long)) ∈ g_tbl := g_mem 692 (by decide +kernel) (by decide +kernel)
theorem q_693 : (Jvm.Cond.constantLong "GlacierYearsModel" (134 : Nat) (-3 : Int64)) ∈ g_tbl := g_mem 693 (by decide +kernel) (by decide +kernel)
theorem q_694 : (Jvm.Cond.methodLink "GlacierYearsModel" (136 : Nat) ({ cls := "GlacierYearsModel", name := "thick", desc := "(I)J" } : Jvm.MethodName)) ∈ g_tbl := g_mem 694 (by decide +kernel) (by decide +kernel)
theorem q_696 : (Jvm.Cond.instanceMethod ({ cls := "GlacierYearsModel", name := "thick", desc := "(I)J" } : Jvm.MethodName)) ∈ g_tbl := g_mem 696 (by decide +kernel) (by decide +kernel)
theorem q_697 : (Jvm.Cond.code ({ cls := "GlacierYearsModel", name := "thick", desc := "(I)J" } : Jvm.MethodName) prog_8_method_18_code (5 : Nat) (Option.some Jvm.ClassFile.FieldType.long)) ∈ g_tbl := g_mem 697 (by decide +kernel) (by decide +kernel)
theorem q_698 : (Jvm.Cond.methodLink "GlacierYearsLaw" (75 : Nat) ({ cls := "GlacierYearsModel", name := "back", desc := "()I" } : Jvm.MethodName)) ∈ g_tbl := g_mem 698 (by decide +kernel) (by decide +kernel)
theorem q_699 : (Jvm.Cond.instanceMethod ({ cls := "GlacierYearsModel", name := "back", desc := "()I" } : Jvm.MethodName)) ∈ g_tbl := g_mem 699 (by decide +kernel) (by decide +kernel)
theorem q_700 : (Jvm.Cond.selects "GlacierYearsModel" ({ cls := "GlacierYearsModel", name := "back", desc := "()I" } : Jvm.MethodName) ({ cls := "GlacierYearsModel", name := "back", desc := "()I" } : Jvm.MethodName)) ∈ g_tbl := g_mem 700 (by decide +kernel) (by decide +kernel)
theorem q_701 : (Jvm.Cond.code ({ cls := "GlacierYearsModel", name := "back", desc := "()I" } : Jvm.MethodName) prog_8_method_21_code (2 : Nat) (Option.some Jvm.ClassFile.FieldType.int)) ∈ g_tbl := g_mem 701 (by decide +kernel) (by decide +kernel)
theorem q_702 : (Jvm.Cond.methodLink "GlacierYearsLaw" (70 : Nat) ({ cls := "GlacierYearsModel", name := "years", desc := "(I)I" } : Jvm.MethodName)) ∈ g_tbl := g_mem 702 (by decide +kernel) (by decide +kernel)
theorem q_703 : (Jvm.Cond.instanceMethod ({ cls := "GlacierYearsModel", name := "years", desc := "(I)I" } : Jvm.MethodName)) ∈ g_tbl := g_mem 703 (by decide +kernel) (by decide +kernel)
theorem q_704 : (Jvm.Cond.selects "GlacierYearsModel" ({ cls := "GlacierYearsModel", name := "years", desc := "(I)I" } : Jvm.MethodName) ({ cls := "GlacierYearsModel", name := "years", desc := "(I)I" } : Jvm.MethodName)) ∈ g_tbl := g_mem 704 (by decide +kernel) (by decide +kernel)
theorem q_705 : (Jvm.Cond.code ({ cls := "GlacierYearsModel", name := "years", desc := "(I)I" } : Jvm.MethodName) prog_8_method_30_code (3 : Nat) (Option.some Jvm.ClassFile.FieldType.int)) ∈ g_tbl := g_mem 705 (by decide +kernel) (by decide +kernel)
theorem q_706 : (Jvm.Cond.constantLong "GlacierYearsModel" (170 : Nat) (60 : Int64)) ∈ g_tbl := g_mem 706 (by decide +kernel) (by decide +kernel)
theorem q_707 : (Jvm.Cond.methodLink "GlacierYearsModel" (172 : Nat) ({ cls := "GlacierYearsModel", name := "oneYear", desc := "()V" } : Jvm.MethodName)) ∈ g_tbl := g_mem 707 (by decide +kernel) (by decide +kernel)
theorem q_709 : (Jvm.Cond.instanceMethod ({ cls := "GlacierYearsModel", name := "oneYear", desc := "()V" } : Jvm.MethodName)) ∈ g_tbl := g_mem 709 (by decide +kernel) (by decide +kernel)
theorem q_710 : (Jvm.Cond.code ({ cls := "GlacierYearsModel", name := "oneYear", desc := "()V" } : Jvm.MethodName) prog_8_method_29_code (1 : Nat) (Option.none : Option Jvm.ClassFile.FieldType)) ∈ g_tbl := g_mem 710 (by decide +kernel) (by decide +kernel)
theorem q_711 : (Jvm.Cond.methodLink "GlacierYearsModel" (158 : Nat) ({ cls := "GlacierYearsModel", name := "keep", desc := "()V" } : Jvm.MethodName)) ∈ g_tbl := g_mem 711 (by decide +kernel) (by decide +kernel)
theorem q_713 : (Jvm.Cond.instanceMethod ({ cls := "GlacierYearsModel", name := "keep", desc := "()V" } : Jvm.MethodName)) ∈ g_tbl := g_mem 713 (by decide +kernel) (by decide +kernel)
theorem q_714 : (Jvm.Cond.code ({ cls := "GlacierYearsModel", name := "keep", desc := "()V" } : Jvm.MethodName) prog_8_method_20_code (2 : Nat) (Option.none : Option Jvm.ClassFile.FieldType)) ∈ g_tbl := g_mem 714 (by decide +kernel) (by decide +kernel)
theorem q_715 : (Jvm.Cond.methodLink "GlacierYearsModel" (161 : Nat) ({ cls := "GlacierYearsModel", name := "fall", desc := "()V" } : Jvm.MethodName)) ∈ g_tbl := g_mem 715 (by decide +kernel) (by decide +kernel)
theorem q_717 : (Jvm.Cond.instanceMethod ({ cls := "GlacierYearsModel", name := "fall", desc := "()V" } : Jvm.MethodName)) ∈ g_tbl := g_mem 717 (by decide +kernel) (by decide +kernel)
theorem q_718 : (Jvm.Cond.code ({ cls := "GlacierYearsModel", name := "fall", desc := "()V" } : Jvm.MethodName) prog_8_method_26_code (8 : Nat) (Option.none : Option Jvm.ClassFile.FieldType)) ∈ g_tbl := g_mem 718 (by decide +kernel) (by decide +kernel)
theorem q_719 : (Jvm.Cond.methodLink "GlacierYearsModel" (151 : Nat) ({ cls := "GlacierYearsModel", name := "isIce", desc := "(I)Z" } : Jvm.MethodName)) ∈ g_tbl := g_mem 719 (by decide +kernel) (by decide +kernel)
theorem q_721 : (Jvm.Cond.instanceMethod ({ cls := "GlacierYearsModel", name := "isIce", desc := "(I)Z" } : Jvm.MethodName)) ∈ g_tbl := g_mem 721 (by decide +kernel) (by decide +kernel)
theorem q_722 : (Jvm.Cond.code ({ cls := "GlacierYearsModel", name := "isIce", desc := "(I)Z" } : Jvm.MethodName) prog_8_method_25_code (2 : Nat) (Option.some Jvm.ClassFile.FieldType.boolean)) ∈ g_tbl := g_mem 722 (by decide +kernel) (by decide +kernel)
theorem q_723 : (Jvm.Cond.methodLink "GlacierYearsModel" (147 : Nat) ({ cls := "GlacierYearsModel", name := "lesser", desc := "(JJ)J" } : Jvm.MethodName)) ∈ g_tbl := g_mem 723 (by decide +kernel) (by decide +kernel)
theorem q_724 : (Jvm.Cond.static ({ cls := "GlacierYearsModel", name := "lesser", desc := "(JJ)J" } : Jvm.MethodName)) ∈ g_tbl := g_mem 724 (by decide +kernel) (by decide +kernel)
theorem q_725 : (Jvm.Cond.code ({ cls := "GlacierYearsModel", name := "lesser", desc := "(JJ)J" } : Jvm.MethodName) prog_8_method_23_code (4 : Nat) (Option.some Jvm.ClassFile.FieldType.long)) ∈ g_tbl := g_mem 725 (by decide +kernel) (by decide +kernel)
theorem q_726 : (Jvm.Cond.methodLink "GlacierYearsModel" (164 : Nat) ({ cls := "GlacierYearsModel", name := "move", desc := "()V" } : Jvm.MethodName)) ∈ g_tbl := g_mem 726 (by decide +kernel) (by decide +kernel)
theorem q_728 : (Jvm.Cond.instanceMethod ({ cls := "GlacierYearsModel", name := "move", desc := "()V" } : Jvm.MethodName)) ∈ g_tbl := g_mem 728 (by decide +kernel) (by decide +kernel)
theorem q_729 : (Jvm.Cond.code ({ cls := "GlacierYearsModel", name := "move", desc := "()V" } : Jvm.MethodName) prog_8_method_27_code (9 : Nat) (Option.none : Option Jvm.ClassFile.FieldType)) ∈ g_tbl := g_mem 729 (by decide +kernel) (by decide +kernel)
theorem q_730 : (Jvm.Cond.methodLink "GlacierYearsModel" (154 : Nat) ({ cls := "GlacierYearsModel", name := "given", desc := "(II)J" } : Jvm.MethodName)) ∈ g_tbl := g_mem 730 (by decide +kernel) (by decide +kernel)
theorem q_732 : (Jvm.Cond.instanceMethod ({ cls := "GlacierYearsModel", name := "given", desc := "(II)J" } : Jvm.MethodName)) ∈ g_tbl := g_mem 732 (by decide +kernel) (by decide +kernel)
theorem q_733 : (Jvm.Cond.code ({ cls := "GlacierYearsModel", name := "given", desc := "(II)J" } : Jvm.MethodName) prog_8_method_24_code (12 : Nat) (Option.some Jvm.ClassFile.FieldType.long)) ∈ g_tbl := g_mem 733 (by decide +kernel) (by decide +kernel)
theorem q_734 : (Jvm.Cond.methodLink "GlacierYearsModel" (143 : Nat) ({ cls := "GlacierYearsModel", name := "beside", desc := "(II)I" } : Jvm.MethodName)) ∈ g_tbl := g_mem 734 (by decide +kernel) (by decide +kernel)
theorem q_736 : (Jvm.Cond.instanceMethod ({ cls := "GlacierYearsModel", name := "beside", desc := "(II)I" } : Jvm.MethodName)) ∈ g_tbl := g_mem 736 (by decide +kernel) (by decide +kernel)
theorem q_737 : (Jvm.Cond.code ({ cls := "GlacierYearsModel", name := "beside", desc := "(II)I" } : Jvm.MethodName) prog_8_method_22_code (5 : Nat) (Option.some Jvm.ClassFile.FieldType.int)) ∈ g_tbl := g_mem 737 (by decide +kernel) (by decide +kernel)
theorem q_738 : (Jvm.Cond.methodLink "GlacierYearsModel" (167 : Nat) ({ cls := "GlacierYearsModel", name := "swim", desc := "()V" } : Jvm.MethodName)) ∈ g_tbl := g_mem 738 (by decide +kernel) (by decide +kernel)
theorem q_740 : (Jvm.Cond.instanceMethod ({ cls := "GlacierYearsModel", name := "swim", desc := "()V" } : Jvm.MethodName)) ∈ g_tbl := g_mem 740 (by decide +kernel) (by decide +kernel)
theorem q_741 : (Jvm.Cond.code ({ cls := "GlacierYearsModel", name := "swim", desc := "()V" } : Jvm.MethodName) prog_8_method_28_code (3 : Nat) (Option.none : Option Jvm.ClassFile.FieldType)) ∈ g_tbl := g_mem 741 (by decide +kernel) (by decide +kernel)
theorem q_742 : (Jvm.Cond.methodLink "GlacierYearsLaw" (79 : Nat) ({ cls := "GlacierYearsModel", name := "steady", desc := "(I)I" } : Jvm.MethodName)) ∈ g_tbl := g_mem 742 (by decide +kernel) (by decide +kernel)
theorem q_743 : (Jvm.Cond.instanceMethod ({ cls := "GlacierYearsModel", name := "steady", desc := "(I)I" } : Jvm.MethodName)) ∈ g_tbl := g_mem 743 (by decide +kernel) (by decide +kernel)
theorem q_744 : (Jvm.Cond.selects "GlacierYearsModel" ({ cls := "GlacierYearsModel", name := "steady", desc := "(I)I" } : Jvm.MethodName) ({ cls := "GlacierYearsModel", name := "steady", desc := "(I)I" } : Jvm.MethodName)) ∈ g_tbl := g_mem 744 (by decide +kernel) (by decide +kernel)
theorem q_745 : (Jvm.Cond.code ({ cls := "GlacierYearsModel", name := "steady", desc := "(I)I" } : Jvm.MethodName) prog_8_method_33_code (4 : Nat) (Option.some Jvm.ClassFile.FieldType.int)) ∈ g_tbl := g_mem 745 (by decide +kernel) (by decide +kernel)
theorem q_746 : (Jvm.Cond.methodLink "GlacierYearsModel" (175 : Nat) ({ cls := "GlacierYearsModel", name := "note", desc := "(I)V" } : Jvm.MethodName)) ∈ g_tbl := g_mem 746 (by decide +kernel) (by decide +kernel)
theorem q_748 : (Jvm.Cond.instanceMethod ({ cls := "GlacierYearsModel", name := "note", desc := "(I)V" } : Jvm.MethodName)) ∈ g_tbl := g_mem 748 (by decide +kernel) (by decide +kernel)
theorem q_749 : (Jvm.Cond.code ({ cls := "GlacierYearsModel", name := "note", desc := "(I)V" } : Jvm.MethodName) prog_8_method_31_code (3 : Nat) (Option.none : Option Jvm.ClassFile.FieldType)) ∈ g_tbl := g_mem 749 (by decide +kernel) (by decide +kernel)
theorem q_750 : (Jvm.Cond.methodLink "GlacierYearsModel" (179 : Nat) ({ cls := "GlacierYearsModel", name := "isLike", desc := "(II)Z" } : Jvm.MethodName)) ∈ g_tbl := g_mem 750 (by decide +kernel) (by decide +kernel)
theorem q_752 : (Jvm.Cond.instanceMethod ({ cls := "GlacierYearsModel", name := "isLike", desc := "(II)Z" } : Jvm.MethodName)) ∈ g_tbl := g_mem 752 (by decide +kernel) (by decide +kernel)
theorem q_753 : (Jvm.Cond.code ({ cls := "GlacierYearsModel", name := "isLike", desc := "(II)Z" } : Jvm.MethodName) prog_8_method_32_code (5 : Nat) (Option.some Jvm.ClassFile.FieldType.boolean)) ∈ g_tbl := g_mem 753 (by decide +kernel) (by decide +kernel)
theorem q_754 : (Jvm.Cond.methodLink "GlacierYearsLaw" (83 : Nat) ({ cls := "GlacierYearsModel", name := "cell", desc := "(III)J" } : Jvm.MethodName)) ∈ g_tbl := g_mem 754 (by decide +kernel) (by decide +kernel)
theorem q_755 : (Jvm.Cond.instanceMethod ({ cls := "GlacierYearsModel", name := "cell", desc := "(III)J" } : Jvm.MethodName)) ∈ g_tbl := g_mem 755 (by decide +kernel) (by decide +kernel)
theorem q_756 : (Jvm.Cond.selects "GlacierYearsModel" ({ cls := "GlacierYearsModel", name := "cell", desc := "(III)J" } : Jvm.MethodName) ({ cls := "GlacierYearsModel", name := "cell", desc := "(III)J" } : Jvm.MethodName)) ∈ g_tbl := g_mem 756 (by decide +kernel) (by decide +kernel)
theorem q_757 : (Jvm.Cond.code ({ cls := "GlacierYearsModel", name := "cell", desc := "(III)J" } : Jvm.MethodName) prog_8_method_36_code (5 : Nat) (Option.some Jvm.ClassFile.FieldType.long)) ∈ g_tbl := g_mem 757 (by decide +kernel) (by decide +kernel)
theorem q_758 : (Jvm.Cond.constantLong "GlacierYearsModel" (182 : Nat) (6 : Int64)) ∈ g_tbl := g_mem 758 (by decide +kernel) (by decide +kernel)
theorem q_759 : (Jvm.Cond.methodLink "GlacierYearsModel" (184 : Nat) ({ cls := "GlacierYearsModel", name := "layers", desc := "(I)I" } : Jvm.MethodName)) ∈ g_tbl := g_mem 759 (by decide +kernel) (by decide +kernel)
theorem q_761 : (Jvm.Cond.instanceMethod ({ cls := "GlacierYearsModel", name := "layers", desc := "(I)I" } : Jvm.MethodName)) ∈ g_tbl := g_mem 761 (by decide +kernel) (by decide +kernel)
theorem q_762 : (Jvm.Cond.code ({ cls := "GlacierYearsModel", name := "layers", desc := "(I)I" } : Jvm.MethodName) prog_8_method_35_code (4 : Nat) (Option.some Jvm.ClassFile.FieldType.int)) ∈ g_tbl := g_mem 762 (by decide +kernel) (by decide +kernel)
theorem q_763 : (Jvm.Cond.methodLink "GlacierYearsModel" (187 : Nat) ({ cls := "GlacierYearsModel", name := "layerOf", desc := "(II)I" } : Jvm.MethodName)) ∈ g_tbl := g_mem 763 (by decide +kernel) (by decide +kernel)
theorem q_765 : (Jvm.Cond.instanceMethod ({ cls := "GlacierYearsModel", name := "layerOf", desc := "(II)I" } : Jvm.MethodName)) ∈ g_tbl := g_mem 765 (by decide +kernel) (by decide +kernel)
theorem q_766 : (Jvm.Cond.code ({ cls := "GlacierYearsModel", name := "layerOf", desc := "(II)I" } : Jvm.MethodName) prog_8_method_34_code (5 : Nat) (Option.some Jvm.ClassFile.FieldType.int)) ∈ g_tbl := g_mem 766 (by decide +kernel) (by decide +kernel)
theorem q_767 : (Jvm.Cond.methodLink "GlacierYearsLaw" (88 : Nat) ({ cls := "GlacierYearsModel", name := "layer", desc := "(IIII)J" } : Jvm.MethodName)) ∈ g_tbl := g_mem 767 (by decide +kernel) (by decide +kernel)
theorem q_768 : (Jvm.Cond.instanceMethod ({ cls := "GlacierYearsModel", name := "layer", desc := "(IIII)J" } : Jvm.MethodName)) ∈ g_tbl := g_mem 768 (by decide +kernel) (by decide +kernel)
theorem q_769 : (Jvm.Cond.selects "GlacierYearsModel" ({ cls := "GlacierYearsModel", name := "layer", desc := "(IIII)J" } : Jvm.MethodName) ({ cls := "GlacierYearsModel", name := "layer", desc := "(IIII)J" } : Jvm.MethodName)) ∈ g_tbl := g_mem 769 (by decide +kernel) (by decide +kernel)
theorem q_770 : (Jvm.Cond.code ({ cls := "GlacierYearsModel", name := "layer", desc := "(IIII)J" } : Jvm.MethodName) prog_8_method_37_code (7 : Nat) (Option.some Jvm.ClassFile.FieldType.long)) ∈ g_tbl := g_mem 770 (by decide +kernel) (by decide +kernel)
theorem q_771 : (Jvm.Cond.constantLong "GlacierYearsModel" (190 : Nat) (-9 : Int64)) ∈ g_tbl := g_mem 771 (by decide +kernel) (by decide +kernel)
theorem q_772 : (Jvm.Cond.methodLink "GlacierYearsLaw" (93 : Nat) ({ cls := "GlacierYearsModel", name := "sum", desc := "(II)J" } : Jvm.MethodName)) ∈ g_tbl := g_mem 772 (by decide +kernel) (by decide +kernel)
theorem q_773 : (Jvm.Cond.instanceMethod ({ cls := "GlacierYearsModel", name := "sum", desc := "(II)J" } : Jvm.MethodName)) ∈ g_tbl := g_mem 773 (by decide +kernel) (by decide +kernel)
theorem q_774 : (Jvm.Cond.selects "GlacierYearsModel" ({ cls := "GlacierYearsModel", name := "sum", desc := "(II)J" } : Jvm.MethodName) ({ cls := "GlacierYearsModel", name := "sum", desc := "(II)J" } : Jvm.MethodName)) ∈ g_tbl := g_mem 774 (by decide +kernel) (by decide +kernel)
theorem q_775 : (Jvm.Cond.code ({ cls := "GlacierYearsModel", name := "sum", desc := "(II)J" } : Jvm.MethodName) prog_8_method_38_code (7 : Nat) (Option.some Jvm.ClassFile.FieldType.long)) ∈ g_tbl := g_mem 775 (by decide +kernel) (by decide +kernel)
theorem q_776 : (Jvm.Cond.methodLink "GlacierYearsLaw" (98 : Nat) ({ cls := "GlacierYearsModel", name := "about", desc := "(I)J" } : Jvm.MethodName)) ∈ g_tbl := g_mem 776 (by decide +kernel) (by decide +kernel)
theorem q_777 : (Jvm.Cond.instanceMethod ({ cls := "GlacierYearsModel", name := "about", desc := "(I)J" } : Jvm.MethodName)) ∈ g_tbl := g_mem 777 (by decide +kernel) (by decide +kernel)
theorem q_778 : (Jvm.Cond.selects "GlacierYearsModel" ({ cls := "GlacierYearsModel", name := "about", desc := "(I)J" } : Jvm.MethodName) ({ cls := "GlacierYearsModel", name := "about", desc := "(I)J" } : Jvm.MethodName)) ∈ g_tbl := g_mem 778 (by decide +kernel) (by decide +kernel)
theorem q_779 : (Jvm.Cond.code ({ cls := "GlacierYearsModel", name := "about", desc := "(I)J" } : Jvm.MethodName) prog_8_method_39_code (13 : Nat) (Option.some Jvm.ClassFile.FieldType.long)) ∈ g_tbl := g_mem 779 (by decide +kernel) (by decide +kernel)
theorem q_780 : (Jvm.Cond.methodLink "GlacierYearsLaw" (102 : Nat) ({ cls := "GlacierYearsModel", name := "gives", desc := "(III)J" } : Jvm.MethodName)) ∈ g_tbl := g_mem 780 (by decide +kernel) (by decide +kernel)
theorem q_781 : (Jvm.Cond.instanceMethod ({ cls := "GlacierYearsModel", name := "gives", desc := "(III)J" } : Jvm.MethodName)) ∈ g_tbl := g_mem 781 (by decide +kernel) (by decide +kernel)
theorem q_782 : (Jvm.Cond.selects "GlacierYearsModel" ({ cls := "GlacierYearsModel", name := "gives", desc := "(III)J" } : Jvm.MethodName) ({ cls := "GlacierYearsModel", name := "gives", desc := "(III)J" } : Jvm.MethodName)) ∈ g_tbl := g_mem 782 (by decide +kernel) (by decide +kernel)
theorem q_783 : (Jvm.Cond.code ({ cls := "GlacierYearsModel", name := "gives", desc := "(III)J" } : Jvm.MethodName) prog_8_method_40_code (4 : Nat) (Option.some Jvm.ClassFile.FieldType.long)) ∈ g_tbl := g_mem 783 (by decide +kernel) (by decide +kernel)
theorem q_784 : (Jvm.Cond.methodLink "GlacierYearsLaw" (106 : Nat) ({ cls := "GlacierYearsModel", name := "turn", desc := "(I)I" } : Jvm.MethodName)) ∈ g_tbl := g_mem 784 (by decide +kernel) (by decide +kernel)
theorem q_785 : (Jvm.Cond.instanceMethod ({ cls := "GlacierYearsModel", name := "turn", desc := "(I)I" } : Jvm.MethodName)) ∈ g_tbl := g_mem 785 (by decide +kernel) (by decide +kernel)
theorem q_786 : (Jvm.Cond.selects "GlacierYearsModel" ({ cls := "GlacierYearsModel", name := "turn", desc := "(I)I" } : Jvm.MethodName) ({ cls := "GlacierYearsModel", name := "turn", desc := "(I)I" } : Jvm.MethodName)) ∈ g_tbl := g_mem 786 (by decide +kernel) (by decide +kernel)
theorem q_787 : (Jvm.Cond.code ({ cls := "GlacierYearsModel", name := "turn", desc := "(I)I" } : Jvm.MethodName) prog_8_method_41_code (9 : Nat) (Option.some Jvm.ClassFile.FieldType.int)) ∈ g_tbl := g_mem 787 (by decide +kernel) (by decide +kernel)
theorem q_788 : (Jvm.Cond.methodLink "GlacierYearsLaw" (110 : Nat) ({ cls := "GlacierYearsModel", name := "count", desc := "(I)I" } : Jvm.MethodName)) ∈ g_tbl := g_mem 788 (by decide +kernel) (by decide +kernel)
theorem q_789 : (Jvm.Cond.instanceMethod ({ cls := "GlacierYearsModel", name := "count", desc := "(I)I" } : Jvm.MethodName)) ∈ g_tbl := g_mem 789 (by decide +kernel) (by decide +kernel)
theorem q_790 : (Jvm.Cond.selects "GlacierYearsModel" ({ cls := "GlacierYearsModel", name := "count", desc := "(I)I" } : Jvm.MethodName) ({ cls := "GlacierYearsModel", name := "count", desc := "(I)I" } : Jvm.MethodName)) ∈ g_tbl := g_mem 790 (by decide +kernel) (by decide +kernel)
theorem q_791 : (Jvm.Cond.code ({ cls := "GlacierYearsModel", name := "count", desc := "(I)I" } : Jvm.MethodName) prog_8_method_42_code (4 : Nat) (Option.some Jvm.ClassFile.FieldType.int)) ∈ g_tbl := g_mem 791 (by decide +kernel) (by decide +kernel)
theorem q_792 : (Jvm.Cond.constantLong "GlacierYearsLaw" (23 : Nat) (4294967295 : Int64)) ∈ g_tbl := g_mem 792 (by decide +kernel) (by decide +kernel)
end
section
theorem dX0_init_0 : decode cX0_init 0 = .ok (.aload_n 0, 1) := by decide +kernel
theorem dX0_init_1 : decode cX0_init 1 = .ok (.invokespecial 3, 3) := by decide +kernel
theorem dX0_init_4 : decode cX0_init 4 = .ok (.aload_n 0, 1) := by decide +kernel
theorem dX0_init_5 : decode cX0_init 5 = .ok (.sipush 3904, 3) := by decide +kernel
theorem dX0_init_8 : decode cX0_init 8 = .ok (.newarray .long, 2) := by decide +kernel
theorem dX0_init_10 : decode cX0_init 10 = .ok (.putfield 9, 3) := by decide +kernel
theorem dX0_init_13 : decode cX0_init 13 = .ok (.aload_n 0, 1) := by decide +kernel
theorem dX0_init_14 : decode cX0_init 14 = .ok (.bipush 64, 2) := by decide +kernel
theorem dX0_init_16 : decode cX0_init 16 = .ok (.newarray .long, 2) := by decide +kernel
theorem dX0_init_18 : decode cX0_init 18 = .ok (.putfield 15, 3) := by decide +kernel
theorem dX0_init_21 : decode cX0_init 21 = .ok (.aload_n 0, 1) := by decide +kernel
theorem dX0_init_22 : decode cX0_init 22 = .ok (.sipush 305, 3) := by decide +kernel
theorem dX0_init_25 : decode cX0_init 25 = .ok (.newarray .long, 2) := by decide +kernel
theorem dX0_init_27 : decode cX0_init 27 = .ok (.putfield 18, 3) := by decide +kernel
theorem dX0_init_30 : decode cX0_init 30 = .ok (.return_, 1) := by decide +kernel
theorem dX0_clear_0 : decode cX0_clear 0 = .ok (.aload_n 0, 1) := by decide +kernel
theorem dX0_clear_1 : decode cX0_clear 1 = .ok (.iconst 0, 1) := by decide +kernel
theorem dX0_clear_2 : decode cX0_clear 2 = .ok (.putfield 21, 3) := by decide +kernel
theorem dX0_clear_5 : decode cX0_clear 5 = .ok (.aload_n 0, 1) := by decide +kernel
theorem dX0_clear_6 : decode cX0_clear 6 = .ok (.getfield 9, 3) := by decide +kernel
theorem dX0_clear_9 : decode cX0_clear 9 = .ok (.lconst 0, 1) := by decide +kernel
theorem dX0_clear_10 : decode cX0_clear 10 = .ok (.invokestatic 25, 3) := by decide +kernel
theorem dX0_clear_13 : decode cX0_clear 13 = .ok (.aload_n 0, 1) := by decide +kernel
theorem dX0_clear_14 : decode cX0_clear 14 = .ok (.getfield 15, 3) := by decide +kernel
theorem dX0_clear_17 : decode cX0_clear 17 = .ok (.lconst 0, 1) := by decide +kernel
theorem dX0_clear_18 : decode cX0_clear 18 = .ok (.invokestatic 25, 3) := by decide +kernel
theorem dX0_clear_21 : decode cX0_clear 21 = .ok (.aload_n 0, 1) := by decide +kernel
theorem dX0_clear_22 : decode cX0_clear 22 = .ok (.getfield 18, 3) := by decide +kernel
theorem dX0_clear_25 : decode cX0_clear 25 = .ok (.lconst 0, 1) := by decide +kernel
theorem dX0_clear_26 : decode cX0_clear 26 = .ok (.invokestatic 25, 3) := by decide +kernel
theorem dX0_clear_29 : decode cX0_clear 29 = .ok (.return_, 1) := by decide +kernel
theorem dX0_become_0 : decode cX0_become 0 = .ok (.aload_n 0, 1) := by decide +kernel
theorem dX0_become_1 : decode cX0_become 1 = .ok (.aload_n 1, 1) := by decide +kernel
theorem dX0_become_2 : decode cX0_become 2 = .ok (.getfield 21, 3) := by decide +kernel
theorem dX0_become_5 : decode cX0_become 5 = .ok (.putfield 21, 3) := by decide +kernel
theorem dX0_become_8 : decode cX0_become 8 = .ok (.aload_n 1, 1) := by decide +kernel
theorem dX0_become_9 : decode cX0_become 9 = .ok (.getfield 9, 3) := by decide +kernel
theorem dX0_become_12 : decode cX0_become 12 = .ok (.iconst 0, 1) := by decide +kernel
theorem dX0_become_13 : decode cX0_become 13 = .ok (.aload_n 0, 1) := by decide +kernel
theorem dX0_become_14 : decode cX0_become 14 = .ok (.getfield 9, 3) := by decide +kernel
theorem dX0_become_17 : decode cX0_become 17 = .ok (.iconst 0, 1) := by decide +kernel
theorem dX0_become_18 : decode cX0_become 18 = .ok (.sipush 3904, 3) := by decide +kernel
theorem dX0_become_21 : decode cX0_become 21 = .ok (.invokestatic 31, 3) := by decide +kernel
theorem dX0_become_24 : decode cX0_become 24 = .ok (.aload_n 1, 1) := by decide +kernel
theorem dX0_become_25 : decode cX0_become 25 = .ok (.getfield 15, 3) := by decide +kernel
theorem dX0_become_28 : decode cX0_become 28 = .ok (.iconst 0, 1) := by decide +kernel
theorem dX0_become_29 : decode cX0_become 29 = .ok (.aload_n 0, 1) := by decide +kernel
theorem dX0_become_30 : decode cX0_become 30 = .ok (.getfield 15, 3) := by decide +kernel
theorem dX0_become_33 : decode cX0_become 33 = .ok (.iconst 0, 1) := by decide +kernel
theorem dX0_become_34 : decode cX0_become 34 = .ok (.bipush 64, 2) := by decide +kernel
theorem dX0_become_36 : decode cX0_become 36 = .ok (.invokestatic 31, 3) := by decide +kernel
theorem dX0_become_39 : decode cX0_become 39 = .ok (.aload_n 1, 1) := by decide +kernel
theorem dX0_become_40 : decode cX0_become 40 = .ok (.getfield 18, 3) := by decide +kernel
theorem dX0_become_43 : decode cX0_become 43 = .ok (.iconst 0, 1) := by decide +kernel
theorem dX0_become_44 : decode cX0_become 44 = .ok (.aload_n 0, 1) := by decide +kernel
theorem dX0_become_45 : decode cX0_become 45 = .ok (.getfield 18, 3) := by decide +kernel
theorem dX0_become_48 : decode cX0_become 48 = .ok (.iconst 0, 1) := by decide +kernel
theorem dX0_become_49 : decode cX0_become 49 = .ok (.sipush 305, 3) := by decide +kernel
theorem dX0_become_52 : decode cX0_become 52 = .ok (.invokestatic 31, 3) := by decide +kernel
theorem dX0_become_55 : decode cX0_become 55 = .ok (.return_, 1) := by decide +kernel
theorem dX0_settleAs_0 : decode cX0_settleAs 0 = .ok (.aload_n 2, 1) := by decide +kernel
theorem dX0_settleAs_1 : decode cX0_settleAs 1 = .ok (.getfield 9, 3) := by decide +kernel
theorem dX0_settleAs_4 : decode cX0_settleAs 4 = .ok (.iload_n 3, 1) := by decide +kernel
theorem dX0_settleAs_5 : decode cX0_settleAs 5 = .ok (.bipush 61, 2) := by decide +kernel
theorem dX0_settleAs_7 : decode cX0_settleAs 7 = .ok (.imul, 1) := by decide +kernel
theorem dX0_settleAs_8 : decode cX0_settleAs 8 = .ok (.aload_n 0, 1) := by decide +kernel
theorem dX0_settleAs_9 : decode cX0_settleAs 9 = .ok (.getfield 9, 3) := by decide +kernel
theorem dX0_settleAs_12 : decode cX0_settleAs 12 = .ok (.iload_n 1, 1) := by decide +kernel
theorem dX0_settleAs_13 : decode cX0_settleAs 13 = .ok (.bipush 61, 2) := by decide +kernel
theorem dX0_settleAs_15 : decode cX0_settleAs 15 = .ok (.imul, 1) := by decide +kernel
theorem dX0_settleAs_16 : decode cX0_settleAs 16 = .ok (.bipush 61, 2) := by decide +kernel
theorem dX0_settleAs_18 : decode cX0_settleAs 18 = .ok (.invokestatic 31, 3) := by decide +kernel
theorem dX0_settleAs_21 : decode cX0_settleAs 21 = .ok (.aload_n 0, 1) := by decide +kernel
theorem dX0_settleAs_22 : decode cX0_settleAs 22 = .ok (.getfield 15, 3) := by decide +kernel
theorem dX0_settleAs_25 : decode cX0_settleAs 25 = .ok (.iload_n 1, 1) := by decide +kernel
theorem dX0_settleAs_26 : decode cX0_settleAs 26 = .ok (.aload_n 2, 1) := by decide +kernel
theorem dX0_settleAs_27 : decode cX0_settleAs 27 = .ok (.getfield 15, 3) := by decide +kernel
theorem dX0_settleAs_30 : decode cX0_settleAs 30 = .ok (.iload_n 3, 1) := by decide +kernel
theorem dX0_settleAs_31 : decode cX0_settleAs 31 = .ok (.laload, 1) := by decide +kernel
theorem dX0_settleAs_32 : decode cX0_settleAs 32 = .ok (.lastore, 1) := by decide +kernel
theorem dX0_settleAs_33 : decode cX0_settleAs 33 = .ok (.return_, 1) := by decide +kernel
theorem dX0_lay_0 : decode cX0_lay 0 = .ok (.aload_n 0, 1) := by decide +kernel
theorem dX0_lay_1 : decode cX0_lay 1 = .ok (.getfield 9, 3) := by decide +kernel
theorem dX0_lay_4 : decode cX0_lay 4 = .ok (.iload_n 1, 1) := by decide +kernel
theorem dX0_lay_5 : decode cX0_lay 5 = .ok (.bipush 61, 2) := by decide +kernel
theorem dX0_lay_7 : decode cX0_lay 7 = .ok (.imul, 1) := by decide +kernel
theorem dX0_lay_8 : decode cX0_lay 8 = .ok (.iload_n 2, 1) := by decide +kernel
theorem dX0_lay_9 : decode cX0_lay 9 = .ok (.iadd, 1) := by decide +kernel
theorem dX0_lay_10 : decode cX0_lay 10 = .ok (.dup2, 1) := by decide +kernel
theorem dX0_lay_11 : decode cX0_lay 11 = .ok (.laload, 1) := by decide +kernel
theorem dX0_lay_12 : decode cX0_lay 12 = .ok (.lload_n 3, 1) := by decide +kernel
theorem dX0_lay_13 : decode cX0_lay 13 = .ok (.ladd, 1) := by decide +kernel
theorem dX0_lay_14 : decode cX0_lay 14 = .ok (.lastore, 1) := by decide +kernel
theorem dX0_lay_15 : decode cX0_lay 15 = .ok (.aload_n 0, 1) := by decide +kernel
theorem dX0_lay_16 : decode cX0_lay 16 = .ok (.getfield 15, 3) := by decide +kernel
theorem dX0_lay_19 : decode cX0_lay 19 = .ok (.iload_n 1, 1) := by decide +kernel
theorem dX0_lay_20 : decode cX0_lay 20 = .ok (.dup2, 1) := by decide +kernel
theorem dX0_lay_21 : decode cX0_lay 21 = .ok (.laload, 1) := by decide +kernel
theorem dX0_lay_22 : decode cX0_lay 22 = .ok (.lload_n 3, 1) := by decide +kernel
theorem dX0_lay_23 : decode cX0_lay 23 = .ok (.ladd, 1) := by decide +kernel
theorem dX0_lay_24 : decode cX0_lay 24 = .ok (.lastore, 1) := by decide +kernel
theorem dX0_lay_25 : decode cX0_lay 25 = .ok (.aload_n 0, 1) := by decide +kernel
theorem dX0_lay_26 : decode cX0_lay 26 = .ok (.getfield 18, 3) := by decide +kernel
theorem dX0_lay_29 : decode cX0_lay 29 = .ok (.iconst 0, 1) := by decide +kernel
theorem dX0_lay_30 : decode cX0_lay 30 = .ok (.iload_n 2, 1) := by decide +kernel
theorem dX0_lay_31 : decode cX0_lay 31 = .ok (.iadd, 1) := by decide +kernel
theorem dX0_lay_32 : decode cX0_lay 32 = .ok (.dup2, 1) := by decide +kernel
theorem dX0_lay_33 : decode cX0_lay 33 = .ok (.laload, 1) := by decide +kernel
theorem dX0_lay_34 : decode cX0_lay 34 = .ok (.lload_n 3, 1) := by decide +kernel
theorem dX0_lay_35 : decode cX0_lay 35 = .ok (.ladd, 1) := by decide +kernel
theorem dX0_lay_36 : decode cX0_lay 36 = .ok (.lastore, 1) := by decide +kernel
theorem dX0_lay_37 : decode cX0_lay 37 = .ok (.return_, 1) := by decide +kernel
theorem dX0_lift_0 : decode cX0_lift 0 = .ok (.aload_n 0, 1) := by decide +kernel
theorem dX0_lift_1 : decode cX0_lift 1 = .ok (.iload_n 1, 1) := by decide +kernel
theorem dX0_lift_2 : decode cX0_lift 2 = .ok (.iload_n 2, 1) := by decide +kernel
theorem dX0_lift_3 : decode cX0_lift 3 = .ok (.lload_n 3, 1) := by decide +kernel
theorem dX0_lift_4 : decode cX0_lift 4 = .ok (.lneg, 1) := by decide +kernel
theorem dX0_lift_5 : decode cX0_lift 5 = .ok (.invokevirtual 37, 3) := by decide +kernel
theorem dX0_lift_8 : decode cX0_lift 8 = .ok (.return_, 1) := by decide +kernel
theorem dX0_arrive_0 : decode cX0_arrive 0 = .ok (.aload_n 0, 1) := by decide +kernel
theorem dX0_arrive_1 : decode cX0_arrive 1 = .ok (.iload_n 1, 1) := by decide +kernel
theorem dX0_arrive_2 : decode cX0_arrive 2 = .ok (.iload_n 2, 1) := by decide +kernel
theorem dX0_arrive_3 : decode cX0_arrive 3 = .ok (.lload_n 3, 1) := by decide +kernel
theorem dX0_arrive_4 : decode cX0_arrive 4 = .ok (.invokevirtual 37, 3) := by decide +kernel
theorem dX0_arrive_7 : decode cX0_arrive 7 = .ok (.aload_n 0, 1) := by decide +kernel
theorem dX0_arrive_8 : decode cX0_arrive 8 = .ok (.getfield 18, 3) := by decide +kernel
theorem dX0_arrive_11 : decode cX0_arrive 11 = .ok (.sipush 244, 3) := by decide +kernel
theorem dX0_arrive_14 : decode cX0_arrive 14 = .ok (.iload_n 2, 1) := by decide +kernel
theorem dX0_arrive_15 : decode cX0_arrive 15 = .ok (.iadd, 1) := by decide +kernel
theorem dX0_arrive_16 : decode cX0_arrive 16 = .ok (.dup2, 1) := by decide +kernel
theorem dX0_arrive_17 : decode cX0_arrive 17 = .ok (.laload, 1) := by decide +kernel
theorem dX0_arrive_18 : decode cX0_arrive 18 = .ok (.lload_n 3, 1) := by decide +kernel
theorem dX0_arrive_19 : decode cX0_arrive 19 = .ok (.ladd, 1) := by decide +kernel
theorem dX0_arrive_20 : decode cX0_arrive 20 = .ok (.lastore, 1) := by decide +kernel
theorem dX0_arrive_21 : decode cX0_arrive 21 = .ok (.return_, 1) := by decide +kernel
theorem dX0_lose_0 : decode cX0_lose 0 = .ok (.lload_n 2, 1) := by decide +kernel
theorem dX0_lose_1 : decode cX0_lose 1 = .ok (.lstore 5, 2) := by decide +kernel
theorem dX0_lose_3 : decode cX0_lose 3 = .ok (.aload_n 0, 1) := by decide +kernel
theorem dX0_lose_4 : decode cX0_lose 4 = .ok (.getfield 21, 3) := by decide +kernel
theorem dX0_lose_7 : decode cX0_lose 7 = .ok (.istore 7, 2) := by decide +kernel
theorem dX0_lose_9 : decode cX0_lose 9 = .ok (.iload 7, 2) := by decide +kernel
theorem dX0_lose_11 : decode cX0_lose 11 = .ok (.ifCond .lt 69, 3) := by decide +kernel
theorem dX0_lose_14 : decode cX0_lose 14 = .ok (.lload 5, 2) := by decide +kernel
theorem dX0_lose_16 : decode cX0_lose 16 = .ok (.lconst 0, 1) := by decide +kernel
theorem dX0_lose_17 : decode cX0_lose 17 = .ok (.lcmp, 1) := by decide +kernel
theorem dX0_lose_18 : decode cX0_lose 18 = .ok (.ifCond .le 62, 3) := by decide +kernel
theorem dX0_lose_21 : decode cX0_lose 21 = .ok (.lload 5, 2) := by decide +kernel
theorem dX0_lose_23 : decode cX0_lose 23 = .ok (.aload_n 0, 1) := by decide +kernel
theorem dX0_lose_24 : decode cX0_lose 24 = .ok (.getfield 9, 3) := by decide +kernel
theorem dX0_lose_27 : decode cX0_lose 27 = .ok (.iload_n 1, 1) := by decide +kernel
theorem dX0_lose_28 : decode cX0_lose 28 = .ok (.bipush 61, 2) := by decide +kernel
theorem dX0_lose_30 : decode cX0_lose 30 = .ok (.imul, 1) := by decide +kernel
theorem dX0_lose_31 : decode cX0_lose 31 = .ok (.iload 7, 2) := by decide +kernel
theorem dX0_lose_33 : decode cX0_lose 33 = .ok (.iadd, 1) := by decide +kernel
theorem dX0_lose_34 : decode cX0_lose 34 = .ok (.laload, 1) := by decide +kernel
theorem dX0_lose_35 : decode cX0_lose 35 = .ok (.invokestatic 41, 3) := by decide +kernel
theorem dX0_lose_38 : decode cX0_lose 38 = .ok (.lstore 8, 2) := by decide +kernel
theorem dX0_lose_40 : decode cX0_lose 40 = .ok (.aload_n 0, 1) := by decide +kernel
theorem dX0_lose_41 : decode cX0_lose 41 = .ok (.iload_n 1, 1) := by decide +kernel
theorem dX0_lose_42 : decode cX0_lose 42 = .ok (.iload 7, 2) := by decide +kernel
theorem dX0_lose_44 : decode cX0_lose 44 = .ok (.lload 8, 2) := by decide +kernel
theorem dX0_lose_46 : decode cX0_lose 46 = .ok (.invokevirtual 47, 3) := by decide +kernel
theorem dX0_lose_49 : decode cX0_lose 49 = .ok (.aload_n 0, 1) := by decide +kernel
theorem dX0_lose_50 : decode cX0_lose 50 = .ok (.getfield 18, 3) := by decide +kernel
theorem dX0_lose_53 : decode cX0_lose 53 = .ok (.iload 4, 2) := by decide +kernel
theorem dX0_lose_55 : decode cX0_lose 55 = .ok (.bipush 61, 2) := by decide +kernel
theorem dX0_lose_57 : decode cX0_lose 57 = .ok (.imul, 1) := by decide +kernel
theorem dX0_lose_58 : decode cX0_lose 58 = .ok (.iload 7, 2) := by decide +kernel
theorem dX0_lose_60 : decode cX0_lose 60 = .ok (.iadd, 1) := by decide +kernel
theorem dX0_lose_61 : decode cX0_lose 61 = .ok (.dup2, 1) := by decide +kernel
theorem dX0_lose_62 : decode cX0_lose 62 = .ok (.laload, 1) := by decide +kernel
theorem dX0_lose_63 : decode cX0_lose 63 = .ok (.lload 8, 2) := by decide +kernel
theorem dX0_lose_65 : decode cX0_lose 65 = .ok (.ladd, 1) := by decide +kernel
theorem dX0_lose_66 : decode cX0_lose 66 = .ok (.lastore, 1) := by decide +kernel
theorem dX0_lose_67 : decode cX0_lose 67 = .ok (.lload 5, 2) := by decide +kernel
theorem dX0_lose_69 : decode cX0_lose 69 = .ok (.lload 8, 2) := by decide +kernel
theorem dX0_lose_71 : decode cX0_lose 71 = .ok (.lsub, 1) := by decide +kernel
theorem dX0_lose_72 : decode cX0_lose 72 = .ok (.lstore 5, 2) := by decide +kernel
theorem dX0_lose_74 : decode cX0_lose 74 = .ok (.iinc 7 (-1), 3) := by decide +kernel
theorem dX0_lose_77 : decode cX0_lose 77 = .ok (.goto (-68), 3) := by decide +kernel
theorem dX0_lose_80 : decode cX0_lose 80 = .ok (.return_, 1) := by decide +kernel
theorem dX0_layerCount_0 : decode cX0_layerCount 0 = .ok (.iconst 0, 1) := by decide +kernel
theorem dX0_layerCount_1 : decode cX0_layerCount 1 = .ok (.istore_n 2, 1) := by decide +kernel
theorem dX0_layerCount_2 : decode cX0_layerCount 2 = .ok (.iconst 0, 1) := by decide +kernel
theorem dX0_layerCount_3 : decode cX0_layerCount 3 = .ok (.istore_n 3, 1) := by decide +kernel
theorem dX0_layerCount_4 : decode cX0_layerCount 4 = .ok (.iload_n 3, 1) := by decide +kernel
theorem dX0_layerCount_5 : decode cX0_layerCount 5 = .ok (.aload_n 0, 1) := by decide +kernel
theorem dX0_layerCount_6 : decode cX0_layerCount 6 = .ok (.getfield 21, 3) := by decide +kernel
theorem dX0_layerCount_9 : decode cX0_layerCount 9 = .ok (.if_icmp .gt 28, 3) := by decide +kernel
theorem dX0_layerCount_12 : decode cX0_layerCount 12 = .ok (.aload_n 0, 1) := by decide +kernel
theorem dX0_layerCount_13 : decode cX0_layerCount 13 = .ok (.getfield 9, 3) := by decide +kernel
theorem dX0_layerCount_16 : decode cX0_layerCount 16 = .ok (.iload_n 1, 1) := by decide +kernel
theorem dX0_layerCount_17 : decode cX0_layerCount 17 = .ok (.bipush 61, 2) := by decide +kernel
theorem dX0_layerCount_19 : decode cX0_layerCount 19 = .ok (.imul, 1) := by decide +kernel
theorem dX0_layerCount_20 : decode cX0_layerCount 20 = .ok (.iload_n 3, 1) := by decide +kernel
theorem dX0_layerCount_21 : decode cX0_layerCount 21 = .ok (.iadd, 1) := by decide +kernel
theorem dX0_layerCount_22 : decode cX0_layerCount 22 = .ok (.laload, 1) := by decide +kernel
theorem dX0_layerCount_23 : decode cX0_layerCount 23 = .ok (.lconst 0, 1) := by decide +kernel
theorem dX0_layerCount_24 : decode cX0_layerCount 24 = .ok (.lcmp, 1) := by decide +kernel
theorem dX0_layerCount_25 : decode cX0_layerCount 25 = .ok (.ifCond .le 6, 3) := by decide +kernel
theorem dX0_layerCount_28 : decode cX0_layerCount 28 = .ok (.iinc 2 1, 3) := by decide +kernel
theorem dX0_layerCount_31 : decode cX0_layerCount 31 = .ok (.iinc 3 1, 3) := by decide +kernel
theorem dX0_layerCount_34 : decode cX0_layerCount 34 = .ok (.goto (-30), 3) := by decide +kernel
theorem dX0_layerCount_37 : decode cX0_layerCount 37 = .ok (.iload_n 2, 1) := by decide +kernel
theorem dX0_layerCount_38 : decode cX0_layerCount 38 = .ok (.ireturn, 1) := by decide +kernel
theorem dX0_layerYear_0 : decode cX0_layerYear 0 = .ok (.iconst 0, 1) := by decide +kernel
theorem dX0_layerYear_1 : decode cX0_layerYear 1 = .ok (.istore_n 3, 1) := by decide +kernel
theorem dX0_layerYear_2 : decode cX0_layerYear 2 = .ok (.aload_n 0, 1) := by decide +kernel
theorem dX0_layerYear_3 : decode cX0_layerYear 3 = .ok (.getfield 21, 3) := by decide +kernel
theorem dX0_layerYear_6 : decode cX0_layerYear 6 = .ok (.istore 4, 2) := by decide +kernel
theorem dX0_layerYear_8 : decode cX0_layerYear 8 = .ok (.iload 4, 2) := by decide +kernel
theorem dX0_layerYear_10 : decode cX0_layerYear 10 = .ok (.ifCond .lt 37, 3) := by decide +kernel
theorem dX0_layerYear_13 : decode cX0_layerYear 13 = .ok (.aload_n 0, 1) := by decide +kernel
theorem dX0_layerYear_14 : decode cX0_layerYear 14 = .ok (.getfield 9, 3) := by decide +kernel
theorem dX0_layerYear_17 : decode cX0_layerYear 17 = .ok (.iload_n 1, 1) := by decide +kernel
theorem dX0_layerYear_18 : decode cX0_layerYear 18 = .ok (.bipush 61, 2) := by decide +kernel
theorem dX0_layerYear_20 : decode cX0_layerYear 20 = .ok (.imul, 1) := by decide +kernel
theorem dX0_layerYear_21 : decode cX0_layerYear 21 = .ok (.iload 4, 2) := by decide +kernel
theorem dX0_layerYear_23 : decode cX0_layerYear 23 = .ok (.iadd, 1) := by decide +kernel
theorem dX0_layerYear_24 : decode cX0_layerYear 24 = .ok (.laload, 1) := by decide +kernel
theorem dX0_layerYear_25 : decode cX0_layerYear 25 = .ok (.lconst 0, 1) := by decide +kernel
theorem dX0_layerYear_26 : decode cX0_layerYear 26 = .ok (.lcmp, 1) := by decide +kernel
theorem dX0_layerYear_27 : decode cX0_layerYear 27 = .ok (.ifCond .le 14, 3) := by decide +kernel
theorem dX0_layerYear_30 : decode cX0_layerYear 30 = .ok (.iload_n 3, 1) := by decide +kernel
theorem dX0_layerYear_31 : decode cX0_layerYear 31 = .ok (.iload_n 2, 1) := by decide +kernel
theorem dX0_layerYear_32 : decode cX0_layerYear 32 = .ok (.if_icmp .ne 6, 3) := by decide +kernel
theorem dX0_layerYear_35 : decode cX0_layerYear 35 = .ok (.iload 4, 2) := by decide +kernel
theorem dX0_layerYear_37 : decode cX0_layerYear 37 = .ok (.ireturn, 1) := by decide +kernel
theorem dX0_layerYear_38 : decode cX0_layerYear 38 = .ok (.iinc 3 1, 3) := by decide +kernel
theorem dX0_layerYear_41 : decode cX0_layerYear 41 = .ok (.iinc 4 (-1), 3) := by decide +kernel
theorem dX0_layerYear_44 : decode cX0_layerYear 44 = .ok (.goto (-36), 3) := by decide +kernel
theorem dX0_layerYear_47 : decode cX0_layerYear 47 = .ok (.bipush (-9), 2) := by decide +kernel
theorem dX0_layerYear_49 : decode cX0_layerYear 49 = .ok (.ireturn, 1) := by decide +kernel
theorem dX0_oldestYear_0 : decode cX0_oldestYear 0 = .ok (.iconst 0, 1) := by decide +kernel
theorem dX0_oldestYear_1 : decode cX0_oldestYear 1 = .ok (.istore_n 1, 1) := by decide +kernel
theorem dX0_oldestYear_2 : decode cX0_oldestYear 2 = .ok (.iload_n 1, 1) := by decide +kernel
theorem dX0_oldestYear_3 : decode cX0_oldestYear 3 = .ok (.aload_n 0, 1) := by decide +kernel
theorem dX0_oldestYear_4 : decode cX0_oldestYear 4 = .ok (.getfield 21, 3) := by decide +kernel
theorem dX0_oldestYear_7 : decode cX0_oldestYear 7 = .ok (.if_icmp .gt 24, 3) := by decide +kernel
theorem dX0_oldestYear_10 : decode cX0_oldestYear 10 = .ok (.aload_n 0, 1) := by decide +kernel
theorem dX0_oldestYear_11 : decode cX0_oldestYear 11 = .ok (.getfield 18, 3) := by decide +kernel
theorem dX0_oldestYear_14 : decode cX0_oldestYear 14 = .ok (.iconst 0, 1) := by decide +kernel
theorem dX0_oldestYear_15 : decode cX0_oldestYear 15 = .ok (.iload_n 1, 1) := by decide +kernel
theorem dX0_oldestYear_16 : decode cX0_oldestYear 16 = .ok (.iadd, 1) := by decide +kernel
theorem dX0_oldestYear_17 : decode cX0_oldestYear 17 = .ok (.laload, 1) := by decide +kernel
theorem dX0_oldestYear_18 : decode cX0_oldestYear 18 = .ok (.lconst 0, 1) := by decide +kernel
theorem dX0_oldestYear_19 : decode cX0_oldestYear 19 = .ok (.lcmp, 1) := by decide +kernel
theorem dX0_oldestYear_20 : decode cX0_oldestYear 20 = .ok (.ifCond .le 5, 3) := by decide +kernel
theorem dX0_oldestYear_23 : decode cX0_oldestYear 23 = .ok (.iload_n 1, 1) := by decide +kernel
theorem dX0_oldestYear_24 : decode cX0_oldestYear 24 = .ok (.ireturn, 1) := by decide +kernel
theorem dX0_oldestYear_25 : decode cX0_oldestYear 25 = .ok (.iinc 1 1, 3) := by decide +kernel
theorem dX0_oldestYear_28 : decode cX0_oldestYear 28 = .ok (.goto (-26), 3) := by decide +kernel
theorem dX0_oldestYear_31 : decode cX0_oldestYear 31 = .ok (.bipush (-9), 2) := by decide +kernel
theorem dX0_oldestYear_33 : decode cX0_oldestYear 33 = .ok (.ireturn, 1) := by decide +kernel
theorem dX0_tallyOfAll_0 : decode cX0_tallyOfAll 0 = .ok (.lconst 0, 1) := by decide +kernel
theorem dX0_tallyOfAll_1 : decode cX0_tallyOfAll 1 = .ok (.lstore_n 2, 1) := by decide +kernel
theorem dX0_tallyOfAll_2 : decode cX0_tallyOfAll 2 = .ok (.iconst 0, 1) := by decide +kernel
theorem dX0_tallyOfAll_3 : decode cX0_tallyOfAll 3 = .ok (.istore 4, 2) := by decide +kernel
theorem dX0_tallyOfAll_5 : decode cX0_tallyOfAll 5 = .ok (.iload 4, 2) := by decide +kernel
theorem dX0_tallyOfAll_7 : decode cX0_tallyOfAll 7 = .ok (.aload_n 0, 1) := by decide +kernel
theorem dX0_tallyOfAll_8 : decode cX0_tallyOfAll 8 = .ok (.getfield 21, 3) := by decide +kernel
theorem dX0_tallyOfAll_11 : decode cX0_tallyOfAll 11 = .ok (.if_icmp .gt 24, 3) := by decide +kernel
theorem dX0_tallyOfAll_14 : decode cX0_tallyOfAll 14 = .ok (.lload_n 2, 1) := by decide +kernel
theorem dX0_tallyOfAll_15 : decode cX0_tallyOfAll 15 = .ok (.aload_n 0, 1) := by decide +kernel
theorem dX0_tallyOfAll_16 : decode cX0_tallyOfAll 16 = .ok (.getfield 18, 3) := by decide +kernel
theorem dX0_tallyOfAll_19 : decode cX0_tallyOfAll 19 = .ok (.iload_n 1, 1) := by decide +kernel
theorem dX0_tallyOfAll_20 : decode cX0_tallyOfAll 20 = .ok (.bipush 61, 2) := by decide +kernel
theorem dX0_tallyOfAll_22 : decode cX0_tallyOfAll 22 = .ok (.imul, 1) := by decide +kernel
theorem dX0_tallyOfAll_23 : decode cX0_tallyOfAll 23 = .ok (.iload 4, 2) := by decide +kernel
theorem dX0_tallyOfAll_25 : decode cX0_tallyOfAll 25 = .ok (.iadd, 1) := by decide +kernel
theorem dX0_tallyOfAll_26 : decode cX0_tallyOfAll 26 = .ok (.laload, 1) := by decide +kernel
theorem dX0_tallyOfAll_27 : decode cX0_tallyOfAll 27 = .ok (.ladd, 1) := by decide +kernel
theorem dX0_tallyOfAll_28 : decode cX0_tallyOfAll 28 = .ok (.lstore_n 2, 1) := by decide +kernel
theorem dX0_tallyOfAll_29 : decode cX0_tallyOfAll 29 = .ok (.iinc 4 1, 3) := by decide +kernel
theorem dX0_tallyOfAll_32 : decode cX0_tallyOfAll 32 = .ok (.goto (-27), 3) := by decide +kernel
theorem dX0_tallyOfAll_35 : decode cX0_tallyOfAll 35 = .ok (.lload_n 2, 1) := by decide +kernel
theorem dX0_tallyOfAll_36 : decode cX0_tallyOfAll 36 = .ok (.lreturn, 1) := by decide +kernel
theorem dX1_init_0 : decode cX1_init 0 = .ok (.aload_n 0, 1) := by decide +kernel
theorem dX1_init_1 : decode cX1_init 1 = .ok (.invokespecial 3, 3) := by decide +kernel
theorem dX1_init_4 : decode cX1_init 4 = .ok (.aload_n 0, 1) := by decide +kernel
theorem dX1_init_5 : decode cX1_init 5 = .ok (.bipush 64, 2) := by decide +kernel
theorem dX1_init_7 : decode cX1_init 7 = .ok (.newarray .int, 2) := by decide +kernel
theorem dX1_init_9 : decode cX1_init 9 = .ok (.putfield 9, 3) := by decide +kernel
theorem dX1_init_12 : decode cX1_init 12 = .ok (.aload_n 0, 1) := by decide +kernel
theorem dX1_init_13 : decode cX1_init 13 = .ok (.bipush 64, 2) := by decide +kernel
theorem dX1_init_15 : decode cX1_init 15 = .ok (.newarray .int, 2) := by decide +kernel
theorem dX1_init_17 : decode cX1_init 17 = .ok (.putfield 15, 3) := by decide +kernel
theorem dX1_init_20 : decode cX1_init 20 = .ok (.aload_n 0, 1) := by decide +kernel
theorem dX1_init_21 : decode cX1_init 21 = .ok (.bipush 64, 2) := by decide +kernel
theorem dX1_init_23 : decode cX1_init 23 = .ok (.newarray .int, 2) := by decide +kernel
theorem dX1_init_25 : decode cX1_init 25 = .ok (.putfield 18, 3) := by decide +kernel
theorem dX1_init_28 : decode cX1_init 28 = .ok (.aload_n 0, 1) := by decide +kernel
theorem dX1_init_29 : decode cX1_init 29 = .ok (.bipush 64, 2) := by decide +kernel
theorem dX1_init_31 : decode cX1_init 31 = .ok (.newarray .int, 2) := by decide +kernel
theorem dX1_init_33 : decode cX1_init 33 = .ok (.putfield 21, 3) := by decide +kernel
theorem dX1_init_36 : decode cX1_init 36 = .ok (.return_, 1) := by decide +kernel
theorem dX1_lies_0 : decode cX1_lies 0 = .ok (.aload_n 0, 1) := by decide +kernel
theorem dX1_lies_1 : decode cX1_lies 1 = .ok (.getfield 24, 3) := by decide +kernel
theorem dX1_lies_4 : decode cX1_lies 4 = .ok (.ifCond .le 7, 3) := by decide +kernel
theorem dX1_lies_7 : decode cX1_lies 7 = .ok (.iconst 1, 1) := by decide +kernel
theorem dX1_lies_8 : decode cX1_lies 8 = .ok (.goto 4, 3) := by decide +kernel
theorem dX1_lies_11 : decode cX1_lies 11 = .ok (.iconst 0, 1) := by decide +kernel
theorem dX1_lies_12 : decode cX1_lies 12 = .ok (.ireturn, 1) := by decide +kernel
theorem dX1_placeAt_0 : decode cX1_placeAt 0 = .ok (.iload_n 1, 1) := by decide +kernel
theorem dX1_placeAt_1 : decode cX1_placeAt 1 = .ok (.ifCond .lt 32, 3) := by decide +kernel
theorem dX1_placeAt_4 : decode cX1_placeAt 4 = .ok (.iload_n 1, 1) := by decide +kernel
theorem dX1_placeAt_5 : decode cX1_placeAt 5 = .ok (.aload_n 0, 1) := by decide +kernel
theorem dX1_placeAt_6 : decode cX1_placeAt 6 = .ok (.getfield 24, 3) := by decide +kernel
theorem dX1_placeAt_9 : decode cX1_placeAt 9 = .ok (.if_icmp .ge 24, 3) := by decide +kernel
theorem dX1_placeAt_12 : decode cX1_placeAt 12 = .ok (.iload_n 2, 1) := by decide +kernel
theorem dX1_placeAt_13 : decode cX1_placeAt 13 = .ok (.ifCond .lt 20, 3) := by decide +kernel
theorem dX1_placeAt_16 : decode cX1_placeAt 16 = .ok (.iload_n 2, 1) := by decide +kernel
theorem dX1_placeAt_17 : decode cX1_placeAt 17 = .ok (.aload_n 0, 1) := by decide +kernel
theorem dX1_placeAt_18 : decode cX1_placeAt 18 = .ok (.getfield 28, 3) := by decide +kernel
theorem dX1_placeAt_21 : decode cX1_placeAt 21 = .ok (.if_icmp .ge 12, 3) := by decide +kernel
theorem dX1_placeAt_24 : decode cX1_placeAt 24 = .ok (.iload_n 2, 1) := by decide +kernel
theorem dX1_placeAt_25 : decode cX1_placeAt 25 = .ok (.bipush 8, 2) := by decide +kernel
theorem dX1_placeAt_27 : decode cX1_placeAt 27 = .ok (.imul, 1) := by decide +kernel
theorem dX1_placeAt_28 : decode cX1_placeAt 28 = .ok (.iload_n 1, 1) := by decide +kernel
theorem dX1_placeAt_29 : decode cX1_placeAt 29 = .ok (.iadd, 1) := by decide +kernel
theorem dX1_placeAt_30 : decode cX1_placeAt 30 = .ok (.goto 4, 3) := by decide +kernel
theorem dX1_placeAt_33 : decode cX1_placeAt 33 = .ok (.iconst (-1), 1) := by decide +kernel
theorem dX1_placeAt_34 : decode cX1_placeAt 34 = .ok (.ireturn, 1) := by decide +kernel
theorem dX1_neighbour_0 : decode cX1_neighbour 0 = .ok (.iload_n 1, 1) := by decide +kernel
theorem dX1_neighbour_1 : decode cX1_neighbour 1 = .ok (.bipush 8, 2) := by decide +kernel
theorem dX1_neighbour_3 : decode cX1_neighbour 3 = .ok (.irem, 1) := by decide +kernel
theorem dX1_neighbour_4 : decode cX1_neighbour 4 = .ok (.istore_n 3, 1) := by decide +kernel
theorem dX1_neighbour_5 : decode cX1_neighbour 5 = .ok (.iload_n 1, 1) := by decide +kernel
theorem dX1_neighbour_6 : decode cX1_neighbour 6 = .ok (.bipush 8, 2) := by decide +kernel
theorem dX1_neighbour_8 : decode cX1_neighbour 8 = .ok (.idiv, 1) := by decide +kernel
theorem dX1_neighbour_9 : decode cX1_neighbour 9 = .ok (.istore 4, 2) := by decide +kernel
theorem dX1_neighbour_11 : decode cX1_neighbour 11 = .ok (.iload_n 2, 1) := by decide +kernel
theorem dX1_neighbour_12 : decode cX1_neighbour 12 = .ok (.tableswitch 58 0 2 #[28, 38, 48], 28) := by decide +kernel
theorem dX1_neighbour_40 : decode cX1_neighbour 40 = .ok (.aload_n 0, 1) := by decide +kernel
theorem dX1_neighbour_41 : decode cX1_neighbour 41 = .ok (.iload_n 3, 1) := by decide +kernel
theorem dX1_neighbour_42 : decode cX1_neighbour 42 = .ok (.iload 4, 2) := by decide +kernel
theorem dX1_neighbour_44 : decode cX1_neighbour 44 = .ok (.iconst 1, 1) := by decide +kernel
theorem dX1_neighbour_45 : decode cX1_neighbour 45 = .ok (.isub, 1) := by decide +kernel
theorem dX1_neighbour_46 : decode cX1_neighbour 46 = .ok (.invokevirtual 31, 3) := by decide +kernel
theorem dX1_neighbour_49 : decode cX1_neighbour 49 = .ok (.ireturn, 1) := by decide +kernel
theorem dX1_neighbour_50 : decode cX1_neighbour 50 = .ok (.aload_n 0, 1) := by decide +kernel
theorem dX1_neighbour_51 : decode cX1_neighbour 51 = .ok (.iload_n 3, 1) := by decide +kernel
theorem dX1_neighbour_52 : decode cX1_neighbour 52 = .ok (.iconst 1, 1) := by decide +kernel
theorem dX1_neighbour_53 : decode cX1_neighbour 53 = .ok (.iadd, 1) := by decide +kernel
theorem dX1_neighbour_54 : decode cX1_neighbour 54 = .ok (.iload 4, 2) := by decide +kernel
theorem dX1_neighbour_56 : decode cX1_neighbour 56 = .ok (.invokevirtual 31, 3) := by decide +kernel
theorem dX1_neighbour_59 : decode cX1_neighbour 59 = .ok (.ireturn, 1) := by decide +kernel
theorem dX1_neighbour_60 : decode cX1_neighbour 60 = .ok (.aload_n 0, 1) := by decide +kernel
theorem dX1_neighbour_61 : decode cX1_neighbour 61 = .ok (.iload_n 3, 1) := by decide +kernel
theorem dX1_neighbour_62 : decode cX1_neighbour 62 = .ok (.iload 4, 2) := by decide +kernel
theorem dX1_neighbour_64 : decode cX1_neighbour 64 = .ok (.iconst 1, 1) := by decide +kernel
theorem dX1_neighbour_65 : decode cX1_neighbour 65 = .ok (.iadd, 1) := by decide +kernel
theorem dX1_neighbour_66 : decode cX1_neighbour 66 = .ok (.invokevirtual 31, 3) := by decide +kernel
theorem dX1_neighbour_69 : decode cX1_neighbour 69 = .ok (.ireturn, 1) := by decide +kernel
theorem dX1_neighbour_70 : decode cX1_neighbour 70 = .ok (.aload_n 0, 1) := by decide +kernel
theorem dX1_neighbour_71 : decode cX1_neighbour 71 = .ok (.iload_n 3, 1) := by decide +kernel
theorem dX1_neighbour_72 : decode cX1_neighbour 72 = .ok (.iconst 1, 1) := by decide +kernel
theorem dX1_neighbour_73 : decode cX1_neighbour 73 = .ok (.isub, 1) := by decide +kernel
theorem dX1_neighbour_74 : decode cX1_neighbour 74 = .ok (.iload 4, 2) := by decide +kernel
theorem dX1_neighbour_76 : decode cX1_neighbour 76 = .ok (.invokevirtual 31, 3) := by decide +kernel
theorem dX1_neighbour_79 : decode cX1_neighbour 79 = .ok (.ireturn, 1) := by decide +kernel
theorem dX1_cliffs_0 : decode cX1_cliffs 0 = .ok (.aload_n 0, 1) := by decide +kernel
theorem dX1_cliffs_1 : decode cX1_cliffs 1 = .ok (.getfield 24, 3) := by decide +kernel
theorem dX1_cliffs_4 : decode cX1_cliffs 4 = .ok (.aload_n 0, 1) := by decide +kernel
theorem dX1_cliffs_5 : decode cX1_cliffs 5 = .ok (.getfield 28, 3) := by decide +kernel
theorem dX1_cliffs_8 : decode cX1_cliffs 8 = .ok (.imul, 1) := by decide +kernel
theorem dX1_cliffs_9 : decode cX1_cliffs 9 = .ok (.aload_n 0, 1) := by decide +kernel
theorem dX1_cliffs_10 : decode cX1_cliffs 10 = .ok (.getfield 35, 3) := by decide +kernel
theorem dX1_cliffs_13 : decode cX1_cliffs 13 = .ok (.isub, 1) := by decide +kernel
theorem dX1_cliffs_14 : decode cX1_cliffs 14 = .ok (.ireturn, 1) := by decide +kernel
theorem dX1_band_0 : decode cX1_band 0 = .ok (.aload_n 0, 1) := by decide +kernel
theorem dX1_band_1 : decode cX1_band 1 = .ok (.getfield 9, 3) := by decide +kernel
theorem dX1_band_4 : decode cX1_band 4 = .ok (.iload_n 1, 1) := by decide +kernel
theorem dX1_band_5 : decode cX1_band 5 = .ok (.iaload, 1) := by decide +kernel
theorem dX1_band_6 : decode cX1_band 6 = .ok (.sipush 1000, 3) := by decide +kernel
theorem dX1_band_9 : decode cX1_band 9 = .ok (.idiv, 1) := by decide +kernel
theorem dX1_band_10 : decode cX1_band 10 = .ok (.ireturn, 1) := by decide +kernel
theorem dX1_meltLeft_0 : decode cX1_meltLeft 0 = .ok (.aload_n 0, 1) := by decide +kernel
theorem dX1_meltLeft_1 : decode cX1_meltLeft 1 = .ok (.getfield 15, 3) := by decide +kernel
theorem dX1_meltLeft_4 : decode cX1_meltLeft 4 = .ok (.iload_n 1, 1) := by decide +kernel
theorem dX1_meltLeft_5 : decode cX1_meltLeft 5 = .ok (.iaload, 1) := by decide +kernel
theorem dX1_meltLeft_6 : decode cX1_meltLeft 6 = .ok (.iconst 2, 1) := by decide +kernel
theorem dX1_meltLeft_7 : decode cX1_meltLeft 7 = .ok (.if_icmp .eq 13, 3) := by decide +kernel
theorem dX1_meltLeft_10 : decode cX1_meltLeft 10 = .ok (.aload_n 0, 1) := by decide +kernel
theorem dX1_meltLeft_11 : decode cX1_meltLeft 11 = .ok (.getfield 15, 3) := by decide +kernel
theorem dX1_meltLeft_14 : decode cX1_meltLeft 14 = .ok (.iload_n 1, 1) := by decide +kernel
theorem dX1_meltLeft_15 : decode cX1_meltLeft 15 = .ok (.iaload, 1) := by decide +kernel
theorem dX1_meltLeft_16 : decode cX1_meltLeft 16 = .ok (.iconst 3, 1) := by decide +kernel
theorem dX1_meltLeft_17 : decode cX1_meltLeft 17 = .ok (.if_icmp .ne 7, 3) := by decide +kernel
theorem dX1_meltLeft_20 : decode cX1_meltLeft 20 = .ok (.iconst 1, 1) := by decide +kernel
theorem dX1_meltLeft_21 : decode cX1_meltLeft 21 = .ok (.goto 4, 3) := by decide +kernel
theorem dX1_meltLeft_24 : decode cX1_meltLeft 24 = .ok (.iconst 0, 1) := by decide +kernel
theorem dX1_meltLeft_25 : decode cX1_meltLeft 25 = .ok (.istore 4, 2) := by decide +kernel
theorem dX1_meltLeft_27 : decode cX1_meltLeft 27 = .ok (.iload 4, 2) := by decide +kernel
theorem dX1_meltLeft_29 : decode cX1_meltLeft 29 = .ok (.ifCond .eq 21, 3) := by decide +kernel
theorem dX1_meltLeft_32 : decode cX1_meltLeft 32 = .ok (.lload_n 2, 1) := by decide +kernel
theorem dX1_meltLeft_33 : decode cX1_meltLeft 33 = .ok (.lload_n 2, 1) := by decide +kernel
theorem dX1_meltLeft_34 : decode cX1_meltLeft 34 = .ok (.aload_n 0, 1) := by decide +kernel
theorem dX1_meltLeft_35 : decode cX1_meltLeft 35 = .ok (.getfield 18, 3) := by decide +kernel
theorem dX1_meltLeft_38 : decode cX1_meltLeft 38 = .ok (.iload_n 1, 1) := by decide +kernel
theorem dX1_meltLeft_39 : decode cX1_meltLeft 39 = .ok (.iaload, 1) := by decide +kernel
theorem dX1_meltLeft_40 : decode cX1_meltLeft 40 = .ok (.i2l, 1) := by decide +kernel
theorem dX1_meltLeft_41 : decode cX1_meltLeft 41 = .ok (.lmul, 1) := by decide +kernel
theorem dX1_meltLeft_42 : decode cX1_meltLeft 42 = .ok (.ldc2_w 38, 3) := by decide +kernel
theorem dX1_meltLeft_45 : decode cX1_meltLeft 45 = .ok (.ldiv, 1) := by decide +kernel
theorem dX1_meltLeft_46 : decode cX1_meltLeft 46 = .ok (.lsub, 1) := by decide +kernel
theorem dX1_meltLeft_47 : decode cX1_meltLeft 47 = .ok (.goto 4, 3) := by decide +kernel
theorem dX1_meltLeft_50 : decode cX1_meltLeft 50 = .ok (.lload_n 2, 1) := by decide +kernel
theorem dX1_meltLeft_51 : decode cX1_meltLeft 51 = .ok (.lreturn, 1) := by decide +kernel
theorem dX1_begin_0 : decode cX1_begin 0 = .ok (.aload_n 0, 1) := by decide +kernel
theorem dX1_begin_1 : decode cX1_begin 1 = .ok (.iload_n 1, 1) := by decide +kernel
theorem dX1_begin_2 : decode cX1_begin 2 = .ok (.putfield 24, 3) := by decide +kernel
theorem dX1_begin_5 : decode cX1_begin 5 = .ok (.aload_n 0, 1) := by decide +kernel
theorem dX1_begin_6 : decode cX1_begin 6 = .ok (.iload_n 2, 1) := by decide +kernel
theorem dX1_begin_7 : decode cX1_begin 7 = .ok (.putfield 28, 3) := by decide +kernel
theorem dX1_begin_10 : decode cX1_begin 10 = .ok (.aload_n 0, 1) := by decide +kernel
theorem dX1_begin_11 : decode cX1_begin 11 = .ok (.iconst 0, 1) := by decide +kernel
theorem dX1_begin_12 : decode cX1_begin 12 = .ok (.putfield 35, 3) := by decide +kernel
theorem dX1_begin_15 : decode cX1_begin 15 = .ok (.return_, 1) := by decide +kernel
theorem dX1_settle_0 : decode cX1_settle 0 = .ok (.aload_n 0, 1) := by decide +kernel
theorem dX1_settle_1 : decode cX1_settle 1 = .ok (.iload_n 1, 1) := by decide +kernel
theorem dX1_settle_2 : decode cX1_settle 2 = .ok (.iload_n 2, 1) := by decide +kernel
theorem dX1_settle_3 : decode cX1_settle 3 = .ok (.invokevirtual 31, 3) := by decide +kernel
theorem dX1_settle_6 : decode cX1_settle 6 = .ok (.istore 5, 2) := by decide +kernel
theorem dX1_settle_8 : decode cX1_settle 8 = .ok (.iload 5, 2) := by decide +kernel
theorem dX1_settle_10 : decode cX1_settle 10 = .ok (.iconst (-1), 1) := by decide +kernel
theorem dX1_settle_11 : decode cX1_settle 11 = .ok (.if_icmp .ne 4, 3) := by decide +kernel
theorem dX1_settle_14 : decode cX1_settle 14 = .ok (.return_, 1) := by decide +kernel
theorem dX1_settle_15 : decode cX1_settle 15 = .ok (.lload_n 3, 1) := by decide +kernel
theorem dX1_settle_16 : decode cX1_settle 16 = .ok (.lconst 0, 1) := by decide +kernel
theorem dX1_settle_17 : decode cX1_settle 17 = .ok (.lcmp, 1) := by decide +kernel
theorem dX1_settle_18 : decode cX1_settle 18 = .ok (.ifCond .lt 15, 3) := by decide +kernel
theorem dX1_settle_21 : decode cX1_settle 21 = .ok (.lload_n 3, 1) := by decide +kernel
theorem dX1_settle_22 : decode cX1_settle 22 = .ok (.ldc2_w 40, 3) := by decide +kernel
theorem dX1_settle_25 : decode cX1_settle 25 = .ok (.lcmp, 1) := by decide +kernel
theorem dX1_settle_26 : decode cX1_settle 26 = .ok (.ifCond .gt 7, 3) := by decide +kernel
theorem dX1_settle_29 : decode cX1_settle 29 = .ok (.iconst 1, 1) := by decide +kernel
theorem dX1_settle_30 : decode cX1_settle 30 = .ok (.goto 4, 3) := by decide +kernel
theorem dX1_settle_33 : decode cX1_settle 33 = .ok (.iconst 0, 1) := by decide +kernel
theorem dX1_settle_34 : decode cX1_settle 34 = .ok (.istore 6, 2) := by decide +kernel
theorem dX1_settle_36 : decode cX1_settle 36 = .ok (.aload_n 0, 1) := by decide +kernel
theorem dX1_settle_37 : decode cX1_settle 37 = .ok (.getfield 9, 3) := by decide +kernel
theorem dX1_settle_40 : decode cX1_settle 40 = .ok (.iload 5, 2) := by decide +kernel
theorem dX1_settle_42 : decode cX1_settle 42 = .ok (.iload 6, 2) := by decide +kernel
theorem dX1_settle_44 : decode cX1_settle 44 = .ok (.ifCond .eq 8, 3) := by decide +kernel
theorem dX1_settle_47 : decode cX1_settle 47 = .ok (.lload_n 3, 1) := by decide +kernel
theorem dX1_settle_48 : decode cX1_settle 48 = .ok (.l2i, 1) := by decide +kernel
theorem dX1_settle_49 : decode cX1_settle 49 = .ok (.goto 4, 3) := by decide +kernel
theorem dX1_settle_52 : decode cX1_settle 52 = .ok (.iconst 0, 1) := by decide +kernel
theorem dX1_settle_53 : decode cX1_settle 53 = .ok (.iastore, 1) := by decide +kernel
theorem dX1_settle_54 : decode cX1_settle 54 = .ok (.aload_n 0, 1) := by decide +kernel
theorem dX1_settle_55 : decode cX1_settle 55 = .ok (.getfield 15, 3) := by decide +kernel
theorem dX1_settle_58 : decode cX1_settle 58 = .ok (.iload 5, 2) := by decide +kernel
theorem dX1_settle_60 : decode cX1_settle 60 = .ok (.iload 6, 2) := by decide +kernel
theorem dX1_settle_62 : decode cX1_settle 62 = .ok (.ifCond .eq 7, 3) := by decide +kernel
theorem dX1_settle_65 : decode cX1_settle 65 = .ok (.iconst 0, 1) := by decide +kernel
theorem dX1_settle_66 : decode cX1_settle 66 = .ok (.goto 4, 3) := by decide +kernel
theorem dX1_settle_69 : decode cX1_settle 69 = .ok (.iconst 4, 1) := by decide +kernel
theorem dX1_settle_70 : decode cX1_settle 70 = .ok (.iastore, 1) := by decide +kernel
theorem dX1_settle_71 : decode cX1_settle 71 = .ok (.aload_n 0, 1) := by decide +kernel
theorem dX1_settle_72 : decode cX1_settle 72 = .ok (.getfield 18, 3) := by decide +kernel
theorem dX1_settle_75 : decode cX1_settle 75 = .ok (.iload 5, 2) := by decide +kernel
theorem dX1_settle_77 : decode cX1_settle 77 = .ok (.iconst 0, 1) := by decide +kernel
theorem dX1_settle_78 : decode cX1_settle 78 = .ok (.iastore, 1) := by decide +kernel
theorem dX1_settle_79 : decode cX1_settle 79 = .ok (.aload_n 0, 1) := by decide +kernel
theorem dX1_settle_80 : decode cX1_settle 80 = .ok (.iload 5, 2) := by decide +kernel
theorem dX1_settle_82 : decode cX1_settle 82 = .ok (.invokevirtual 42, 3) := by decide +kernel
theorem dX1_settle_85 : decode cX1_settle 85 = .ok (.return_, 1) := by decide +kernel
theorem dX1_settleAs_0 : decode cX1_settleAs 0 = .ok (.aload_n 0, 1) := by decide +kernel
theorem dX1_settleAs_1 : decode cX1_settleAs 1 = .ok (.getfield 9, 3) := by decide +kernel
theorem dX1_settleAs_4 : decode cX1_settleAs 4 = .ok (.iload_n 1, 1) := by decide +kernel
theorem dX1_settleAs_5 : decode cX1_settleAs 5 = .ok (.aload_n 2, 1) := by decide +kernel
theorem dX1_settleAs_6 : decode cX1_settleAs 6 = .ok (.getfield 9, 3) := by decide +kernel
theorem dX1_settleAs_9 : decode cX1_settleAs 9 = .ok (.iload_n 3, 1) := by decide +kernel
theorem dX1_settleAs_10 : decode cX1_settleAs 10 = .ok (.iaload, 1) := by decide +kernel
theorem dX1_settleAs_11 : decode cX1_settleAs 11 = .ok (.iastore, 1) := by decide +kernel
theorem dX1_settleAs_12 : decode cX1_settleAs 12 = .ok (.aload_n 0, 1) := by decide +kernel
theorem dX1_settleAs_13 : decode cX1_settleAs 13 = .ok (.getfield 15, 3) := by decide +kernel
theorem dX1_settleAs_16 : decode cX1_settleAs 16 = .ok (.iload_n 1, 1) := by decide +kernel
theorem dX1_settleAs_17 : decode cX1_settleAs 17 = .ok (.aload_n 2, 1) := by decide +kernel
theorem dX1_settleAs_18 : decode cX1_settleAs 18 = .ok (.getfield 15, 3) := by decide +kernel
theorem dX1_settleAs_21 : decode cX1_settleAs 21 = .ok (.iload_n 3, 1) := by decide +kernel
theorem dX1_settleAs_22 : decode cX1_settleAs 22 = .ok (.iaload, 1) := by decide +kernel
theorem dX1_settleAs_23 : decode cX1_settleAs 23 = .ok (.iastore, 1) := by decide +kernel
theorem dX1_settleAs_24 : decode cX1_settleAs 24 = .ok (.aload_n 0, 1) := by decide +kernel
theorem dX1_settleAs_25 : decode cX1_settleAs 25 = .ok (.getfield 18, 3) := by decide +kernel
theorem dX1_settleAs_28 : decode cX1_settleAs 28 = .ok (.iload_n 1, 1) := by decide +kernel
theorem dX1_settleAs_29 : decode cX1_settleAs 29 = .ok (.aload_n 2, 1) := by decide +kernel
theorem dX1_settleAs_30 : decode cX1_settleAs 30 = .ok (.getfield 18, 3) := by decide +kernel
theorem dX1_settleAs_33 : decode cX1_settleAs 33 = .ok (.iload_n 3, 1) := by decide +kernel
theorem dX1_settleAs_34 : decode cX1_settleAs 34 = .ok (.iaload, 1) := by decide +kernel
theorem dX1_settleAs_35 : decode cX1_settleAs 35 = .ok (.iastore, 1) := by decide +kernel
theorem dX1_settleAs_36 : decode cX1_settleAs 36 = .ok (.aload_n 0, 1) := by decide +kernel
theorem dX1_settleAs_37 : decode cX1_settleAs 37 = .ok (.iload_n 1, 1) := by decide +kernel
theorem dX1_settleAs_38 : decode cX1_settleAs 38 = .ok (.invokevirtual 42, 3) := by decide +kernel
theorem dX1_settleAs_41 : decode cX1_settleAs 41 = .ok (.return_, 1) := by decide +kernel
theorem dX1_listIfOpen_0 : decode cX1_listIfOpen 0 = .ok (.aload_n 0, 1) := by decide +kernel
theorem dX1_listIfOpen_1 : decode cX1_listIfOpen 1 = .ok (.getfield 15, 3) := by decide +kernel
theorem dX1_listIfOpen_4 : decode cX1_listIfOpen 4 = .ok (.iload_n 1, 1) := by decide +kernel
theorem dX1_listIfOpen_5 : decode cX1_listIfOpen 5 = .ok (.iaload, 1) := by decide +kernel
theorem dX1_listIfOpen_6 : decode cX1_listIfOpen 6 = .ok (.iconst 4, 1) := by decide +kernel
theorem dX1_listIfOpen_7 : decode cX1_listIfOpen 7 = .ok (.if_icmp .eq 32, 3) := by decide +kernel
theorem dX1_listIfOpen_10 : decode cX1_listIfOpen 10 = .ok (.aload_n 0, 1) := by decide +kernel
theorem dX1_listIfOpen_11 : decode cX1_listIfOpen 11 = .ok (.getfield 35, 3) := by decide +kernel
theorem dX1_listIfOpen_14 : decode cX1_listIfOpen 14 = .ok (.bipush 64, 2) := by decide +kernel
theorem dX1_listIfOpen_16 : decode cX1_listIfOpen 16 = .ok (.if_icmp .ge 23, 3) := by decide +kernel
theorem dX1_listIfOpen_19 : decode cX1_listIfOpen 19 = .ok (.aload_n 0, 1) := by decide +kernel
theorem dX1_listIfOpen_20 : decode cX1_listIfOpen 20 = .ok (.getfield 21, 3) := by decide +kernel
theorem dX1_listIfOpen_23 : decode cX1_listIfOpen 23 = .ok (.aload_n 0, 1) := by decide +kernel
theorem dX1_listIfOpen_24 : decode cX1_listIfOpen 24 = .ok (.getfield 35, 3) := by decide +kernel
theorem dX1_listIfOpen_27 : decode cX1_listIfOpen 27 = .ok (.iload_n 1, 1) := by decide +kernel
theorem dX1_listIfOpen_28 : decode cX1_listIfOpen 28 = .ok (.iastore, 1) := by decide +kernel
theorem dX1_listIfOpen_29 : decode cX1_listIfOpen 29 = .ok (.aload_n 0, 1) := by decide +kernel
theorem dX1_listIfOpen_30 : decode cX1_listIfOpen 30 = .ok (.dup, 1) := by decide +kernel
theorem dX1_listIfOpen_31 : decode cX1_listIfOpen 31 = .ok (.getfield 35, 3) := by decide +kernel
theorem dX1_listIfOpen_34 : decode cX1_listIfOpen 34 = .ok (.iconst 1, 1) := by decide +kernel
theorem dX1_listIfOpen_35 : decode cX1_listIfOpen 35 = .ok (.iadd, 1) := by decide +kernel
theorem dX1_listIfOpen_36 : decode cX1_listIfOpen 36 = .ok (.putfield 35, 3) := by decide +kernel
theorem dX1_listIfOpen_39 : decode cX1_listIfOpen 39 = .ok (.return_, 1) := by decide +kernel
theorem dX1_becomeCellsOf_0 : decode cX1_becomeCellsOf 0 = .ok (.aload_n 0, 1) := by decide +kernel
theorem dX1_becomeCellsOf_1 : decode cX1_becomeCellsOf 1 = .ok (.aload_n 1, 1) := by decide +kernel
theorem dX1_becomeCellsOf_2 : decode cX1_becomeCellsOf 2 = .ok (.getfield 24, 3) := by decide +kernel
theorem dX1_becomeCellsOf_5 : decode cX1_becomeCellsOf 5 = .ok (.putfield 24, 3) := by decide +kernel
theorem dX1_becomeCellsOf_8 : decode cX1_becomeCellsOf 8 = .ok (.aload_n 0, 1) := by decide +kernel
theorem dX1_becomeCellsOf_9 : decode cX1_becomeCellsOf 9 = .ok (.aload_n 1, 1) := by decide +kernel
theorem dX1_becomeCellsOf_10 : decode cX1_becomeCellsOf 10 = .ok (.getfield 28, 3) := by decide +kernel
theorem dX1_becomeCellsOf_13 : decode cX1_becomeCellsOf 13 = .ok (.putfield 28, 3) := by decide +kernel
theorem dX1_becomeCellsOf_16 : decode cX1_becomeCellsOf 16 = .ok (.aload_n 1, 1) := by decide +kernel
theorem dX1_becomeCellsOf_17 : decode cX1_becomeCellsOf 17 = .ok (.getfield 9, 3) := by decide +kernel
theorem dX1_becomeCellsOf_20 : decode cX1_becomeCellsOf 20 = .ok (.iconst 0, 1) := by decide +kernel
theorem dX1_becomeCellsOf_21 : decode cX1_becomeCellsOf 21 = .ok (.aload_n 0, 1) := by decide +kernel
theorem dX1_becomeCellsOf_22 : decode cX1_becomeCellsOf 22 = .ok (.getfield 9, 3) := by decide +kernel
theorem dX1_becomeCellsOf_25 : decode cX1_becomeCellsOf 25 = .ok (.iconst 0, 1) := by decide +kernel
theorem dX1_becomeCellsOf_26 : decode cX1_becomeCellsOf 26 = .ok (.bipush 64, 2) := by decide +kernel
theorem dX1_becomeCellsOf_28 : decode cX1_becomeCellsOf 28 = .ok (.invokestatic 46, 3) := by decide +kernel
theorem dX1_becomeCellsOf_31 : decode cX1_becomeCellsOf 31 = .ok (.aload_n 1, 1) := by decide +kernel
theorem dX1_becomeCellsOf_32 : decode cX1_becomeCellsOf 32 = .ok (.getfield 15, 3) := by decide +kernel
theorem dX1_becomeCellsOf_35 : decode cX1_becomeCellsOf 35 = .ok (.iconst 0, 1) := by decide +kernel
theorem dX1_becomeCellsOf_36 : decode cX1_becomeCellsOf 36 = .ok (.aload_n 0, 1) := by decide +kernel
theorem dX1_becomeCellsOf_37 : decode cX1_becomeCellsOf 37 = .ok (.getfield 15, 3) := by decide +kernel
theorem dX1_becomeCellsOf_40 : decode cX1_becomeCellsOf 40 = .ok (.iconst 0, 1) := by decide +kernel
theorem dX1_becomeCellsOf_41 : decode cX1_becomeCellsOf 41 = .ok (.bipush 64, 2) := by decide +kernel
theorem dX1_becomeCellsOf_43 : decode cX1_becomeCellsOf 43 = .ok (.invokestatic 46, 3) := by decide +kernel
theorem dX1_becomeCellsOf_46 : decode cX1_becomeCellsOf 46 = .ok (.aload_n 1, 1) := by decide +kernel
theorem dX1_becomeCellsOf_47 : decode cX1_becomeCellsOf 47 = .ok (.getfield 18, 3) := by decide +kernel
theorem dX1_becomeCellsOf_50 : decode cX1_becomeCellsOf 50 = .ok (.iconst 0, 1) := by decide +kernel
theorem dX1_becomeCellsOf_51 : decode cX1_becomeCellsOf 51 = .ok (.aload_n 0, 1) := by decide +kernel
theorem dX1_becomeCellsOf_52 : decode cX1_becomeCellsOf 52 = .ok (.getfield 18, 3) := by decide +kernel
theorem dX1_becomeCellsOf_55 : decode cX1_becomeCellsOf 55 = .ok (.iconst 0, 1) := by decide +kernel
theorem dX1_becomeCellsOf_56 : decode cX1_becomeCellsOf 56 = .ok (.bipush 64, 2) := by decide +kernel
theorem dX1_becomeCellsOf_58 : decode cX1_becomeCellsOf 58 = .ok (.invokestatic 46, 3) := by decide +kernel
theorem dX1_becomeCellsOf_61 : decode cX1_becomeCellsOf 61 = .ok (.return_, 1) := by decide +kernel
theorem dX2_init_0 : decode cX2_init 0 = .ok (.aload_n 0, 1) := by decide +kernel
theorem dX2_init_1 : decode cX2_init 1 = .ok (.invokespecial 3, 3) := by decide +kernel
theorem dX2_init_4 : decode cX2_init 4 = .ok (.aload_n 0, 1) := by decide +kernel
theorem dX2_init_5 : decode cX2_init 5 = .ok (.iconst 5, 1) := by decide +kernel
theorem dX2_init_6 : decode cX2_init 6 = .ok (.anewarray 9, 3) := by decide +kernel
theorem dX2_init_9 : decode cX2_init 9 = .ok (.putfield 11, 3) := by decide +kernel
theorem dX2_init_12 : decode cX2_init 12 = .ok (.iconst 0, 1) := by decide +kernel
theorem dX2_init_13 : decode cX2_init 13 = .ok (.istore_n 1, 1) := by decide +kernel
theorem dX2_init_14 : decode cX2_init 14 = .ok (.iload_n 1, 1) := by decide +kernel
theorem dX2_init_15 : decode cX2_init 15 = .ok (.iconst 5, 1) := by decide +kernel
theorem dX2_init_16 : decode cX2_init 16 = .ok (.if_icmp .ge 22, 3) := by decide +kernel
theorem dX2_init_19 : decode cX2_init 19 = .ok (.aload_n 0, 1) := by decide +kernel
theorem dX2_init_20 : decode cX2_init 20 = .ok (.getfield 11, 3) := by decide +kernel
theorem dX2_init_23 : decode cX2_init 23 = .ok (.iload_n 1, 1) := by decide +kernel
theorem dX2_init_24 : decode cX2_init 24 = .ok (.new 9, 3) := by decide +kernel
theorem dX2_init_27 : decode cX2_init 27 = .ok (.dup, 1) := by decide +kernel
theorem dX2_init_28 : decode cX2_init 28 = .ok (.invokespecial 17, 3) := by decide +kernel
theorem dX2_init_31 : decode cX2_init 31 = .ok (.aastore, 1) := by decide +kernel
theorem dX2_init_32 : decode cX2_init 32 = .ok (.iinc 1 1, 3) := by decide +kernel
theorem dX2_init_35 : decode cX2_init 35 = .ok (.goto (-21), 3) := by decide +kernel
theorem dX2_init_38 : decode cX2_init 38 = .ok (.return_, 1) := by decide +kernel
theorem dX2_keep_0 : decode cX2_keep 0 = .ok (.aload_n 0, 1) := by decide +kernel
theorem dX2_keep_1 : decode cX2_keep 1 = .ok (.getfield 11, 3) := by decide +kernel
theorem dX2_keep_4 : decode cX2_keep 4 = .ok (.aload_n 0, 1) := by decide +kernel
theorem dX2_keep_5 : decode cX2_keep 5 = .ok (.getfield 18, 3) := by decide +kernel
theorem dX2_keep_8 : decode cX2_keep 8 = .ok (.aaload, 1) := by decide +kernel
theorem dX2_keep_9 : decode cX2_keep 9 = .ok (.aload_n 1, 1) := by decide +kernel
theorem dX2_keep_10 : decode cX2_keep 10 = .ok (.invokevirtual 22, 3) := by decide +kernel
theorem dX2_keep_13 : decode cX2_keep 13 = .ok (.aload_n 0, 1) := by decide +kernel
theorem dX2_keep_14 : decode cX2_keep 14 = .ok (.aload_n 0, 1) := by decide +kernel
theorem dX2_keep_15 : decode cX2_keep 15 = .ok (.getfield 18, 3) := by decide +kernel
theorem dX2_keep_18 : decode cX2_keep 18 = .ok (.iconst 1, 1) := by decide +kernel
theorem dX2_keep_19 : decode cX2_keep 19 = .ok (.iadd, 1) := by decide +kernel
theorem dX2_keep_20 : decode cX2_keep 20 = .ok (.iconst 5, 1) := by decide +kernel
theorem dX2_keep_21 : decode cX2_keep 21 = .ok (.irem, 1) := by decide +kernel
theorem dX2_keep_22 : decode cX2_keep 22 = .ok (.putfield 18, 3) := by decide +kernel
theorem dX2_keep_25 : decode cX2_keep 25 = .ok (.aload_n 0, 1) := by decide +kernel
theorem dX2_keep_26 : decode cX2_keep 26 = .ok (.getfield 26, 3) := by decide +kernel
theorem dX2_keep_29 : decode cX2_keep 29 = .ok (.iconst 5, 1) := by decide +kernel
theorem dX2_keep_30 : decode cX2_keep 30 = .ok (.if_icmp .ge 13, 3) := by decide +kernel
theorem dX2_keep_33 : decode cX2_keep 33 = .ok (.aload_n 0, 1) := by decide +kernel
theorem dX2_keep_34 : decode cX2_keep 34 = .ok (.dup, 1) := by decide +kernel
theorem dX2_keep_35 : decode cX2_keep 35 = .ok (.getfield 26, 3) := by decide +kernel
theorem dX2_keep_38 : decode cX2_keep 38 = .ok (.iconst 1, 1) := by decide +kernel
theorem dX2_keep_39 : decode cX2_keep 39 = .ok (.iadd, 1) := by decide +kernel
theorem dX2_keep_40 : decode cX2_keep 40 = .ok (.putfield 26, 3) := by decide +kernel
theorem dX2_keep_43 : decode cX2_keep 43 = .ok (.return_, 1) := by decide +kernel
theorem dX2_restore_0 : decode cX2_restore 0 = .ok (.aload_n 0, 1) := by decide +kernel
theorem dX2_restore_1 : decode cX2_restore 1 = .ok (.aload_n 0, 1) := by decide +kernel
theorem dX2_restore_2 : decode cX2_restore 2 = .ok (.getfield 18, 3) := by decide +kernel
theorem dX2_restore_5 : decode cX2_restore 5 = .ok (.iconst 5, 1) := by decide +kernel
theorem dX2_restore_6 : decode cX2_restore 6 = .ok (.iadd, 1) := by decide +kernel
theorem dX2_restore_7 : decode cX2_restore 7 = .ok (.iconst 1, 1) := by decide +kernel
theorem dX2_restore_8 : decode cX2_restore 8 = .ok (.isub, 1) := by decide +kernel
theorem dX2_restore_9 : decode cX2_restore 9 = .ok (.iconst 5, 1) := by decide +kernel
theorem dX2_restore_10 : decode cX2_restore 10 = .ok (.irem, 1) := by decide +kernel
theorem dX2_restore_11 : decode cX2_restore 11 = .ok (.putfield 18, 3) := by decide +kernel
theorem dX2_restore_14 : decode cX2_restore 14 = .ok (.aload_n 1, 1) := by decide +kernel
theorem dX2_restore_15 : decode cX2_restore 15 = .ok (.aload_n 0, 1) := by decide +kernel
theorem dX2_restore_16 : decode cX2_restore 16 = .ok (.getfield 11, 3) := by decide +kernel
theorem dX2_restore_19 : decode cX2_restore 19 = .ok (.aload_n 0, 1) := by decide +kernel
theorem dX2_restore_20 : decode cX2_restore 20 = .ok (.getfield 18, 3) := by decide +kernel
theorem dX2_restore_23 : decode cX2_restore 23 = .ok (.aaload, 1) := by decide +kernel
theorem dX2_restore_24 : decode cX2_restore 24 = .ok (.invokevirtual 22, 3) := by decide +kernel
theorem dX2_restore_27 : decode cX2_restore 27 = .ok (.aload_n 0, 1) := by decide +kernel
theorem dX2_restore_28 : decode cX2_restore 28 = .ok (.dup, 1) := by decide +kernel
theorem dX2_restore_29 : decode cX2_restore 29 = .ok (.getfield 26, 3) := by decide +kernel
theorem dX2_restore_32 : decode cX2_restore 32 = .ok (.iconst 1, 1) := by decide +kernel
theorem dX2_restore_33 : decode cX2_restore 33 = .ok (.isub, 1) := by decide +kernel
theorem dX2_restore_34 : decode cX2_restore 34 = .ok (.putfield 26, 3) := by decide +kernel
theorem dX2_restore_37 : decode cX2_restore 37 = .ok (.return_, 1) := by decide +kernel
theorem dX2_forget_0 : decode cX2_forget 0 = .ok (.aload_n 0, 1) := by decide +kernel
theorem dX2_forget_1 : decode cX2_forget 1 = .ok (.iconst 0, 1) := by decide +kernel
theorem dX2_forget_2 : decode cX2_forget 2 = .ok (.putfield 26, 3) := by decide +kernel
theorem dX2_forget_5 : decode cX2_forget 5 = .ok (.return_, 1) := by decide +kernel
theorem dX3_init_0 : decode cX3_init 0 = .ok (.aload_n 0, 1) := by decide +kernel
theorem dX3_init_1 : decode cX3_init 1 = .ok (.invokespecial 3, 3) := by decide +kernel
theorem dX3_init_4 : decode cX3_init 4 = .ok (.aload_n 0, 1) := by decide +kernel
theorem dX3_init_5 : decode cX3_init 5 = .ok (.bipush 8, 2) := by decide +kernel
theorem dX3_init_7 : decode cX3_init 7 = .ok (.newarray .long, 2) := by decide +kernel
theorem dX3_init_9 : decode cX3_init 9 = .ok (.putfield 9, 3) := by decide +kernel
theorem dX3_init_12 : decode cX3_init 12 = .ok (.aload_n 0, 1) := by decide +kernel
theorem dX3_init_13 : decode cX3_init 13 = .ok (.iconst 1, 1) := by decide +kernel
theorem dX3_init_14 : decode cX3_init 14 = .ok (.putfield 15, 3) := by decide +kernel
theorem dX3_init_17 : decode cX3_init 17 = .ok (.return_, 1) := by decide +kernel
theorem dX3_begin_0 : decode cX3_begin 0 = .ok (.aload_n 0, 1) := by decide +kernel
theorem dX3_begin_1 : decode cX3_begin 1 = .ok (.iconst 0, 1) := by decide +kernel
theorem dX3_begin_2 : decode cX3_begin 2 = .ok (.putfield 15, 3) := by decide +kernel
theorem dX3_begin_5 : decode cX3_begin 5 = .ok (.aload_n 0, 1) := by decide +kernel
theorem dX3_begin_6 : decode cX3_begin 6 = .ok (.iload_n 1, 1) := by decide +kernel
theorem dX3_begin_7 : decode cX3_begin 7 = .ok (.putfield 19, 3) := by decide +kernel
theorem dX3_begin_10 : decode cX3_begin 10 = .ok (.aload_n 0, 1) := by decide +kernel
theorem dX3_begin_11 : decode cX3_begin 11 = .ok (.iload_n 2, 1) := by decide +kernel
theorem dX3_begin_12 : decode cX3_begin 12 = .ok (.putfield 23, 3) := by decide +kernel
theorem dX3_begin_15 : decode cX3_begin 15 = .ok (.aload_n 0, 1) := by decide +kernel
theorem dX3_begin_16 : decode cX3_begin 16 = .ok (.getfield 9, 3) := by decide +kernel
theorem dX3_begin_19 : decode cX3_begin 19 = .ok (.lconst 0, 1) := by decide +kernel
theorem dX3_begin_20 : decode cX3_begin 20 = .ok (.invokestatic 26, 3) := by decide +kernel
theorem dX3_begin_23 : decode cX3_begin 23 = .ok (.return_, 1) := by decide +kernel
theorem dX3_end_0 : decode cX3_end 0 = .ok (.aload_n 0, 1) := by decide +kernel
theorem dX3_end_1 : decode cX3_end 1 = .ok (.iconst 1, 1) := by decide +kernel
theorem dX3_end_2 : decode cX3_end 2 = .ok (.putfield 15, 3) := by decide +kernel
theorem dX3_end_5 : decode cX3_end 5 = .ok (.return_, 1) := by decide +kernel
theorem dX3_has_0 : decode cX3_has 0 = .ok (.iload_n 1, 1) := by decide +kernel
theorem dX3_has_1 : decode cX3_has 1 = .ok (.ifCond .lt 15, 3) := by decide +kernel
theorem dX3_has_4 : decode cX3_has 4 = .ok (.iload_n 1, 1) := by decide +kernel
theorem dX3_has_5 : decode cX3_has 5 = .ok (.aload_n 0, 1) := by decide +kernel
theorem dX3_has_6 : decode cX3_has 6 = .ok (.getfield 23, 3) := by decide +kernel
theorem dX3_has_9 : decode cX3_has 9 = .ok (.if_icmp .ge 7, 3) := by decide +kernel
theorem dX3_has_12 : decode cX3_has 12 = .ok (.iconst 1, 1) := by decide +kernel
theorem dX3_has_13 : decode cX3_has 13 = .ok (.goto 4, 3) := by decide +kernel
theorem dX3_has_16 : decode cX3_has 16 = .ok (.iconst 0, 1) := by decide +kernel
theorem dX3_has_17 : decode cX3_has 17 = .ok (.ireturn, 1) := by decide +kernel
theorem dX3_hasAll_0 : decode cX3_hasAll 0 = .ok (.iload_n 1, 1) := by decide +kernel
theorem dX3_hasAll_1 : decode cX3_hasAll 1 = .ok (.ifCond .lt 17, 3) := by decide +kernel
theorem dX3_hasAll_4 : decode cX3_hasAll 4 = .ok (.iload_n 1, 1) := by decide +kernel
theorem dX3_hasAll_5 : decode cX3_hasAll 5 = .ok (.aload_n 0, 1) := by decide +kernel
theorem dX3_hasAll_6 : decode cX3_hasAll 6 = .ok (.getfield 23, 3) := by decide +kernel
theorem dX3_hasAll_9 : decode cX3_hasAll 9 = .ok (.iload_n 2, 1) := by decide +kernel
theorem dX3_hasAll_10 : decode cX3_hasAll 10 = .ok (.isub, 1) := by decide +kernel
theorem dX3_hasAll_11 : decode cX3_hasAll 11 = .ok (.if_icmp .gt 7, 3) := by decide +kernel
theorem dX3_hasAll_14 : decode cX3_hasAll 14 = .ok (.iconst 1, 1) := by decide +kernel
theorem dX3_hasAll_15 : decode cX3_hasAll 15 = .ok (.goto 4, 3) := by decide +kernel
theorem dX3_hasAll_18 : decode cX3_hasAll 18 = .ok (.iconst 0, 1) := by decide +kernel
theorem dX3_hasAll_19 : decode cX3_hasAll 19 = .ok (.ireturn, 1) := by decide +kernel
theorem dX3_store_0 : decode cX3_store 0 = .ok (.aload_n 0, 1) := by decide +kernel
theorem dX3_store_1 : decode cX3_store 1 = .ok (.getfield 19, 3) := by decide +kernel
theorem dX3_store_4 : decode cX3_store 4 = .ok (.ifCond .ne 16, 3) := by decide +kernel
theorem dX3_store_7 : decode cX3_store 7 = .ok (.aload_n 0, 1) := by decide +kernel
theorem dX3_store_8 : decode cX3_store 8 = .ok (.getfield 9, 3) := by decide +kernel
theorem dX3_store_11 : decode cX3_store 11 = .ok (.iload_n 1, 1) := by decide +kernel
theorem dX3_store_12 : decode cX3_store 12 = .ok (.lload_n 2, 1) := by decide +kernel
theorem dX3_store_13 : decode cX3_store 13 = .ok (.l2i, 1) := by decide +kernel
theorem dX3_store_14 : decode cX3_store 14 = .ok (.i2s, 1) := by decide +kernel
theorem dX3_store_15 : decode cX3_store 15 = .ok (.i2l, 1) := by decide +kernel
theorem dX3_store_16 : decode cX3_store 16 = .ok (.lastore, 1) := by decide +kernel
theorem dX3_store_17 : decode cX3_store 17 = .ok (.goto 30, 3) := by decide +kernel
theorem dX3_store_20 : decode cX3_store 20 = .ok (.aload_n 0, 1) := by decide +kernel
theorem dX3_store_21 : decode cX3_store 21 = .ok (.getfield 19, 3) := by decide +kernel
theorem dX3_store_24 : decode cX3_store 24 = .ok (.iconst 1, 1) := by decide +kernel
theorem dX3_store_25 : decode cX3_store 25 = .ok (.if_icmp .ne 15, 3) := by decide +kernel
theorem dX3_store_28 : decode cX3_store 28 = .ok (.aload_n 0, 1) := by decide +kernel
theorem dX3_store_29 : decode cX3_store 29 = .ok (.getfield 9, 3) := by decide +kernel
theorem dX3_store_32 : decode cX3_store 32 = .ok (.iload_n 1, 1) := by decide +kernel
theorem dX3_store_33 : decode cX3_store 33 = .ok (.lload_n 2, 1) := by decide +kernel
theorem dX3_store_34 : decode cX3_store 34 = .ok (.l2i, 1) := by decide +kernel
theorem dX3_store_35 : decode cX3_store 35 = .ok (.i2l, 1) := by decide +kernel
theorem dX3_store_36 : decode cX3_store 36 = .ok (.lastore, 1) := by decide +kernel
theorem dX3_store_37 : decode cX3_store 37 = .ok (.goto 10, 3) := by decide +kernel
theorem dX3_store_40 : decode cX3_store 40 = .ok (.aload_n 0, 1) := by decide +kernel
theorem dX3_store_41 : decode cX3_store 41 = .ok (.getfield 9, 3) := by decide +kernel
theorem dX3_store_44 : decode cX3_store 44 = .ok (.iload_n 1, 1) := by decide +kernel
theorem dX3_store_45 : decode cX3_store 45 = .ok (.lload_n 2, 1) := by decide +kernel
theorem dX3_store_46 : decode cX3_store 46 = .ok (.lastore, 1) := by decide +kernel
theorem dX3_store_47 : decode cX3_store 47 = .ok (.return_, 1) := by decide +kernel
theorem dX4_init_0 : decode cX4_init 0 = .ok (.aload_n 0, 1) := by decide +kernel
theorem dX4_init_1 : decode cX4_init 1 = .ok (.invokespecial 3, 3) := by decide +kernel
theorem dX4_init_4 : decode cX4_init 4 = .ok (.aload_n 0, 1) := by decide +kernel
theorem dX4_init_5 : decode cX4_init 5 = .ok (.bipush 10, 2) := by decide +kernel
theorem dX4_init_7 : decode cX4_init 7 = .ok (.newarray .int, 2) := by decide +kernel
theorem dX4_init_9 : decode cX4_init 9 = .ok (.putfield 9, 3) := by decide +kernel
theorem dX4_init_12 : decode cX4_init 12 = .ok (.aload_n 0, 1) := by decide +kernel
theorem dX4_init_13 : decode cX4_init 13 = .ok (.bipush 10, 2) := by decide +kernel
theorem dX4_init_15 : decode cX4_init 15 = .ok (.newarray .int, 2) := by decide +kernel
theorem dX4_init_17 : decode cX4_init 17 = .ok (.putfield 15, 3) := by decide +kernel
theorem dX4_init_20 : decode cX4_init 20 = .ok (.aload_n 0, 1) := by decide +kernel
theorem dX4_init_21 : decode cX4_init 21 = .ok (.sipush 1000, 3) := by decide +kernel
theorem dX4_init_24 : decode cX4_init 24 = .ok (.putfield 18, 3) := by decide +kernel
theorem dX4_init_27 : decode cX4_init 27 = .ok (.return_, 1) := by decide +kernel
theorem dX5_init_0 : decode cX5_init 0 = .ok (.aload_n 0, 1) := by decide +kernel
theorem dX5_init_1 : decode cX5_init 1 = .ok (.invokespecial 3, 3) := by decide +kernel
theorem dX5_init_4 : decode cX5_init 4 = .ok (.aload_n 0, 1) := by decide +kernel
theorem dX5_init_5 : decode cX5_init 5 = .ok (.bipush 8, 2) := by decide +kernel
theorem dX5_init_7 : decode cX5_init 7 = .ok (.anewarray 9, 3) := by decide +kernel
theorem dX5_init_10 : decode cX5_init 10 = .ok (.putfield 11, 3) := by decide +kernel
theorem dX5_init_13 : decode cX5_init 13 = .ok (.aload_n 0, 1) := by decide +kernel
theorem dX5_init_14 : decode cX5_init 14 = .ok (.new 15, 3) := by decide +kernel
theorem dX5_init_17 : decode cX5_init 17 = .ok (.dup, 1) := by decide +kernel
theorem dX5_init_18 : decode cX5_init 18 = .ok (.invokespecial 17, 3) := by decide +kernel
theorem dX5_init_21 : decode cX5_init 21 = .ok (.putfield 18, 3) := by decide +kernel
theorem dX5_init_24 : decode cX5_init 24 = .ok (.aload_n 0, 1) := by decide +kernel
theorem dX5_init_25 : decode cX5_init 25 = .ok (.new 22, 3) := by decide +kernel
theorem dX5_init_28 : decode cX5_init 28 = .ok (.dup, 1) := by decide +kernel
theorem dX5_init_29 : decode cX5_init 29 = .ok (.invokespecial 24, 3) := by decide +kernel
theorem dX5_init_32 : decode cX5_init 32 = .ok (.putfield 25, 3) := by decide +kernel
theorem dX5_init_35 : decode cX5_init 35 = .ok (.aload_n 0, 1) := by decide +kernel
theorem dX5_init_36 : decode cX5_init 36 = .ok (.new 29, 3) := by decide +kernel
theorem dX5_init_39 : decode cX5_init 39 = .ok (.dup, 1) := by decide +kernel
theorem dX5_init_40 : decode cX5_init 40 = .ok (.invokespecial 31, 3) := by decide +kernel
theorem dX5_init_43 : decode cX5_init 43 = .ok (.putfield 32, 3) := by decide +kernel
theorem dX5_init_46 : decode cX5_init 46 = .ok (.aload_n 0, 1) := by decide +kernel
theorem dX5_init_47 : decode cX5_init 47 = .ok (.new 36, 3) := by decide +kernel
theorem dX5_init_50 : decode cX5_init 50 = .ok (.dup, 1) := by decide +kernel
theorem dX5_init_51 : decode cX5_init 51 = .ok (.invokespecial 38, 3) := by decide +kernel
theorem dX5_init_54 : decode cX5_init 54 = .ok (.putfield 39, 3) := by decide +kernel
theorem dX5_init_57 : decode cX5_init 57 = .ok (.aload_n 0, 1) := by decide +kernel
theorem dX5_init_58 : decode cX5_init 58 = .ok (.new 22, 3) := by decide +kernel
theorem dX5_init_61 : decode cX5_init 61 = .ok (.dup, 1) := by decide +kernel
theorem dX5_init_62 : decode cX5_init 62 = .ok (.invokespecial 24, 3) := by decide +kernel
theorem dX5_init_65 : decode cX5_init 65 = .ok (.putfield 43, 3) := by decide +kernel
theorem dX5_init_68 : decode cX5_init 68 = .ok (.aload_n 0, 1) := by decide +kernel
theorem dX5_init_69 : decode cX5_init 69 = .ok (.new 29, 3) := by decide +kernel
theorem dX5_init_72 : decode cX5_init 72 = .ok (.dup, 1) := by decide +kernel
theorem dX5_init_73 : decode cX5_init 73 = .ok (.invokespecial 31, 3) := by decide +kernel
theorem dX5_init_76 : decode cX5_init 76 = .ok (.putfield 46, 3) := by decide +kernel
theorem dX5_init_79 : decode cX5_init 79 = .ok (.aload_n 0, 1) := by decide +kernel
theorem dX5_init_80 : decode cX5_init 80 = .ok (.sipush 256, 3) := by decide +kernel
theorem dX5_init_83 : decode cX5_init 83 = .ok (.newarray .long, 2) := by decide +kernel
theorem dX5_init_85 : decode cX5_init 85 = .ok (.putfield 49, 3) := by decide +kernel
theorem dX5_init_88 : decode cX5_init 88 = .ok (.aload_n 0, 1) := by decide +kernel
theorem dX5_init_89 : decode cX5_init 89 = .ok (.sipush 3904, 3) := by decide +kernel
theorem dX5_init_92 : decode cX5_init 92 = .ok (.newarray .long, 2) := by decide +kernel
theorem dX5_init_94 : decode cX5_init 94 = .ok (.putfield 53, 3) := by decide +kernel
theorem dX5_init_97 : decode cX5_init 97 = .ok (.iconst 0, 1) := by decide +kernel
theorem dX5_init_98 : decode cX5_init 98 = .ok (.istore_n 1, 1) := by decide +kernel
theorem dX5_init_99 : decode cX5_init 99 = .ok (.iload_n 1, 1) := by decide +kernel
theorem dX5_init_100 : decode cX5_init 100 = .ok (.bipush 8, 2) := by decide +kernel
theorem dX5_init_102 : decode cX5_init 102 = .ok (.if_icmp .ge 22, 3) := by decide +kernel
theorem dX5_init_105 : decode cX5_init 105 = .ok (.aload_n 0, 1) := by decide +kernel
theorem dX5_init_106 : decode cX5_init 106 = .ok (.getfield 11, 3) := by decide +kernel
theorem dX5_init_109 : decode cX5_init 109 = .ok (.iload_n 1, 1) := by decide +kernel
theorem dX5_init_110 : decode cX5_init 110 = .ok (.new 9, 3) := by decide +kernel
theorem dX5_init_113 : decode cX5_init 113 = .ok (.dup, 1) := by decide +kernel
theorem dX5_init_114 : decode cX5_init 114 = .ok (.invokespecial 56, 3) := by decide +kernel
theorem dX5_init_117 : decode cX5_init 117 = .ok (.aastore, 1) := by decide +kernel
theorem dX5_init_118 : decode cX5_init 118 = .ok (.iinc 1 1, 3) := by decide +kernel
theorem dX5_init_121 : decode cX5_init 121 = .ok (.goto (-22), 3) := by decide +kernel
theorem dX5_init_124 : decode cX5_init 124 = .ok (.return_, 1) := by decide +kernel
theorem dX5_strip_0 : decode cX5_strip 0 = .ok (.iload_n 1, 1) := by decide +kernel
theorem dX5_strip_1 : decode cX5_strip 1 = .ok (.invokestatic 57, 3) := by decide +kernel
theorem dX5_strip_4 : decode cX5_strip 4 = .ok (.ifCond .ne 5, 3) := by decide +kernel
theorem dX5_strip_7 : decode cX5_strip 7 = .ok (.iconst (-1), 1) := by decide +kernel
theorem dX5_strip_8 : decode cX5_strip 8 = .ok (.ireturn, 1) := by decide +kernel
theorem dX5_strip_9 : decode cX5_strip 9 = .ok (.iload_n 2, 1) := by decide +kernel
theorem dX5_strip_10 : decode cX5_strip 10 = .ok (.invokestatic 61, 3) := by decide +kernel
theorem dX5_strip_13 : decode cX5_strip 13 = .ok (.ifCond .eq 9, 3) := by decide +kernel
theorem dX5_strip_16 : decode cX5_strip 16 = .ok (.iload_n 3, 1) := by decide +kernel
theorem dX5_strip_17 : decode cX5_strip 17 = .ok (.bipush 8, 2) := by decide +kernel
theorem dX5_strip_19 : decode cX5_strip 19 = .ok (.if_icmp .le 6, 3) := by decide +kernel
theorem dX5_strip_22 : decode cX5_strip 22 = .ok (.bipush (-2), 2) := by decide +kernel
theorem dX5_strip_24 : decode cX5_strip 24 = .ok (.ireturn, 1) := by decide +kernel
theorem dX5_strip_25 : decode cX5_strip 25 = .ok (.iload_n 3, 1) := by decide +kernel
theorem dX5_strip_26 : decode cX5_strip 26 = .ok (.ifCond .ge 9, 3) := by decide +kernel
theorem dX5_strip_29 : decode cX5_strip 29 = .ok (.aload_n 0, 1) := by decide +kernel
theorem dX5_strip_30 : decode cX5_strip 30 = .ok (.iconst 4, 1) := by decide +kernel
theorem dX5_strip_31 : decode cX5_strip 31 = .ok (.invokevirtual 64, 3) := by decide +kernel
theorem dX5_strip_34 : decode cX5_strip 34 = .ok (.ireturn, 1) := by decide +kernel
theorem dX5_strip_35 : decode cX5_strip 35 = .ok (.aload_n 0, 1) := by decide +kernel
theorem dX5_strip_36 : decode cX5_strip 36 = .ok (.getfield 11, 3) := by decide +kernel
theorem dX5_strip_39 : decode cX5_strip 39 = .ok (.iload_n 1, 1) := by decide +kernel
theorem dX5_strip_40 : decode cX5_strip 40 = .ok (.aaload, 1) := by decide +kernel
theorem dX5_strip_41 : decode cX5_strip 41 = .ok (.iload_n 2, 1) := by decide +kernel
theorem dX5_strip_42 : decode cX5_strip 42 = .ok (.iload_n 3, 1) := by decide +kernel
theorem dX5_strip_43 : decode cX5_strip 43 = .ok (.invokevirtual 68, 3) := by decide +kernel
theorem dX5_strip_46 : decode cX5_strip 46 = .ok (.iload_n 3, 1) := by decide +kernel
theorem dX5_strip_47 : decode cX5_strip 47 = .ok (.ireturn, 1) := by decide +kernel
theorem dX5_tear_0 : decode cX5_tear 0 = .ok (.iload_n 1, 1) := by decide +kernel
theorem dX5_tear_1 : decode cX5_tear 1 = .ok (.invokestatic 57, 3) := by decide +kernel
theorem dX5_tear_4 : decode cX5_tear 4 = .ok (.ifCond .ne 5, 3) := by decide +kernel
theorem dX5_tear_7 : decode cX5_tear 7 = .ok (.iconst (-1), 1) := by decide +kernel
theorem dX5_tear_8 : decode cX5_tear 8 = .ok (.ireturn, 1) := by decide +kernel
theorem dX5_tear_9 : decode cX5_tear 9 = .ok (.aload_n 0, 1) := by decide +kernel
theorem dX5_tear_10 : decode cX5_tear 10 = .ok (.getfield 11, 3) := by decide +kernel
theorem dX5_tear_13 : decode cX5_tear 13 = .ok (.iload_n 1, 1) := by decide +kernel
theorem dX5_tear_14 : decode cX5_tear 14 = .ok (.aaload, 1) := by decide +kernel
theorem dX5_tear_15 : decode cX5_tear 15 = .ok (.getfield 72, 3) := by decide +kernel
theorem dX5_tear_18 : decode cX5_tear 18 = .ok (.istore_n 2, 1) := by decide +kernel
theorem dX5_tear_19 : decode cX5_tear 19 = .ok (.aload_n 0, 1) := by decide +kernel
theorem dX5_tear_20 : decode cX5_tear 20 = .ok (.getfield 11, 3) := by decide +kernel
theorem dX5_tear_23 : decode cX5_tear 23 = .ok (.iload_n 1, 1) := by decide +kernel
theorem dX5_tear_24 : decode cX5_tear 24 = .ok (.aaload, 1) := by decide +kernel
theorem dX5_tear_25 : decode cX5_tear 25 = .ok (.invokevirtual 76, 3) := by decide +kernel
theorem dX5_tear_28 : decode cX5_tear 28 = .ok (.iload_n 2, 1) := by decide +kernel
theorem dX5_tear_29 : decode cX5_tear 29 = .ok (.ifCond .eq 7, 3) := by decide +kernel
theorem dX5_tear_32 : decode cX5_tear 32 = .ok (.iconst 1, 1) := by decide +kernel
theorem dX5_tear_33 : decode cX5_tear 33 = .ok (.goto 4, 3) := by decide +kernel
theorem dX5_tear_36 : decode cX5_tear 36 = .ok (.iconst 0, 1) := by decide +kernel
theorem dX5_tear_37 : decode cX5_tear 37 = .ok (.ireturn, 1) := by decide +kernel
theorem dX5_put_0 : decode cX5_put 0 = .ok (.iload_n 1, 1) := by decide +kernel
theorem dX5_put_1 : decode cX5_put 1 = .ok (.invokestatic 57, 3) := by decide +kernel
theorem dX5_put_4 : decode cX5_put 4 = .ok (.ifCond .ne 5, 3) := by decide +kernel
theorem dX5_put_7 : decode cX5_put 7 = .ok (.iconst (-1), 1) := by decide +kernel
theorem dX5_put_8 : decode cX5_put 8 = .ok (.ireturn, 1) := by decide +kernel
theorem dX5_put_9 : decode cX5_put 9 = .ok (.aload_n 0, 1) := by decide +kernel
theorem dX5_put_10 : decode cX5_put 10 = .ok (.getfield 11, 3) := by decide +kernel
theorem dX5_put_13 : decode cX5_put 13 = .ok (.iload_n 1, 1) := by decide +kernel
theorem dX5_put_14 : decode cX5_put 14 = .ok (.aaload, 1) := by decide +kernel
theorem dX5_put_15 : decode cX5_put 15 = .ok (.astore 5, 2) := by decide +kernel
theorem dX5_put_17 : decode cX5_put 17 = .ok (.aload 5, 2) := by decide +kernel
theorem dX5_put_19 : decode cX5_put 19 = .ok (.getfield 72, 3) := by decide +kernel
theorem dX5_put_22 : decode cX5_put 22 = .ok (.ifCond .eq 9, 3) := by decide +kernel
theorem dX5_put_25 : decode cX5_put 25 = .ok (.aload_n 0, 1) := by decide +kernel
theorem dX5_put_26 : decode cX5_put 26 = .ok (.iconst 1, 1) := by decide +kernel
theorem dX5_put_27 : decode cX5_put 27 = .ok (.invokevirtual 64, 3) := by decide +kernel
theorem dX5_put_30 : decode cX5_put 30 = .ok (.ireturn, 1) := by decide +kernel
theorem dX5_put_31 : decode cX5_put 31 = .ok (.aload 5, 2) := by decide +kernel
theorem dX5_put_33 : decode cX5_put 33 = .ok (.iload_n 2, 1) := by decide +kernel
theorem dX5_put_34 : decode cX5_put 34 = .ok (.invokevirtual 79, 3) := by decide +kernel
theorem dX5_put_37 : decode cX5_put 37 = .ok (.ifCond .ne 9, 3) := by decide +kernel
theorem dX5_put_40 : decode cX5_put 40 = .ok (.aload_n 0, 1) := by decide +kernel
theorem dX5_put_41 : decode cX5_put 41 = .ok (.iconst 2, 1) := by decide +kernel
theorem dX5_put_42 : decode cX5_put 42 = .ok (.invokevirtual 64, 3) := by decide +kernel
theorem dX5_put_45 : decode cX5_put 45 = .ok (.ireturn, 1) := by decide +kernel
theorem dX5_put_46 : decode cX5_put 46 = .ok (.aload 5, 2) := by decide +kernel
theorem dX5_put_48 : decode cX5_put 48 = .ok (.iload_n 2, 1) := by decide +kernel
theorem dX5_put_49 : decode cX5_put 49 = .ok (.lload_n 3, 1) := by decide +kernel
theorem dX5_put_50 : decode cX5_put 50 = .ok (.invokevirtual 82, 3) := by decide +kernel
theorem dX5_put_53 : decode cX5_put 53 = .ok (.iconst 1, 1) := by decide +kernel
theorem dX5_put_54 : decode cX5_put 54 = .ok (.ireturn, 1) := by decide +kernel
theorem dX5_at_0 : decode cX5_at 0 = .ok (.iload_n 1, 1) := by decide +kernel
theorem dX5_at_1 : decode cX5_at 1 = .ok (.invokestatic 57, 3) := by decide +kernel
theorem dX5_at_4 : decode cX5_at 4 = .ok (.ifCond .ne 7, 3) := by decide +kernel
theorem dX5_at_7 : decode cX5_at 7 = .ok (.ldc2_w 86, 3) := by decide +kernel
theorem dX5_at_10 : decode cX5_at 10 = .ok (.lreturn, 1) := by decide +kernel
theorem dX5_at_11 : decode cX5_at 11 = .ok (.iload_n 2, 1) := by decide +kernel
theorem dX5_at_12 : decode cX5_at 12 = .ok (.invokestatic 61, 3) := by decide +kernel
theorem dX5_at_15 : decode cX5_at 15 = .ok (.ifCond .ne 7, 3) := by decide +kernel
theorem dX5_at_18 : decode cX5_at 18 = .ok (.ldc2_w 88, 3) := by decide +kernel
theorem dX5_at_21 : decode cX5_at 21 = .ok (.lreturn, 1) := by decide +kernel
theorem dX5_at_22 : decode cX5_at 22 = .ok (.aload_n 0, 1) := by decide +kernel
theorem dX5_at_23 : decode cX5_at 23 = .ok (.getfield 11, 3) := by decide +kernel
theorem dX5_at_26 : decode cX5_at 26 = .ok (.iload_n 1, 1) := by decide +kernel
theorem dX5_at_27 : decode cX5_at 27 = .ok (.aaload, 1) := by decide +kernel
theorem dX5_at_28 : decode cX5_at 28 = .ok (.astore 4, 2) := by decide +kernel
theorem dX5_at_30 : decode cX5_at 30 = .ok (.aload 4, 2) := by decide +kernel
theorem dX5_at_32 : decode cX5_at 32 = .ok (.getfield 72, 3) := by decide +kernel
theorem dX5_at_35 : decode cX5_at 35 = .ok (.ifCond .eq 10, 3) := by decide +kernel
theorem dX5_at_38 : decode cX5_at 38 = .ok (.aload_n 0, 1) := by decide +kernel
theorem dX5_at_39 : decode cX5_at 39 = .ok (.iconst 1, 1) := by decide +kernel
theorem dX5_at_40 : decode cX5_at 40 = .ok (.invokevirtual 64, 3) := by decide +kernel
theorem dX5_at_43 : decode cX5_at 43 = .ok (.i2l, 1) := by decide +kernel
theorem dX5_at_44 : decode cX5_at 44 = .ok (.lreturn, 1) := by decide +kernel
theorem dX5_at_45 : decode cX5_at 45 = .ok (.aload 4, 2) := by decide +kernel
theorem dX5_at_47 : decode cX5_at 47 = .ok (.getfield 90, 3) := by decide +kernel
theorem dX5_at_50 : decode cX5_at 50 = .ok (.iload_n 2, 1) := by decide +kernel
theorem dX5_at_51 : decode cX5_at 51 = .ok (.if_icmp .eq 10, 3) := by decide +kernel
theorem dX5_at_54 : decode cX5_at 54 = .ok (.aload_n 0, 1) := by decide +kernel
theorem dX5_at_55 : decode cX5_at 55 = .ok (.iconst 3, 1) := by decide +kernel
theorem dX5_at_56 : decode cX5_at 56 = .ok (.invokevirtual 64, 3) := by decide +kernel
theorem dX5_at_59 : decode cX5_at 59 = .ok (.i2l, 1) := by decide +kernel
theorem dX5_at_60 : decode cX5_at 60 = .ok (.lreturn, 1) := by decide +kernel
theorem dX5_at_61 : decode cX5_at 61 = .ok (.aload 4, 2) := by decide +kernel
theorem dX5_at_63 : decode cX5_at 63 = .ok (.iload_n 3, 1) := by decide +kernel
theorem dX5_at_64 : decode cX5_at 64 = .ok (.invokevirtual 79, 3) := by decide +kernel
theorem dX5_at_67 : decode cX5_at 67 = .ok (.ifCond .ne 10, 3) := by decide +kernel
theorem dX5_at_70 : decode cX5_at 70 = .ok (.aload_n 0, 1) := by decide +kernel
theorem dX5_at_71 : decode cX5_at 71 = .ok (.iconst 2, 1) := by decide +kernel
theorem dX5_at_72 : decode cX5_at 72 = .ok (.invokevirtual 64, 3) := by decide +kernel
theorem dX5_at_75 : decode cX5_at 75 = .ok (.i2l, 1) := by decide +kernel
theorem dX5_at_76 : decode cX5_at 76 = .ok (.lreturn, 1) := by decide +kernel
theorem dX5_at_77 : decode cX5_at 77 = .ok (.aload 4, 2) := by decide +kernel
theorem dX5_at_79 : decode cX5_at 79 = .ok (.getfield 94, 3) := by decide +kernel
theorem dX5_at_82 : decode cX5_at 82 = .ok (.iload_n 3, 1) := by decide +kernel
theorem dX5_at_83 : decode cX5_at 83 = .ok (.laload, 1) := by decide +kernel
theorem dX5_at_84 : decode cX5_at 84 = .ok (.lreturn, 1) := by decide +kernel
theorem dX5_copy_0 : decode cX5_copy 0 = .ok (.iload_n 1, 1) := by decide +kernel
theorem dX5_copy_1 : decode cX5_copy 1 = .ok (.invokestatic 57, 3) := by decide +kernel
theorem dX5_copy_4 : decode cX5_copy 4 = .ok (.ifCond .eq 10, 3) := by decide +kernel
theorem dX5_copy_7 : decode cX5_copy 7 = .ok (.iload_n 3, 1) := by decide +kernel
theorem dX5_copy_8 : decode cX5_copy 8 = .ok (.invokestatic 57, 3) := by decide +kernel
theorem dX5_copy_11 : decode cX5_copy 11 = .ok (.ifCond .ne 5, 3) := by decide +kernel
theorem dX5_copy_14 : decode cX5_copy 14 = .ok (.iconst (-1), 1) := by decide +kernel
theorem dX5_copy_15 : decode cX5_copy 15 = .ok (.ireturn, 1) := by decide +kernel
theorem dX5_copy_16 : decode cX5_copy 16 = .ok (.iload 5, 2) := by decide +kernel
theorem dX5_copy_18 : decode cX5_copy 18 = .ok (.ifCond .ge 9, 3) := by decide +kernel
theorem dX5_copy_21 : decode cX5_copy 21 = .ok (.aload_n 0, 1) := by decide +kernel
theorem dX5_copy_22 : decode cX5_copy 22 = .ok (.iconst 4, 1) := by decide +kernel
theorem dX5_copy_23 : decode cX5_copy 23 = .ok (.invokevirtual 64, 3) := by decide +kernel
theorem dX5_copy_26 : decode cX5_copy 26 = .ok (.ireturn, 1) := by decide +kernel
theorem dX5_copy_27 : decode cX5_copy 27 = .ok (.aload_n 0, 1) := by decide +kernel
theorem dX5_copy_28 : decode cX5_copy 28 = .ok (.getfield 11, 3) := by decide +kernel
theorem dX5_copy_31 : decode cX5_copy 31 = .ok (.iload_n 1, 1) := by decide +kernel
theorem dX5_copy_32 : decode cX5_copy 32 = .ok (.aaload, 1) := by decide +kernel
theorem dX5_copy_33 : decode cX5_copy 33 = .ok (.astore 6, 2) := by decide +kernel
theorem dX5_copy_35 : decode cX5_copy 35 = .ok (.aload_n 0, 1) := by decide +kernel
theorem dX5_copy_36 : decode cX5_copy 36 = .ok (.getfield 11, 3) := by decide +kernel
theorem dX5_copy_39 : decode cX5_copy 39 = .ok (.iload_n 3, 1) := by decide +kernel
theorem dX5_copy_40 : decode cX5_copy 40 = .ok (.aaload, 1) := by decide +kernel
theorem dX5_copy_41 : decode cX5_copy 41 = .ok (.astore 7, 2) := by decide +kernel
theorem dX5_copy_43 : decode cX5_copy 43 = .ok (.aload 6, 2) := by decide +kernel
theorem dX5_copy_45 : decode cX5_copy 45 = .ok (.getfield 72, 3) := by decide +kernel
theorem dX5_copy_48 : decode cX5_copy 48 = .ok (.ifCond .ne 11, 3) := by decide +kernel
theorem dX5_copy_51 : decode cX5_copy 51 = .ok (.aload 7, 2) := by decide +kernel
theorem dX5_copy_53 : decode cX5_copy 53 = .ok (.getfield 72, 3) := by decide +kernel
theorem dX5_copy_56 : decode cX5_copy 56 = .ok (.ifCond .eq 9, 3) := by decide +kernel
theorem dX5_copy_59 : decode cX5_copy 59 = .ok (.aload_n 0, 1) := by decide +kernel
theorem dX5_copy_60 : decode cX5_copy 60 = .ok (.iconst 1, 1) := by decide +kernel
theorem dX5_copy_61 : decode cX5_copy 61 = .ok (.invokevirtual 64, 3) := by decide +kernel
theorem dX5_copy_64 : decode cX5_copy 64 = .ok (.ireturn, 1) := by decide +kernel
theorem dX5_copy_65 : decode cX5_copy 65 = .ok (.aload 6, 2) := by decide +kernel
theorem dX5_copy_67 : decode cX5_copy 67 = .ok (.getfield 90, 3) := by decide +kernel
theorem dX5_copy_70 : decode cX5_copy 70 = .ok (.aload 7, 2) := by decide +kernel
theorem dX5_copy_72 : decode cX5_copy 72 = .ok (.getfield 90, 3) := by decide +kernel
theorem dX5_copy_75 : decode cX5_copy 75 = .ok (.if_icmp .eq 9, 3) := by decide +kernel
theorem dX5_copy_78 : decode cX5_copy 78 = .ok (.aload_n 0, 1) := by decide +kernel
theorem dX5_copy_79 : decode cX5_copy 79 = .ok (.iconst 3, 1) := by decide +kernel
theorem dX5_copy_80 : decode cX5_copy 80 = .ok (.invokevirtual 64, 3) := by decide +kernel
theorem dX5_copy_83 : decode cX5_copy 83 = .ok (.ireturn, 1) := by decide +kernel
theorem dX5_copy_84 : decode cX5_copy 84 = .ok (.aload 6, 2) := by decide +kernel
theorem dX5_copy_86 : decode cX5_copy 86 = .ok (.iload_n 2, 1) := by decide +kernel
theorem dX5_copy_87 : decode cX5_copy 87 = .ok (.iload 5, 2) := by decide +kernel
theorem dX5_copy_89 : decode cX5_copy 89 = .ok (.invokevirtual 97, 3) := by decide +kernel
theorem dX5_copy_92 : decode cX5_copy 92 = .ok (.ifCond .eq 15, 3) := by decide +kernel
theorem dX5_copy_95 : decode cX5_copy 95 = .ok (.aload 7, 2) := by decide +kernel
theorem dX5_copy_97 : decode cX5_copy 97 = .ok (.iload 4, 2) := by decide +kernel
theorem dX5_copy_99 : decode cX5_copy 99 = .ok (.iload 5, 2) := by decide +kernel
theorem dX5_copy_101 : decode cX5_copy 101 = .ok (.invokevirtual 97, 3) := by decide +kernel
theorem dX5_copy_104 : decode cX5_copy 104 = .ok (.ifCond .ne 9, 3) := by decide +kernel
theorem dX5_copy_107 : decode cX5_copy 107 = .ok (.aload_n 0, 1) := by decide +kernel
theorem dX5_copy_108 : decode cX5_copy 108 = .ok (.iconst 2, 1) := by decide +kernel
theorem dX5_copy_109 : decode cX5_copy 109 = .ok (.invokevirtual 64, 3) := by decide +kernel
theorem dX5_copy_112 : decode cX5_copy 112 = .ok (.ireturn, 1) := by decide +kernel
theorem dX5_copy_113 : decode cX5_copy 113 = .ok (.aload 6, 2) := by decide +kernel
theorem dX5_copy_115 : decode cX5_copy 115 = .ok (.getfield 94, 3) := by decide +kernel
theorem dX5_copy_118 : decode cX5_copy 118 = .ok (.iload_n 2, 1) := by decide +kernel
theorem dX5_copy_119 : decode cX5_copy 119 = .ok (.aload 7, 2) := by decide +kernel
theorem dX5_copy_121 : decode cX5_copy 121 = .ok (.getfield 94, 3) := by decide +kernel
theorem dX5_copy_124 : decode cX5_copy 124 = .ok (.iload 4, 2) := by decide +kernel
theorem dX5_copy_126 : decode cX5_copy 126 = .ok (.iload 5, 2) := by decide +kernel
theorem dX5_copy_128 : decode cX5_copy 128 = .ok (.invokestatic 101, 3) := by decide +kernel
theorem dX5_copy_131 : decode cX5_copy 131 = .ok (.iload 5, 2) := by decide +kernel
theorem dX5_copy_133 : decode cX5_copy 133 = .ok (.ireturn, 1) := by decide +kernel
theorem dX5_ground_0 : decode cX5_ground 0 = .ok (.iload_n 1, 1) := by decide +kernel
theorem dX5_ground_1 : decode cX5_ground 1 = .ok (.invokestatic 107, 3) := by decide +kernel
theorem dX5_ground_4 : decode cX5_ground 4 = .ok (.ifCond .eq 10, 3) := by decide +kernel
theorem dX5_ground_7 : decode cX5_ground 7 = .ok (.iload_n 2, 1) := by decide +kernel
theorem dX5_ground_8 : decode cX5_ground 8 = .ok (.invokestatic 107, 3) := by decide +kernel
theorem dX5_ground_11 : decode cX5_ground 11 = .ok (.ifCond .ne 6, 3) := by decide +kernel
theorem dX5_ground_14 : decode cX5_ground 14 = .ok (.bipush (-2), 2) := by decide +kernel
theorem dX5_ground_16 : decode cX5_ground 16 = .ok (.ireturn, 1) := by decide +kernel
theorem dX5_ground_17 : decode cX5_ground 17 = .ok (.aload_n 0, 1) := by decide +kernel
theorem dX5_ground_18 : decode cX5_ground 18 = .ok (.getfield 25, 3) := by decide +kernel
theorem dX5_ground_21 : decode cX5_ground 21 = .ok (.iload_n 1, 1) := by decide +kernel
theorem dX5_ground_22 : decode cX5_ground 22 = .ok (.iload_n 2, 1) := by decide +kernel
theorem dX5_ground_23 : decode cX5_ground 23 = .ok (.invokevirtual 110, 3) := by decide +kernel
theorem dX5_ground_26 : decode cX5_ground 26 = .ok (.iconst 0, 1) := by decide +kernel
theorem dX5_ground_27 : decode cX5_ground 27 = .ok (.istore_n 3, 1) := by decide +kernel
theorem dX5_ground_28 : decode cX5_ground 28 = .ok (.iload_n 3, 1) := by decide +kernel
theorem dX5_ground_29 : decode cX5_ground 29 = .ok (.iload_n 2, 1) := by decide +kernel
theorem dX5_ground_30 : decode cX5_ground 30 = .ok (.if_icmp .ge 41, 3) := by decide +kernel
theorem dX5_ground_33 : decode cX5_ground 33 = .ok (.iconst 0, 1) := by decide +kernel
theorem dX5_ground_34 : decode cX5_ground 34 = .ok (.istore 4, 2) := by decide +kernel
theorem dX5_ground_36 : decode cX5_ground 36 = .ok (.iload 4, 2) := by decide +kernel
theorem dX5_ground_38 : decode cX5_ground 38 = .ok (.iload_n 1, 1) := by decide +kernel
theorem dX5_ground_39 : decode cX5_ground 39 = .ok (.if_icmp .ge 26, 3) := by decide +kernel
theorem dX5_ground_42 : decode cX5_ground 42 = .ok (.aload_n 0, 1) := by decide +kernel
theorem dX5_ground_43 : decode cX5_ground 43 = .ok (.getfield 25, 3) := by decide +kernel
theorem dX5_ground_46 : decode cX5_ground 46 = .ok (.iload 4, 2) := by decide +kernel
theorem dX5_ground_48 : decode cX5_ground 48 = .ok (.iload_n 3, 1) := by decide +kernel
theorem dX5_ground_49 : decode cX5_ground 49 = .ok (.aload_n 0, 1) := by decide +kernel
theorem dX5_ground_50 : decode cX5_ground 50 = .ok (.iload 4, 2) := by decide +kernel
theorem dX5_ground_52 : decode cX5_ground 52 = .ok (.iload_n 3, 1) := by decide +kernel
theorem dX5_ground_53 : decode cX5_ground 53 = .ok (.invokevirtual 111, 3) := by decide +kernel
theorem dX5_ground_56 : decode cX5_ground 56 = .ok (.invokevirtual 115, 3) := by decide +kernel
theorem dX5_ground_59 : decode cX5_ground 59 = .ok (.iinc 4 1, 3) := by decide +kernel
theorem dX5_ground_62 : decode cX5_ground 62 = .ok (.goto (-26), 3) := by decide +kernel
theorem dX5_ground_65 : decode cX5_ground 65 = .ok (.iinc 3 1, 3) := by decide +kernel
theorem dX5_ground_68 : decode cX5_ground 68 = .ok (.goto (-40), 3) := by decide +kernel
theorem dX5_ground_71 : decode cX5_ground 71 = .ok (.aload_n 0, 1) := by decide +kernel
theorem dX5_ground_72 : decode cX5_ground 72 = .ok (.getfield 32, 3) := by decide +kernel
theorem dX5_ground_75 : decode cX5_ground 75 = .ok (.invokevirtual 119, 3) := by decide +kernel
theorem dX5_ground_78 : decode cX5_ground 78 = .ok (.aload_n 0, 1) := by decide +kernel
theorem dX5_ground_79 : decode cX5_ground 79 = .ok (.getfield 39, 3) := by decide +kernel
theorem dX5_ground_82 : decode cX5_ground 82 = .ok (.invokevirtual 122, 3) := by decide +kernel
theorem dX5_ground_85 : decode cX5_ground 85 = .ok (.aload_n 0, 1) := by decide +kernel
theorem dX5_ground_86 : decode cX5_ground 86 = .ok (.getfield 25, 3) := by decide +kernel
theorem dX5_ground_89 : decode cX5_ground 89 = .ok (.invokevirtual 125, 3) := by decide +kernel
theorem dX5_ground_92 : decode cX5_ground 92 = .ok (.ireturn, 1) := by decide +kernel
theorem dX5_kind_0 : decode cX5_kind 0 = .ok (.aload_n 0, 1) := by decide +kernel
theorem dX5_kind_1 : decode cX5_kind 1 = .ok (.getfield 25, 3) := by decide +kernel
theorem dX5_kind_4 : decode cX5_kind 4 = .ok (.iload_n 1, 1) := by decide +kernel
theorem dX5_kind_5 : decode cX5_kind 5 = .ok (.iload_n 2, 1) := by decide +kernel
theorem dX5_kind_6 : decode cX5_kind 6 = .ok (.invokevirtual 129, 3) := by decide +kernel
theorem dX5_kind_9 : decode cX5_kind 9 = .ok (.istore 5, 2) := by decide +kernel
theorem dX5_kind_11 : decode cX5_kind 11 = .ok (.iload 5, 2) := by decide +kernel
theorem dX5_kind_13 : decode cX5_kind 13 = .ok (.iconst (-1), 1) := by decide +kernel
theorem dX5_kind_14 : decode cX5_kind 14 = .ok (.if_icmp .ne 5, 3) := by decide +kernel
theorem dX5_kind_17 : decode cX5_kind 17 = .ok (.iconst (-1), 1) := by decide +kernel
theorem dX5_kind_18 : decode cX5_kind 18 = .ok (.ireturn, 1) := by decide +kernel
theorem dX5_kind_19 : decode cX5_kind 19 = .ok (.iload_n 3, 1) := by decide +kernel
theorem dX5_kind_20 : decode cX5_kind 20 = .ok (.ifCond .lt 8, 3) := by decide +kernel
theorem dX5_kind_23 : decode cX5_kind 23 = .ok (.iload_n 3, 1) := by decide +kernel
theorem dX5_kind_24 : decode cX5_kind 24 = .ok (.iconst 3, 1) := by decide +kernel
theorem dX5_kind_25 : decode cX5_kind 25 = .ok (.if_icmp .le 6, 3) := by decide +kernel
theorem dX5_kind_28 : decode cX5_kind 28 = .ok (.bipush (-2), 2) := by decide +kernel
theorem dX5_kind_30 : decode cX5_kind 30 = .ok (.ireturn, 1) := by decide +kernel
theorem dX5_kind_31 : decode cX5_kind 31 = .ok (.iload_n 3, 1) := by decide +kernel
theorem dX5_kind_32 : decode cX5_kind 32 = .ok (.ifCond .eq 14, 3) := by decide +kernel
theorem dX5_kind_35 : decode cX5_kind 35 = .ok (.iload 4, 2) := by decide +kernel
theorem dX5_kind_37 : decode cX5_kind 37 = .ok (.invokestatic 133, 3) := by decide +kernel
theorem dX5_kind_40 : decode cX5_kind 40 = .ok (.ifCond .ne 6, 3) := by decide +kernel
theorem dX5_kind_43 : decode cX5_kind 43 = .ok (.bipush (-2), 2) := by decide +kernel
theorem dX5_kind_45 : decode cX5_kind 45 = .ok (.ireturn, 1) := by decide +kernel
theorem dX5_kind_46 : decode cX5_kind 46 = .ok (.aload_n 0, 1) := by decide +kernel
theorem dX5_kind_47 : decode cX5_kind 47 = .ok (.getfield 25, 3) := by decide +kernel
theorem dX5_kind_50 : decode cX5_kind 50 = .ok (.getfield 136, 3) := by decide +kernel
theorem dX5_kind_53 : decode cX5_kind 53 = .ok (.iload 5, 2) := by decide +kernel
theorem dX5_kind_55 : decode cX5_kind 55 = .ok (.iaload, 1) := by decide +kernel
theorem dX5_kind_56 : decode cX5_kind 56 = .ok (.iconst 4, 1) := by decide +kernel
theorem dX5_kind_57 : decode cX5_kind 57 = .ok (.if_icmp .ne 6, 3) := by decide +kernel
theorem dX5_kind_60 : decode cX5_kind 60 = .ok (.bipush (-3), 2) := by decide +kernel
theorem dX5_kind_62 : decode cX5_kind 62 = .ok (.ireturn, 1) := by decide +kernel
theorem dX5_kind_63 : decode cX5_kind 63 = .ok (.aload_n 0, 1) := by decide +kernel
theorem dX5_kind_64 : decode cX5_kind 64 = .ok (.getfield 25, 3) := by decide +kernel
theorem dX5_kind_67 : decode cX5_kind 67 = .ok (.getfield 136, 3) := by decide +kernel
theorem dX5_kind_70 : decode cX5_kind 70 = .ok (.iload 5, 2) := by decide +kernel
theorem dX5_kind_72 : decode cX5_kind 72 = .ok (.iaload, 1) := by decide +kernel
theorem dX5_kind_73 : decode cX5_kind 73 = .ok (.istore 6, 2) := by decide +kernel
theorem dX5_kind_75 : decode cX5_kind 75 = .ok (.aload_n 0, 1) := by decide +kernel
theorem dX5_kind_76 : decode cX5_kind 76 = .ok (.getfield 25, 3) := by decide +kernel
theorem dX5_kind_79 : decode cX5_kind 79 = .ok (.getfield 136, 3) := by decide +kernel
theorem dX5_kind_82 : decode cX5_kind 82 = .ok (.iload 5, 2) := by decide +kernel
theorem dX5_kind_84 : decode cX5_kind 84 = .ok (.iload_n 3, 1) := by decide +kernel
theorem dX5_kind_85 : decode cX5_kind 85 = .ok (.iastore, 1) := by decide +kernel
theorem dX5_kind_86 : decode cX5_kind 86 = .ok (.aload_n 0, 1) := by decide +kernel
theorem dX5_kind_87 : decode cX5_kind 87 = .ok (.getfield 25, 3) := by decide +kernel
theorem dX5_kind_90 : decode cX5_kind 90 = .ok (.getfield 140, 3) := by decide +kernel
theorem dX5_kind_93 : decode cX5_kind 93 = .ok (.iload 5, 2) := by decide +kernel
theorem dX5_kind_95 : decode cX5_kind 95 = .ok (.iload_n 3, 1) := by decide +kernel
theorem dX5_kind_96 : decode cX5_kind 96 = .ok (.ifCond .ne 7, 3) := by decide +kernel
theorem dX5_kind_99 : decode cX5_kind 99 = .ok (.iconst 0, 1) := by decide +kernel
theorem dX5_kind_100 : decode cX5_kind 100 = .ok (.goto 5, 3) := by decide +kernel
theorem dX5_kind_103 : decode cX5_kind 103 = .ok (.iload 4, 2) := by decide +kernel
theorem dX5_kind_105 : decode cX5_kind 105 = .ok (.iastore, 1) := by decide +kernel
theorem dX5_kind_106 : decode cX5_kind 106 = .ok (.aload_n 0, 1) := by decide +kernel
theorem dX5_kind_107 : decode cX5_kind 107 = .ok (.getfield 39, 3) := by decide +kernel
theorem dX5_kind_110 : decode cX5_kind 110 = .ok (.invokevirtual 122, 3) := by decide +kernel
theorem dX5_kind_113 : decode cX5_kind 113 = .ok (.iload 6, 2) := by decide +kernel
theorem dX5_kind_115 : decode cX5_kind 115 = .ok (.ireturn, 1) := by decide +kernel
theorem dX5_taken_0 : decode cX5_taken 0 = .ok (.aload_n 0, 1) := by decide +kernel
theorem dX5_taken_1 : decode cX5_taken 1 = .ok (.getfield 25, 3) := by decide +kernel
theorem dX5_taken_4 : decode cX5_taken 4 = .ok (.iload_n 1, 1) := by decide +kernel
theorem dX5_taken_5 : decode cX5_taken 5 = .ok (.iload_n 2, 1) := by decide +kernel
theorem dX5_taken_6 : decode cX5_taken 6 = .ok (.invokevirtual 129, 3) := by decide +kernel
theorem dX5_taken_9 : decode cX5_taken 9 = .ok (.istore 5, 2) := by decide +kernel
theorem dX5_taken_11 : decode cX5_taken 11 = .ok (.iload 5, 2) := by decide +kernel
theorem dX5_taken_13 : decode cX5_taken 13 = .ok (.iconst (-1), 1) := by decide +kernel
theorem dX5_taken_14 : decode cX5_taken 14 = .ok (.if_icmp .ne 5, 3) := by decide +kernel
theorem dX5_taken_17 : decode cX5_taken 17 = .ok (.iconst (-1), 1) := by decide +kernel
theorem dX5_taken_18 : decode cX5_taken 18 = .ok (.ireturn, 1) := by decide +kernel
theorem dX5_taken_19 : decode cX5_taken 19 = .ok (.iload_n 3, 1) := by decide +kernel
theorem dX5_taken_20 : decode cX5_taken 20 = .ok (.ifCond .lt 19, 3) := by decide +kernel
theorem dX5_taken_23 : decode cX5_taken 23 = .ok (.iload_n 3, 1) := by decide +kernel
theorem dX5_taken_24 : decode cX5_taken 24 = .ok (.iconst 4, 1) := by decide +kernel
theorem dX5_taken_25 : decode cX5_taken 25 = .ok (.if_icmp .gt 14, 3) := by decide +kernel
theorem dX5_taken_28 : decode cX5_taken 28 = .ok (.iload 4, 2) := by decide +kernel
theorem dX5_taken_30 : decode cX5_taken 30 = .ok (.ifCond .lt 9, 3) := by decide +kernel
theorem dX5_taken_33 : decode cX5_taken 33 = .ok (.iload 4, 2) := by decide +kernel
theorem dX5_taken_35 : decode cX5_taken 35 = .ok (.iconst 1, 1) := by decide +kernel
theorem dX5_taken_36 : decode cX5_taken 36 = .ok (.if_icmp .le 6, 3) := by decide +kernel
theorem dX5_taken_39 : decode cX5_taken 39 = .ok (.bipush (-2), 2) := by decide +kernel
theorem dX5_taken_41 : decode cX5_taken 41 = .ok (.ireturn, 1) := by decide +kernel
theorem dX5_taken_42 : decode cX5_taken 42 = .ok (.aload_n 0, 1) := by decide +kernel
theorem dX5_taken_43 : decode cX5_taken 43 = .ok (.getfield 25, 3) := by decide +kernel
theorem dX5_taken_46 : decode cX5_taken 46 = .ok (.getfield 136, 3) := by decide +kernel
theorem dX5_taken_49 : decode cX5_taken 49 = .ok (.iload 5, 2) := by decide +kernel
theorem dX5_taken_51 : decode cX5_taken 51 = .ok (.iaload, 1) := by decide +kernel
theorem dX5_taken_52 : decode cX5_taken 52 = .ok (.iload_n 3, 1) := by decide +kernel
theorem dX5_taken_53 : decode cX5_taken 53 = .ok (.invokestatic 143, 3) := by decide +kernel
theorem dX5_taken_56 : decode cX5_taken 56 = .ok (.ifCond .ne 9, 3) := by decide +kernel
theorem dX5_taken_59 : decode cX5_taken 59 = .ok (.aload_n 0, 1) := by decide +kernel
theorem dX5_taken_60 : decode cX5_taken 60 = .ok (.iconst 3, 1) := by decide +kernel
theorem dX5_taken_61 : decode cX5_taken 61 = .ok (.invokevirtual 64, 3) := by decide +kernel
theorem dX5_taken_64 : decode cX5_taken 64 = .ok (.ireturn, 1) := by decide +kernel
theorem dX5_taken_65 : decode cX5_taken 65 = .ok (.iload 4, 2) := by decide +kernel
theorem dX5_taken_67 : decode cX5_taken 67 = .ok (.ifCond .ne 16, 3) := by decide +kernel
theorem dX5_taken_70 : decode cX5_taken 70 = .ok (.aload_n 0, 1) := by decide +kernel
theorem dX5_taken_71 : decode cX5_taken 71 = .ok (.getfield 25, 3) := by decide +kernel
theorem dX5_taken_74 : decode cX5_taken 74 = .ok (.getfield 136, 3) := by decide +kernel
theorem dX5_taken_77 : decode cX5_taken 77 = .ok (.iload 5, 2) := by decide +kernel
theorem dX5_taken_79 : decode cX5_taken 79 = .ok (.iaload, 1) := by decide +kernel
theorem dX5_taken_80 : decode cX5_taken 80 = .ok (.goto 13, 3) := by decide +kernel
theorem dX5_taken_83 : decode cX5_taken 83 = .ok (.aload_n 0, 1) := by decide +kernel
theorem dX5_taken_84 : decode cX5_taken 84 = .ok (.getfield 25, 3) := by decide +kernel
theorem dX5_taken_87 : decode cX5_taken 87 = .ok (.getfield 140, 3) := by decide +kernel
theorem dX5_taken_90 : decode cX5_taken 90 = .ok (.iload 5, 2) := by decide +kernel
theorem dX5_taken_92 : decode cX5_taken 92 = .ok (.iaload, 1) := by decide +kernel
theorem dX5_taken_93 : decode cX5_taken 93 = .ok (.ireturn, 1) := by decide +kernel
theorem dX5_tell_0 : decode cX5_tell 0 = .ok (.iload_n 2, 1) := by decide +kernel
theorem dX5_tell_1 : decode cX5_tell 1 = .ok (.ifCond .lt 19, 3) := by decide +kernel
theorem dX5_tell_4 : decode cX5_tell 4 = .ok (.iload_n 2, 1) := by decide +kernel
theorem dX5_tell_5 : decode cX5_tell 5 = .ok (.bipush 10, 2) := by decide +kernel
theorem dX5_tell_7 : decode cX5_tell 7 = .ok (.if_icmp .ge 13, 3) := by decide +kernel
theorem dX5_tell_10 : decode cX5_tell 10 = .ok (.iload_n 3, 1) := by decide +kernel
theorem dX5_tell_11 : decode cX5_tell 11 = .ok (.ifCond .lt 9, 3) := by decide +kernel
theorem dX5_tell_14 : decode cX5_tell 14 = .ok (.iload_n 3, 1) := by decide +kernel
theorem dX5_tell_15 : decode cX5_tell 15 = .ok (.ldc 146, 2) := by decide +kernel
theorem dX5_tell_17 : decode cX5_tell 17 = .ok (.if_icmp .le 6, 3) := by decide +kernel
theorem dX5_tell_20 : decode cX5_tell 20 = .ok (.bipush (-2), 2) := by decide +kernel
theorem dX5_tell_22 : decode cX5_tell 22 = .ok (.ireturn, 1) := by decide +kernel
theorem dX5_tell_23 : decode cX5_tell 23 = .ok (.iload_n 1, 1) := by decide +kernel
theorem dX5_tell_24 : decode cX5_tell 24 = .ok (.ifCond .eq 13, 3) := by decide +kernel
theorem dX5_tell_27 : decode cX5_tell 27 = .ok (.aload_n 0, 1) := by decide +kernel
theorem dX5_tell_28 : decode cX5_tell 28 = .ok (.getfield 18, 3) := by decide +kernel
theorem dX5_tell_31 : decode cX5_tell 31 = .ok (.getfield 147, 3) := by decide +kernel
theorem dX5_tell_34 : decode cX5_tell 34 = .ok (.goto 10, 3) := by decide +kernel
theorem dX5_tell_37 : decode cX5_tell 37 = .ok (.aload_n 0, 1) := by decide +kernel
theorem dX5_tell_38 : decode cX5_tell 38 = .ok (.getfield 18, 3) := by decide +kernel
theorem dX5_tell_41 : decode cX5_tell 41 = .ok (.getfield 150, 3) := by decide +kernel
theorem dX5_tell_44 : decode cX5_tell 44 = .ok (.astore 4, 2) := by decide +kernel
theorem dX5_tell_46 : decode cX5_tell 46 = .ok (.aload 4, 2) := by decide +kernel
theorem dX5_tell_48 : decode cX5_tell 48 = .ok (.iload_n 2, 1) := by decide +kernel
theorem dX5_tell_49 : decode cX5_tell 49 = .ok (.iaload, 1) := by decide +kernel
theorem dX5_tell_50 : decode cX5_tell 50 = .ok (.istore 5, 2) := by decide +kernel
theorem dX5_tell_52 : decode cX5_tell 52 = .ok (.aload 4, 2) := by decide +kernel
theorem dX5_tell_54 : decode cX5_tell 54 = .ok (.iload_n 2, 1) := by decide +kernel
theorem dX5_tell_55 : decode cX5_tell 55 = .ok (.iload_n 3, 1) := by decide +kernel
theorem dX5_tell_56 : decode cX5_tell 56 = .ok (.iastore, 1) := by decide +kernel
theorem dX5_tell_57 : decode cX5_tell 57 = .ok (.iload 5, 2) := by decide +kernel
theorem dX5_tell_59 : decode cX5_tell 59 = .ok (.ireturn, 1) := by decide +kernel
theorem dX5_rule_0 : decode cX5_rule 0 = .ok (.iload_n 1, 1) := by decide +kernel
theorem dX5_rule_1 : decode cX5_rule 1 = .ok (.invokestatic 133, 3) := by decide +kernel
theorem dX5_rule_4 : decode cX5_rule 4 = .ok (.ifCond .eq 14, 3) := by decide +kernel
theorem dX5_rule_7 : decode cX5_rule 7 = .ok (.iload_n 2, 1) := by decide +kernel
theorem dX5_rule_8 : decode cX5_rule 8 = .ok (.iconst 1, 1) := by decide +kernel
theorem dX5_rule_9 : decode cX5_rule 9 = .ok (.if_icmp .lt 9, 3) := by decide +kernel
theorem dX5_rule_12 : decode cX5_rule 12 = .ok (.iload_n 2, 1) := by decide +kernel
theorem dX5_rule_13 : decode cX5_rule 13 = .ok (.ldc 153, 2) := by decide +kernel
theorem dX5_rule_15 : decode cX5_rule 15 = .ok (.if_icmp .le 6, 3) := by decide +kernel
theorem dX5_rule_18 : decode cX5_rule 18 = .ok (.bipush (-2), 2) := by decide +kernel
theorem dX5_rule_20 : decode cX5_rule 20 = .ok (.ireturn, 1) := by decide +kernel
theorem dX5_rule_21 : decode cX5_rule 21 = .ok (.aload_n 0, 1) := by decide +kernel
theorem dX5_rule_22 : decode cX5_rule 22 = .ok (.getfield 18, 3) := by decide +kernel
theorem dX5_rule_25 : decode cX5_rule 25 = .ok (.getfield 154, 3) := by decide +kernel
theorem dX5_rule_28 : decode cX5_rule 28 = .ok (.istore_n 3, 1) := by decide +kernel
theorem dX5_rule_29 : decode cX5_rule 29 = .ok (.aload_n 0, 1) := by decide +kernel
theorem dX5_rule_30 : decode cX5_rule 30 = .ok (.getfield 18, 3) := by decide +kernel
theorem dX5_rule_33 : decode cX5_rule 33 = .ok (.iload_n 1, 1) := by decide +kernel
theorem dX5_rule_34 : decode cX5_rule 34 = .ok (.putfield 157, 3) := by decide +kernel
theorem dX5_rule_37 : decode cX5_rule 37 = .ok (.aload_n 0, 1) := by decide +kernel
theorem dX5_rule_38 : decode cX5_rule 38 = .ok (.getfield 18, 3) := by decide +kernel
theorem dX5_rule_41 : decode cX5_rule 41 = .ok (.iload_n 2, 1) := by decide +kernel
theorem dX5_rule_42 : decode cX5_rule 42 = .ok (.putfield 154, 3) := by decide +kernel
theorem dX5_rule_45 : decode cX5_rule 45 = .ok (.iload_n 3, 1) := by decide +kernel
theorem dX5_rule_46 : decode cX5_rule 46 = .ok (.ireturn, 1) := by decide +kernel
theorem dX5_ice_0 : decode cX5_ice 0 = .ok (.aload_n 0, 1) := by decide +kernel
theorem dX5_ice_1 : decode cX5_ice 1 = .ok (.getfield 25, 3) := by decide +kernel
theorem dX5_ice_4 : decode cX5_ice 4 = .ok (.iload_n 1, 1) := by decide +kernel
theorem dX5_ice_5 : decode cX5_ice 5 = .ok (.iload_n 2, 1) := by decide +kernel
theorem dX5_ice_6 : decode cX5_ice 6 = .ok (.invokevirtual 129, 3) := by decide +kernel
theorem dX5_ice_9 : decode cX5_ice 9 = .ok (.istore 4, 2) := by decide +kernel
theorem dX5_ice_11 : decode cX5_ice 11 = .ok (.iload 4, 2) := by decide +kernel
theorem dX5_ice_13 : decode cX5_ice 13 = .ok (.iconst (-1), 1) := by decide +kernel
theorem dX5_ice_14 : decode cX5_ice 14 = .ok (.if_icmp .ne 7, 3) := by decide +kernel
theorem dX5_ice_17 : decode cX5_ice 17 = .ok (.ldc2_w 86, 3) := by decide +kernel
theorem dX5_ice_20 : decode cX5_ice 20 = .ok (.lreturn, 1) := by decide +kernel
theorem dX5_ice_21 : decode cX5_ice 21 = .ok (.iload_n 3, 1) := by decide +kernel
theorem dX5_ice_22 : decode cX5_ice 22 = .ok (.ifCond .lt 9, 3) := by decide +kernel
theorem dX5_ice_25 : decode cX5_ice 25 = .ok (.iload_n 3, 1) := by decide +kernel
theorem dX5_ice_26 : decode cX5_ice 26 = .ok (.ldc 153, 2) := by decide +kernel
theorem dX5_ice_28 : decode cX5_ice 28 = .ok (.if_icmp .le 7, 3) := by decide +kernel
theorem dX5_ice_31 : decode cX5_ice 31 = .ok (.ldc2_w 88, 3) := by decide +kernel
theorem dX5_ice_34 : decode cX5_ice 34 = .ok (.lreturn, 1) := by decide +kernel
theorem dX5_ice_35 : decode cX5_ice 35 = .ok (.aload_n 0, 1) := by decide +kernel
theorem dX5_ice_36 : decode cX5_ice 36 = .ok (.getfield 25, 3) := by decide +kernel
theorem dX5_ice_39 : decode cX5_ice 39 = .ok (.getfield 136, 3) := by decide +kernel
theorem dX5_ice_42 : decode cX5_ice 42 = .ok (.iload 4, 2) := by decide +kernel
theorem dX5_ice_44 : decode cX5_ice 44 = .ok (.iaload, 1) := by decide +kernel
theorem dX5_ice_45 : decode cX5_ice 45 = .ok (.iconst 4, 1) := by decide +kernel
theorem dX5_ice_46 : decode cX5_ice 46 = .ok (.if_icmp .eq 13, 3) := by decide +kernel
theorem dX5_ice_49 : decode cX5_ice 49 = .ok (.aload_n 0, 1) := by decide +kernel
theorem dX5_ice_50 : decode cX5_ice 50 = .ok (.getfield 32, 3) := by decide +kernel
theorem dX5_ice_53 : decode cX5_ice 53 = .ok (.getfield 160, 3) := by decide +kernel
theorem dX5_ice_56 : decode cX5_ice 56 = .ok (.ifCond .eq 7, 3) := by decide +kernel
theorem dX5_ice_59 : decode cX5_ice 59 = .ok (.ldc2_w 163, 3) := by decide +kernel
theorem dX5_ice_62 : decode cX5_ice 62 = .ok (.lreturn, 1) := by decide +kernel
theorem dX5_ice_63 : decode cX5_ice 63 = .ok (.aload_n 0, 1) := by decide +kernel
theorem dX5_ice_64 : decode cX5_ice 64 = .ok (.getfield 32, 3) := by decide +kernel
theorem dX5_ice_67 : decode cX5_ice 67 = .ok (.iload 4, 2) := by decide +kernel
theorem dX5_ice_69 : decode cX5_ice 69 = .ok (.iconst 0, 1) := by decide +kernel
theorem dX5_ice_70 : decode cX5_ice 70 = .ok (.iload_n 3, 1) := by decide +kernel
theorem dX5_ice_71 : decode cX5_ice 71 = .ok (.i2l, 1) := by decide +kernel
theorem dX5_ice_72 : decode cX5_ice 72 = .ok (.invokevirtual 165, 3) := by decide +kernel
theorem dX5_ice_75 : decode cX5_ice 75 = .ok (.aload_n 0, 1) := by decide +kernel
theorem dX5_ice_76 : decode cX5_ice 76 = .ok (.getfield 32, 3) := by decide +kernel
theorem dX5_ice_79 : decode cX5_ice 79 = .ok (.getfield 168, 3) := by decide +kernel
theorem dX5_ice_82 : decode cX5_ice 82 = .ok (.iload 4, 2) := by decide +kernel
theorem dX5_ice_84 : decode cX5_ice 84 = .ok (.laload, 1) := by decide +kernel
theorem dX5_ice_85 : decode cX5_ice 85 = .ok (.lreturn, 1) := by decide +kernel
theorem dX5_years_0 : decode cX5_years 0 = .ok (.aload_n 0, 1) := by decide +kernel
theorem dX5_years_1 : decode cX5_years 1 = .ok (.iload_n 1, 1) := by decide +kernel
theorem dX5_years_2 : decode cX5_years 2 = .ok (.invokevirtual 171, 3) := by decide +kernel
theorem dX5_years_5 : decode cX5_years 5 = .ok (.istore_n 2, 1) := by decide +kernel
theorem dX5_years_6 : decode cX5_years 6 = .ok (.iload_n 2, 1) := by decide +kernel
theorem dX5_years_7 : decode cX5_years 7 = .ok (.ifCond .eq 5, 3) := by decide +kernel
theorem dX5_years_10 : decode cX5_years 10 = .ok (.iload_n 2, 1) := by decide +kernel
theorem dX5_years_11 : decode cX5_years 11 = .ok (.ireturn, 1) := by decide +kernel
theorem dX5_years_12 : decode cX5_years 12 = .ok (.iconst 0, 1) := by decide +kernel
theorem dX5_years_13 : decode cX5_years 13 = .ok (.istore_n 3, 1) := by decide +kernel
theorem dX5_years_14 : decode cX5_years 14 = .ok (.iload_n 3, 1) := by decide +kernel
theorem dX5_years_15 : decode cX5_years 15 = .ok (.iload_n 1, 1) := by decide +kernel
theorem dX5_years_16 : decode cX5_years 16 = .ok (.if_icmp .ge 13, 3) := by decide +kernel
theorem dX5_years_19 : decode cX5_years 19 = .ok (.aload_n 0, 1) := by decide +kernel
theorem dX5_years_20 : decode cX5_years 20 = .ok (.invokevirtual 174, 3) := by decide +kernel
theorem dX5_years_23 : decode cX5_years 23 = .ok (.iinc 3 1, 3) := by decide +kernel
theorem dX5_years_26 : decode cX5_years 26 = .ok (.goto (-12), 3) := by decide +kernel
theorem dX5_years_29 : decode cX5_years 29 = .ok (.aload_n 0, 1) := by decide +kernel
theorem dX5_years_30 : decode cX5_years 30 = .ok (.getfield 32, 3) := by decide +kernel
theorem dX5_years_33 : decode cX5_years 33 = .ok (.getfield 160, 3) := by decide +kernel
theorem dX5_years_36 : decode cX5_years 36 = .ok (.ireturn, 1) := by decide +kernel
theorem dX5_back_0 : decode cX5_back 0 = .ok (.aload_n 0, 1) := by decide +kernel
theorem dX5_back_1 : decode cX5_back 1 = .ok (.getfield 39, 3) := by decide +kernel
theorem dX5_back_4 : decode cX5_back 4 = .ok (.getfield 177, 3) := by decide +kernel
theorem dX5_back_7 : decode cX5_back 7 = .ok (.ifCond .ne 6, 3) := by decide +kernel
theorem dX5_back_10 : decode cX5_back 10 = .ok (.bipush (-3), 2) := by decide +kernel
theorem dX5_back_12 : decode cX5_back 12 = .ok (.ireturn, 1) := by decide +kernel
theorem dX5_back_13 : decode cX5_back 13 = .ok (.aload_n 0, 1) := by decide +kernel
theorem dX5_back_14 : decode cX5_back 14 = .ok (.getfield 39, 3) := by decide +kernel
theorem dX5_back_17 : decode cX5_back 17 = .ok (.aload_n 0, 1) := by decide +kernel
theorem dX5_back_18 : decode cX5_back 18 = .ok (.getfield 32, 3) := by decide +kernel
theorem dX5_back_21 : decode cX5_back 21 = .ok (.invokevirtual 180, 3) := by decide +kernel
theorem dX5_back_24 : decode cX5_back 24 = .ok (.aload_n 0, 1) := by decide +kernel
theorem dX5_back_25 : decode cX5_back 25 = .ok (.getfield 32, 3) := by decide +kernel
theorem dX5_back_28 : decode cX5_back 28 = .ok (.getfield 160, 3) := by decide +kernel
theorem dX5_back_31 : decode cX5_back 31 = .ok (.ireturn, 1) := by decide +kernel
theorem dX5_steady_0 : decode cX5_steady 0 = .ok (.aload_n 0, 1) := by decide +kernel
theorem dX5_steady_1 : decode cX5_steady 1 = .ok (.iload_n 1, 1) := by decide +kernel
theorem dX5_steady_2 : decode cX5_steady 2 = .ok (.invokevirtual 171, 3) := by decide +kernel
theorem dX5_steady_5 : decode cX5_steady 5 = .ok (.istore_n 2, 1) := by decide +kernel
theorem dX5_steady_6 : decode cX5_steady 6 = .ok (.iload_n 2, 1) := by decide +kernel
theorem dX5_steady_7 : decode cX5_steady 7 = .ok (.ifCond .eq 5, 3) := by decide +kernel
theorem dX5_steady_10 : decode cX5_steady 10 = .ok (.iload_n 2, 1) := by decide +kernel
theorem dX5_steady_11 : decode cX5_steady 11 = .ok (.ireturn, 1) := by decide +kernel
theorem dX5_steady_12 : decode cX5_steady 12 = .ok (.aload_n 0, 1) := by decide +kernel
theorem dX5_steady_13 : decode cX5_steady 13 = .ok (.iconst 0, 1) := by decide +kernel
theorem dX5_steady_14 : decode cX5_steady 14 = .ok (.invokevirtual 184, 3) := by decide +kernel
theorem dX5_steady_17 : decode cX5_steady 17 = .ok (.iconst 1, 1) := by decide +kernel
theorem dX5_steady_18 : decode cX5_steady 18 = .ok (.istore_n 3, 1) := by decide +kernel
theorem dX5_steady_19 : decode cX5_steady 19 = .ok (.iload_n 3, 1) := by decide +kernel
theorem dX5_steady_20 : decode cX5_steady 20 = .ok (.iload_n 1, 1) := by decide +kernel
theorem dX5_steady_21 : decode cX5_steady 21 = .ok (.if_icmp .gt 33, 3) := by decide +kernel
theorem dX5_steady_24 : decode cX5_steady 24 = .ok (.aload_n 0, 1) := by decide +kernel
theorem dX5_steady_25 : decode cX5_steady 25 = .ok (.invokevirtual 174, 3) := by decide +kernel
theorem dX5_steady_28 : decode cX5_steady 28 = .ok (.aload_n 0, 1) := by decide +kernel
theorem dX5_steady_29 : decode cX5_steady 29 = .ok (.iload_n 3, 1) := by decide +kernel
theorem dX5_steady_30 : decode cX5_steady 30 = .ok (.invokevirtual 188, 3) := by decide +kernel
theorem dX5_steady_33 : decode cX5_steady 33 = .ok (.istore 4, 2) := by decide +kernel
theorem dX5_steady_35 : decode cX5_steady 35 = .ok (.iload 4, 2) := by decide +kernel
theorem dX5_steady_37 : decode cX5_steady 37 = .ok (.ifCond .le 6, 3) := by decide +kernel
theorem dX5_steady_40 : decode cX5_steady 40 = .ok (.iload 4, 2) := by decide +kernel
theorem dX5_steady_42 : decode cX5_steady 42 = .ok (.ireturn, 1) := by decide +kernel
theorem dX5_steady_43 : decode cX5_steady 43 = .ok (.aload_n 0, 1) := by decide +kernel
theorem dX5_steady_44 : decode cX5_steady 44 = .ok (.iload_n 3, 1) := by decide +kernel
theorem dX5_steady_45 : decode cX5_steady 45 = .ok (.invokevirtual 184, 3) := by decide +kernel
theorem dX5_steady_48 : decode cX5_steady 48 = .ok (.iinc 3 1, 3) := by decide +kernel
theorem dX5_steady_51 : decode cX5_steady 51 = .ok (.goto (-32), 3) := by decide +kernel
theorem dX5_steady_54 : decode cX5_steady 54 = .ok (.iconst 0, 1) := by decide +kernel
theorem dX5_steady_55 : decode cX5_steady 55 = .ok (.ireturn, 1) := by decide +kernel
theorem dX5_cell_0 : decode cX5_cell 0 = .ok (.aload_n 0, 1) := by decide +kernel
theorem dX5_cell_1 : decode cX5_cell 1 = .ok (.getfield 25, 3) := by decide +kernel
theorem dX5_cell_4 : decode cX5_cell 4 = .ok (.iload_n 1, 1) := by decide +kernel
theorem dX5_cell_5 : decode cX5_cell 5 = .ok (.iload_n 2, 1) := by decide +kernel
theorem dX5_cell_6 : decode cX5_cell 6 = .ok (.invokevirtual 129, 3) := by decide +kernel
theorem dX5_cell_9 : decode cX5_cell 9 = .ok (.istore 4, 2) := by decide +kernel
theorem dX5_cell_11 : decode cX5_cell 11 = .ok (.iload 4, 2) := by decide +kernel
theorem dX5_cell_13 : decode cX5_cell 13 = .ok (.iconst (-1), 1) := by decide +kernel
theorem dX5_cell_14 : decode cX5_cell 14 = .ok (.if_icmp .ne 7, 3) := by decide +kernel
theorem dX5_cell_17 : decode cX5_cell 17 = .ok (.ldc2_w 86, 3) := by decide +kernel
theorem dX5_cell_20 : decode cX5_cell 20 = .ok (.lreturn, 1) := by decide +kernel
theorem dX5_cell_21 : decode cX5_cell 21 = .ok (.iload_n 3, 1) := by decide +kernel
theorem dX5_cell_22 : decode cX5_cell 22 = .ok (.ifCond .lt 9, 3) := by decide +kernel
theorem dX5_cell_25 : decode cX5_cell 25 = .ok (.iload_n 3, 1) := by decide +kernel
theorem dX5_cell_26 : decode cX5_cell 26 = .ok (.bipush 6, 2) := by decide +kernel
theorem dX5_cell_28 : decode cX5_cell 28 = .ok (.if_icmp .le 7, 3) := by decide +kernel
theorem dX5_cell_31 : decode cX5_cell 31 = .ok (.ldc2_w 88, 3) := by decide +kernel
theorem dX5_cell_34 : decode cX5_cell 34 = .ok (.lreturn, 1) := by decide +kernel
theorem dX5_cell_35 : decode cX5_cell 35 = .ok (.aload_n 0, 1) := by decide +kernel
theorem dX5_cell_36 : decode cX5_cell 36 = .ok (.getfield 25, 3) := by decide +kernel
theorem dX5_cell_39 : decode cX5_cell 39 = .ok (.getfield 136, 3) := by decide +kernel
theorem dX5_cell_42 : decode cX5_cell 42 = .ok (.iload 4, 2) := by decide +kernel
theorem dX5_cell_44 : decode cX5_cell 44 = .ok (.iaload, 1) := by decide +kernel
theorem dX5_cell_45 : decode cX5_cell 45 = .ok (.iconst 4, 1) := by decide +kernel
theorem dX5_cell_46 : decode cX5_cell 46 = .ok (.if_icmp .ne 7, 3) := by decide +kernel
theorem dX5_cell_49 : decode cX5_cell 49 = .ok (.ldc2_w 163, 3) := by decide +kernel
theorem dX5_cell_52 : decode cX5_cell 52 = .ok (.lreturn, 1) := by decide +kernel
theorem dX5_cell_53 : decode cX5_cell 53 = .ok (.iload_n 3, 1) := by decide +kernel
theorem dX5_cell_54 : decode cX5_cell 54 = .ok (.tableswitch 113 0 5 #[38, 50, 61, 68, 79, 91], 38) := by decide +kernel
theorem dX5_cell_92 : decode cX5_cell 92 = .ok (.aload_n 0, 1) := by decide +kernel
theorem dX5_cell_93 : decode cX5_cell 93 = .ok (.getfield 25, 3) := by decide +kernel
theorem dX5_cell_96 : decode cX5_cell 96 = .ok (.getfield 191, 3) := by decide +kernel
theorem dX5_cell_99 : decode cX5_cell 99 = .ok (.iload 4, 2) := by decide +kernel
theorem dX5_cell_101 : decode cX5_cell 101 = .ok (.iaload, 1) := by decide +kernel
theorem dX5_cell_102 : decode cX5_cell 102 = .ok (.i2l, 1) := by decide +kernel
theorem dX5_cell_103 : decode cX5_cell 103 = .ok (.lreturn, 1) := by decide +kernel
theorem dX5_cell_104 : decode cX5_cell 104 = .ok (.aload_n 0, 1) := by decide +kernel
theorem dX5_cell_105 : decode cX5_cell 105 = .ok (.getfield 32, 3) := by decide +kernel
theorem dX5_cell_108 : decode cX5_cell 108 = .ok (.getfield 168, 3) := by decide +kernel
theorem dX5_cell_111 : decode cX5_cell 111 = .ok (.iload 4, 2) := by decide +kernel
theorem dX5_cell_113 : decode cX5_cell 113 = .ok (.laload, 1) := by decide +kernel
theorem dX5_cell_114 : decode cX5_cell 114 = .ok (.lreturn, 1) := by decide +kernel
theorem dX5_cell_115 : decode cX5_cell 115 = .ok (.aload_n 0, 1) := by decide +kernel
theorem dX5_cell_116 : decode cX5_cell 116 = .ok (.iload 4, 2) := by decide +kernel
theorem dX5_cell_118 : decode cX5_cell 118 = .ok (.invokevirtual 194, 3) := by decide +kernel
theorem dX5_cell_121 : decode cX5_cell 121 = .ok (.lreturn, 1) := by decide +kernel
theorem dX5_cell_122 : decode cX5_cell 122 = .ok (.aload_n 0, 1) := by decide +kernel
theorem dX5_cell_123 : decode cX5_cell 123 = .ok (.getfield 32, 3) := by decide +kernel
theorem dX5_cell_126 : decode cX5_cell 126 = .ok (.iload 4, 2) := by decide +kernel
theorem dX5_cell_128 : decode cX5_cell 128 = .ok (.invokevirtual 198, 3) := by decide +kernel
theorem dX5_cell_131 : decode cX5_cell 131 = .ok (.i2l, 1) := by decide +kernel
theorem dX5_cell_132 : decode cX5_cell 132 = .ok (.lreturn, 1) := by decide +kernel
theorem dX5_cell_133 : decode cX5_cell 133 = .ok (.aload_n 0, 1) := by decide +kernel
theorem dX5_cell_134 : decode cX5_cell 134 = .ok (.getfield 32, 3) := by decide +kernel
theorem dX5_cell_137 : decode cX5_cell 137 = .ok (.iload 4, 2) := by decide +kernel
theorem dX5_cell_139 : decode cX5_cell 139 = .ok (.iconst 0, 1) := by decide +kernel
theorem dX5_cell_140 : decode cX5_cell 140 = .ok (.invokevirtual 201, 3) := by decide +kernel
theorem dX5_cell_143 : decode cX5_cell 143 = .ok (.i2l, 1) := by decide +kernel
theorem dX5_cell_144 : decode cX5_cell 144 = .ok (.lreturn, 1) := by decide +kernel
theorem dX5_cell_145 : decode cX5_cell 145 = .ok (.aload_n 0, 1) := by decide +kernel
end
section
theorem dX5_cell_146 : decode cX5_cell 146 = .ok (.getfield 32, 3) := by decide +kernel
theorem dX5_cell_149 : decode cX5_cell 149 = .ok (.iload 4, 2) := by decide +kernel
theorem dX5_cell_151 : decode cX5_cell 151 = .ok (.aload_n 0, 1) := by decide +kernel
theorem dX5_cell_152 : decode cX5_cell 152 = .ok (.getfield 32, 3) := by decide +kernel
theorem dX5_cell_155 : decode cX5_cell 155 = .ok (.iload 4, 2) := by decide +kernel
theorem dX5_cell_157 : decode cX5_cell 157 = .ok (.invokevirtual 198, 3) := by decide +kernel
theorem dX5_cell_160 : decode cX5_cell 160 = .ok (.iconst 1, 1) := by decide +kernel
theorem dX5_cell_161 : decode cX5_cell 161 = .ok (.isub, 1) := by decide +kernel
theorem dX5_cell_162 : decode cX5_cell 162 = .ok (.invokevirtual 201, 3) := by decide +kernel
theorem dX5_cell_165 : decode cX5_cell 165 = .ok (.i2l, 1) := by decide +kernel
theorem dX5_cell_166 : decode cX5_cell 166 = .ok (.lreturn, 1) := by decide +kernel
theorem dX5_cell_167 : decode cX5_cell 167 = .ok (.aload_n 0, 1) := by decide +kernel
theorem dX5_cell_168 : decode cX5_cell 168 = .ok (.getfield 25, 3) := by decide +kernel
theorem dX5_cell_171 : decode cX5_cell 171 = .ok (.iload 4, 2) := by decide +kernel
theorem dX5_cell_173 : decode cX5_cell 173 = .ok (.invokevirtual 204, 3) := by decide +kernel
theorem dX5_cell_176 : decode cX5_cell 176 = .ok (.i2l, 1) := by decide +kernel
theorem dX5_cell_177 : decode cX5_cell 177 = .ok (.lreturn, 1) := by decide +kernel
theorem dX5_layer_0 : decode cX5_layer 0 = .ok (.aload_n 0, 1) := by decide +kernel
theorem dX5_layer_1 : decode cX5_layer 1 = .ok (.getfield 25, 3) := by decide +kernel
theorem dX5_layer_4 : decode cX5_layer 4 = .ok (.iload_n 1, 1) := by decide +kernel
theorem dX5_layer_5 : decode cX5_layer 5 = .ok (.iload_n 2, 1) := by decide +kernel
theorem dX5_layer_6 : decode cX5_layer 6 = .ok (.invokevirtual 129, 3) := by decide +kernel
theorem dX5_layer_9 : decode cX5_layer 9 = .ok (.istore 5, 2) := by decide +kernel
theorem dX5_layer_11 : decode cX5_layer 11 = .ok (.iload 5, 2) := by decide +kernel
theorem dX5_layer_13 : decode cX5_layer 13 = .ok (.iconst (-1), 1) := by decide +kernel
theorem dX5_layer_14 : decode cX5_layer 14 = .ok (.if_icmp .ne 7, 3) := by decide +kernel
theorem dX5_layer_17 : decode cX5_layer 17 = .ok (.ldc2_w 86, 3) := by decide +kernel
theorem dX5_layer_20 : decode cX5_layer 20 = .ok (.lreturn, 1) := by decide +kernel
theorem dX5_layer_21 : decode cX5_layer 21 = .ok (.iload 4, 2) := by decide +kernel
theorem dX5_layer_23 : decode cX5_layer 23 = .ok (.ifCond .lt 9, 3) := by decide +kernel
theorem dX5_layer_26 : decode cX5_layer 26 = .ok (.iload 4, 2) := by decide +kernel
theorem dX5_layer_28 : decode cX5_layer 28 = .ok (.iconst 1, 1) := by decide +kernel
theorem dX5_layer_29 : decode cX5_layer 29 = .ok (.if_icmp .le 7, 3) := by decide +kernel
theorem dX5_layer_32 : decode cX5_layer 32 = .ok (.ldc2_w 88, 3) := by decide +kernel
theorem dX5_layer_35 : decode cX5_layer 35 = .ok (.lreturn, 1) := by decide +kernel
theorem dX5_layer_36 : decode cX5_layer 36 = .ok (.aload_n 0, 1) := by decide +kernel
theorem dX5_layer_37 : decode cX5_layer 37 = .ok (.getfield 25, 3) := by decide +kernel
theorem dX5_layer_40 : decode cX5_layer 40 = .ok (.getfield 136, 3) := by decide +kernel
theorem dX5_layer_43 : decode cX5_layer 43 = .ok (.iload 5, 2) := by decide +kernel
theorem dX5_layer_45 : decode cX5_layer 45 = .ok (.iaload, 1) := by decide +kernel
theorem dX5_layer_46 : decode cX5_layer 46 = .ok (.iconst 4, 1) := by decide +kernel
theorem dX5_layer_47 : decode cX5_layer 47 = .ok (.if_icmp .ne 7, 3) := by decide +kernel
theorem dX5_layer_50 : decode cX5_layer 50 = .ok (.ldc2_w 163, 3) := by decide +kernel
theorem dX5_layer_53 : decode cX5_layer 53 = .ok (.lreturn, 1) := by decide +kernel
theorem dX5_layer_54 : decode cX5_layer 54 = .ok (.aload_n 0, 1) := by decide +kernel
theorem dX5_layer_55 : decode cX5_layer 55 = .ok (.getfield 32, 3) := by decide +kernel
theorem dX5_layer_58 : decode cX5_layer 58 = .ok (.iload 5, 2) := by decide +kernel
theorem dX5_layer_60 : decode cX5_layer 60 = .ok (.iload_n 3, 1) := by decide +kernel
theorem dX5_layer_61 : decode cX5_layer 61 = .ok (.invokevirtual 201, 3) := by decide +kernel
theorem dX5_layer_64 : decode cX5_layer 64 = .ok (.istore 6, 2) := by decide +kernel
theorem dX5_layer_66 : decode cX5_layer 66 = .ok (.iload 6, 2) := by decide +kernel
theorem dX5_layer_68 : decode cX5_layer 68 = .ok (.bipush (-9), 2) := by decide +kernel
theorem dX5_layer_70 : decode cX5_layer 70 = .ok (.if_icmp .eq 8, 3) := by decide +kernel
theorem dX5_layer_73 : decode cX5_layer 73 = .ok (.iload 4, 2) := by decide +kernel
theorem dX5_layer_75 : decode cX5_layer 75 = .ok (.ifCond .ne 7, 3) := by decide +kernel
theorem dX5_layer_78 : decode cX5_layer 78 = .ok (.iload 6, 2) := by decide +kernel
theorem dX5_layer_80 : decode cX5_layer 80 = .ok (.i2l, 1) := by decide +kernel
theorem dX5_layer_81 : decode cX5_layer 81 = .ok (.lreturn, 1) := by decide +kernel
theorem dX5_layer_82 : decode cX5_layer 82 = .ok (.aload_n 0, 1) := by decide +kernel
theorem dX5_layer_83 : decode cX5_layer 83 = .ok (.getfield 32, 3) := by decide +kernel
theorem dX5_layer_86 : decode cX5_layer 86 = .ok (.getfield 207, 3) := by decide +kernel
theorem dX5_layer_89 : decode cX5_layer 89 = .ok (.iload 5, 2) := by decide +kernel
theorem dX5_layer_91 : decode cX5_layer 91 = .ok (.bipush 61, 2) := by decide +kernel
theorem dX5_layer_93 : decode cX5_layer 93 = .ok (.imul, 1) := by decide +kernel
theorem dX5_layer_94 : decode cX5_layer 94 = .ok (.iload 6, 2) := by decide +kernel
theorem dX5_layer_96 : decode cX5_layer 96 = .ok (.iadd, 1) := by decide +kernel
theorem dX5_layer_97 : decode cX5_layer 97 = .ok (.laload, 1) := by decide +kernel
theorem dX5_layer_98 : decode cX5_layer 98 = .ok (.lreturn, 1) := by decide +kernel
theorem dX5_sum_0 : decode cX5_sum 0 = .ok (.iload_n 1, 1) := by decide +kernel
theorem dX5_sum_1 : decode cX5_sum 1 = .ok (.ifCond .lt 8, 3) := by decide +kernel
theorem dX5_sum_4 : decode cX5_sum 4 = .ok (.iload_n 1, 1) := by decide +kernel
theorem dX5_sum_5 : decode cX5_sum 5 = .ok (.iconst 4, 1) := by decide +kernel
theorem dX5_sum_6 : decode cX5_sum 6 = .ok (.if_icmp .le 7, 3) := by decide +kernel
theorem dX5_sum_9 : decode cX5_sum 9 = .ok (.ldc2_w 88, 3) := by decide +kernel
theorem dX5_sum_12 : decode cX5_sum 12 = .ok (.lreturn, 1) := by decide +kernel
theorem dX5_sum_13 : decode cX5_sum 13 = .ok (.iload_n 2, 1) := by decide +kernel
theorem dX5_sum_14 : decode cX5_sum 14 = .ok (.bipush (-9), 2) := by decide +kernel
theorem dX5_sum_16 : decode cX5_sum 16 = .ok (.if_icmp .eq 17, 3) := by decide +kernel
theorem dX5_sum_19 : decode cX5_sum 19 = .ok (.iload_n 2, 1) := by decide +kernel
theorem dX5_sum_20 : decode cX5_sum 20 = .ok (.ifCond .lt 9, 3) := by decide +kernel
theorem dX5_sum_23 : decode cX5_sum 23 = .ok (.iload_n 2, 1) := by decide +kernel
theorem dX5_sum_24 : decode cX5_sum 24 = .ok (.bipush 60, 2) := by decide +kernel
theorem dX5_sum_26 : decode cX5_sum 26 = .ok (.if_icmp .le 7, 3) := by decide +kernel
theorem dX5_sum_29 : decode cX5_sum 29 = .ok (.ldc2_w 88, 3) := by decide +kernel
theorem dX5_sum_32 : decode cX5_sum 32 = .ok (.lreturn, 1) := by decide +kernel
theorem dX5_sum_33 : decode cX5_sum 33 = .ok (.aload_n 0, 1) := by decide +kernel
theorem dX5_sum_34 : decode cX5_sum 34 = .ok (.getfield 25, 3) := by decide +kernel
theorem dX5_sum_37 : decode cX5_sum 37 = .ok (.invokevirtual 210, 3) := by decide +kernel
theorem dX5_sum_40 : decode cX5_sum 40 = .ok (.ifCond .ne 7, 3) := by decide +kernel
theorem dX5_sum_43 : decode cX5_sum 43 = .ok (.ldc2_w 163, 3) := by decide +kernel
theorem dX5_sum_46 : decode cX5_sum 46 = .ok (.lreturn, 1) := by decide +kernel
theorem dX5_sum_47 : decode cX5_sum 47 = .ok (.iload_n 2, 1) := by decide +kernel
theorem dX5_sum_48 : decode cX5_sum 48 = .ok (.bipush (-9), 2) := by decide +kernel
theorem dX5_sum_50 : decode cX5_sum 50 = .ok (.if_icmp .ne 14, 3) := by decide +kernel
theorem dX5_sum_53 : decode cX5_sum 53 = .ok (.aload_n 0, 1) := by decide +kernel
theorem dX5_sum_54 : decode cX5_sum 54 = .ok (.getfield 32, 3) := by decide +kernel
theorem dX5_sum_57 : decode cX5_sum 57 = .ok (.iload_n 1, 1) := by decide +kernel
theorem dX5_sum_58 : decode cX5_sum 58 = .ok (.invokevirtual 214, 3) := by decide +kernel
theorem dX5_sum_61 : decode cX5_sum 61 = .ok (.goto 17, 3) := by decide +kernel
theorem dX5_sum_64 : decode cX5_sum 64 = .ok (.aload_n 0, 1) := by decide +kernel
theorem dX5_sum_65 : decode cX5_sum 65 = .ok (.getfield 32, 3) := by decide +kernel
theorem dX5_sum_68 : decode cX5_sum 68 = .ok (.getfield 217, 3) := by decide +kernel
theorem dX5_sum_71 : decode cX5_sum 71 = .ok (.iload_n 1, 1) := by decide +kernel
theorem dX5_sum_72 : decode cX5_sum 72 = .ok (.bipush 61, 2) := by decide +kernel
theorem dX5_sum_74 : decode cX5_sum 74 = .ok (.imul, 1) := by decide +kernel
theorem dX5_sum_75 : decode cX5_sum 75 = .ok (.iload_n 2, 1) := by decide +kernel
theorem dX5_sum_76 : decode cX5_sum 76 = .ok (.iadd, 1) := by decide +kernel
theorem dX5_sum_77 : decode cX5_sum 77 = .ok (.laload, 1) := by decide +kernel
theorem dX5_sum_78 : decode cX5_sum 78 = .ok (.lreturn, 1) := by decide +kernel
theorem dX5_about_0 : decode cX5_about 0 = .ok (.iload_n 1, 1) := by decide +kernel
theorem dX5_about_1 : decode cX5_about 1 = .ok (.ifCond .lt 8, 3) := by decide +kernel
theorem dX5_about_4 : decode cX5_about 4 = .ok (.iload_n 1, 1) := by decide +kernel
theorem dX5_about_5 : decode cX5_about 5 = .ok (.iconst 4, 1) := by decide +kernel
theorem dX5_about_6 : decode cX5_about 6 = .ok (.if_icmp .le 7, 3) := by decide +kernel
theorem dX5_about_9 : decode cX5_about 9 = .ok (.ldc2_w 88, 3) := by decide +kernel
theorem dX5_about_12 : decode cX5_about 12 = .ok (.lreturn, 1) := by decide +kernel
theorem dX5_about_13 : decode cX5_about 13 = .ok (.aload_n 0, 1) := by decide +kernel
theorem dX5_about_14 : decode cX5_about 14 = .ok (.getfield 25, 3) := by decide +kernel
theorem dX5_about_17 : decode cX5_about 17 = .ok (.invokevirtual 210, 3) := by decide +kernel
theorem dX5_about_20 : decode cX5_about 20 = .ok (.ifCond .ne 7, 3) := by decide +kernel
theorem dX5_about_23 : decode cX5_about 23 = .ok (.ldc2_w 163, 3) := by decide +kernel
theorem dX5_about_26 : decode cX5_about 26 = .ok (.lreturn, 1) := by decide +kernel
theorem dX5_about_27 : decode cX5_about 27 = .ok (.aload_n 0, 1) := by decide +kernel
theorem dX5_about_28 : decode cX5_about 28 = .ok (.invokevirtual 220, 3) := by decide +kernel
theorem dX5_about_31 : decode cX5_about 31 = .ok (.istore_n 2, 1) := by decide +kernel
theorem dX5_about_32 : decode cX5_about 32 = .ok (.iload_n 1, 1) := by decide +kernel
theorem dX5_about_33 : decode cX5_about 33 = .ok (.tableswitch 70 0 3 #[31, 37, 56, 61], 31) := by decide +kernel
theorem dX5_about_64 : decode cX5_about 64 = .ok (.aload_n 0, 1) := by decide +kernel
theorem dX5_about_65 : decode cX5_about 65 = .ok (.invokevirtual 223, 3) := by decide +kernel
theorem dX5_about_68 : decode cX5_about 68 = .ok (.i2l, 1) := by decide +kernel
theorem dX5_about_69 : decode cX5_about 69 = .ok (.lreturn, 1) := by decide +kernel
theorem dX5_about_70 : decode cX5_about 70 = .ok (.iload_n 2, 1) := by decide +kernel
theorem dX5_about_71 : decode cX5_about 71 = .ok (.iconst (-1), 1) := by decide +kernel
theorem dX5_about_72 : decode cX5_about 72 = .ok (.if_icmp .ne 7, 3) := by decide +kernel
theorem dX5_about_75 : decode cX5_about 75 = .ok (.lconst 0, 1) := by decide +kernel
theorem dX5_about_76 : decode cX5_about 76 = .ok (.goto 12, 3) := by decide +kernel
theorem dX5_about_79 : decode cX5_about 79 = .ok (.aload_n 0, 1) := by decide +kernel
theorem dX5_about_80 : decode cX5_about 80 = .ok (.getfield 32, 3) := by decide +kernel
theorem dX5_about_83 : decode cX5_about 83 = .ok (.getfield 168, 3) := by decide +kernel
theorem dX5_about_86 : decode cX5_about 86 = .ok (.iload_n 2, 1) := by decide +kernel
theorem dX5_about_87 : decode cX5_about 87 = .ok (.laload, 1) := by decide +kernel
theorem dX5_about_88 : decode cX5_about 88 = .ok (.lreturn, 1) := by decide +kernel
theorem dX5_about_89 : decode cX5_about 89 = .ok (.aload_n 0, 1) := by decide +kernel
theorem dX5_about_90 : decode cX5_about 90 = .ok (.invokevirtual 226, 3) := by decide +kernel
theorem dX5_about_93 : decode cX5_about 93 = .ok (.lreturn, 1) := by decide +kernel
theorem dX5_about_94 : decode cX5_about 94 = .ok (.aload_n 0, 1) := by decide +kernel
theorem dX5_about_95 : decode cX5_about 95 = .ok (.getfield 32, 3) := by decide +kernel
theorem dX5_about_98 : decode cX5_about 98 = .ok (.invokevirtual 230, 3) := by decide +kernel
theorem dX5_about_101 : decode cX5_about 101 = .ok (.i2l, 1) := by decide +kernel
theorem dX5_about_102 : decode cX5_about 102 = .ok (.lreturn, 1) := by decide +kernel
theorem dX5_about_103 : decode cX5_about 103 = .ok (.iload_n 2, 1) := by decide +kernel
theorem dX5_about_104 : decode cX5_about 104 = .ok (.iconst (-1), 1) := by decide +kernel
theorem dX5_about_105 : decode cX5_about 105 = .ok (.if_icmp .ne 9, 3) := by decide +kernel
theorem dX5_about_108 : decode cX5_about 108 = .ok (.ldc2_w 233, 3) := by decide +kernel
theorem dX5_about_111 : decode cX5_about 111 = .ok (.goto 5, 3) := by decide +kernel
theorem dX5_about_114 : decode cX5_about 114 = .ok (.iload_n 2, 1) := by decide +kernel
theorem dX5_about_115 : decode cX5_about 115 = .ok (.i2l, 1) := by decide +kernel
theorem dX5_about_116 : decode cX5_about 116 = .ok (.lreturn, 1) := by decide +kernel
theorem dX5_gives_0 : decode cX5_gives 0 = .ok (.aload_n 0, 1) := by decide +kernel
theorem dX5_gives_1 : decode cX5_gives 1 = .ok (.getfield 25, 3) := by decide +kernel
theorem dX5_gives_4 : decode cX5_gives 4 = .ok (.iload_n 1, 1) := by decide +kernel
theorem dX5_gives_5 : decode cX5_gives 5 = .ok (.iload_n 2, 1) := by decide +kernel
theorem dX5_gives_6 : decode cX5_gives 6 = .ok (.invokevirtual 129, 3) := by decide +kernel
theorem dX5_gives_9 : decode cX5_gives 9 = .ok (.istore 4, 2) := by decide +kernel
theorem dX5_gives_11 : decode cX5_gives 11 = .ok (.iload 4, 2) := by decide +kernel
theorem dX5_gives_13 : decode cX5_gives 13 = .ok (.iconst (-1), 1) := by decide +kernel
theorem dX5_gives_14 : decode cX5_gives 14 = .ok (.if_icmp .ne 7, 3) := by decide +kernel
theorem dX5_gives_17 : decode cX5_gives 17 = .ok (.ldc2_w 86, 3) := by decide +kernel
theorem dX5_gives_20 : decode cX5_gives 20 = .ok (.lreturn, 1) := by decide +kernel
theorem dX5_gives_21 : decode cX5_gives 21 = .ok (.iload_n 3, 1) := by decide +kernel
theorem dX5_gives_22 : decode cX5_gives 22 = .ok (.ifCond .lt 8, 3) := by decide +kernel
theorem dX5_gives_25 : decode cX5_gives 25 = .ok (.iload_n 3, 1) := by decide +kernel
theorem dX5_gives_26 : decode cX5_gives 26 = .ok (.iconst 4, 1) := by decide +kernel
theorem dX5_gives_27 : decode cX5_gives 27 = .ok (.if_icmp .lt 7, 3) := by decide +kernel
theorem dX5_gives_30 : decode cX5_gives 30 = .ok (.ldc2_w 88, 3) := by decide +kernel
theorem dX5_gives_33 : decode cX5_gives 33 = .ok (.lreturn, 1) := by decide +kernel
theorem dX5_gives_34 : decode cX5_gives 34 = .ok (.aload_n 0, 1) := by decide +kernel
theorem dX5_gives_35 : decode cX5_gives 35 = .ok (.getfield 25, 3) := by decide +kernel
theorem dX5_gives_38 : decode cX5_gives 38 = .ok (.getfield 136, 3) := by decide +kernel
theorem dX5_gives_41 : decode cX5_gives 41 = .ok (.iload 4, 2) := by decide +kernel
theorem dX5_gives_43 : decode cX5_gives 43 = .ok (.iaload, 1) := by decide +kernel
theorem dX5_gives_44 : decode cX5_gives 44 = .ok (.iconst 4, 1) := by decide +kernel
theorem dX5_gives_45 : decode cX5_gives 45 = .ok (.if_icmp .ne 7, 3) := by decide +kernel
theorem dX5_gives_48 : decode cX5_gives 48 = .ok (.ldc2_w 163, 3) := by decide +kernel
theorem dX5_gives_51 : decode cX5_gives 51 = .ok (.lreturn, 1) := by decide +kernel
theorem dX5_gives_52 : decode cX5_gives 52 = .ok (.aload_n 0, 1) := by decide +kernel
theorem dX5_gives_53 : decode cX5_gives 53 = .ok (.iload 4, 2) := by decide +kernel
theorem dX5_gives_55 : decode cX5_gives 55 = .ok (.iload_n 3, 1) := by decide +kernel
theorem dX5_gives_56 : decode cX5_gives 56 = .ok (.invokevirtual 235, 3) := by decide +kernel
theorem dX5_gives_59 : decode cX5_gives 59 = .ok (.lreturn, 1) := by decide +kernel
theorem dX5_turn_0 : decode cX5_turn 0 = .ok (.iload_n 1, 1) := by decide +kernel
theorem dX5_turn_1 : decode cX5_turn 1 = .ok (.ifCond .lt 8, 3) := by decide +kernel
theorem dX5_turn_4 : decode cX5_turn 4 = .ok (.iload_n 1, 1) := by decide +kernel
theorem dX5_turn_5 : decode cX5_turn 5 = .ok (.iconst 1, 1) := by decide +kernel
theorem dX5_turn_6 : decode cX5_turn 6 = .ok (.if_icmp .le 6, 3) := by decide +kernel
theorem dX5_turn_9 : decode cX5_turn 9 = .ok (.bipush (-2), 2) := by decide +kernel
theorem dX5_turn_11 : decode cX5_turn 11 = .ok (.ireturn, 1) := by decide +kernel
theorem dX5_turn_12 : decode cX5_turn 12 = .ok (.aload_n 0, 1) := by decide +kernel
theorem dX5_turn_13 : decode cX5_turn 13 = .ok (.getfield 25, 3) := by decide +kernel
theorem dX5_turn_16 : decode cX5_turn 16 = .ok (.invokevirtual 210, 3) := by decide +kernel
theorem dX5_turn_19 : decode cX5_turn 19 = .ok (.ifCond .ne 6, 3) := by decide +kernel
theorem dX5_turn_22 : decode cX5_turn 22 = .ok (.bipush (-3), 2) := by decide +kernel
theorem dX5_turn_24 : decode cX5_turn 24 = .ok (.ireturn, 1) := by decide +kernel
theorem dX5_turn_25 : decode cX5_turn 25 = .ok (.aload_n 0, 1) := by decide +kernel
theorem dX5_turn_26 : decode cX5_turn 26 = .ok (.getfield 43, 3) := by decide +kernel
theorem dX5_turn_29 : decode cX5_turn 29 = .ok (.aload_n 0, 1) := by decide +kernel
theorem dX5_turn_30 : decode cX5_turn 30 = .ok (.getfield 25, 3) := by decide +kernel
theorem dX5_turn_33 : decode cX5_turn 33 = .ok (.invokevirtual 238, 3) := by decide +kernel
theorem dX5_turn_36 : decode cX5_turn 36 = .ok (.aload_n 0, 1) := by decide +kernel
theorem dX5_turn_37 : decode cX5_turn 37 = .ok (.getfield 46, 3) := by decide +kernel
theorem dX5_turn_40 : decode cX5_turn 40 = .ok (.aload_n 0, 1) := by decide +kernel
theorem dX5_turn_41 : decode cX5_turn 41 = .ok (.getfield 32, 3) := by decide +kernel
theorem dX5_turn_44 : decode cX5_turn 44 = .ok (.invokevirtual 242, 3) := by decide +kernel
theorem dX5_turn_47 : decode cX5_turn 47 = .ok (.aload_n 0, 1) := by decide +kernel
theorem dX5_turn_48 : decode cX5_turn 48 = .ok (.iload_n 1, 1) := by decide +kernel
theorem dX5_turn_49 : decode cX5_turn 49 = .ok (.iconst 1, 1) := by decide +kernel
theorem dX5_turn_50 : decode cX5_turn 50 = .ok (.if_icmp .ne 7, 3) := by decide +kernel
theorem dX5_turn_53 : decode cX5_turn 53 = .ok (.iconst 1, 1) := by decide +kernel
theorem dX5_turn_54 : decode cX5_turn 54 = .ok (.goto 4, 3) := by decide +kernel
theorem dX5_turn_57 : decode cX5_turn 57 = .ok (.iconst 0, 1) := by decide +kernel
theorem dX5_turn_58 : decode cX5_turn 58 = .ok (.invokevirtual 245, 3) := by decide +kernel
theorem dX5_turn_61 : decode cX5_turn 61 = .ok (.aload_n 0, 1) := by decide +kernel
theorem dX5_turn_62 : decode cX5_turn 62 = .ok (.getfield 39, 3) := by decide +kernel
theorem dX5_turn_65 : decode cX5_turn 65 = .ok (.invokevirtual 122, 3) := by decide +kernel
theorem dX5_turn_68 : decode cX5_turn 68 = .ok (.aload_n 0, 1) := by decide +kernel
theorem dX5_turn_69 : decode cX5_turn 69 = .ok (.getfield 25, 3) := by decide +kernel
theorem dX5_turn_72 : decode cX5_turn 72 = .ok (.getfield 249, 3) := by decide +kernel
theorem dX5_turn_75 : decode cX5_turn 75 = .ok (.ireturn, 1) := by decide +kernel
theorem dX5_count_0 : decode cX5_count 0 = .ok (.iload_n 1, 1) := by decide +kernel
theorem dX5_count_1 : decode cX5_count 1 = .ok (.tableswitch 93 0 6 #[43, 51, 59, 67, 75, 80, 88], 43) := by decide +kernel
theorem dX5_count_44 : decode cX5_count 44 = .ok (.aload_n 0, 1) := by decide +kernel
theorem dX5_count_45 : decode cX5_count 45 = .ok (.getfield 25, 3) := by decide +kernel
theorem dX5_count_48 : decode cX5_count 48 = .ok (.getfield 249, 3) := by decide +kernel
theorem dX5_count_51 : decode cX5_count 51 = .ok (.ireturn, 1) := by decide +kernel
theorem dX5_count_52 : decode cX5_count 52 = .ok (.aload_n 0, 1) := by decide +kernel
theorem dX5_count_53 : decode cX5_count 53 = .ok (.getfield 25, 3) := by decide +kernel
theorem dX5_count_56 : decode cX5_count 56 = .ok (.getfield 252, 3) := by decide +kernel
theorem dX5_count_59 : decode cX5_count 59 = .ok (.ireturn, 1) := by decide +kernel
theorem dX5_count_60 : decode cX5_count 60 = .ok (.aload_n 0, 1) := by decide +kernel
theorem dX5_count_61 : decode cX5_count 61 = .ok (.getfield 32, 3) := by decide +kernel
theorem dX5_count_64 : decode cX5_count 64 = .ok (.getfield 160, 3) := by decide +kernel
theorem dX5_count_67 : decode cX5_count 67 = .ok (.ireturn, 1) := by decide +kernel
theorem dX5_count_68 : decode cX5_count 68 = .ok (.aload_n 0, 1) := by decide +kernel
theorem dX5_count_69 : decode cX5_count 69 = .ok (.getfield 39, 3) := by decide +kernel
theorem dX5_count_72 : decode cX5_count 72 = .ok (.getfield 177, 3) := by decide +kernel
theorem dX5_count_75 : decode cX5_count 75 = .ok (.ireturn, 1) := by decide +kernel
theorem dX5_count_76 : decode cX5_count 76 = .ok (.aload_n 0, 1) := by decide +kernel
theorem dX5_count_77 : decode cX5_count 77 = .ok (.getfield 255, 3) := by decide +kernel
theorem dX5_count_80 : decode cX5_count 80 = .ok (.ireturn, 1) := by decide +kernel
theorem dX5_count_81 : decode cX5_count 81 = .ok (.aload_n 0, 1) := by decide +kernel
theorem dX5_count_82 : decode cX5_count 82 = .ok (.getfield 25, 3) := by decide +kernel
theorem dX5_count_85 : decode cX5_count 85 = .ok (.invokevirtual 125, 3) := by decide +kernel
theorem dX5_count_88 : decode cX5_count 88 = .ok (.ireturn, 1) := by decide +kernel
theorem dX5_count_89 : decode cX5_count 89 = .ok (.aload_n 0, 1) := by decide +kernel
theorem dX5_count_90 : decode cX5_count 90 = .ok (.invokevirtual 258, 3) := by decide +kernel
theorem dX5_count_93 : decode cX5_count 93 = .ok (.ireturn, 1) := by decide +kernel
theorem dX5_count_94 : decode cX5_count 94 = .ok (.bipush (-2), 2) := by decide +kernel
theorem dX5_count_96 : decode cX5_count 96 = .ok (.ireturn, 1) := by decide +kernel
theorem dX5_fail_0 : decode cX5_fail 0 = .ok (.aload_n 0, 1) := by decide +kernel
theorem dX5_fail_1 : decode cX5_fail 1 = .ok (.dup, 1) := by decide +kernel
theorem dX5_fail_2 : decode cX5_fail 2 = .ok (.getfield 255, 3) := by decide +kernel
theorem dX5_fail_5 : decode cX5_fail 5 = .ok (.iconst 1, 1) := by decide +kernel
theorem dX5_fail_6 : decode cX5_fail 6 = .ok (.iadd, 1) := by decide +kernel
theorem dX5_fail_7 : decode cX5_fail 7 = .ok (.putfield 255, 3) := by decide +kernel
theorem dX5_fail_10 : decode cX5_fail 10 = .ok (.bipush (-10), 2) := by decide +kernel
theorem dX5_fail_12 : decode cX5_fail 12 = .ok (.iload_n 1, 1) := by decide +kernel
theorem dX5_fail_13 : decode cX5_fail 13 = .ok (.isub, 1) := by decide +kernel
theorem dX5_fail_14 : decode cX5_fail 14 = .ok (.ireturn, 1) := by decide +kernel
theorem dX5_isStrip_0 : decode cX5_isStrip 0 = .ok (.iload_n 0, 1) := by decide +kernel
theorem dX5_isStrip_1 : decode cX5_isStrip 1 = .ok (.ifCond .lt 13, 3) := by decide +kernel
theorem dX5_isStrip_4 : decode cX5_isStrip 4 = .ok (.iload_n 0, 1) := by decide +kernel
theorem dX5_isStrip_5 : decode cX5_isStrip 5 = .ok (.bipush 8, 2) := by decide +kernel
theorem dX5_isStrip_7 : decode cX5_isStrip 7 = .ok (.if_icmp .ge 7, 3) := by decide +kernel
theorem dX5_isStrip_10 : decode cX5_isStrip 10 = .ok (.iconst 1, 1) := by decide +kernel
theorem dX5_isStrip_11 : decode cX5_isStrip 11 = .ok (.goto 4, 3) := by decide +kernel
theorem dX5_isStrip_14 : decode cX5_isStrip 14 = .ok (.iconst 0, 1) := by decide +kernel
theorem dX5_isStrip_15 : decode cX5_isStrip 15 = .ok (.ireturn, 1) := by decide +kernel
theorem dX5_isLane_0 : decode cX5_isLane 0 = .ok (.iload_n 0, 1) := by decide +kernel
theorem dX5_isLane_1 : decode cX5_isLane 1 = .ok (.ifCond .lt 12, 3) := by decide +kernel
theorem dX5_isLane_4 : decode cX5_isLane 4 = .ok (.iload_n 0, 1) := by decide +kernel
theorem dX5_isLane_5 : decode cX5_isLane 5 = .ok (.iconst 2, 1) := by decide +kernel
theorem dX5_isLane_6 : decode cX5_isLane 6 = .ok (.if_icmp .gt 7, 3) := by decide +kernel
theorem dX5_isLane_9 : decode cX5_isLane 9 = .ok (.iconst 1, 1) := by decide +kernel
theorem dX5_isLane_10 : decode cX5_isLane 10 = .ok (.goto 4, 3) := by decide +kernel
theorem dX5_isLane_13 : decode cX5_isLane 13 = .ok (.iconst 0, 1) := by decide +kernel
theorem dX5_isLane_14 : decode cX5_isLane 14 = .ok (.ireturn, 1) := by decide +kernel
theorem dX5_isSide_0 : decode cX5_isSide 0 = .ok (.iload_n 0, 1) := by decide +kernel
theorem dX5_isSide_1 : decode cX5_isSide 1 = .ok (.iconst 2, 1) := by decide +kernel
theorem dX5_isSide_2 : decode cX5_isSide 2 = .ok (.if_icmp .lt 13, 3) := by decide +kernel
theorem dX5_isSide_5 : decode cX5_isSide 5 = .ok (.iload_n 0, 1) := by decide +kernel
theorem dX5_isSide_6 : decode cX5_isSide 6 = .ok (.bipush 8, 2) := by decide +kernel
theorem dX5_isSide_8 : decode cX5_isSide 8 = .ok (.if_icmp .gt 7, 3) := by decide +kernel
theorem dX5_isSide_11 : decode cX5_isSide 11 = .ok (.iconst 1, 1) := by decide +kernel
theorem dX5_isSide_12 : decode cX5_isSide 12 = .ok (.goto 4, 3) := by decide +kernel
theorem dX5_isSide_15 : decode cX5_isSide 15 = .ok (.iconst 0, 1) := by decide +kernel
theorem dX5_isSide_16 : decode cX5_isSide 16 = .ok (.ireturn, 1) := by decide +kernel
theorem dX5_isHundredths_0 : decode cX5_isHundredths 0 = .ok (.iload_n 0, 1) := by decide +kernel
theorem dX5_isHundredths_1 : decode cX5_isHundredths 1 = .ok (.ifCond .lt 13, 3) := by decide +kernel
theorem dX5_isHundredths_4 : decode cX5_isHundredths 4 = .ok (.iload_n 0, 1) := by decide +kernel
theorem dX5_isHundredths_5 : decode cX5_isHundredths 5 = .ok (.bipush 100, 2) := by decide +kernel
theorem dX5_isHundredths_7 : decode cX5_isHundredths 7 = .ok (.if_icmp .gt 7, 3) := by decide +kernel
theorem dX5_isHundredths_10 : decode cX5_isHundredths 10 = .ok (.iconst 1, 1) := by decide +kernel
theorem dX5_isHundredths_11 : decode cX5_isHundredths 11 = .ok (.goto 4, 3) := by decide +kernel
theorem dX5_isHundredths_14 : decode cX5_isHundredths 14 = .ok (.iconst 0, 1) := by decide +kernel
theorem dX5_isHundredths_15 : decode cX5_isHundredths 15 = .ok (.ireturn, 1) := by decide +kernel
theorem dX5_countsAs_0 : decode cX5_countsAs 0 = .ok (.iload_n 0, 1) := by decide +kernel
theorem dX5_countsAs_1 : decode cX5_countsAs 1 = .ok (.iload_n 1, 1) := by decide +kernel
theorem dX5_countsAs_2 : decode cX5_countsAs 2 = .ok (.if_icmp .eq 27, 3) := by decide +kernel
theorem dX5_countsAs_5 : decode cX5_countsAs 5 = .ok (.iload_n 1, 1) := by decide +kernel
theorem dX5_countsAs_6 : decode cX5_countsAs 6 = .ok (.ifCond .eq 23, 3) := by decide +kernel
theorem dX5_countsAs_9 : decode cX5_countsAs 9 = .ok (.iload_n 1, 1) := by decide +kernel
theorem dX5_countsAs_10 : decode cX5_countsAs 10 = .ok (.iconst 2, 1) := by decide +kernel
theorem dX5_countsAs_11 : decode cX5_countsAs 11 = .ok (.if_icmp .ne 8, 3) := by decide +kernel
theorem dX5_countsAs_14 : decode cX5_countsAs 14 = .ok (.iload_n 0, 1) := by decide +kernel
theorem dX5_countsAs_15 : decode cX5_countsAs 15 = .ok (.iconst 3, 1) := by decide +kernel
theorem dX5_countsAs_16 : decode cX5_countsAs 16 = .ok (.if_icmp .eq 13, 3) := by decide +kernel
theorem dX5_countsAs_19 : decode cX5_countsAs 19 = .ok (.iload_n 1, 1) := by decide +kernel
theorem dX5_countsAs_20 : decode cX5_countsAs 20 = .ok (.iconst 1, 1) := by decide +kernel
theorem dX5_countsAs_21 : decode cX5_countsAs 21 = .ok (.if_icmp .ne 12, 3) := by decide +kernel
theorem dX5_countsAs_24 : decode cX5_countsAs 24 = .ok (.iload_n 0, 1) := by decide +kernel
theorem dX5_countsAs_25 : decode cX5_countsAs 25 = .ok (.iconst 4, 1) := by decide +kernel
theorem dX5_countsAs_26 : decode cX5_countsAs 26 = .ok (.if_icmp .ne 7, 3) := by decide +kernel
theorem dX5_countsAs_29 : decode cX5_countsAs 29 = .ok (.iconst 1, 1) := by decide +kernel
theorem dX5_countsAs_30 : decode cX5_countsAs 30 = .ok (.goto 4, 3) := by decide +kernel
theorem dX5_countsAs_33 : decode cX5_countsAs 33 = .ok (.iconst 0, 1) := by decide +kernel
theorem dX5_countsAs_34 : decode cX5_countsAs 34 = .ok (.ireturn, 1) := by decide +kernel
theorem dX5_stripsThere_0 : decode cX5_stripsThere 0 = .ok (.iconst 0, 1) := by decide +kernel
theorem dX5_stripsThere_1 : decode cX5_stripsThere 1 = .ok (.istore_n 1, 1) := by decide +kernel
theorem dX5_stripsThere_2 : decode cX5_stripsThere 2 = .ok (.iconst 0, 1) := by decide +kernel
theorem dX5_stripsThere_3 : decode cX5_stripsThere 3 = .ok (.istore_n 2, 1) := by decide +kernel
theorem dX5_stripsThere_4 : decode cX5_stripsThere 4 = .ok (.iload_n 2, 1) := by decide +kernel
theorem dX5_stripsThere_5 : decode cX5_stripsThere 5 = .ok (.bipush 8, 2) := by decide +kernel
theorem dX5_stripsThere_7 : decode cX5_stripsThere 7 = .ok (.if_icmp .ge 24, 3) := by decide +kernel
theorem dX5_stripsThere_10 : decode cX5_stripsThere 10 = .ok (.aload_n 0, 1) := by decide +kernel
theorem dX5_stripsThere_11 : decode cX5_stripsThere 11 = .ok (.getfield 11, 3) := by decide +kernel
theorem dX5_stripsThere_14 : decode cX5_stripsThere 14 = .ok (.iload_n 2, 1) := by decide +kernel
theorem dX5_stripsThere_15 : decode cX5_stripsThere 15 = .ok (.aaload, 1) := by decide +kernel
theorem dX5_stripsThere_16 : decode cX5_stripsThere 16 = .ok (.getfield 72, 3) := by decide +kernel
theorem dX5_stripsThere_19 : decode cX5_stripsThere 19 = .ok (.ifCond .ne 6, 3) := by decide +kernel
theorem dX5_stripsThere_22 : decode cX5_stripsThere 22 = .ok (.iinc 1 1, 3) := by decide +kernel
theorem dX5_stripsThere_25 : decode cX5_stripsThere 25 = .ok (.iinc 2 1, 3) := by decide +kernel
theorem dX5_stripsThere_28 : decode cX5_stripsThere 28 = .ok (.goto (-24), 3) := by decide +kernel
theorem dX5_stripsThere_31 : decode cX5_stripsThere 31 = .ok (.iload_n 1, 1) := by decide +kernel
theorem dX5_stripsThere_32 : decode cX5_stripsThere 32 = .ok (.ireturn, 1) := by decide +kernel
theorem dX5_levelFromStrips_0 : decode cX5_levelFromStrips 0 = .ok (.aload_n 0, 1) := by decide +kernel
theorem dX5_levelFromStrips_1 : decode cX5_levelFromStrips 1 = .ok (.getfield 11, 3) := by decide +kernel
theorem dX5_levelFromStrips_4 : decode cX5_levelFromStrips 4 = .ok (.iload_n 2, 1) := by decide +kernel
theorem dX5_levelFromStrips_5 : decode cX5_levelFromStrips 5 = .ok (.aaload, 1) := by decide +kernel
theorem dX5_levelFromStrips_6 : decode cX5_levelFromStrips 6 = .ok (.astore_n 3, 1) := by decide +kernel
theorem dX5_levelFromStrips_7 : decode cX5_levelFromStrips 7 = .ok (.aload_n 3, 1) := by decide +kernel
theorem dX5_levelFromStrips_8 : decode cX5_levelFromStrips 8 = .ok (.getfield 72, 3) := by decide +kernel
theorem dX5_levelFromStrips_11 : decode cX5_levelFromStrips 11 = .ok (.ifCond .ne 20, 3) := by decide +kernel
theorem dX5_levelFromStrips_14 : decode cX5_levelFromStrips 14 = .ok (.aload_n 3, 1) := by decide +kernel
theorem dX5_levelFromStrips_15 : decode cX5_levelFromStrips 15 = .ok (.iload_n 1, 1) := by decide +kernel
theorem dX5_levelFromStrips_16 : decode cX5_levelFromStrips 16 = .ok (.invokevirtual 79, 3) := by decide +kernel
theorem dX5_levelFromStrips_19 : decode cX5_levelFromStrips 19 = .ok (.ifCond .eq 12, 3) := by decide +kernel
theorem dX5_levelFromStrips_22 : decode cX5_levelFromStrips 22 = .ok (.aload_n 3, 1) := by decide +kernel
theorem dX5_levelFromStrips_23 : decode cX5_levelFromStrips 23 = .ok (.getfield 94, 3) := by decide +kernel
theorem dX5_levelFromStrips_26 : decode cX5_levelFromStrips 26 = .ok (.iload_n 1, 1) := by decide +kernel
theorem dX5_levelFromStrips_27 : decode cX5_levelFromStrips 27 = .ok (.laload, 1) := by decide +kernel
theorem dX5_levelFromStrips_28 : decode cX5_levelFromStrips 28 = .ok (.goto 6, 3) := by decide +kernel
theorem dX5_levelFromStrips_31 : decode cX5_levelFromStrips 31 = .ok (.ldc2_w 86, 3) := by decide +kernel
theorem dX5_levelFromStrips_34 : decode cX5_levelFromStrips 34 = .ok (.lreturn, 1) := by decide +kernel
theorem dX5_surface_0 : decode cX5_surface 0 = .ok (.aload_n 0, 1) := by decide +kernel
theorem dX5_surface_1 : decode cX5_surface 1 = .ok (.getfield 25, 3) := by decide +kernel
theorem dX5_surface_4 : decode cX5_surface 4 = .ok (.getfield 191, 3) := by decide +kernel
theorem dX5_surface_7 : decode cX5_surface 7 = .ok (.iload_n 1, 1) := by decide +kernel
theorem dX5_surface_8 : decode cX5_surface 8 = .ok (.iaload, 1) := by decide +kernel
theorem dX5_surface_9 : decode cX5_surface 9 = .ok (.i2l, 1) := by decide +kernel
theorem dX5_surface_10 : decode cX5_surface 10 = .ok (.aload_n 0, 1) := by decide +kernel
theorem dX5_surface_11 : decode cX5_surface 11 = .ok (.getfield 32, 3) := by decide +kernel
theorem dX5_surface_14 : decode cX5_surface 14 = .ok (.getfield 168, 3) := by decide +kernel
theorem dX5_surface_17 : decode cX5_surface 17 = .ok (.iload_n 1, 1) := by decide +kernel
theorem dX5_surface_18 : decode cX5_surface 18 = .ok (.laload, 1) := by decide +kernel
theorem dX5_surface_19 : decode cX5_surface 19 = .ok (.ladd, 1) := by decide +kernel
theorem dX5_surface_20 : decode cX5_surface 20 = .ok (.lreturn, 1) := by decide +kernel
theorem dX5_refusalOfYears_0 : decode cX5_refusalOfYears 0 = .ok (.iload_n 1, 1) := by decide +kernel
theorem dX5_refusalOfYears_1 : decode cX5_refusalOfYears 1 = .ok (.iconst 1, 1) := by decide +kernel
theorem dX5_refusalOfYears_2 : decode cX5_refusalOfYears 2 = .ok (.if_icmp .lt 9, 3) := by decide +kernel
theorem dX5_refusalOfYears_5 : decode cX5_refusalOfYears 5 = .ok (.iload_n 1, 1) := by decide +kernel
theorem dX5_refusalOfYears_6 : decode cX5_refusalOfYears 6 = .ok (.bipush 60, 2) := by decide +kernel
theorem dX5_refusalOfYears_8 : decode cX5_refusalOfYears 8 = .ok (.if_icmp .le 6, 3) := by decide +kernel
theorem dX5_refusalOfYears_11 : decode cX5_refusalOfYears 11 = .ok (.bipush (-2), 2) := by decide +kernel
theorem dX5_refusalOfYears_13 : decode cX5_refusalOfYears 13 = .ok (.ireturn, 1) := by decide +kernel
theorem dX5_refusalOfYears_14 : decode cX5_refusalOfYears 14 = .ok (.aload_n 0, 1) := by decide +kernel
theorem dX5_refusalOfYears_15 : decode cX5_refusalOfYears 15 = .ok (.getfield 25, 3) := by decide +kernel
theorem dX5_refusalOfYears_18 : decode cX5_refusalOfYears 18 = .ok (.invokevirtual 210, 3) := by decide +kernel
theorem dX5_refusalOfYears_21 : decode cX5_refusalOfYears 21 = .ok (.ifCond .ne 6, 3) := by decide +kernel
theorem dX5_refusalOfYears_24 : decode cX5_refusalOfYears 24 = .ok (.bipush (-3), 2) := by decide +kernel
theorem dX5_refusalOfYears_26 : decode cX5_refusalOfYears 26 = .ok (.ireturn, 1) := by decide +kernel
theorem dX5_refusalOfYears_27 : decode cX5_refusalOfYears 27 = .ok (.aload_n 0, 1) := by decide +kernel
theorem dX5_refusalOfYears_28 : decode cX5_refusalOfYears 28 = .ok (.getfield 32, 3) := by decide +kernel
theorem dX5_refusalOfYears_31 : decode cX5_refusalOfYears 31 = .ok (.getfield 160, 3) := by decide +kernel
theorem dX5_refusalOfYears_34 : decode cX5_refusalOfYears 34 = .ok (.iload_n 1, 1) := by decide +kernel
theorem dX5_refusalOfYears_35 : decode cX5_refusalOfYears 35 = .ok (.iadd, 1) := by decide +kernel
theorem dX5_refusalOfYears_36 : decode cX5_refusalOfYears 36 = .ok (.bipush 60, 2) := by decide +kernel
theorem dX5_refusalOfYears_38 : decode cX5_refusalOfYears 38 = .ok (.if_icmp .le 8, 3) := by decide +kernel
theorem dX5_refusalOfYears_41 : decode cX5_refusalOfYears 41 = .ok (.bipush (-4), 2) := by decide +kernel
theorem dX5_refusalOfYears_43 : decode cX5_refusalOfYears 43 = .ok (.goto 4, 3) := by decide +kernel
theorem dX5_refusalOfYears_46 : decode cX5_refusalOfYears 46 = .ok (.iconst 0, 1) := by decide +kernel
theorem dX5_refusalOfYears_47 : decode cX5_refusalOfYears 47 = .ok (.ireturn, 1) := by decide +kernel
theorem dX5_passYear_0 : decode cX5_passYear 0 = .ok (.aload_n 0, 1) := by decide +kernel
theorem dX5_passYear_1 : decode cX5_passYear 1 = .ok (.getfield 39, 3) := by decide +kernel
theorem dX5_passYear_4 : decode cX5_passYear 4 = .ok (.aload_n 0, 1) := by decide +kernel
theorem dX5_passYear_5 : decode cX5_passYear 5 = .ok (.getfield 32, 3) := by decide +kernel
theorem dX5_passYear_8 : decode cX5_passYear 8 = .ok (.invokevirtual 261, 3) := by decide +kernel
theorem dX5_passYear_11 : decode cX5_passYear 11 = .ok (.aload_n 0, 1) := by decide +kernel
theorem dX5_passYear_12 : decode cX5_passYear 12 = .ok (.getfield 32, 3) := by decide +kernel
theorem dX5_passYear_15 : decode cX5_passYear 15 = .ok (.dup, 1) := by decide +kernel
theorem dX5_passYear_16 : decode cX5_passYear 16 = .ok (.getfield 160, 3) := by decide +kernel
theorem dX5_passYear_19 : decode cX5_passYear 19 = .ok (.iconst 1, 1) := by decide +kernel
theorem dX5_passYear_20 : decode cX5_passYear 20 = .ok (.iadd, 1) := by decide +kernel
theorem dX5_passYear_21 : decode cX5_passYear 21 = .ok (.putfield 160, 3) := by decide +kernel
theorem dX5_passYear_24 : decode cX5_passYear 24 = .ok (.aload_n 0, 1) := by decide +kernel
theorem dX5_passYear_25 : decode cX5_passYear 25 = .ok (.invokevirtual 264, 3) := by decide +kernel
theorem dX5_passYear_28 : decode cX5_passYear 28 = .ok (.aload_n 0, 1) := by decide +kernel
theorem dX5_passYear_29 : decode cX5_passYear 29 = .ok (.invokevirtual 267, 3) := by decide +kernel
theorem dX5_passYear_32 : decode cX5_passYear 32 = .ok (.aload_n 0, 1) := by decide +kernel
theorem dX5_passYear_33 : decode cX5_passYear 33 = .ok (.invokevirtual 270, 3) := by decide +kernel
theorem dX5_passYear_36 : decode cX5_passYear 36 = .ok (.return_, 1) := by decide +kernel
theorem dX5_snowAndMelt_0 : decode cX5_snowAndMelt 0 = .ok (.iconst 0, 1) := by decide +kernel
theorem dX5_snowAndMelt_1 : decode cX5_snowAndMelt 1 = .ok (.istore_n 1, 1) := by decide +kernel
theorem dX5_snowAndMelt_2 : decode cX5_snowAndMelt 2 = .ok (.iload_n 1, 1) := by decide +kernel
theorem dX5_snowAndMelt_3 : decode cX5_snowAndMelt 3 = .ok (.aload_n 0, 1) := by decide +kernel
theorem dX5_snowAndMelt_4 : decode cX5_snowAndMelt 4 = .ok (.getfield 25, 3) := by decide +kernel
theorem dX5_snowAndMelt_7 : decode cX5_snowAndMelt 7 = .ok (.getfield 273, 3) := by decide +kernel
theorem dX5_snowAndMelt_10 : decode cX5_snowAndMelt 10 = .ok (.if_icmp .ge 80, 3) := by decide +kernel
theorem dX5_snowAndMelt_13 : decode cX5_snowAndMelt 13 = .ok (.aload_n 0, 1) := by decide +kernel
theorem dX5_snowAndMelt_14 : decode cX5_snowAndMelt 14 = .ok (.getfield 25, 3) := by decide +kernel
theorem dX5_snowAndMelt_17 : decode cX5_snowAndMelt 17 = .ok (.getfield 276, 3) := by decide +kernel
theorem dX5_snowAndMelt_20 : decode cX5_snowAndMelt 20 = .ok (.iload_n 1, 1) := by decide +kernel
theorem dX5_snowAndMelt_21 : decode cX5_snowAndMelt 21 = .ok (.iaload, 1) := by decide +kernel
theorem dX5_snowAndMelt_22 : decode cX5_snowAndMelt 22 = .ok (.istore_n 2, 1) := by decide +kernel
theorem dX5_snowAndMelt_23 : decode cX5_snowAndMelt 23 = .ok (.aload_n 0, 1) := by decide +kernel
theorem dX5_snowAndMelt_24 : decode cX5_snowAndMelt 24 = .ok (.getfield 25, 3) := by decide +kernel
theorem dX5_snowAndMelt_27 : decode cX5_snowAndMelt 27 = .ok (.iload_n 2, 1) := by decide +kernel
theorem dX5_snowAndMelt_28 : decode cX5_snowAndMelt 28 = .ok (.invokevirtual 204, 3) := by decide +kernel
theorem dX5_snowAndMelt_31 : decode cX5_snowAndMelt 31 = .ok (.istore_n 3, 1) := by decide +kernel
theorem dX5_snowAndMelt_32 : decode cX5_snowAndMelt 32 = .ok (.aload_n 0, 1) := by decide +kernel
theorem dX5_snowAndMelt_33 : decode cX5_snowAndMelt 33 = .ok (.getfield 32, 3) := by decide +kernel
theorem dX5_snowAndMelt_36 : decode cX5_snowAndMelt 36 = .ok (.iload_n 2, 1) := by decide +kernel
theorem dX5_snowAndMelt_37 : decode cX5_snowAndMelt 37 = .ok (.aload_n 0, 1) := by decide +kernel
theorem dX5_snowAndMelt_38 : decode cX5_snowAndMelt 38 = .ok (.getfield 32, 3) := by decide +kernel
theorem dX5_snowAndMelt_41 : decode cX5_snowAndMelt 41 = .ok (.getfield 160, 3) := by decide +kernel
theorem dX5_snowAndMelt_44 : decode cX5_snowAndMelt 44 = .ok (.aload_n 0, 1) := by decide +kernel
theorem dX5_snowAndMelt_45 : decode cX5_snowAndMelt 45 = .ok (.getfield 18, 3) := by decide +kernel
theorem dX5_snowAndMelt_48 : decode cX5_snowAndMelt 48 = .ok (.getfield 150, 3) := by decide +kernel
theorem dX5_snowAndMelt_51 : decode cX5_snowAndMelt 51 = .ok (.iload_n 3, 1) := by decide +kernel
theorem dX5_snowAndMelt_52 : decode cX5_snowAndMelt 52 = .ok (.iaload, 1) := by decide +kernel
theorem dX5_snowAndMelt_53 : decode cX5_snowAndMelt 53 = .ok (.i2l, 1) := by decide +kernel
theorem dX5_snowAndMelt_54 : decode cX5_snowAndMelt 54 = .ok (.invokevirtual 165, 3) := by decide +kernel
theorem dX5_snowAndMelt_57 : decode cX5_snowAndMelt 57 = .ok (.aload_n 0, 1) := by decide +kernel
theorem dX5_snowAndMelt_58 : decode cX5_snowAndMelt 58 = .ok (.getfield 32, 3) := by decide +kernel
theorem dX5_snowAndMelt_61 : decode cX5_snowAndMelt 61 = .ok (.iload_n 2, 1) := by decide +kernel
theorem dX5_snowAndMelt_62 : decode cX5_snowAndMelt 62 = .ok (.aload_n 0, 1) := by decide +kernel
theorem dX5_snowAndMelt_63 : decode cX5_snowAndMelt 63 = .ok (.getfield 25, 3) := by decide +kernel
theorem dX5_snowAndMelt_66 : decode cX5_snowAndMelt 66 = .ok (.iload_n 2, 1) := by decide +kernel
theorem dX5_snowAndMelt_67 : decode cX5_snowAndMelt 67 = .ok (.aload_n 0, 1) := by decide +kernel
theorem dX5_snowAndMelt_68 : decode cX5_snowAndMelt 68 = .ok (.getfield 18, 3) := by decide +kernel
theorem dX5_snowAndMelt_71 : decode cX5_snowAndMelt 71 = .ok (.getfield 147, 3) := by decide +kernel
theorem dX5_snowAndMelt_74 : decode cX5_snowAndMelt 74 = .ok (.iload_n 3, 1) := by decide +kernel
theorem dX5_snowAndMelt_75 : decode cX5_snowAndMelt 75 = .ok (.iaload, 1) := by decide +kernel
theorem dX5_snowAndMelt_76 : decode cX5_snowAndMelt 76 = .ok (.i2l, 1) := by decide +kernel
theorem dX5_snowAndMelt_77 : decode cX5_snowAndMelt 77 = .ok (.invokevirtual 279, 3) := by decide +kernel
theorem dX5_snowAndMelt_80 : decode cX5_snowAndMelt 80 = .ok (.iconst 1, 1) := by decide +kernel
theorem dX5_snowAndMelt_81 : decode cX5_snowAndMelt 81 = .ok (.invokevirtual 283, 3) := by decide +kernel
theorem dX5_snowAndMelt_84 : decode cX5_snowAndMelt 84 = .ok (.iinc 1 1, 3) := by decide +kernel
theorem dX5_snowAndMelt_87 : decode cX5_snowAndMelt 87 = .ok (.goto (-85), 3) := by decide +kernel
theorem dX5_snowAndMelt_90 : decode cX5_snowAndMelt 90 = .ok (.return_, 1) := by decide +kernel
theorem dX5_moveIce_0 : decode cX5_moveIce 0 = .ok (.iconst 0, 1) := by decide +kernel
theorem dX5_moveIce_1 : decode cX5_moveIce 1 = .ok (.istore_n 1, 1) := by decide +kernel
theorem dX5_moveIce_2 : decode cX5_moveIce 2 = .ok (.iload_n 1, 1) := by decide +kernel
theorem dX5_moveIce_3 : decode cX5_moveIce 3 = .ok (.aload_n 0, 1) := by decide +kernel
theorem dX5_moveIce_4 : decode cX5_moveIce 4 = .ok (.getfield 25, 3) := by decide +kernel
theorem dX5_moveIce_7 : decode cX5_moveIce 7 = .ok (.getfield 273, 3) := by decide +kernel
theorem dX5_moveIce_10 : decode cX5_moveIce 10 = .ok (.if_icmp .ge 48, 3) := by decide +kernel
theorem dX5_moveIce_13 : decode cX5_moveIce 13 = .ok (.aload_n 0, 1) := by decide +kernel
theorem dX5_moveIce_14 : decode cX5_moveIce 14 = .ok (.getfield 25, 3) := by decide +kernel
theorem dX5_moveIce_17 : decode cX5_moveIce 17 = .ok (.getfield 276, 3) := by decide +kernel
theorem dX5_moveIce_20 : decode cX5_moveIce 20 = .ok (.iload_n 1, 1) := by decide +kernel
theorem dX5_moveIce_21 : decode cX5_moveIce 21 = .ok (.iaload, 1) := by decide +kernel
theorem dX5_moveIce_22 : decode cX5_moveIce 22 = .ok (.istore_n 2, 1) := by decide +kernel
theorem dX5_moveIce_23 : decode cX5_moveIce 23 = .ok (.iconst 0, 1) := by decide +kernel
theorem dX5_moveIce_24 : decode cX5_moveIce 24 = .ok (.istore_n 3, 1) := by decide +kernel
theorem dX5_moveIce_25 : decode cX5_moveIce 25 = .ok (.iload_n 3, 1) := by decide +kernel
theorem dX5_moveIce_26 : decode cX5_moveIce 26 = .ok (.iconst 4, 1) := by decide +kernel
theorem dX5_moveIce_27 : decode cX5_moveIce 27 = .ok (.if_icmp .ge 25, 3) := by decide +kernel
theorem dX5_moveIce_30 : decode cX5_moveIce 30 = .ok (.aload_n 0, 1) := by decide +kernel
theorem dX5_moveIce_31 : decode cX5_moveIce 31 = .ok (.getfield 49, 3) := by decide +kernel
theorem dX5_moveIce_34 : decode cX5_moveIce 34 = .ok (.iload_n 2, 1) := by decide +kernel
theorem dX5_moveIce_35 : decode cX5_moveIce 35 = .ok (.iconst 4, 1) := by decide +kernel
theorem dX5_moveIce_36 : decode cX5_moveIce 36 = .ok (.imul, 1) := by decide +kernel
theorem dX5_moveIce_37 : decode cX5_moveIce 37 = .ok (.iload_n 3, 1) := by decide +kernel
theorem dX5_moveIce_38 : decode cX5_moveIce 38 = .ok (.iadd, 1) := by decide +kernel
theorem dX5_moveIce_39 : decode cX5_moveIce 39 = .ok (.aload_n 0, 1) := by decide +kernel
theorem dX5_moveIce_40 : decode cX5_moveIce 40 = .ok (.iload_n 2, 1) := by decide +kernel
theorem dX5_moveIce_41 : decode cX5_moveIce 41 = .ok (.iload_n 3, 1) := by decide +kernel
theorem dX5_moveIce_42 : decode cX5_moveIce 42 = .ok (.invokevirtual 235, 3) := by decide +kernel
theorem dX5_moveIce_45 : decode cX5_moveIce 45 = .ok (.lastore, 1) := by decide +kernel
theorem dX5_moveIce_46 : decode cX5_moveIce 46 = .ok (.iinc 3 1, 3) := by decide +kernel
theorem dX5_moveIce_49 : decode cX5_moveIce 49 = .ok (.goto (-24), 3) := by decide +kernel
theorem dX5_moveIce_52 : decode cX5_moveIce 52 = .ok (.iinc 1 1, 3) := by decide +kernel
theorem dX5_moveIce_55 : decode cX5_moveIce 55 = .ok (.goto (-53), 3) := by decide +kernel
theorem dX5_moveIce_58 : decode cX5_moveIce 58 = .ok (.aload_n 0, 1) := by decide +kernel
theorem dX5_moveIce_59 : decode cX5_moveIce 59 = .ok (.getfield 46, 3) := by decide +kernel
theorem dX5_moveIce_62 : decode cX5_moveIce 62 = .ok (.aload_n 0, 1) := by decide +kernel
theorem dX5_moveIce_63 : decode cX5_moveIce 63 = .ok (.getfield 32, 3) := by decide +kernel
theorem dX5_moveIce_66 : decode cX5_moveIce 66 = .ok (.invokevirtual 242, 3) := by decide +kernel
theorem dX5_moveIce_69 : decode cX5_moveIce 69 = .ok (.iconst 0, 1) := by decide +kernel
theorem dX5_moveIce_70 : decode cX5_moveIce 70 = .ok (.istore_n 1, 1) := by decide +kernel
theorem dX5_moveIce_71 : decode cX5_moveIce 71 = .ok (.iload_n 1, 1) := by decide +kernel
theorem dX5_moveIce_72 : decode cX5_moveIce 72 = .ok (.aload_n 0, 1) := by decide +kernel
theorem dX5_moveIce_73 : decode cX5_moveIce 73 = .ok (.getfield 25, 3) := by decide +kernel
theorem dX5_moveIce_76 : decode cX5_moveIce 76 = .ok (.getfield 273, 3) := by decide +kernel
theorem dX5_moveIce_79 : decode cX5_moveIce 79 = .ok (.if_icmp .ge 56, 3) := by decide +kernel
theorem dX5_moveIce_82 : decode cX5_moveIce 82 = .ok (.aload_n 0, 1) := by decide +kernel
theorem dX5_moveIce_83 : decode cX5_moveIce 83 = .ok (.getfield 25, 3) := by decide +kernel
theorem dX5_moveIce_86 : decode cX5_moveIce 86 = .ok (.getfield 276, 3) := by decide +kernel
theorem dX5_moveIce_89 : decode cX5_moveIce 89 = .ok (.iload_n 1, 1) := by decide +kernel
theorem dX5_moveIce_90 : decode cX5_moveIce 90 = .ok (.iaload, 1) := by decide +kernel
theorem dX5_moveIce_91 : decode cX5_moveIce 91 = .ok (.istore_n 2, 1) := by decide +kernel
theorem dX5_moveIce_92 : decode cX5_moveIce 92 = .ok (.iconst 0, 1) := by decide +kernel
theorem dX5_moveIce_93 : decode cX5_moveIce 93 = .ok (.istore_n 3, 1) := by decide +kernel
theorem dX5_moveIce_94 : decode cX5_moveIce 94 = .ok (.iload_n 3, 1) := by decide +kernel
theorem dX5_moveIce_95 : decode cX5_moveIce 95 = .ok (.iconst 4, 1) := by decide +kernel
theorem dX5_moveIce_96 : decode cX5_moveIce 96 = .ok (.if_icmp .ge 33, 3) := by decide +kernel
theorem dX5_moveIce_99 : decode cX5_moveIce 99 = .ok (.aload_n 0, 1) := by decide +kernel
theorem dX5_moveIce_100 : decode cX5_moveIce 100 = .ok (.iload_n 2, 1) := by decide +kernel
theorem dX5_moveIce_101 : decode cX5_moveIce 101 = .ok (.aload_n 0, 1) := by decide +kernel
theorem dX5_moveIce_102 : decode cX5_moveIce 102 = .ok (.getfield 25, 3) := by decide +kernel
theorem dX5_moveIce_105 : decode cX5_moveIce 105 = .ok (.iload_n 2, 1) := by decide +kernel
theorem dX5_moveIce_106 : decode cX5_moveIce 106 = .ok (.iload_n 3, 1) := by decide +kernel
theorem dX5_moveIce_107 : decode cX5_moveIce 107 = .ok (.invokevirtual 287, 3) := by decide +kernel
theorem dX5_moveIce_110 : decode cX5_moveIce 110 = .ok (.aload_n 0, 1) := by decide +kernel
theorem dX5_moveIce_111 : decode cX5_moveIce 111 = .ok (.getfield 49, 3) := by decide +kernel
theorem dX5_moveIce_114 : decode cX5_moveIce 114 = .ok (.iload_n 2, 1) := by decide +kernel
theorem dX5_moveIce_115 : decode cX5_moveIce 115 = .ok (.iconst 4, 1) := by decide +kernel
theorem dX5_moveIce_116 : decode cX5_moveIce 116 = .ok (.imul, 1) := by decide +kernel
theorem dX5_moveIce_117 : decode cX5_moveIce 117 = .ok (.iload_n 3, 1) := by decide +kernel
theorem dX5_moveIce_118 : decode cX5_moveIce 118 = .ok (.iadd, 1) := by decide +kernel
theorem dX5_moveIce_119 : decode cX5_moveIce 119 = .ok (.laload, 1) := by decide +kernel
theorem dX5_moveIce_120 : decode cX5_moveIce 120 = .ok (.invokevirtual 290, 3) := by decide +kernel
theorem dX5_moveIce_123 : decode cX5_moveIce 123 = .ok (.iinc 3 1, 3) := by decide +kernel
theorem dX5_moveIce_126 : decode cX5_moveIce 126 = .ok (.goto (-32), 3) := by decide +kernel
theorem dX5_moveIce_129 : decode cX5_moveIce 129 = .ok (.iinc 1 1, 3) := by decide +kernel
theorem dX5_moveIce_132 : decode cX5_moveIce 132 = .ok (.goto (-61), 3) := by decide +kernel
theorem dX5_moveIce_135 : decode cX5_moveIce 135 = .ok (.return_, 1) := by decide +kernel
theorem dX5_gift_0 : decode cX5_gift 0 = .ok (.aload_n 0, 1) := by decide +kernel
theorem dX5_gift_1 : decode cX5_gift 1 = .ok (.getfield 25, 3) := by decide +kernel
theorem dX5_gift_4 : decode cX5_gift 4 = .ok (.iload_n 1, 1) := by decide +kernel
theorem dX5_gift_5 : decode cX5_gift 5 = .ok (.iload_n 2, 1) := by decide +kernel
theorem dX5_gift_6 : decode cX5_gift 6 = .ok (.invokevirtual 287, 3) := by decide +kernel
theorem dX5_gift_9 : decode cX5_gift 9 = .ok (.istore_n 3, 1) := by decide +kernel
theorem dX5_gift_10 : decode cX5_gift 10 = .ok (.aload_n 0, 1) := by decide +kernel
theorem dX5_gift_11 : decode cX5_gift 11 = .ok (.getfield 32, 3) := by decide +kernel
theorem dX5_gift_14 : decode cX5_gift 14 = .ok (.getfield 168, 3) := by decide +kernel
theorem dX5_gift_17 : decode cX5_gift 17 = .ok (.iload_n 1, 1) := by decide +kernel
theorem dX5_gift_18 : decode cX5_gift 18 = .ok (.laload, 1) := by decide +kernel
theorem dX5_gift_19 : decode cX5_gift 19 = .ok (.lstore 4, 2) := by decide +kernel
theorem dX5_gift_21 : decode cX5_gift 21 = .ok (.iload_n 3, 1) := by decide +kernel
theorem dX5_gift_22 : decode cX5_gift 22 = .ok (.iconst (-1), 1) := by decide +kernel
theorem dX5_gift_23 : decode cX5_gift 23 = .ok (.if_icmp .eq 10, 3) := by decide +kernel
theorem dX5_gift_26 : decode cX5_gift 26 = .ok (.lload 4, 2) := by decide +kernel
theorem dX5_gift_28 : decode cX5_gift 28 = .ok (.lconst 0, 1) := by decide +kernel
theorem dX5_gift_29 : decode cX5_gift 29 = .ok (.lcmp, 1) := by decide +kernel
theorem dX5_gift_30 : decode cX5_gift 30 = .ok (.ifCond .ne 5, 3) := by decide +kernel
theorem dX5_gift_33 : decode cX5_gift 33 = .ok (.lconst 0, 1) := by decide +kernel
theorem dX5_gift_34 : decode cX5_gift 34 = .ok (.lreturn, 1) := by decide +kernel
theorem dX5_gift_35 : decode cX5_gift 35 = .ok (.aload_n 0, 1) := by decide +kernel
theorem dX5_gift_36 : decode cX5_gift 36 = .ok (.getfield 25, 3) := by decide +kernel
theorem dX5_gift_39 : decode cX5_gift 39 = .ok (.getfield 136, 3) := by decide +kernel
theorem dX5_gift_42 : decode cX5_gift 42 = .ok (.iload_n 3, 1) := by decide +kernel
theorem dX5_gift_43 : decode cX5_gift 43 = .ok (.iaload, 1) := by decide +kernel
theorem dX5_gift_44 : decode cX5_gift 44 = .ok (.iconst 4, 1) := by decide +kernel
theorem dX5_gift_45 : decode cX5_gift 45 = .ok (.if_icmp .ne 7, 3) := by decide +kernel
theorem dX5_gift_48 : decode cX5_gift 48 = .ok (.iconst 1, 1) := by decide +kernel
theorem dX5_gift_49 : decode cX5_gift 49 = .ok (.goto 4, 3) := by decide +kernel
theorem dX5_gift_52 : decode cX5_gift 52 = .ok (.iconst 0, 1) := by decide +kernel
theorem dX5_gift_53 : decode cX5_gift 53 = .ok (.istore 6, 2) := by decide +kernel
theorem dX5_gift_55 : decode cX5_gift 55 = .ok (.iload 6, 2) := by decide +kernel
theorem dX5_gift_57 : decode cX5_gift 57 = .ok (.ifCond .eq 8, 3) := by decide +kernel
theorem dX5_gift_60 : decode cX5_gift 60 = .ok (.lload 4, 2) := by decide +kernel
theorem dX5_gift_62 : decode cX5_gift 62 = .ok (.goto 14, 3) := by decide +kernel
theorem dX5_gift_65 : decode cX5_gift 65 = .ok (.aload_n 0, 1) := by decide +kernel
theorem dX5_gift_66 : decode cX5_gift 66 = .ok (.iload_n 1, 1) := by decide +kernel
theorem dX5_gift_67 : decode cX5_gift 67 = .ok (.invokevirtual 194, 3) := by decide +kernel
theorem dX5_gift_70 : decode cX5_gift 70 = .ok (.aload_n 0, 1) := by decide +kernel
theorem dX5_gift_71 : decode cX5_gift 71 = .ok (.iload_n 3, 1) := by decide +kernel
theorem dX5_gift_72 : decode cX5_gift 72 = .ok (.invokevirtual 194, 3) := by decide +kernel
theorem dX5_gift_75 : decode cX5_gift 75 = .ok (.lsub, 1) := by decide +kernel
theorem dX5_gift_76 : decode cX5_gift 76 = .ok (.lstore 7, 2) := by decide +kernel
theorem dX5_gift_78 : decode cX5_gift 78 = .ok (.lload 7, 2) := by decide +kernel
theorem dX5_gift_80 : decode cX5_gift 80 = .ok (.lconst 0, 1) := by decide +kernel
theorem dX5_gift_81 : decode cX5_gift 81 = .ok (.lcmp, 1) := by decide +kernel
theorem dX5_gift_82 : decode cX5_gift 82 = .ok (.ifCond .gt 5, 3) := by decide +kernel
theorem dX5_gift_85 : decode cX5_gift 85 = .ok (.lconst 0, 1) := by decide +kernel
theorem dX5_gift_86 : decode cX5_gift 86 = .ok (.lreturn, 1) := by decide +kernel
theorem dX5_gift_87 : decode cX5_gift 87 = .ok (.aload_n 0, 1) := by decide +kernel
theorem dX5_gift_88 : decode cX5_gift 88 = .ok (.getfield 25, 3) := by decide +kernel
theorem dX5_gift_91 : decode cX5_gift 91 = .ok (.getfield 136, 3) := by decide +kernel
theorem dX5_gift_94 : decode cX5_gift 94 = .ok (.iload_n 1, 1) := by decide +kernel
theorem dX5_gift_95 : decode cX5_gift 95 = .ok (.iaload, 1) := by decide +kernel
theorem dX5_gift_96 : decode cX5_gift 96 = .ok (.iconst 1, 1) := by decide +kernel
theorem dX5_gift_97 : decode cX5_gift 97 = .ok (.if_icmp .ne 16, 3) := by decide +kernel
theorem dX5_gift_100 : decode cX5_gift 100 = .ok (.aload_n 0, 1) := by decide +kernel
theorem dX5_gift_101 : decode cX5_gift 101 = .ok (.getfield 25, 3) := by decide +kernel
theorem dX5_gift_104 : decode cX5_gift 104 = .ok (.getfield 140, 3) := by decide +kernel
theorem dX5_gift_107 : decode cX5_gift 107 = .ok (.iload_n 1, 1) := by decide +kernel
theorem dX5_gift_108 : decode cX5_gift 108 = .ok (.iaload, 1) := by decide +kernel
theorem dX5_gift_109 : decode cX5_gift 109 = .ok (.i2l, 1) := by decide +kernel
theorem dX5_gift_110 : decode cX5_gift 110 = .ok (.goto 11, 3) := by decide +kernel
theorem dX5_gift_113 : decode cX5_gift 113 = .ok (.aload_n 0, 1) := by decide +kernel
theorem dX5_gift_114 : decode cX5_gift 114 = .ok (.getfield 18, 3) := by decide +kernel
theorem dX5_gift_117 : decode cX5_gift 117 = .ok (.getfield 157, 3) := by decide +kernel
theorem dX5_gift_120 : decode cX5_gift 120 = .ok (.i2l, 1) := by decide +kernel
theorem dX5_gift_121 : decode cX5_gift 121 = .ok (.lstore 9, 2) := by decide +kernel
theorem dX5_gift_123 : decode cX5_gift 123 = .ok (.lload 9, 2) := by decide +kernel
theorem dX5_gift_125 : decode cX5_gift 125 = .ok (.lload 7, 2) := by decide +kernel
theorem dX5_gift_127 : decode cX5_gift 127 = .ok (.lmul, 1) := by decide +kernel
theorem dX5_gift_128 : decode cX5_gift 128 = .ok (.aload_n 0, 1) := by decide +kernel
theorem dX5_gift_129 : decode cX5_gift 129 = .ok (.getfield 18, 3) := by decide +kernel
theorem dX5_gift_132 : decode cX5_gift 132 = .ok (.getfield 154, 3) := by decide +kernel
theorem dX5_gift_135 : decode cX5_gift 135 = .ok (.i2l, 1) := by decide +kernel
theorem dX5_gift_136 : decode cX5_gift 136 = .ok (.lload 4, 2) := by decide +kernel
theorem dX5_gift_138 : decode cX5_gift 138 = .ok (.invokestatic 293, 3) := by decide +kernel
theorem dX5_gift_141 : decode cX5_gift 141 = .ok (.lmul, 1) := by decide +kernel
theorem dX5_gift_142 : decode cX5_gift 142 = .ok (.ldc2_w 299, 3) := by decide +kernel
theorem dX5_gift_145 : decode cX5_gift 145 = .ok (.ldiv, 1) := by decide +kernel
theorem dX5_gift_146 : decode cX5_gift 146 = .ok (.lstore 11, 2) := by decide +kernel
theorem dX5_gift_148 : decode cX5_gift 148 = .ok (.lload 11, 2) := by decide +kernel
theorem dX5_gift_150 : decode cX5_gift 150 = .ok (.lload 7, 2) := by decide +kernel
theorem dX5_gift_152 : decode cX5_gift 152 = .ok (.lload 4, 2) := by decide +kernel
theorem dX5_gift_154 : decode cX5_gift 154 = .ok (.invokestatic 293, 3) := by decide +kernel
theorem dX5_gift_157 : decode cX5_gift 157 = .ok (.ldc2_w 301, 3) := by decide +kernel
theorem dX5_gift_160 : decode cX5_gift 160 = .ok (.ldiv, 1) := by decide +kernel
theorem dX5_gift_161 : decode cX5_gift 161 = .ok (.invokestatic 293, 3) := by decide +kernel
theorem dX5_gift_164 : decode cX5_gift 164 = .ok (.lreturn, 1) := by decide +kernel
theorem dX5_hand_0 : decode cX5_hand 0 = .ok (.iload_n 2, 1) := by decide +kernel
theorem dX5_hand_1 : decode cX5_hand 1 = .ok (.iconst (-1), 1) := by decide +kernel
theorem dX5_hand_2 : decode cX5_hand 2 = .ok (.if_icmp .ne 4, 3) := by decide +kernel
theorem dX5_hand_5 : decode cX5_hand 5 = .ok (.return_, 1) := by decide +kernel
theorem dX5_hand_6 : decode cX5_hand 6 = .ok (.lload_n 3, 1) := by decide +kernel
theorem dX5_hand_7 : decode cX5_hand 7 = .ok (.lstore 5, 2) := by decide +kernel
theorem dX5_hand_9 : decode cX5_hand 9 = .ok (.aload_n 0, 1) := by decide +kernel
theorem dX5_hand_10 : decode cX5_hand 10 = .ok (.getfield 32, 3) := by decide +kernel
theorem dX5_hand_13 : decode cX5_hand 13 = .ok (.getfield 160, 3) := by decide +kernel
theorem dX5_hand_16 : decode cX5_hand 16 = .ok (.istore 7, 2) := by decide +kernel
theorem dX5_hand_18 : decode cX5_hand 18 = .ok (.iload 7, 2) := by decide +kernel
theorem dX5_hand_20 : decode cX5_hand 20 = .ok (.ifCond .lt 125, 3) := by decide +kernel
theorem dX5_hand_23 : decode cX5_hand 23 = .ok (.lload 5, 2) := by decide +kernel
theorem dX5_hand_25 : decode cX5_hand 25 = .ok (.lconst 0, 1) := by decide +kernel
theorem dX5_hand_26 : decode cX5_hand 26 = .ok (.lcmp, 1) := by decide +kernel
theorem dX5_hand_27 : decode cX5_hand 27 = .ok (.ifCond .le 118, 3) := by decide +kernel
theorem dX5_hand_30 : decode cX5_hand 30 = .ok (.lload 5, 2) := by decide +kernel
theorem dX5_hand_32 : decode cX5_hand 32 = .ok (.aload_n 0, 1) := by decide +kernel
theorem dX5_hand_33 : decode cX5_hand 33 = .ok (.getfield 46, 3) := by decide +kernel
theorem dX5_hand_36 : decode cX5_hand 36 = .ok (.getfield 207, 3) := by decide +kernel
theorem dX5_hand_39 : decode cX5_hand 39 = .ok (.iload_n 1, 1) := by decide +kernel
theorem dX5_hand_40 : decode cX5_hand 40 = .ok (.bipush 61, 2) := by decide +kernel
theorem dX5_hand_42 : decode cX5_hand 42 = .ok (.imul, 1) := by decide +kernel
theorem dX5_hand_43 : decode cX5_hand 43 = .ok (.iload 7, 2) := by decide +kernel
theorem dX5_hand_45 : decode cX5_hand 45 = .ok (.iadd, 1) := by decide +kernel
theorem dX5_hand_46 : decode cX5_hand 46 = .ok (.laload, 1) := by decide +kernel
theorem dX5_hand_47 : decode cX5_hand 47 = .ok (.invokestatic 293, 3) := by decide +kernel
theorem dX5_hand_50 : decode cX5_hand 50 = .ok (.lstore 8, 2) := by decide +kernel
theorem dX5_hand_52 : decode cX5_hand 52 = .ok (.lload 8, 2) := by decide +kernel
theorem dX5_hand_54 : decode cX5_hand 54 = .ok (.lconst 0, 1) := by decide +kernel
theorem dX5_hand_55 : decode cX5_hand 55 = .ok (.lcmp, 1) := by decide +kernel
theorem dX5_hand_56 : decode cX5_hand 56 = .ok (.ifCond .ne 6, 3) := by decide +kernel
theorem dX5_hand_59 : decode cX5_hand 59 = .ok (.goto 80, 3) := by decide +kernel
theorem dX5_hand_62 : decode cX5_hand 62 = .ok (.aload_n 0, 1) := by decide +kernel
theorem dX5_hand_63 : decode cX5_hand 63 = .ok (.getfield 46, 3) := by decide +kernel
theorem dX5_hand_66 : decode cX5_hand 66 = .ok (.iload_n 1, 1) := by decide +kernel
theorem dX5_hand_67 : decode cX5_hand 67 = .ok (.iload 7, 2) := by decide +kernel
theorem dX5_hand_69 : decode cX5_hand 69 = .ok (.lload 8, 2) := by decide +kernel
theorem dX5_hand_71 : decode cX5_hand 71 = .ok (.invokevirtual 303, 3) := by decide +kernel
theorem dX5_hand_74 : decode cX5_hand 74 = .ok (.aload_n 0, 1) := by decide +kernel
theorem dX5_hand_75 : decode cX5_hand 75 = .ok (.getfield 32, 3) := by decide +kernel
theorem dX5_hand_78 : decode cX5_hand 78 = .ok (.iload_n 1, 1) := by decide +kernel
theorem dX5_hand_79 : decode cX5_hand 79 = .ok (.iload 7, 2) := by decide +kernel
theorem dX5_hand_81 : decode cX5_hand 81 = .ok (.lload 8, 2) := by decide +kernel
theorem dX5_hand_83 : decode cX5_hand 83 = .ok (.invokevirtual 303, 3) := by decide +kernel
theorem dX5_hand_86 : decode cX5_hand 86 = .ok (.aload_n 0, 1) := by decide +kernel
theorem dX5_hand_87 : decode cX5_hand 87 = .ok (.getfield 25, 3) := by decide +kernel
theorem dX5_hand_90 : decode cX5_hand 90 = .ok (.getfield 136, 3) := by decide +kernel
theorem dX5_hand_93 : decode cX5_hand 93 = .ok (.iload_n 2, 1) := by decide +kernel
theorem dX5_hand_94 : decode cX5_hand 94 = .ok (.iaload, 1) := by decide +kernel
theorem dX5_hand_95 : decode cX5_hand 95 = .ok (.iconst 4, 1) := by decide +kernel
theorem dX5_hand_96 : decode cX5_hand 96 = .ok (.if_icmp .ne 24, 3) := by decide +kernel
theorem dX5_hand_99 : decode cX5_hand 99 = .ok (.aload_n 0, 1) := by decide +kernel
theorem dX5_hand_100 : decode cX5_hand 100 = .ok (.getfield 32, 3) := by decide +kernel
theorem dX5_hand_103 : decode cX5_hand 103 = .ok (.getfield 217, 3) := by decide +kernel
theorem dX5_hand_106 : decode cX5_hand 106 = .ok (.bipush 122, 2) := by decide +kernel
theorem dX5_hand_108 : decode cX5_hand 108 = .ok (.iload 7, 2) := by decide +kernel
theorem dX5_hand_110 : decode cX5_hand 110 = .ok (.iadd, 1) := by decide +kernel
theorem dX5_hand_111 : decode cX5_hand 111 = .ok (.dup2, 1) := by decide +kernel
theorem dX5_hand_112 : decode cX5_hand 112 = .ok (.laload, 1) := by decide +kernel
theorem dX5_hand_113 : decode cX5_hand 113 = .ok (.lload 8, 2) := by decide +kernel
theorem dX5_hand_115 : decode cX5_hand 115 = .ok (.ladd, 1) := by decide +kernel
theorem dX5_hand_116 : decode cX5_hand 116 = .ok (.lastore, 1) := by decide +kernel
theorem dX5_hand_117 : decode cX5_hand 117 = .ok (.goto 15, 3) := by decide +kernel
theorem dX5_hand_120 : decode cX5_hand 120 = .ok (.aload_n 0, 1) := by decide +kernel
theorem dX5_hand_121 : decode cX5_hand 121 = .ok (.getfield 32, 3) := by decide +kernel
theorem dX5_hand_124 : decode cX5_hand 124 = .ok (.iload_n 2, 1) := by decide +kernel
theorem dX5_hand_125 : decode cX5_hand 125 = .ok (.iload 7, 2) := by decide +kernel
theorem dX5_hand_127 : decode cX5_hand 127 = .ok (.lload 8, 2) := by decide +kernel
theorem dX5_hand_129 : decode cX5_hand 129 = .ok (.invokevirtual 306, 3) := by decide +kernel
theorem dX5_hand_132 : decode cX5_hand 132 = .ok (.lload 5, 2) := by decide +kernel
theorem dX5_hand_134 : decode cX5_hand 134 = .ok (.lload 8, 2) := by decide +kernel
theorem dX5_hand_136 : decode cX5_hand 136 = .ok (.lsub, 1) := by decide +kernel
theorem dX5_hand_137 : decode cX5_hand 137 = .ok (.lstore 5, 2) := by decide +kernel
theorem dX5_hand_139 : decode cX5_hand 139 = .ok (.iinc 7 (-1), 3) := by decide +kernel
theorem dX5_hand_142 : decode cX5_hand 142 = .ok (.goto (-124), 3) := by decide +kernel
theorem dX5_hand_145 : decode cX5_hand 145 = .ok (.return_, 1) := by decide +kernel
theorem dX5_floatIce_0 : decode cX5_floatIce 0 = .ok (.iconst 0, 1) := by decide +kernel
theorem dX5_floatIce_1 : decode cX5_floatIce 1 = .ok (.istore_n 1, 1) := by decide +kernel
theorem dX5_floatIce_2 : decode cX5_floatIce 2 = .ok (.iload_n 1, 1) := by decide +kernel
theorem dX5_floatIce_3 : decode cX5_floatIce 3 = .ok (.aload_n 0, 1) := by decide +kernel
theorem dX5_floatIce_4 : decode cX5_floatIce 4 = .ok (.getfield 25, 3) := by decide +kernel
theorem dX5_floatIce_7 : decode cX5_floatIce 7 = .ok (.getfield 273, 3) := by decide +kernel
theorem dX5_floatIce_10 : decode cX5_floatIce 10 = .ok (.if_icmp .ge 50, 3) := by decide +kernel
theorem dX5_floatIce_13 : decode cX5_floatIce 13 = .ok (.aload_n 0, 1) := by decide +kernel
theorem dX5_floatIce_14 : decode cX5_floatIce 14 = .ok (.getfield 25, 3) := by decide +kernel
theorem dX5_floatIce_17 : decode cX5_floatIce 17 = .ok (.getfield 276, 3) := by decide +kernel
theorem dX5_floatIce_20 : decode cX5_floatIce 20 = .ok (.iload_n 1, 1) := by decide +kernel
theorem dX5_floatIce_21 : decode cX5_floatIce 21 = .ok (.iaload, 1) := by decide +kernel
theorem dX5_floatIce_22 : decode cX5_floatIce 22 = .ok (.istore_n 2, 1) := by decide +kernel
theorem dX5_floatIce_23 : decode cX5_floatIce 23 = .ok (.aload_n 0, 1) := by decide +kernel
theorem dX5_floatIce_24 : decode cX5_floatIce 24 = .ok (.getfield 25, 3) := by decide +kernel
theorem dX5_floatIce_27 : decode cX5_floatIce 27 = .ok (.getfield 136, 3) := by decide +kernel
theorem dX5_floatIce_30 : decode cX5_floatIce 30 = .ok (.iload_n 2, 1) := by decide +kernel
theorem dX5_floatIce_31 : decode cX5_floatIce 31 = .ok (.iaload, 1) := by decide +kernel
theorem dX5_floatIce_32 : decode cX5_floatIce 32 = .ok (.iconst 3, 1) := by decide +kernel
theorem dX5_floatIce_33 : decode cX5_floatIce 33 = .ok (.if_icmp .ne 21, 3) := by decide +kernel
theorem dX5_floatIce_36 : decode cX5_floatIce 36 = .ok (.aload_n 0, 1) := by decide +kernel
theorem dX5_floatIce_37 : decode cX5_floatIce 37 = .ok (.getfield 32, 3) := by decide +kernel
theorem dX5_floatIce_40 : decode cX5_floatIce 40 = .ok (.iload_n 2, 1) := by decide +kernel
theorem dX5_floatIce_41 : decode cX5_floatIce 41 = .ok (.aload_n 0, 1) := by decide +kernel
theorem dX5_floatIce_42 : decode cX5_floatIce 42 = .ok (.getfield 32, 3) := by decide +kernel
theorem dX5_floatIce_45 : decode cX5_floatIce 45 = .ok (.getfield 168, 3) := by decide +kernel
theorem dX5_floatIce_48 : decode cX5_floatIce 48 = .ok (.iload_n 2, 1) := by decide +kernel
theorem dX5_floatIce_49 : decode cX5_floatIce 49 = .ok (.laload, 1) := by decide +kernel
theorem dX5_floatIce_50 : decode cX5_floatIce 50 = .ok (.iconst 3, 1) := by decide +kernel
theorem dX5_floatIce_51 : decode cX5_floatIce 51 = .ok (.invokevirtual 283, 3) := by decide +kernel
theorem dX5_floatIce_54 : decode cX5_floatIce 54 = .ok (.iinc 1 1, 3) := by decide +kernel
theorem dX5_floatIce_57 : decode cX5_floatIce 57 = .ok (.goto (-55), 3) := by decide +kernel
theorem dX5_floatIce_60 : decode cX5_floatIce 60 = .ok (.return_, 1) := by decide +kernel
theorem dX5_remember_0 : decode cX5_remember 0 = .ok (.aload_n 0, 1) := by decide +kernel
theorem dX5_remember_1 : decode cX5_remember 1 = .ok (.getfield 32, 3) := by decide +kernel
theorem dX5_remember_4 : decode cX5_remember 4 = .ok (.getfield 168, 3) := by decide +kernel
theorem dX5_remember_7 : decode cX5_remember 7 = .ok (.iconst 0, 1) := by decide +kernel
theorem dX5_remember_8 : decode cX5_remember 8 = .ok (.aload_n 0, 1) := by decide +kernel
theorem dX5_remember_9 : decode cX5_remember 9 = .ok (.getfield 53, 3) := by decide +kernel
theorem dX5_remember_12 : decode cX5_remember 12 = .ok (.iload_n 1, 1) := by decide +kernel
theorem dX5_remember_13 : decode cX5_remember 13 = .ok (.bipush 64, 2) := by decide +kernel
theorem dX5_remember_15 : decode cX5_remember 15 = .ok (.imul, 1) := by decide +kernel
theorem dX5_remember_16 : decode cX5_remember 16 = .ok (.bipush 64, 2) := by decide +kernel
theorem dX5_remember_18 : decode cX5_remember 18 = .ok (.invokestatic 101, 3) := by decide +kernel
theorem dX5_remember_21 : decode cX5_remember 21 = .ok (.return_, 1) := by decide +kernel
theorem dX5_yearsSinceAlike_0 : decode cX5_yearsSinceAlike 0 = .ok (.iload_n 1, 1) := by decide +kernel
theorem dX5_yearsSinceAlike_1 : decode cX5_yearsSinceAlike 1 = .ok (.iconst 1, 1) := by decide +kernel
theorem dX5_yearsSinceAlike_2 : decode cX5_yearsSinceAlike 2 = .ok (.isub, 1) := by decide +kernel
theorem dX5_yearsSinceAlike_3 : decode cX5_yearsSinceAlike 3 = .ok (.istore_n 2, 1) := by decide +kernel
theorem dX5_yearsSinceAlike_4 : decode cX5_yearsSinceAlike 4 = .ok (.iload_n 2, 1) := by decide +kernel
theorem dX5_yearsSinceAlike_5 : decode cX5_yearsSinceAlike 5 = .ok (.ifCond .lt 21, 3) := by decide +kernel
theorem dX5_yearsSinceAlike_8 : decode cX5_yearsSinceAlike 8 = .ok (.aload_n 0, 1) := by decide +kernel
theorem dX5_yearsSinceAlike_9 : decode cX5_yearsSinceAlike 9 = .ok (.iload_n 2, 1) := by decide +kernel
theorem dX5_yearsSinceAlike_10 : decode cX5_yearsSinceAlike 10 = .ok (.invokevirtual 309, 3) := by decide +kernel
theorem dX5_yearsSinceAlike_13 : decode cX5_yearsSinceAlike 13 = .ok (.ifCond .eq 7, 3) := by decide +kernel
theorem dX5_yearsSinceAlike_16 : decode cX5_yearsSinceAlike 16 = .ok (.iload_n 1, 1) := by decide +kernel
theorem dX5_yearsSinceAlike_17 : decode cX5_yearsSinceAlike 17 = .ok (.iload_n 2, 1) := by decide +kernel
theorem dX5_yearsSinceAlike_18 : decode cX5_yearsSinceAlike 18 = .ok (.isub, 1) := by decide +kernel
theorem dX5_yearsSinceAlike_19 : decode cX5_yearsSinceAlike 19 = .ok (.ireturn, 1) := by decide +kernel
theorem dX5_yearsSinceAlike_20 : decode cX5_yearsSinceAlike 20 = .ok (.iinc 2 (-1), 3) := by decide +kernel
theorem dX5_yearsSinceAlike_23 : decode cX5_yearsSinceAlike 23 = .ok (.goto (-19), 3) := by decide +kernel
theorem dX5_yearsSinceAlike_26 : decode cX5_yearsSinceAlike 26 = .ok (.iconst 0, 1) := by decide +kernel
theorem dX5_yearsSinceAlike_27 : decode cX5_yearsSinceAlike 27 = .ok (.ireturn, 1) := by decide +kernel
theorem dX5_liesAsIn_0 : decode cX5_liesAsIn 0 = .ok (.iconst 0, 1) := by decide +kernel
theorem dX5_liesAsIn_1 : decode cX5_liesAsIn 1 = .ok (.istore_n 2, 1) := by decide +kernel
theorem dX5_liesAsIn_2 : decode cX5_liesAsIn 2 = .ok (.iload_n 2, 1) := by decide +kernel
theorem dX5_liesAsIn_3 : decode cX5_liesAsIn 3 = .ok (.aload_n 0, 1) := by decide +kernel
theorem dX5_liesAsIn_4 : decode cX5_liesAsIn 4 = .ok (.getfield 25, 3) := by decide +kernel
theorem dX5_liesAsIn_7 : decode cX5_liesAsIn 7 = .ok (.getfield 273, 3) := by decide +kernel
theorem dX5_liesAsIn_10 : decode cX5_liesAsIn 10 = .ok (.if_icmp .ge 45, 3) := by decide +kernel
theorem dX5_liesAsIn_13 : decode cX5_liesAsIn 13 = .ok (.aload_n 0, 1) := by decide +kernel
theorem dX5_liesAsIn_14 : decode cX5_liesAsIn 14 = .ok (.getfield 25, 3) := by decide +kernel
theorem dX5_liesAsIn_17 : decode cX5_liesAsIn 17 = .ok (.getfield 276, 3) := by decide +kernel
theorem dX5_liesAsIn_20 : decode cX5_liesAsIn 20 = .ok (.iload_n 2, 1) := by decide +kernel
theorem dX5_liesAsIn_21 : decode cX5_liesAsIn 21 = .ok (.iaload, 1) := by decide +kernel
theorem dX5_liesAsIn_22 : decode cX5_liesAsIn 22 = .ok (.istore_n 3, 1) := by decide +kernel
theorem dX5_liesAsIn_23 : decode cX5_liesAsIn 23 = .ok (.aload_n 0, 1) := by decide +kernel
theorem dX5_liesAsIn_24 : decode cX5_liesAsIn 24 = .ok (.getfield 53, 3) := by decide +kernel
theorem dX5_liesAsIn_27 : decode cX5_liesAsIn 27 = .ok (.iload_n 1, 1) := by decide +kernel
theorem dX5_liesAsIn_28 : decode cX5_liesAsIn 28 = .ok (.bipush 64, 2) := by decide +kernel
theorem dX5_liesAsIn_30 : decode cX5_liesAsIn 30 = .ok (.imul, 1) := by decide +kernel
theorem dX5_liesAsIn_31 : decode cX5_liesAsIn 31 = .ok (.iload_n 3, 1) := by decide +kernel
theorem dX5_liesAsIn_32 : decode cX5_liesAsIn 32 = .ok (.iadd, 1) := by decide +kernel
theorem dX5_liesAsIn_33 : decode cX5_liesAsIn 33 = .ok (.laload, 1) := by decide +kernel
theorem dX5_liesAsIn_34 : decode cX5_liesAsIn 34 = .ok (.aload_n 0, 1) := by decide +kernel
theorem dX5_liesAsIn_35 : decode cX5_liesAsIn 35 = .ok (.getfield 32, 3) := by decide +kernel
theorem dX5_liesAsIn_38 : decode cX5_liesAsIn 38 = .ok (.getfield 168, 3) := by decide +kernel
theorem dX5_liesAsIn_41 : decode cX5_liesAsIn 41 = .ok (.iload_n 3, 1) := by decide +kernel
theorem dX5_liesAsIn_42 : decode cX5_liesAsIn 42 = .ok (.laload, 1) := by decide +kernel
theorem dX5_liesAsIn_43 : decode cX5_liesAsIn 43 = .ok (.lcmp, 1) := by decide +kernel
theorem dX5_liesAsIn_44 : decode cX5_liesAsIn 44 = .ok (.ifCond .eq 5, 3) := by decide +kernel
theorem dX5_liesAsIn_47 : decode cX5_liesAsIn 47 = .ok (.iconst 0, 1) := by decide +kernel
theorem dX5_liesAsIn_48 : decode cX5_liesAsIn 48 = .ok (.ireturn, 1) := by decide +kernel
theorem dX5_liesAsIn_49 : decode cX5_liesAsIn 49 = .ok (.iinc 2 1, 3) := by decide +kernel
theorem dX5_liesAsIn_52 : decode cX5_liesAsIn 52 = .ok (.goto (-50), 3) := by decide +kernel
theorem dX5_liesAsIn_55 : decode cX5_liesAsIn 55 = .ok (.iconst 1, 1) := by decide +kernel
theorem dX5_liesAsIn_56 : decode cX5_liesAsIn 56 = .ok (.ireturn, 1) := by decide +kernel
theorem dX5_icyCells_0 : decode cX5_icyCells 0 = .ok (.iconst 0, 1) := by decide +kernel
theorem dX5_icyCells_1 : decode cX5_icyCells 1 = .ok (.istore_n 1, 1) := by decide +kernel
theorem dX5_icyCells_2 : decode cX5_icyCells 2 = .ok (.iconst 0, 1) := by decide +kernel
theorem dX5_icyCells_3 : decode cX5_icyCells 3 = .ok (.istore_n 2, 1) := by decide +kernel
theorem dX5_icyCells_4 : decode cX5_icyCells 4 = .ok (.iload_n 2, 1) := by decide +kernel
theorem dX5_icyCells_5 : decode cX5_icyCells 5 = .ok (.aload_n 0, 1) := by decide +kernel
theorem dX5_icyCells_6 : decode cX5_icyCells 6 = .ok (.getfield 25, 3) := by decide +kernel
theorem dX5_icyCells_9 : decode cX5_icyCells 9 = .ok (.getfield 273, 3) := by decide +kernel
theorem dX5_icyCells_12 : decode cX5_icyCells 12 = .ok (.if_icmp .ge 34, 3) := by decide +kernel
theorem dX5_icyCells_15 : decode cX5_icyCells 15 = .ok (.aload_n 0, 1) := by decide +kernel
theorem dX5_icyCells_16 : decode cX5_icyCells 16 = .ok (.getfield 32, 3) := by decide +kernel
theorem dX5_icyCells_19 : decode cX5_icyCells 19 = .ok (.getfield 168, 3) := by decide +kernel
theorem dX5_icyCells_22 : decode cX5_icyCells 22 = .ok (.aload_n 0, 1) := by decide +kernel
theorem dX5_icyCells_23 : decode cX5_icyCells 23 = .ok (.getfield 25, 3) := by decide +kernel
theorem dX5_icyCells_26 : decode cX5_icyCells 26 = .ok (.getfield 276, 3) := by decide +kernel
theorem dX5_icyCells_29 : decode cX5_icyCells 29 = .ok (.iload_n 2, 1) := by decide +kernel
theorem dX5_icyCells_30 : decode cX5_icyCells 30 = .ok (.iaload, 1) := by decide +kernel
theorem dX5_icyCells_31 : decode cX5_icyCells 31 = .ok (.laload, 1) := by decide +kernel
theorem dX5_icyCells_32 : decode cX5_icyCells 32 = .ok (.lconst 0, 1) := by decide +kernel
theorem dX5_icyCells_33 : decode cX5_icyCells 33 = .ok (.lcmp, 1) := by decide +kernel
theorem dX5_icyCells_34 : decode cX5_icyCells 34 = .ok (.ifCond .le 6, 3) := by decide +kernel
theorem dX5_icyCells_37 : decode cX5_icyCells 37 = .ok (.iinc 1 1, 3) := by decide +kernel
theorem dX5_icyCells_40 : decode cX5_icyCells 40 = .ok (.iinc 2 1, 3) := by decide +kernel
theorem dX5_icyCells_43 : decode cX5_icyCells 43 = .ok (.goto (-39), 3) := by decide +kernel
theorem dX5_icyCells_46 : decode cX5_icyCells 46 = .ok (.iload_n 1, 1) := by decide +kernel
theorem dX5_icyCells_47 : decode cX5_icyCells 47 = .ok (.ireturn, 1) := by decide +kernel
theorem dX5_thickestPlace_0 : decode cX5_thickestPlace 0 = .ok (.iconst (-1), 1) := by decide +kernel
theorem dX5_thickestPlace_1 : decode cX5_thickestPlace 1 = .ok (.istore_n 1, 1) := by decide +kernel
theorem dX5_thickestPlace_2 : decode cX5_thickestPlace 2 = .ok (.lconst 0, 1) := by decide +kernel
theorem dX5_thickestPlace_3 : decode cX5_thickestPlace 3 = .ok (.lstore_n 2, 1) := by decide +kernel
theorem dX5_thickestPlace_4 : decode cX5_thickestPlace 4 = .ok (.iconst 0, 1) := by decide +kernel
theorem dX5_thickestPlace_5 : decode cX5_thickestPlace 5 = .ok (.istore 4, 2) := by decide +kernel
theorem dX5_thickestPlace_7 : decode cX5_thickestPlace 7 = .ok (.iload 4, 2) := by decide +kernel
theorem dX5_thickestPlace_9 : decode cX5_thickestPlace 9 = .ok (.aload_n 0, 1) := by decide +kernel
theorem dX5_thickestPlace_10 : decode cX5_thickestPlace 10 = .ok (.getfield 25, 3) := by decide +kernel
theorem dX5_thickestPlace_13 : decode cX5_thickestPlace 13 = .ok (.getfield 273, 3) := by decide +kernel
theorem dX5_thickestPlace_16 : decode cX5_thickestPlace 16 = .ok (.if_icmp .ge 50, 3) := by decide +kernel
theorem dX5_thickestPlace_19 : decode cX5_thickestPlace 19 = .ok (.aload_n 0, 1) := by decide +kernel
theorem dX5_thickestPlace_20 : decode cX5_thickestPlace 20 = .ok (.getfield 25, 3) := by decide +kernel
theorem dX5_thickestPlace_23 : decode cX5_thickestPlace 23 = .ok (.getfield 276, 3) := by decide +kernel
theorem dX5_thickestPlace_26 : decode cX5_thickestPlace 26 = .ok (.iload 4, 2) := by decide +kernel
theorem dX5_thickestPlace_28 : decode cX5_thickestPlace 28 = .ok (.iaload, 1) := by decide +kernel
theorem dX5_thickestPlace_29 : decode cX5_thickestPlace 29 = .ok (.istore 5, 2) := by decide +kernel
theorem dX5_thickestPlace_31 : decode cX5_thickestPlace 31 = .ok (.aload_n 0, 1) := by decide +kernel
theorem dX5_thickestPlace_32 : decode cX5_thickestPlace 32 = .ok (.getfield 32, 3) := by decide +kernel
theorem dX5_thickestPlace_35 : decode cX5_thickestPlace 35 = .ok (.getfield 168, 3) := by decide +kernel
theorem dX5_thickestPlace_38 : decode cX5_thickestPlace 38 = .ok (.iload 5, 2) := by decide +kernel
theorem dX5_thickestPlace_40 : decode cX5_thickestPlace 40 = .ok (.laload, 1) := by decide +kernel
theorem dX5_thickestPlace_41 : decode cX5_thickestPlace 41 = .ok (.lload_n 2, 1) := by decide +kernel
theorem dX5_thickestPlace_42 : decode cX5_thickestPlace 42 = .ok (.lcmp, 1) := by decide +kernel
theorem dX5_thickestPlace_43 : decode cX5_thickestPlace 43 = .ok (.ifCond .le 17, 3) := by decide +kernel
theorem dX5_thickestPlace_46 : decode cX5_thickestPlace 46 = .ok (.aload_n 0, 1) := by decide +kernel
theorem dX5_thickestPlace_47 : decode cX5_thickestPlace 47 = .ok (.getfield 32, 3) := by decide +kernel
theorem dX5_thickestPlace_50 : decode cX5_thickestPlace 50 = .ok (.getfield 168, 3) := by decide +kernel
theorem dX5_thickestPlace_53 : decode cX5_thickestPlace 53 = .ok (.iload 5, 2) := by decide +kernel
theorem dX5_thickestPlace_55 : decode cX5_thickestPlace 55 = .ok (.laload, 1) := by decide +kernel
theorem dX5_thickestPlace_56 : decode cX5_thickestPlace 56 = .ok (.lstore_n 2, 1) := by decide +kernel
theorem dX5_thickestPlace_57 : decode cX5_thickestPlace 57 = .ok (.iload 5, 2) := by decide +kernel
theorem dX5_thickestPlace_59 : decode cX5_thickestPlace 59 = .ok (.istore_n 1, 1) := by decide +kernel
theorem dX5_thickestPlace_60 : decode cX5_thickestPlace 60 = .ok (.iinc 4 1, 3) := by decide +kernel
theorem dX5_thickestPlace_63 : decode cX5_thickestPlace 63 = .ok (.goto (-56), 3) := by decide +kernel
theorem dX5_thickestPlace_66 : decode cX5_thickestPlace 66 = .ok (.iload_n 1, 1) := by decide +kernel
theorem dX5_thickestPlace_67 : decode cX5_thickestPlace 67 = .ok (.ireturn, 1) := by decide +kernel
theorem dX5_lowestIceSurface_0 : decode cX5_lowestIceSurface 0 = .ok (.ldc2_w 233, 3) := by decide +kernel
theorem dX5_lowestIceSurface_3 : decode cX5_lowestIceSurface 3 = .ok (.lstore_n 1, 1) := by decide +kernel
theorem dX5_lowestIceSurface_4 : decode cX5_lowestIceSurface 4 = .ok (.iconst 0, 1) := by decide +kernel
theorem dX5_lowestIceSurface_5 : decode cX5_lowestIceSurface 5 = .ok (.istore_n 3, 1) := by decide +kernel
theorem dX5_lowestIceSurface_6 : decode cX5_lowestIceSurface 6 = .ok (.iload_n 3, 1) := by decide +kernel
theorem dX5_lowestIceSurface_7 : decode cX5_lowestIceSurface 7 = .ok (.aload_n 0, 1) := by decide +kernel
theorem dX5_lowestIceSurface_8 : decode cX5_lowestIceSurface 8 = .ok (.getfield 25, 3) := by decide +kernel
theorem dX5_lowestIceSurface_11 : decode cX5_lowestIceSurface 11 = .ok (.getfield 273, 3) := by decide +kernel
theorem dX5_lowestIceSurface_14 : decode cX5_lowestIceSurface 14 = .ok (.if_icmp .ge 61, 3) := by decide +kernel
theorem dX5_lowestIceSurface_17 : decode cX5_lowestIceSurface 17 = .ok (.aload_n 0, 1) := by decide +kernel
theorem dX5_lowestIceSurface_18 : decode cX5_lowestIceSurface 18 = .ok (.getfield 25, 3) := by decide +kernel
theorem dX5_lowestIceSurface_21 : decode cX5_lowestIceSurface 21 = .ok (.getfield 276, 3) := by decide +kernel
theorem dX5_lowestIceSurface_24 : decode cX5_lowestIceSurface 24 = .ok (.iload_n 3, 1) := by decide +kernel
theorem dX5_lowestIceSurface_25 : decode cX5_lowestIceSurface 25 = .ok (.iaload, 1) := by decide +kernel
theorem dX5_lowestIceSurface_26 : decode cX5_lowestIceSurface 26 = .ok (.istore 4, 2) := by decide +kernel
theorem dX5_lowestIceSurface_28 : decode cX5_lowestIceSurface 28 = .ok (.aload_n 0, 1) := by decide +kernel
theorem dX5_lowestIceSurface_29 : decode cX5_lowestIceSurface 29 = .ok (.getfield 32, 3) := by decide +kernel
theorem dX5_lowestIceSurface_32 : decode cX5_lowestIceSurface 32 = .ok (.getfield 168, 3) := by decide +kernel
theorem dX5_lowestIceSurface_35 : decode cX5_lowestIceSurface 35 = .ok (.iload 4, 2) := by decide +kernel
theorem dX5_lowestIceSurface_37 : decode cX5_lowestIceSurface 37 = .ok (.laload, 1) := by decide +kernel
theorem dX5_lowestIceSurface_38 : decode cX5_lowestIceSurface 38 = .ok (.lconst 0, 1) := by decide +kernel
theorem dX5_lowestIceSurface_39 : decode cX5_lowestIceSurface 39 = .ok (.lcmp, 1) := by decide +kernel
theorem dX5_lowestIceSurface_40 : decode cX5_lowestIceSurface 40 = .ok (.ifCond .le 29, 3) := by decide +kernel
theorem dX5_lowestIceSurface_43 : decode cX5_lowestIceSurface 43 = .ok (.lload_n 1, 1) := by decide +kernel
theorem dX5_lowestIceSurface_44 : decode cX5_lowestIceSurface 44 = .ok (.ldc2_w 233, 3) := by decide +kernel
theorem dX5_lowestIceSurface_47 : decode cX5_lowestIceSurface 47 = .ok (.lcmp, 1) := by decide +kernel
theorem dX5_lowestIceSurface_48 : decode cX5_lowestIceSurface 48 = .ok (.ifCond .eq 14, 3) := by decide +kernel
theorem dX5_lowestIceSurface_51 : decode cX5_lowestIceSurface 51 = .ok (.aload_n 0, 1) := by decide +kernel
theorem dX5_lowestIceSurface_52 : decode cX5_lowestIceSurface 52 = .ok (.iload 4, 2) := by decide +kernel
theorem dX5_lowestIceSurface_54 : decode cX5_lowestIceSurface 54 = .ok (.invokevirtual 194, 3) := by decide +kernel
theorem dX5_lowestIceSurface_57 : decode cX5_lowestIceSurface 57 = .ok (.lload_n 1, 1) := by decide +kernel
theorem dX5_lowestIceSurface_58 : decode cX5_lowestIceSurface 58 = .ok (.lcmp, 1) := by decide +kernel
theorem dX5_lowestIceSurface_59 : decode cX5_lowestIceSurface 59 = .ok (.ifCond .ge 10, 3) := by decide +kernel
theorem dX5_lowestIceSurface_62 : decode cX5_lowestIceSurface 62 = .ok (.aload_n 0, 1) := by decide +kernel
theorem dX5_lowestIceSurface_63 : decode cX5_lowestIceSurface 63 = .ok (.iload 4, 2) := by decide +kernel
theorem dX5_lowestIceSurface_65 : decode cX5_lowestIceSurface 65 = .ok (.invokevirtual 194, 3) := by decide +kernel
theorem dX5_lowestIceSurface_68 : decode cX5_lowestIceSurface 68 = .ok (.lstore_n 1, 1) := by decide +kernel
theorem dX5_lowestIceSurface_69 : decode cX5_lowestIceSurface 69 = .ok (.iinc 3 1, 3) := by decide +kernel
theorem dX5_lowestIceSurface_72 : decode cX5_lowestIceSurface 72 = .ok (.goto (-66), 3) := by decide +kernel
theorem dX5_lowestIceSurface_75 : decode cX5_lowestIceSurface 75 = .ok (.lload_n 1, 1) := by decide +kernel
theorem dX5_lowestIceSurface_76 : decode cX5_lowestIceSurface 76 = .ok (.lreturn, 1) := by decide +kernel
theorem dX5_turnCells_0 : decode cX5_turnCells 0 = .ok (.aload_n 0, 1) := by decide +kernel
theorem dX5_turnCells_1 : decode cX5_turnCells 1 = .ok (.getfield 25, 3) := by decide +kernel
theorem dX5_turnCells_4 : decode cX5_turnCells 4 = .ok (.iload_n 1, 1) := by decide +kernel
theorem dX5_turnCells_5 : decode cX5_turnCells 5 = .ok (.ifCond .eq 13, 3) := by decide +kernel
theorem dX5_turnCells_8 : decode cX5_turnCells 8 = .ok (.aload_n 0, 1) := by decide +kernel
theorem dX5_turnCells_9 : decode cX5_turnCells 9 = .ok (.getfield 43, 3) := by decide +kernel
theorem dX5_turnCells_12 : decode cX5_turnCells 12 = .ok (.getfield 252, 3) := by decide +kernel
theorem dX5_turnCells_15 : decode cX5_turnCells 15 = .ok (.goto 10, 3) := by decide +kernel
theorem dX5_turnCells_18 : decode cX5_turnCells 18 = .ok (.aload_n 0, 1) := by decide +kernel
theorem dX5_turnCells_19 : decode cX5_turnCells 19 = .ok (.getfield 43, 3) := by decide +kernel
theorem dX5_turnCells_22 : decode cX5_turnCells 22 = .ok (.getfield 249, 3) := by decide +kernel
theorem dX5_turnCells_25 : decode cX5_turnCells 25 = .ok (.iload_n 1, 1) := by decide +kernel
theorem dX5_turnCells_26 : decode cX5_turnCells 26 = .ok (.ifCond .eq 13, 3) := by decide +kernel
theorem dX5_turnCells_29 : decode cX5_turnCells 29 = .ok (.aload_n 0, 1) := by decide +kernel
theorem dX5_turnCells_30 : decode cX5_turnCells 30 = .ok (.getfield 43, 3) := by decide +kernel
theorem dX5_turnCells_33 : decode cX5_turnCells 33 = .ok (.getfield 249, 3) := by decide +kernel
theorem dX5_turnCells_36 : decode cX5_turnCells 36 = .ok (.goto 10, 3) := by decide +kernel
theorem dX5_turnCells_39 : decode cX5_turnCells 39 = .ok (.aload_n 0, 1) := by decide +kernel
theorem dX5_turnCells_40 : decode cX5_turnCells 40 = .ok (.getfield 43, 3) := by decide +kernel
theorem dX5_turnCells_43 : decode cX5_turnCells 43 = .ok (.getfield 252, 3) := by decide +kernel
theorem dX5_turnCells_46 : decode cX5_turnCells 46 = .ok (.invokevirtual 110, 3) := by decide +kernel
theorem dX5_turnCells_49 : decode cX5_turnCells 49 = .ok (.iconst 0, 1) := by decide +kernel
theorem dX5_turnCells_50 : decode cX5_turnCells 50 = .ok (.istore_n 2, 1) := by decide +kernel
theorem dX5_turnCells_51 : decode cX5_turnCells 51 = .ok (.iload_n 2, 1) := by decide +kernel
theorem dX5_turnCells_52 : decode cX5_turnCells 52 = .ok (.aload_n 0, 1) := by decide +kernel
theorem dX5_turnCells_53 : decode cX5_turnCells 53 = .ok (.getfield 25, 3) := by decide +kernel
theorem dX5_turnCells_56 : decode cX5_turnCells 56 = .ok (.getfield 252, 3) := by decide +kernel
theorem dX5_turnCells_59 : decode cX5_turnCells 59 = .ok (.if_icmp .ge 74, 3) := by decide +kernel
theorem dX5_turnCells_62 : decode cX5_turnCells 62 = .ok (.iconst 0, 1) := by decide +kernel
theorem dX5_turnCells_63 : decode cX5_turnCells 63 = .ok (.istore_n 3, 1) := by decide +kernel
theorem dX5_turnCells_64 : decode cX5_turnCells 64 = .ok (.iload_n 3, 1) := by decide +kernel
theorem dX5_turnCells_65 : decode cX5_turnCells 65 = .ok (.aload_n 0, 1) := by decide +kernel
theorem dX5_turnCells_66 : decode cX5_turnCells 66 = .ok (.getfield 25, 3) := by decide +kernel
theorem dX5_turnCells_69 : decode cX5_turnCells 69 = .ok (.getfield 249, 3) := by decide +kernel
theorem dX5_turnCells_72 : decode cX5_turnCells 72 = .ok (.if_icmp .ge 55, 3) := by decide +kernel
theorem dX5_turnCells_75 : decode cX5_turnCells 75 = .ok (.aload_n 0, 1) := by decide +kernel
theorem dX5_turnCells_76 : decode cX5_turnCells 76 = .ok (.getfield 25, 3) := by decide +kernel
theorem dX5_turnCells_79 : decode cX5_turnCells 79 = .ok (.getfield 249, 3) := by decide +kernel
theorem dX5_turnCells_82 : decode cX5_turnCells 82 = .ok (.iconst 1, 1) := by decide +kernel
theorem dX5_turnCells_83 : decode cX5_turnCells 83 = .ok (.isub, 1) := by decide +kernel
theorem dX5_turnCells_84 : decode cX5_turnCells 84 = .ok (.iload_n 3, 1) := by decide +kernel
theorem dX5_turnCells_85 : decode cX5_turnCells 85 = .ok (.isub, 1) := by decide +kernel
theorem dX5_turnCells_86 : decode cX5_turnCells 86 = .ok (.istore 4, 2) := by decide +kernel
theorem dX5_turnCells_88 : decode cX5_turnCells 88 = .ok (.aload_n 0, 1) := by decide +kernel
theorem dX5_turnCells_89 : decode cX5_turnCells 89 = .ok (.iload_n 3, 1) := by decide +kernel
theorem dX5_turnCells_90 : decode cX5_turnCells 90 = .ok (.iload_n 2, 1) := by decide +kernel
theorem dX5_turnCells_91 : decode cX5_turnCells 91 = .ok (.iload_n 1, 1) := by decide +kernel
theorem dX5_turnCells_92 : decode cX5_turnCells 92 = .ok (.ifCond .eq 16, 3) := by decide +kernel
theorem dX5_turnCells_95 : decode cX5_turnCells 95 = .ok (.aload_n 0, 1) := by decide +kernel
theorem dX5_turnCells_96 : decode cX5_turnCells 96 = .ok (.getfield 43, 3) := by decide +kernel
theorem dX5_turnCells_99 : decode cX5_turnCells 99 = .ok (.iload_n 2, 1) := by decide +kernel
theorem dX5_turnCells_100 : decode cX5_turnCells 100 = .ok (.iload 4, 2) := by decide +kernel
theorem dX5_turnCells_102 : decode cX5_turnCells 102 = .ok (.invokevirtual 129, 3) := by decide +kernel
theorem dX5_turnCells_105 : decode cX5_turnCells 105 = .ok (.goto 13, 3) := by decide +kernel
theorem dX5_turnCells_108 : decode cX5_turnCells 108 = .ok (.aload_n 0, 1) := by decide +kernel
theorem dX5_turnCells_109 : decode cX5_turnCells 109 = .ok (.getfield 43, 3) := by decide +kernel
theorem dX5_turnCells_112 : decode cX5_turnCells 112 = .ok (.iload 4, 2) := by decide +kernel
theorem dX5_turnCells_114 : decode cX5_turnCells 114 = .ok (.iload_n 2, 1) := by decide +kernel
theorem dX5_turnCells_115 : decode cX5_turnCells 115 = .ok (.invokevirtual 129, 3) := by decide +kernel
theorem dX5_turnCells_118 : decode cX5_turnCells 118 = .ok (.invokevirtual 312, 3) := by decide +kernel
theorem dX5_turnCells_121 : decode cX5_turnCells 121 = .ok (.iinc 3 1, 3) := by decide +kernel
theorem dX5_turnCells_124 : decode cX5_turnCells 124 = .ok (.goto (-60), 3) := by decide +kernel
theorem dX5_turnCells_127 : decode cX5_turnCells 127 = .ok (.iinc 2 1, 3) := by decide +kernel
theorem dX5_turnCells_130 : decode cX5_turnCells 130 = .ok (.goto (-79), 3) := by decide +kernel
theorem dX5_turnCells_133 : decode cX5_turnCells 133 = .ok (.return_, 1) := by decide +kernel
theorem dX5_fetchCell_0 : decode cX5_fetchCell 0 = .ok (.aload_n 0, 1) := by decide +kernel
theorem dX5_fetchCell_1 : decode cX5_fetchCell 1 = .ok (.getfield 25, 3) := by decide +kernel
theorem dX5_fetchCell_4 : decode cX5_fetchCell 4 = .ok (.iload_n 1, 1) := by decide +kernel
theorem dX5_fetchCell_5 : decode cX5_fetchCell 5 = .ok (.iload_n 2, 1) := by decide +kernel
theorem dX5_fetchCell_6 : decode cX5_fetchCell 6 = .ok (.invokevirtual 129, 3) := by decide +kernel
theorem dX5_fetchCell_9 : decode cX5_fetchCell 9 = .ok (.istore 4, 2) := by decide +kernel
theorem dX5_fetchCell_11 : decode cX5_fetchCell 11 = .ok (.iload 4, 2) := by decide +kernel
theorem dX5_fetchCell_13 : decode cX5_fetchCell 13 = .ok (.iconst (-1), 1) := by decide +kernel
theorem dX5_fetchCell_14 : decode cX5_fetchCell 14 = .ok (.if_icmp .eq 8, 3) := by decide +kernel
theorem dX5_fetchCell_17 : decode cX5_fetchCell 17 = .ok (.iload_n 3, 1) := by decide +kernel
theorem dX5_fetchCell_18 : decode cX5_fetchCell 18 = .ok (.iconst (-1), 1) := by decide +kernel
theorem dX5_fetchCell_19 : decode cX5_fetchCell 19 = .ok (.if_icmp .ne 4, 3) := by decide +kernel
theorem dX5_fetchCell_22 : decode cX5_fetchCell 22 = .ok (.return_, 1) := by decide +kernel
theorem dX5_fetchCell_23 : decode cX5_fetchCell 23 = .ok (.aload_n 0, 1) := by decide +kernel
theorem dX5_fetchCell_24 : decode cX5_fetchCell 24 = .ok (.getfield 25, 3) := by decide +kernel
theorem dX5_fetchCell_27 : decode cX5_fetchCell 27 = .ok (.iload 4, 2) := by decide +kernel
theorem dX5_fetchCell_29 : decode cX5_fetchCell 29 = .ok (.aload_n 0, 1) := by decide +kernel
theorem dX5_fetchCell_30 : decode cX5_fetchCell 30 = .ok (.getfield 43, 3) := by decide +kernel
theorem dX5_fetchCell_33 : decode cX5_fetchCell 33 = .ok (.iload_n 3, 1) := by decide +kernel
theorem dX5_fetchCell_34 : decode cX5_fetchCell 34 = .ok (.invokevirtual 316, 3) := by decide +kernel
theorem dX5_fetchCell_37 : decode cX5_fetchCell 37 = .ok (.aload_n 0, 1) := by decide +kernel
theorem dX5_fetchCell_38 : decode cX5_fetchCell 38 = .ok (.getfield 32, 3) := by decide +kernel
theorem dX5_fetchCell_41 : decode cX5_fetchCell 41 = .ok (.iload 4, 2) := by decide +kernel
theorem dX5_fetchCell_43 : decode cX5_fetchCell 43 = .ok (.aload_n 0, 1) := by decide +kernel
theorem dX5_fetchCell_44 : decode cX5_fetchCell 44 = .ok (.getfield 46, 3) := by decide +kernel
theorem dX5_fetchCell_47 : decode cX5_fetchCell 47 = .ok (.iload_n 3, 1) := by decide +kernel
theorem dX5_fetchCell_48 : decode cX5_fetchCell 48 = .ok (.invokevirtual 320, 3) := by decide +kernel
theorem dX5_fetchCell_51 : decode cX5_fetchCell 51 = .ok (.return_, 1) := by decide +kernel
theorem dX6_init_0 : decode cX6_init 0 = .ok (.aload_n 0, 1) := by decide +kernel
theorem dX6_init_1 : decode cX6_init 1 = .ok (.invokespecial 1, 3) := by decide +kernel
theorem dX6_init_4 : decode cX6_init 4 = .ok (.aload_n 0, 1) := by decide +kernel
theorem dX6_init_5 : decode cX6_init 5 = .ok (.bipush 8, 2) := by decide +kernel
theorem dX6_init_7 : decode cX6_init 7 = .ok (.newarray .int, 2) := by decide +kernel
theorem dX6_init_9 : decode cX6_init 9 = .ok (.putfield 7, 3) := by decide +kernel
theorem dX6_init_12 : decode cX6_init 12 = .ok (.aload_n 0, 1) := by decide +kernel
theorem dX6_init_13 : decode cX6_init 13 = .ok (.bipush 8, 2) := by decide +kernel
theorem dX6_init_15 : decode cX6_init 15 = .ok (.newarray .int, 2) := by decide +kernel
theorem dX6_init_17 : decode cX6_init 17 = .ok (.putfield 13, 3) := by decide +kernel
theorem dX6_init_20 : decode cX6_init 20 = .ok (.aload_n 0, 1) := by decide +kernel
theorem dX6_init_21 : decode cX6_init 21 = .ok (.bipush 64, 2) := by decide +kernel
theorem dX6_init_23 : decode cX6_init 23 = .ok (.newarray .long, 2) := by decide +kernel
theorem dX6_init_25 : decode cX6_init 25 = .ok (.putfield 16, 3) := by decide +kernel
theorem dX6_init_28 : decode cX6_init 28 = .ok (.aload_n 0, 1) := by decide +kernel
theorem dX6_init_29 : decode cX6_init 29 = .ok (.bipush 8, 2) := by decide +kernel
theorem dX6_init_31 : decode cX6_init 31 = .ok (.newarray .long, 2) := by decide +kernel
theorem dX6_init_33 : decode cX6_init 33 = .ok (.putfield 20, 3) := by decide +kernel
theorem dX6_init_36 : decode cX6_init 36 = .ok (.aload_n 0, 1) := by decide +kernel
theorem dX6_init_37 : decode cX6_init 37 = .ok (.bipush 64, 2) := by decide +kernel
theorem dX6_init_39 : decode cX6_init 39 = .ok (.newarray .int, 2) := by decide +kernel
theorem dX6_init_41 : decode cX6_init 41 = .ok (.putfield 23, 3) := by decide +kernel
theorem dX6_init_44 : decode cX6_init 44 = .ok (.aload_n 0, 1) := by decide +kernel
theorem dX6_init_45 : decode cX6_init 45 = .ok (.bipush 64, 2) := by decide +kernel
theorem dX6_init_47 : decode cX6_init 47 = .ok (.newarray .int, 2) := by decide +kernel
theorem dX6_init_49 : decode cX6_init 49 = .ok (.putfield 26, 3) := by decide +kernel
theorem dX6_init_52 : decode cX6_init 52 = .ok (.aload_n 0, 1) := by decide +kernel
theorem dX6_init_53 : decode cX6_init 53 = .ok (.bipush 64, 2) := by decide +kernel
theorem dX6_init_55 : decode cX6_init 55 = .ok (.newarray .int, 2) := by decide +kernel
theorem dX6_init_57 : decode cX6_init 57 = .ok (.putfield 29, 3) := by decide +kernel
theorem dX6_init_60 : decode cX6_init 60 = .ok (.aload_n 0, 1) := by decide +kernel
theorem dX6_init_61 : decode cX6_init 61 = .ok (.sipush 3904, 3) := by decide +kernel
theorem dX6_init_64 : decode cX6_init 64 = .ok (.newarray .long, 2) := by decide +kernel
theorem dX6_init_66 : decode cX6_init 66 = .ok (.putfield 32, 3) := by decide +kernel
theorem dX6_init_69 : decode cX6_init 69 = .ok (.aload_n 0, 1) := by decide +kernel
theorem dX6_init_70 : decode cX6_init 70 = .ok (.sipush 305, 3) := by decide +kernel
theorem dX6_init_73 : decode cX6_init 73 = .ok (.newarray .long, 2) := by decide +kernel
theorem dX6_init_75 : decode cX6_init 75 = .ok (.putfield 35, 3) := by decide +kernel
theorem dX6_init_78 : decode cX6_init 78 = .ok (.aload_n 0, 1) := by decide +kernel
theorem dX6_init_79 : decode cX6_init 79 = .ok (.bipush 10, 2) := by decide +kernel
theorem dX6_init_81 : decode cX6_init 81 = .ok (.newarray .int, 2) := by decide +kernel
theorem dX6_init_83 : decode cX6_init 83 = .ok (.putfield 38, 3) := by decide +kernel
theorem dX6_init_86 : decode cX6_init 86 = .ok (.aload_n 0, 1) := by decide +kernel
theorem dX6_init_87 : decode cX6_init 87 = .ok (.bipush 10, 2) := by decide +kernel
theorem dX6_init_89 : decode cX6_init 89 = .ok (.newarray .int, 2) := by decide +kernel
theorem dX6_init_91 : decode cX6_init 91 = .ok (.putfield 41, 3) := by decide +kernel
theorem dX6_init_94 : decode cX6_init 94 = .ok (.aload_n 0, 1) := by decide +kernel
theorem dX6_init_95 : decode cX6_init 95 = .ok (.sipush 1000, 3) := by decide +kernel
theorem dX6_init_98 : decode cX6_init 98 = .ok (.putfield 44, 3) := by decide +kernel
theorem dX6_init_101 : decode cX6_init 101 = .ok (.aload_n 0, 1) := by decide +kernel
theorem dX6_init_102 : decode cX6_init 102 = .ok (.sipush 19520, 3) := by decide +kernel
theorem dX6_init_105 : decode cX6_init 105 = .ok (.newarray .long, 2) := by decide +kernel
theorem dX6_init_107 : decode cX6_init 107 = .ok (.putfield 48, 3) := by decide +kernel
theorem dX6_init_110 : decode cX6_init 110 = .ok (.aload_n 0, 1) := by decide +kernel
theorem dX6_init_111 : decode cX6_init 111 = .ok (.sipush 1525, 3) := by decide +kernel
theorem dX6_init_114 : decode cX6_init 114 = .ok (.newarray .long, 2) := by decide +kernel
theorem dX6_init_116 : decode cX6_init 116 = .ok (.putfield 51, 3) := by decide +kernel
theorem dX6_init_119 : decode cX6_init 119 = .ok (.aload_n 0, 1) := by decide +kernel
theorem dX6_init_120 : decode cX6_init 120 = .ok (.sipush 256, 3) := by decide +kernel
theorem dX6_init_123 : decode cX6_init 123 = .ok (.newarray .long, 2) := by decide +kernel
theorem dX6_init_125 : decode cX6_init 125 = .ok (.putfield 54, 3) := by decide +kernel
theorem dX6_init_128 : decode cX6_init 128 = .ok (.aload_n 0, 1) := by decide +kernel
theorem dX6_init_129 : decode cX6_init 129 = .ok (.sipush 3904, 3) := by decide +kernel
theorem dX6_init_132 : decode cX6_init 132 = .ok (.newarray .long, 2) := by decide +kernel
theorem dX6_init_134 : decode cX6_init 134 = .ok (.putfield 57, 3) := by decide +kernel
theorem dX6_init_137 : decode cX6_init 137 = .ok (.aload_n 0, 1) := by decide +kernel
theorem dX6_init_138 : decode cX6_init 138 = .ok (.sipush 3904, 3) := by decide +kernel
theorem dX6_init_141 : decode cX6_init 141 = .ok (.newarray .long, 2) := by decide +kernel
theorem dX6_init_143 : decode cX6_init 143 = .ok (.putfield 60, 3) := by decide +kernel
theorem dX6_init_146 : decode cX6_init 146 = .ok (.aload_n 0, 1) := by decide +kernel
theorem dX6_init_147 : decode cX6_init 147 = .ok (.bipush 64, 2) := by decide +kernel
theorem dX6_init_149 : decode cX6_init 149 = .ok (.newarray .int, 2) := by decide +kernel
theorem dX6_init_151 : decode cX6_init 151 = .ok (.putfield 63, 3) := by decide +kernel
theorem dX6_init_154 : decode cX6_init 154 = .ok (.aload_n 0, 1) := by decide +kernel
theorem dX6_init_155 : decode cX6_init 155 = .ok (.bipush 64, 2) := by decide +kernel
theorem dX6_init_157 : decode cX6_init 157 = .ok (.newarray .int, 2) := by decide +kernel
theorem dX6_init_159 : decode cX6_init 159 = .ok (.putfield 66, 3) := by decide +kernel
theorem dX6_init_162 : decode cX6_init 162 = .ok (.aload_n 0, 1) := by decide +kernel
theorem dX6_init_163 : decode cX6_init 163 = .ok (.bipush 64, 2) := by decide +kernel
theorem dX6_init_165 : decode cX6_init 165 = .ok (.newarray .int, 2) := by decide +kernel
theorem dX6_init_167 : decode cX6_init 167 = .ok (.putfield 69, 3) := by decide +kernel
theorem dX6_init_170 : decode cX6_init 170 = .ok (.iconst 0, 1) := by decide +kernel
theorem dX6_init_171 : decode cX6_init 171 = .ok (.istore_n 1, 1) := by decide +kernel
theorem dX6_init_172 : decode cX6_init 172 = .ok (.iload_n 1, 1) := by decide +kernel
theorem dX6_init_173 : decode cX6_init 173 = .ok (.bipush 8, 2) := by decide +kernel
theorem dX6_init_175 : decode cX6_init 175 = .ok (.if_icmp .ge 17, 3) := by decide +kernel
theorem dX6_init_178 : decode cX6_init 178 = .ok (.aload_n 0, 1) := by decide +kernel
theorem dX6_init_179 : decode cX6_init 179 = .ok (.getfield 7, 3) := by decide +kernel
theorem dX6_init_182 : decode cX6_init 182 = .ok (.iload_n 1, 1) := by decide +kernel
theorem dX6_init_183 : decode cX6_init 183 = .ok (.bipush (-9), 2) := by decide +kernel
theorem dX6_init_185 : decode cX6_init 185 = .ok (.iastore, 1) := by decide +kernel
theorem dX6_init_186 : decode cX6_init 186 = .ok (.iinc 1 1, 3) := by decide +kernel
theorem dX6_init_189 : decode cX6_init 189 = .ok (.goto (-17), 3) := by decide +kernel
theorem dX6_init_192 : decode cX6_init 192 = .ok (.return_, 1) := by decide +kernel
theorem dX6_in_0 : decode cX6_in 0 = .ok (.lload_n 0, 1) := by decide +kernel
theorem dX6_in_1 : decode cX6_in 1 = .ok (.lload_n 2, 1) := by decide +kernel
theorem dX6_in_2 : decode cX6_in 2 = .ok (.lcmp, 1) := by decide +kernel
theorem dX6_in_3 : decode cX6_in 3 = .ok (.ifCond .lt 14, 3) := by decide +kernel
theorem dX6_in_6 : decode cX6_in 6 = .ok (.lload_n 0, 1) := by decide +kernel
theorem dX6_in_7 : decode cX6_in 7 = .ok (.lload 4, 2) := by decide +kernel
theorem dX6_in_9 : decode cX6_in 9 = .ok (.lcmp, 1) := by decide +kernel
theorem dX6_in_10 : decode cX6_in 10 = .ok (.ifCond .gt 7, 3) := by decide +kernel
theorem dX6_in_13 : decode cX6_in 13 = .ok (.iconst 1, 1) := by decide +kernel
theorem dX6_in_14 : decode cX6_in 14 = .ok (.goto 4, 3) := by decide +kernel
theorem dX6_in_17 : decode cX6_in 17 = .ok (.iconst 0, 1) := by decide +kernel
theorem dX6_in_18 : decode cX6_in 18 = .ok (.ireturn, 1) := by decide +kernel
theorem dX6_failed_0 : decode cX6_failed 0 = .ok (.aload_n 0, 1) := by decide +kernel
theorem dX6_failed_1 : decode cX6_failed 1 = .ok (.dup, 1) := by decide +kernel
theorem dX6_failed_2 : decode cX6_failed 2 = .ok (.getfield 72, 3) := by decide +kernel
theorem dX6_failed_5 : decode cX6_failed 5 = .ok (.iconst 1, 1) := by decide +kernel
theorem dX6_failed_6 : decode cX6_failed 6 = .ok (.iadd, 1) := by decide +kernel
theorem dX6_failed_7 : decode cX6_failed 7 = .ok (.putfield 72, 3) := by decide +kernel
theorem dX6_failed_10 : decode cX6_failed 10 = .ok (.bipush (-10), 2) := by decide +kernel
theorem dX6_failed_12 : decode cX6_failed 12 = .ok (.iload_n 1, 1) := by decide +kernel
theorem dX6_failed_13 : decode cX6_failed 13 = .ok (.isub, 1) := by decide +kernel
theorem dX6_failed_14 : decode cX6_failed 14 = .ok (.ireturn, 1) := by decide +kernel
theorem dX6_cut_0 : decode cX6_cut 0 = .ok (.iload_n 0, 1) := by decide +kernel
theorem dX6_cut_1 : decode cX6_cut 1 = .ok (.ifCond .ne 10, 3) := by decide +kernel
theorem dX6_cut_4 : decode cX6_cut 4 = .ok (.lload_n 1, 1) := by decide +kernel
theorem dX6_cut_5 : decode cX6_cut 5 = .ok (.l2i, 1) := by decide +kernel
theorem dX6_cut_6 : decode cX6_cut 6 = .ok (.i2s, 1) := by decide +kernel
theorem dX6_cut_7 : decode cX6_cut 7 = .ok (.i2l, 1) := by decide +kernel
theorem dX6_cut_8 : decode cX6_cut 8 = .ok (.goto 15, 3) := by decide +kernel
theorem dX6_cut_11 : decode cX6_cut 11 = .ok (.iload_n 0, 1) := by decide +kernel
theorem dX6_cut_12 : decode cX6_cut 12 = .ok (.iconst 1, 1) := by decide +kernel
theorem dX6_cut_13 : decode cX6_cut 13 = .ok (.if_icmp .ne 9, 3) := by decide +kernel
theorem dX6_cut_16 : decode cX6_cut 16 = .ok (.lload_n 1, 1) := by decide +kernel
theorem dX6_cut_17 : decode cX6_cut 17 = .ok (.l2i, 1) := by decide +kernel
theorem dX6_cut_18 : decode cX6_cut 18 = .ok (.i2l, 1) := by decide +kernel
theorem dX6_cut_19 : decode cX6_cut 19 = .ok (.goto 4, 3) := by decide +kernel
theorem dX6_cut_22 : decode cX6_cut 22 = .ok (.lload_n 1, 1) := by decide +kernel
theorem dX6_cut_23 : decode cX6_cut 23 = .ok (.lreturn, 1) := by decide +kernel
theorem dX6_isStrip_0 : decode cX6_isStrip 0 = .ok (.iload_n 0, 1) := by decide +kernel
theorem dX6_isStrip_1 : decode cX6_isStrip 1 = .ok (.i2l, 1) := by decide +kernel
theorem dX6_isStrip_2 : decode cX6_isStrip 2 = .ok (.lconst 0, 1) := by decide +kernel
theorem dX6_isStrip_3 : decode cX6_isStrip 3 = .ok (.ldc2_w 75, 3) := by decide +kernel
theorem dX6_isStrip_6 : decode cX6_isStrip 6 = .ok (.invokestatic 77, 3) := by decide +kernel
theorem dX6_isStrip_9 : decode cX6_isStrip 9 = .ok (.ireturn, 1) := by decide +kernel
theorem dX6_strip_0 : decode cX6_strip 0 = .ok (.iload_n 1, 1) := by decide +kernel
theorem dX6_strip_1 : decode cX6_strip 1 = .ok (.invokestatic 81, 3) := by decide +kernel
theorem dX6_strip_4 : decode cX6_strip 4 = .ok (.ifCond .ne 5, 3) := by decide +kernel
theorem dX6_strip_7 : decode cX6_strip 7 = .ok (.iconst (-1), 1) := by decide +kernel
theorem dX6_strip_8 : decode cX6_strip 8 = .ok (.ireturn, 1) := by decide +kernel
theorem dX6_strip_9 : decode cX6_strip 9 = .ok (.iload_n 2, 1) := by decide +kernel
theorem dX6_strip_10 : decode cX6_strip 10 = .ok (.i2l, 1) := by decide +kernel
theorem dX6_strip_11 : decode cX6_strip 11 = .ok (.lconst 0, 1) := by decide +kernel
theorem dX6_strip_12 : decode cX6_strip 12 = .ok (.ldc2_w 85, 3) := by decide +kernel
theorem dX6_strip_15 : decode cX6_strip 15 = .ok (.invokestatic 77, 3) := by decide +kernel
theorem dX6_strip_18 : decode cX6_strip 18 = .ok (.ifCond .eq 9, 3) := by decide +kernel
theorem dX6_strip_21 : decode cX6_strip 21 = .ok (.iload_n 3, 1) := by decide +kernel
theorem dX6_strip_22 : decode cX6_strip 22 = .ok (.bipush 8, 2) := by decide +kernel
theorem dX6_strip_24 : decode cX6_strip 24 = .ok (.if_icmp .le 6, 3) := by decide +kernel
theorem dX6_strip_27 : decode cX6_strip 27 = .ok (.bipush (-2), 2) := by decide +kernel
theorem dX6_strip_29 : decode cX6_strip 29 = .ok (.ireturn, 1) := by decide +kernel
theorem dX6_strip_30 : decode cX6_strip 30 = .ok (.iload_n 3, 1) := by decide +kernel
theorem dX6_strip_31 : decode cX6_strip 31 = .ok (.ifCond .ge 9, 3) := by decide +kernel
theorem dX6_strip_34 : decode cX6_strip 34 = .ok (.aload_n 0, 1) := by decide +kernel
theorem dX6_strip_35 : decode cX6_strip 35 = .ok (.iconst 4, 1) := by decide +kernel
theorem dX6_strip_36 : decode cX6_strip 36 = .ok (.invokevirtual 87, 3) := by decide +kernel
theorem dX6_strip_39 : decode cX6_strip 39 = .ok (.ireturn, 1) := by decide +kernel
theorem dX6_strip_40 : decode cX6_strip 40 = .ok (.aload_n 0, 1) := by decide +kernel
theorem dX6_strip_41 : decode cX6_strip 41 = .ok (.getfield 7, 3) := by decide +kernel
theorem dX6_strip_44 : decode cX6_strip 44 = .ok (.iload_n 1, 1) := by decide +kernel
theorem dX6_strip_45 : decode cX6_strip 45 = .ok (.iload_n 2, 1) := by decide +kernel
theorem dX6_strip_46 : decode cX6_strip 46 = .ok (.iastore, 1) := by decide +kernel
theorem dX6_strip_47 : decode cX6_strip 47 = .ok (.aload_n 0, 1) := by decide +kernel
theorem dX6_strip_48 : decode cX6_strip 48 = .ok (.getfield 13, 3) := by decide +kernel
theorem dX6_strip_51 : decode cX6_strip 51 = .ok (.iload_n 1, 1) := by decide +kernel
theorem dX6_strip_52 : decode cX6_strip 52 = .ok (.iload_n 3, 1) := by decide +kernel
theorem dX6_strip_53 : decode cX6_strip 53 = .ok (.iastore, 1) := by decide +kernel
theorem dX6_strip_54 : decode cX6_strip 54 = .ok (.iconst 0, 1) := by decide +kernel
theorem dX6_strip_55 : decode cX6_strip 55 = .ok (.istore 4, 2) := by decide +kernel
theorem dX6_strip_57 : decode cX6_strip 57 = .ok (.iload 4, 2) := by decide +kernel
theorem dX6_strip_59 : decode cX6_strip 59 = .ok (.bipush 8, 2) := by decide +kernel
theorem dX6_strip_61 : decode cX6_strip 61 = .ok (.if_icmp .ge 22, 3) := by decide +kernel
theorem dX6_strip_64 : decode cX6_strip 64 = .ok (.aload_n 0, 1) := by decide +kernel
theorem dX6_strip_65 : decode cX6_strip 65 = .ok (.getfield 16, 3) := by decide +kernel
theorem dX6_strip_68 : decode cX6_strip 68 = .ok (.bipush 8, 2) := by decide +kernel
theorem dX6_strip_70 : decode cX6_strip 70 = .ok (.iload_n 1, 1) := by decide +kernel
theorem dX6_strip_71 : decode cX6_strip 71 = .ok (.imul, 1) := by decide +kernel
theorem dX6_strip_72 : decode cX6_strip 72 = .ok (.iload 4, 2) := by decide +kernel
theorem dX6_strip_74 : decode cX6_strip 74 = .ok (.iadd, 1) := by decide +kernel
theorem dX6_strip_75 : decode cX6_strip 75 = .ok (.lconst 0, 1) := by decide +kernel
theorem dX6_strip_76 : decode cX6_strip 76 = .ok (.lastore, 1) := by decide +kernel
theorem dX6_strip_77 : decode cX6_strip 77 = .ok (.iinc 4 1, 3) := by decide +kernel
theorem dX6_strip_80 : decode cX6_strip 80 = .ok (.goto (-23), 3) := by decide +kernel
theorem dX6_strip_83 : decode cX6_strip 83 = .ok (.iload_n 3, 1) := by decide +kernel
theorem dX6_strip_84 : decode cX6_strip 84 = .ok (.ireturn, 1) := by decide +kernel
theorem dX6_tear_0 : decode cX6_tear 0 = .ok (.iload_n 1, 1) := by decide +kernel
theorem dX6_tear_1 : decode cX6_tear 1 = .ok (.invokestatic 81, 3) := by decide +kernel
theorem dX6_tear_4 : decode cX6_tear 4 = .ok (.ifCond .ne 5, 3) := by decide +kernel
theorem dX6_tear_7 : decode cX6_tear 7 = .ok (.iconst (-1), 1) := by decide +kernel
theorem dX6_tear_8 : decode cX6_tear 8 = .ok (.ireturn, 1) := by decide +kernel
theorem dX6_tear_9 : decode cX6_tear 9 = .ok (.aload_n 0, 1) := by decide +kernel
theorem dX6_tear_10 : decode cX6_tear 10 = .ok (.getfield 7, 3) := by decide +kernel
theorem dX6_tear_13 : decode cX6_tear 13 = .ok (.iload_n 1, 1) := by decide +kernel
theorem dX6_tear_14 : decode cX6_tear 14 = .ok (.iaload, 1) := by decide +kernel
theorem dX6_tear_15 : decode cX6_tear 15 = .ok (.bipush (-9), 2) := by decide +kernel
theorem dX6_tear_17 : decode cX6_tear 17 = .ok (.if_icmp .ne 7, 3) := by decide +kernel
theorem dX6_tear_20 : decode cX6_tear 20 = .ok (.iconst 1, 1) := by decide +kernel
theorem dX6_tear_21 : decode cX6_tear 21 = .ok (.goto 4, 3) := by decide +kernel
theorem dX6_tear_24 : decode cX6_tear 24 = .ok (.iconst 0, 1) := by decide +kernel
theorem dX6_tear_25 : decode cX6_tear 25 = .ok (.istore_n 2, 1) := by decide +kernel
theorem dX6_tear_26 : decode cX6_tear 26 = .ok (.aload_n 0, 1) := by decide +kernel
theorem dX6_tear_27 : decode cX6_tear 27 = .ok (.getfield 7, 3) := by decide +kernel
theorem dX6_tear_30 : decode cX6_tear 30 = .ok (.iload_n 1, 1) := by decide +kernel
theorem dX6_tear_31 : decode cX6_tear 31 = .ok (.bipush (-9), 2) := by decide +kernel
theorem dX6_tear_33 : decode cX6_tear 33 = .ok (.iastore, 1) := by decide +kernel
theorem dX6_tear_34 : decode cX6_tear 34 = .ok (.iload_n 2, 1) := by decide +kernel
theorem dX6_tear_35 : decode cX6_tear 35 = .ok (.ireturn, 1) := by decide +kernel
theorem dX6_put_0 : decode cX6_put 0 = .ok (.iload_n 1, 1) := by decide +kernel
theorem dX6_put_1 : decode cX6_put 1 = .ok (.invokestatic 81, 3) := by decide +kernel
theorem dX6_put_4 : decode cX6_put 4 = .ok (.ifCond .ne 5, 3) := by decide +kernel
theorem dX6_put_7 : decode cX6_put 7 = .ok (.iconst (-1), 1) := by decide +kernel
theorem dX6_put_8 : decode cX6_put 8 = .ok (.ireturn, 1) := by decide +kernel
theorem dX6_put_9 : decode cX6_put 9 = .ok (.aload_n 0, 1) := by decide +kernel
theorem dX6_put_10 : decode cX6_put 10 = .ok (.getfield 7, 3) := by decide +kernel
theorem dX6_put_13 : decode cX6_put 13 = .ok (.iload_n 1, 1) := by decide +kernel
theorem dX6_put_14 : decode cX6_put 14 = .ok (.iaload, 1) := by decide +kernel
theorem dX6_put_15 : decode cX6_put 15 = .ok (.bipush (-9), 2) := by decide +kernel
theorem dX6_put_17 : decode cX6_put 17 = .ok (.if_icmp .ne 9, 3) := by decide +kernel
theorem dX6_put_20 : decode cX6_put 20 = .ok (.aload_n 0, 1) := by decide +kernel
theorem dX6_put_21 : decode cX6_put 21 = .ok (.iconst 1, 1) := by decide +kernel
theorem dX6_put_22 : decode cX6_put 22 = .ok (.invokevirtual 87, 3) := by decide +kernel
theorem dX6_put_25 : decode cX6_put 25 = .ok (.ireturn, 1) := by decide +kernel
theorem dX6_put_26 : decode cX6_put 26 = .ok (.iload_n 2, 1) := by decide +kernel
theorem dX6_put_27 : decode cX6_put 27 = .ok (.i2l, 1) := by decide +kernel
theorem dX6_put_28 : decode cX6_put 28 = .ok (.lconst 0, 1) := by decide +kernel
theorem dX6_put_29 : decode cX6_put 29 = .ok (.aload_n 0, 1) := by decide +kernel
theorem dX6_put_30 : decode cX6_put 30 = .ok (.getfield 13, 3) := by decide +kernel
theorem dX6_put_33 : decode cX6_put 33 = .ok (.iload_n 1, 1) := by decide +kernel
theorem dX6_put_34 : decode cX6_put 34 = .ok (.iaload, 1) := by decide +kernel
theorem dX6_put_35 : decode cX6_put 35 = .ok (.iconst 1, 1) := by decide +kernel
theorem dX6_put_36 : decode cX6_put 36 = .ok (.isub, 1) := by decide +kernel
theorem dX6_put_37 : decode cX6_put 37 = .ok (.i2l, 1) := by decide +kernel
theorem dX6_put_38 : decode cX6_put 38 = .ok (.invokestatic 77, 3) := by decide +kernel
theorem dX6_put_41 : decode cX6_put 41 = .ok (.ifCond .ne 9, 3) := by decide +kernel
theorem dX6_put_44 : decode cX6_put 44 = .ok (.aload_n 0, 1) := by decide +kernel
theorem dX6_put_45 : decode cX6_put 45 = .ok (.iconst 2, 1) := by decide +kernel
theorem dX6_put_46 : decode cX6_put 46 = .ok (.invokevirtual 87, 3) := by decide +kernel
theorem dX6_put_49 : decode cX6_put 49 = .ok (.ireturn, 1) := by decide +kernel
theorem dX6_put_50 : decode cX6_put 50 = .ok (.aload_n 0, 1) := by decide +kernel
theorem dX6_put_51 : decode cX6_put 51 = .ok (.getfield 16, 3) := by decide +kernel
theorem dX6_put_54 : decode cX6_put 54 = .ok (.bipush 8, 2) := by decide +kernel
theorem dX6_put_56 : decode cX6_put 56 = .ok (.iload_n 1, 1) := by decide +kernel
theorem dX6_put_57 : decode cX6_put 57 = .ok (.imul, 1) := by decide +kernel
theorem dX6_put_58 : decode cX6_put 58 = .ok (.iload_n 2, 1) := by decide +kernel
theorem dX6_put_59 : decode cX6_put 59 = .ok (.iadd, 1) := by decide +kernel
theorem dX6_put_60 : decode cX6_put 60 = .ok (.aload_n 0, 1) := by decide +kernel
theorem dX6_put_61 : decode cX6_put 61 = .ok (.getfield 7, 3) := by decide +kernel
theorem dX6_put_64 : decode cX6_put 64 = .ok (.iload_n 1, 1) := by decide +kernel
theorem dX6_put_65 : decode cX6_put 65 = .ok (.iaload, 1) := by decide +kernel
theorem dX6_put_66 : decode cX6_put 66 = .ok (.lload_n 3, 1) := by decide +kernel
theorem dX6_put_67 : decode cX6_put 67 = .ok (.invokestatic 91, 3) := by decide +kernel
theorem dX6_put_70 : decode cX6_put 70 = .ok (.lastore, 1) := by decide +kernel
theorem dX6_put_71 : decode cX6_put 71 = .ok (.iconst 1, 1) := by decide +kernel
theorem dX6_put_72 : decode cX6_put 72 = .ok (.ireturn, 1) := by decide +kernel
theorem dX6_at_0 : decode cX6_at 0 = .ok (.iload_n 1, 1) := by decide +kernel
theorem dX6_at_1 : decode cX6_at 1 = .ok (.invokestatic 81, 3) := by decide +kernel
theorem dX6_at_4 : decode cX6_at 4 = .ok (.ifCond .ne 7, 3) := by decide +kernel
theorem dX6_at_7 : decode cX6_at 7 = .ok (.ldc2_w 95, 3) := by decide +kernel
theorem dX6_at_10 : decode cX6_at 10 = .ok (.lreturn, 1) := by decide +kernel
theorem dX6_at_11 : decode cX6_at 11 = .ok (.iload_n 2, 1) := by decide +kernel
theorem dX6_at_12 : decode cX6_at 12 = .ok (.i2l, 1) := by decide +kernel
theorem dX6_at_13 : decode cX6_at 13 = .ok (.lconst 0, 1) := by decide +kernel
theorem dX6_at_14 : decode cX6_at 14 = .ok (.ldc2_w 85, 3) := by decide +kernel
theorem dX6_at_17 : decode cX6_at 17 = .ok (.invokestatic 77, 3) := by decide +kernel
theorem dX6_at_20 : decode cX6_at 20 = .ok (.ifCond .ne 7, 3) := by decide +kernel
theorem dX6_at_23 : decode cX6_at 23 = .ok (.ldc2_w 97, 3) := by decide +kernel
theorem dX6_at_26 : decode cX6_at 26 = .ok (.lreturn, 1) := by decide +kernel
theorem dX6_at_27 : decode cX6_at 27 = .ok (.aload_n 0, 1) := by decide +kernel
theorem dX6_at_28 : decode cX6_at 28 = .ok (.getfield 7, 3) := by decide +kernel
theorem dX6_at_31 : decode cX6_at 31 = .ok (.iload_n 1, 1) := by decide +kernel
theorem dX6_at_32 : decode cX6_at 32 = .ok (.iaload, 1) := by decide +kernel
theorem dX6_at_33 : decode cX6_at 33 = .ok (.bipush (-9), 2) := by decide +kernel
theorem dX6_at_35 : decode cX6_at 35 = .ok (.if_icmp .ne 10, 3) := by decide +kernel
theorem dX6_at_38 : decode cX6_at 38 = .ok (.aload_n 0, 1) := by decide +kernel
theorem dX6_at_39 : decode cX6_at 39 = .ok (.iconst 1, 1) := by decide +kernel
theorem dX6_at_40 : decode cX6_at 40 = .ok (.invokevirtual 87, 3) := by decide +kernel
theorem dX6_at_43 : decode cX6_at 43 = .ok (.i2l, 1) := by decide +kernel
theorem dX6_at_44 : decode cX6_at 44 = .ok (.lreturn, 1) := by decide +kernel
theorem dX6_at_45 : decode cX6_at 45 = .ok (.aload_n 0, 1) := by decide +kernel
theorem dX6_at_46 : decode cX6_at 46 = .ok (.getfield 7, 3) := by decide +kernel
theorem dX6_at_49 : decode cX6_at 49 = .ok (.iload_n 1, 1) := by decide +kernel
theorem dX6_at_50 : decode cX6_at 50 = .ok (.iaload, 1) := by decide +kernel
theorem dX6_at_51 : decode cX6_at 51 = .ok (.iload_n 2, 1) := by decide +kernel
theorem dX6_at_52 : decode cX6_at 52 = .ok (.if_icmp .eq 10, 3) := by decide +kernel
theorem dX6_at_55 : decode cX6_at 55 = .ok (.aload_n 0, 1) := by decide +kernel
theorem dX6_at_56 : decode cX6_at 56 = .ok (.iconst 3, 1) := by decide +kernel
theorem dX6_at_57 : decode cX6_at 57 = .ok (.invokevirtual 87, 3) := by decide +kernel
theorem dX6_at_60 : decode cX6_at 60 = .ok (.i2l, 1) := by decide +kernel
theorem dX6_at_61 : decode cX6_at 61 = .ok (.lreturn, 1) := by decide +kernel
theorem dX6_at_62 : decode cX6_at 62 = .ok (.iload_n 3, 1) := by decide +kernel
theorem dX6_at_63 : decode cX6_at 63 = .ok (.i2l, 1) := by decide +kernel
theorem dX6_at_64 : decode cX6_at 64 = .ok (.lconst 0, 1) := by decide +kernel
theorem dX6_at_65 : decode cX6_at 65 = .ok (.aload_n 0, 1) := by decide +kernel
theorem dX6_at_66 : decode cX6_at 66 = .ok (.getfield 13, 3) := by decide +kernel
theorem dX6_at_69 : decode cX6_at 69 = .ok (.iload_n 1, 1) := by decide +kernel
theorem dX6_at_70 : decode cX6_at 70 = .ok (.iaload, 1) := by decide +kernel
theorem dX6_at_71 : decode cX6_at 71 = .ok (.iconst 1, 1) := by decide +kernel
theorem dX6_at_72 : decode cX6_at 72 = .ok (.isub, 1) := by decide +kernel
theorem dX6_at_73 : decode cX6_at 73 = .ok (.i2l, 1) := by decide +kernel
theorem dX6_at_74 : decode cX6_at 74 = .ok (.invokestatic 77, 3) := by decide +kernel
theorem dX6_at_77 : decode cX6_at 77 = .ok (.ifCond .eq 17, 3) := by decide +kernel
theorem dX6_at_80 : decode cX6_at 80 = .ok (.aload_n 0, 1) := by decide +kernel
theorem dX6_at_81 : decode cX6_at 81 = .ok (.getfield 16, 3) := by decide +kernel
theorem dX6_at_84 : decode cX6_at 84 = .ok (.bipush 8, 2) := by decide +kernel
theorem dX6_at_86 : decode cX6_at 86 = .ok (.iload_n 1, 1) := by decide +kernel
theorem dX6_at_87 : decode cX6_at 87 = .ok (.imul, 1) := by decide +kernel
theorem dX6_at_88 : decode cX6_at 88 = .ok (.iload_n 3, 1) := by decide +kernel
theorem dX6_at_89 : decode cX6_at 89 = .ok (.iadd, 1) := by decide +kernel
theorem dX6_at_90 : decode cX6_at 90 = .ok (.laload, 1) := by decide +kernel
theorem dX6_at_91 : decode cX6_at 91 = .ok (.goto 9, 3) := by decide +kernel
theorem dX6_at_94 : decode cX6_at 94 = .ok (.aload_n 0, 1) := by decide +kernel
theorem dX6_at_95 : decode cX6_at 95 = .ok (.iconst 2, 1) := by decide +kernel
theorem dX6_at_96 : decode cX6_at 96 = .ok (.invokevirtual 87, 3) := by decide +kernel
theorem dX6_at_99 : decode cX6_at 99 = .ok (.i2l, 1) := by decide +kernel
theorem dX6_at_100 : decode cX6_at 100 = .ok (.lreturn, 1) := by decide +kernel
theorem dX6_copy_0 : decode cX6_copy 0 = .ok (.iload_n 1, 1) := by decide +kernel
theorem dX6_copy_1 : decode cX6_copy 1 = .ok (.invokestatic 81, 3) := by decide +kernel
theorem dX6_copy_4 : decode cX6_copy 4 = .ok (.ifCond .eq 10, 3) := by decide +kernel
theorem dX6_copy_7 : decode cX6_copy 7 = .ok (.iload_n 3, 1) := by decide +kernel
theorem dX6_copy_8 : decode cX6_copy 8 = .ok (.invokestatic 81, 3) := by decide +kernel
theorem dX6_copy_11 : decode cX6_copy 11 = .ok (.ifCond .ne 5, 3) := by decide +kernel
theorem dX6_copy_14 : decode cX6_copy 14 = .ok (.iconst (-1), 1) := by decide +kernel
theorem dX6_copy_15 : decode cX6_copy 15 = .ok (.ireturn, 1) := by decide +kernel
theorem dX6_copy_16 : decode cX6_copy 16 = .ok (.iload 5, 2) := by decide +kernel
theorem dX6_copy_18 : decode cX6_copy 18 = .ok (.ifCond .ge 9, 3) := by decide +kernel
theorem dX6_copy_21 : decode cX6_copy 21 = .ok (.aload_n 0, 1) := by decide +kernel
theorem dX6_copy_22 : decode cX6_copy 22 = .ok (.iconst 4, 1) := by decide +kernel
theorem dX6_copy_23 : decode cX6_copy 23 = .ok (.invokevirtual 87, 3) := by decide +kernel
theorem dX6_copy_26 : decode cX6_copy 26 = .ok (.ireturn, 1) := by decide +kernel
theorem dX6_copy_27 : decode cX6_copy 27 = .ok (.aload_n 0, 1) := by decide +kernel
theorem dX6_copy_28 : decode cX6_copy 28 = .ok (.getfield 7, 3) := by decide +kernel
theorem dX6_copy_31 : decode cX6_copy 31 = .ok (.iload_n 1, 1) := by decide +kernel
theorem dX6_copy_32 : decode cX6_copy 32 = .ok (.iaload, 1) := by decide +kernel
theorem dX6_copy_33 : decode cX6_copy 33 = .ok (.bipush (-9), 2) := by decide +kernel
theorem dX6_copy_35 : decode cX6_copy 35 = .ok (.if_icmp .eq 14, 3) := by decide +kernel
theorem dX6_copy_38 : decode cX6_copy 38 = .ok (.aload_n 0, 1) := by decide +kernel
theorem dX6_copy_39 : decode cX6_copy 39 = .ok (.getfield 7, 3) := by decide +kernel
theorem dX6_copy_42 : decode cX6_copy 42 = .ok (.iload_n 3, 1) := by decide +kernel
theorem dX6_copy_43 : decode cX6_copy 43 = .ok (.iaload, 1) := by decide +kernel
theorem dX6_copy_44 : decode cX6_copy 44 = .ok (.bipush (-9), 2) := by decide +kernel
theorem dX6_copy_46 : decode cX6_copy 46 = .ok (.if_icmp .ne 9, 3) := by decide +kernel
theorem dX6_copy_49 : decode cX6_copy 49 = .ok (.aload_n 0, 1) := by decide +kernel
theorem dX6_copy_50 : decode cX6_copy 50 = .ok (.iconst 1, 1) := by decide +kernel
theorem dX6_copy_51 : decode cX6_copy 51 = .ok (.invokevirtual 87, 3) := by decide +kernel
theorem dX6_copy_54 : decode cX6_copy 54 = .ok (.ireturn, 1) := by decide +kernel
theorem dX6_copy_55 : decode cX6_copy 55 = .ok (.aload_n 0, 1) := by decide +kernel
theorem dX6_copy_56 : decode cX6_copy 56 = .ok (.getfield 7, 3) := by decide +kernel
theorem dX6_copy_59 : decode cX6_copy 59 = .ok (.iload_n 1, 1) := by decide +kernel
theorem dX6_copy_60 : decode cX6_copy 60 = .ok (.iaload, 1) := by decide +kernel
end
section
theorem dX6_copy_61 : decode cX6_copy 61 = .ok (.aload_n 0, 1) := by decide +kernel
theorem dX6_copy_62 : decode cX6_copy 62 = .ok (.getfield 7, 3) := by decide +kernel
theorem dX6_copy_65 : decode cX6_copy 65 = .ok (.iload_n 3, 1) := by decide +kernel
theorem dX6_copy_66 : decode cX6_copy 66 = .ok (.iaload, 1) := by decide +kernel
theorem dX6_copy_67 : decode cX6_copy 67 = .ok (.if_icmp .eq 9, 3) := by decide +kernel
theorem dX6_copy_70 : decode cX6_copy 70 = .ok (.aload_n 0, 1) := by decide +kernel
theorem dX6_copy_71 : decode cX6_copy 71 = .ok (.iconst 3, 1) := by decide +kernel
theorem dX6_copy_72 : decode cX6_copy 72 = .ok (.invokevirtual 87, 3) := by decide +kernel
theorem dX6_copy_75 : decode cX6_copy 75 = .ok (.ireturn, 1) := by decide +kernel
theorem dX6_copy_76 : decode cX6_copy 76 = .ok (.iload_n 2, 1) := by decide +kernel
theorem dX6_copy_77 : decode cX6_copy 77 = .ok (.ifCond .lt 43, 3) := by decide +kernel
theorem dX6_copy_80 : decode cX6_copy 80 = .ok (.iload 4, 2) := by decide +kernel
theorem dX6_copy_82 : decode cX6_copy 82 = .ok (.ifCond .lt 38, 3) := by decide +kernel
theorem dX6_copy_85 : decode cX6_copy 85 = .ok (.iload_n 2, 1) := by decide +kernel
theorem dX6_copy_86 : decode cX6_copy 86 = .ok (.i2l, 1) := by decide +kernel
theorem dX6_copy_87 : decode cX6_copy 87 = .ok (.iload 5, 2) := by decide +kernel
theorem dX6_copy_89 : decode cX6_copy 89 = .ok (.i2l, 1) := by decide +kernel
theorem dX6_copy_90 : decode cX6_copy 90 = .ok (.ladd, 1) := by decide +kernel
theorem dX6_copy_91 : decode cX6_copy 91 = .ok (.aload_n 0, 1) := by decide +kernel
theorem dX6_copy_92 : decode cX6_copy 92 = .ok (.getfield 13, 3) := by decide +kernel
theorem dX6_copy_95 : decode cX6_copy 95 = .ok (.iload_n 1, 1) := by decide +kernel
theorem dX6_copy_96 : decode cX6_copy 96 = .ok (.iaload, 1) := by decide +kernel
theorem dX6_copy_97 : decode cX6_copy 97 = .ok (.i2l, 1) := by decide +kernel
theorem dX6_copy_98 : decode cX6_copy 98 = .ok (.lcmp, 1) := by decide +kernel
theorem dX6_copy_99 : decode cX6_copy 99 = .ok (.ifCond .gt 21, 3) := by decide +kernel
theorem dX6_copy_102 : decode cX6_copy 102 = .ok (.iload 4, 2) := by decide +kernel
theorem dX6_copy_104 : decode cX6_copy 104 = .ok (.i2l, 1) := by decide +kernel
theorem dX6_copy_105 : decode cX6_copy 105 = .ok (.iload 5, 2) := by decide +kernel
theorem dX6_copy_107 : decode cX6_copy 107 = .ok (.i2l, 1) := by decide +kernel
theorem dX6_copy_108 : decode cX6_copy 108 = .ok (.ladd, 1) := by decide +kernel
theorem dX6_copy_109 : decode cX6_copy 109 = .ok (.aload_n 0, 1) := by decide +kernel
theorem dX6_copy_110 : decode cX6_copy 110 = .ok (.getfield 13, 3) := by decide +kernel
theorem dX6_copy_113 : decode cX6_copy 113 = .ok (.iload_n 3, 1) := by decide +kernel
theorem dX6_copy_114 : decode cX6_copy 114 = .ok (.iaload, 1) := by decide +kernel
theorem dX6_copy_115 : decode cX6_copy 115 = .ok (.i2l, 1) := by decide +kernel
theorem dX6_copy_116 : decode cX6_copy 116 = .ok (.lcmp, 1) := by decide +kernel
theorem dX6_copy_117 : decode cX6_copy 117 = .ok (.ifCond .le 9, 3) := by decide +kernel
theorem dX6_copy_120 : decode cX6_copy 120 = .ok (.aload_n 0, 1) := by decide +kernel
theorem dX6_copy_121 : decode cX6_copy 121 = .ok (.iconst 2, 1) := by decide +kernel
theorem dX6_copy_122 : decode cX6_copy 122 = .ok (.invokevirtual 87, 3) := by decide +kernel
theorem dX6_copy_125 : decode cX6_copy 125 = .ok (.ireturn, 1) := by decide +kernel
theorem dX6_copy_126 : decode cX6_copy 126 = .ok (.iconst 0, 1) := by decide +kernel
theorem dX6_copy_127 : decode cX6_copy 127 = .ok (.istore 6, 2) := by decide +kernel
theorem dX6_copy_129 : decode cX6_copy 129 = .ok (.iload 6, 2) := by decide +kernel
theorem dX6_copy_131 : decode cX6_copy 131 = .ok (.iload 5, 2) := by decide +kernel
theorem dX6_copy_133 : decode cX6_copy 133 = .ok (.if_icmp .ge 30, 3) := by decide +kernel
theorem dX6_copy_136 : decode cX6_copy 136 = .ok (.aload_n 0, 1) := by decide +kernel
theorem dX6_copy_137 : decode cX6_copy 137 = .ok (.getfield 20, 3) := by decide +kernel
theorem dX6_copy_140 : decode cX6_copy 140 = .ok (.iload 6, 2) := by decide +kernel
theorem dX6_copy_142 : decode cX6_copy 142 = .ok (.aload_n 0, 1) := by decide +kernel
theorem dX6_copy_143 : decode cX6_copy 143 = .ok (.getfield 16, 3) := by decide +kernel
theorem dX6_copy_146 : decode cX6_copy 146 = .ok (.bipush 8, 2) := by decide +kernel
theorem dX6_copy_148 : decode cX6_copy 148 = .ok (.iload_n 1, 1) := by decide +kernel
theorem dX6_copy_149 : decode cX6_copy 149 = .ok (.imul, 1) := by decide +kernel
theorem dX6_copy_150 : decode cX6_copy 150 = .ok (.iload_n 2, 1) := by decide +kernel
theorem dX6_copy_151 : decode cX6_copy 151 = .ok (.iadd, 1) := by decide +kernel
theorem dX6_copy_152 : decode cX6_copy 152 = .ok (.iload 6, 2) := by decide +kernel
theorem dX6_copy_154 : decode cX6_copy 154 = .ok (.iadd, 1) := by decide +kernel
theorem dX6_copy_155 : decode cX6_copy 155 = .ok (.laload, 1) := by decide +kernel
theorem dX6_copy_156 : decode cX6_copy 156 = .ok (.lastore, 1) := by decide +kernel
theorem dX6_copy_157 : decode cX6_copy 157 = .ok (.iinc 6 1, 3) := by decide +kernel
theorem dX6_copy_160 : decode cX6_copy 160 = .ok (.goto (-31), 3) := by decide +kernel
theorem dX6_copy_163 : decode cX6_copy 163 = .ok (.iconst 0, 1) := by decide +kernel
theorem dX6_copy_164 : decode cX6_copy 164 = .ok (.istore 6, 2) := by decide +kernel
theorem dX6_copy_166 : decode cX6_copy 166 = .ok (.iload 6, 2) := by decide +kernel
theorem dX6_copy_168 : decode cX6_copy 168 = .ok (.iload 5, 2) := by decide +kernel
theorem dX6_copy_170 : decode cX6_copy 170 = .ok (.if_icmp .ge 31, 3) := by decide +kernel
theorem dX6_copy_173 : decode cX6_copy 173 = .ok (.aload_n 0, 1) := by decide +kernel
theorem dX6_copy_174 : decode cX6_copy 174 = .ok (.getfield 16, 3) := by decide +kernel
theorem dX6_copy_177 : decode cX6_copy 177 = .ok (.bipush 8, 2) := by decide +kernel
theorem dX6_copy_179 : decode cX6_copy 179 = .ok (.iload_n 3, 1) := by decide +kernel
theorem dX6_copy_180 : decode cX6_copy 180 = .ok (.imul, 1) := by decide +kernel
theorem dX6_copy_181 : decode cX6_copy 181 = .ok (.iload 4, 2) := by decide +kernel
theorem dX6_copy_183 : decode cX6_copy 183 = .ok (.iadd, 1) := by decide +kernel
theorem dX6_copy_184 : decode cX6_copy 184 = .ok (.iload 6, 2) := by decide +kernel
theorem dX6_copy_186 : decode cX6_copy 186 = .ok (.iadd, 1) := by decide +kernel
theorem dX6_copy_187 : decode cX6_copy 187 = .ok (.aload_n 0, 1) := by decide +kernel
theorem dX6_copy_188 : decode cX6_copy 188 = .ok (.getfield 20, 3) := by decide +kernel
theorem dX6_copy_191 : decode cX6_copy 191 = .ok (.iload 6, 2) := by decide +kernel
theorem dX6_copy_193 : decode cX6_copy 193 = .ok (.laload, 1) := by decide +kernel
theorem dX6_copy_194 : decode cX6_copy 194 = .ok (.lastore, 1) := by decide +kernel
theorem dX6_copy_195 : decode cX6_copy 195 = .ok (.iinc 6 1, 3) := by decide +kernel
theorem dX6_copy_198 : decode cX6_copy 198 = .ok (.goto (-32), 3) := by decide +kernel
theorem dX6_copy_201 : decode cX6_copy 201 = .ok (.iload 5, 2) := by decide +kernel
theorem dX6_copy_203 : decode cX6_copy 203 = .ok (.ireturn, 1) := by decide +kernel
theorem dX6_isPlace_0 : decode cX6_isPlace 0 = .ok (.iload_n 1, 1) := by decide +kernel
theorem dX6_isPlace_1 : decode cX6_isPlace 1 = .ok (.i2l, 1) := by decide +kernel
theorem dX6_isPlace_2 : decode cX6_isPlace 2 = .ok (.lconst 0, 1) := by decide +kernel
theorem dX6_isPlace_3 : decode cX6_isPlace 3 = .ok (.aload_n 0, 1) := by decide +kernel
theorem dX6_isPlace_4 : decode cX6_isPlace 4 = .ok (.getfield 99, 3) := by decide +kernel
theorem dX6_isPlace_7 : decode cX6_isPlace 7 = .ok (.iconst 1, 1) := by decide +kernel
theorem dX6_isPlace_8 : decode cX6_isPlace 8 = .ok (.isub, 1) := by decide +kernel
theorem dX6_isPlace_9 : decode cX6_isPlace 9 = .ok (.i2l, 1) := by decide +kernel
theorem dX6_isPlace_10 : decode cX6_isPlace 10 = .ok (.invokestatic 77, 3) := by decide +kernel
theorem dX6_isPlace_13 : decode cX6_isPlace 13 = .ok (.ifCond .eq 23, 3) := by decide +kernel
theorem dX6_isPlace_16 : decode cX6_isPlace 16 = .ok (.iload_n 2, 1) := by decide +kernel
theorem dX6_isPlace_17 : decode cX6_isPlace 17 = .ok (.i2l, 1) := by decide +kernel
theorem dX6_isPlace_18 : decode cX6_isPlace 18 = .ok (.lconst 0, 1) := by decide +kernel
theorem dX6_isPlace_19 : decode cX6_isPlace 19 = .ok (.aload_n 0, 1) := by decide +kernel
theorem dX6_isPlace_20 : decode cX6_isPlace 20 = .ok (.getfield 102, 3) := by decide +kernel
theorem dX6_isPlace_23 : decode cX6_isPlace 23 = .ok (.iconst 1, 1) := by decide +kernel
theorem dX6_isPlace_24 : decode cX6_isPlace 24 = .ok (.isub, 1) := by decide +kernel
theorem dX6_isPlace_25 : decode cX6_isPlace 25 = .ok (.i2l, 1) := by decide +kernel
theorem dX6_isPlace_26 : decode cX6_isPlace 26 = .ok (.invokestatic 77, 3) := by decide +kernel
theorem dX6_isPlace_29 : decode cX6_isPlace 29 = .ok (.ifCond .eq 7, 3) := by decide +kernel
theorem dX6_isPlace_32 : decode cX6_isPlace 32 = .ok (.iconst 1, 1) := by decide +kernel
theorem dX6_isPlace_33 : decode cX6_isPlace 33 = .ok (.goto 4, 3) := by decide +kernel
theorem dX6_isPlace_36 : decode cX6_isPlace 36 = .ok (.iconst 0, 1) := by decide +kernel
theorem dX6_isPlace_37 : decode cX6_isPlace 37 = .ok (.ireturn, 1) := by decide +kernel
theorem dX6_ground_0 : decode cX6_ground 0 = .ok (.iload_n 1, 1) := by decide +kernel
theorem dX6_ground_1 : decode cX6_ground 1 = .ok (.i2l, 1) := by decide +kernel
theorem dX6_ground_2 : decode cX6_ground 2 = .ok (.ldc2_w 85, 3) := by decide +kernel
theorem dX6_ground_5 : decode cX6_ground 5 = .ok (.ldc2_w 105, 3) := by decide +kernel
theorem dX6_ground_8 : decode cX6_ground 8 = .ok (.invokestatic 77, 3) := by decide +kernel
theorem dX6_ground_11 : decode cX6_ground 11 = .ok (.ifCond .eq 17, 3) := by decide +kernel
theorem dX6_ground_14 : decode cX6_ground 14 = .ok (.iload_n 2, 1) := by decide +kernel
theorem dX6_ground_15 : decode cX6_ground 15 = .ok (.i2l, 1) := by decide +kernel
theorem dX6_ground_16 : decode cX6_ground 16 = .ok (.ldc2_w 85, 3) := by decide +kernel
theorem dX6_ground_19 : decode cX6_ground 19 = .ok (.ldc2_w 105, 3) := by decide +kernel
theorem dX6_ground_22 : decode cX6_ground 22 = .ok (.invokestatic 77, 3) := by decide +kernel
theorem dX6_ground_25 : decode cX6_ground 25 = .ok (.ifCond .ne 6, 3) := by decide +kernel
theorem dX6_ground_28 : decode cX6_ground 28 = .ok (.bipush (-2), 2) := by decide +kernel
theorem dX6_ground_30 : decode cX6_ground 30 = .ok (.ireturn, 1) := by decide +kernel
theorem dX6_ground_31 : decode cX6_ground 31 = .ok (.aload_n 0, 1) := by decide +kernel
theorem dX6_ground_32 : decode cX6_ground 32 = .ok (.iload_n 1, 1) := by decide +kernel
theorem dX6_ground_33 : decode cX6_ground 33 = .ok (.putfield 99, 3) := by decide +kernel
theorem dX6_ground_36 : decode cX6_ground 36 = .ok (.aload_n 0, 1) := by decide +kernel
theorem dX6_ground_37 : decode cX6_ground 37 = .ok (.iload_n 2, 1) := by decide +kernel
theorem dX6_ground_38 : decode cX6_ground 38 = .ok (.putfield 102, 3) := by decide +kernel
theorem dX6_ground_41 : decode cX6_ground 41 = .ok (.aload_n 0, 1) := by decide +kernel
theorem dX6_ground_42 : decode cX6_ground 42 = .ok (.iconst 0, 1) := by decide +kernel
theorem dX6_ground_43 : decode cX6_ground 43 = .ok (.putfield 107, 3) := by decide +kernel
theorem dX6_ground_46 : decode cX6_ground 46 = .ok (.aload_n 0, 1) := by decide +kernel
theorem dX6_ground_47 : decode cX6_ground 47 = .ok (.iconst 0, 1) := by decide +kernel
theorem dX6_ground_48 : decode cX6_ground 48 = .ok (.putfield 110, 3) := by decide +kernel
theorem dX6_ground_51 : decode cX6_ground 51 = .ok (.iconst 0, 1) := by decide +kernel
theorem dX6_ground_52 : decode cX6_ground 52 = .ok (.istore_n 3, 1) := by decide +kernel
theorem dX6_ground_53 : decode cX6_ground 53 = .ok (.iload_n 3, 1) := by decide +kernel
theorem dX6_ground_54 : decode cX6_ground 54 = .ok (.sipush 3904, 3) := by decide +kernel
theorem dX6_ground_57 : decode cX6_ground 57 = .ok (.if_icmp .ge 16, 3) := by decide +kernel
theorem dX6_ground_60 : decode cX6_ground 60 = .ok (.aload_n 0, 1) := by decide +kernel
theorem dX6_ground_61 : decode cX6_ground 61 = .ok (.getfield 32, 3) := by decide +kernel
theorem dX6_ground_64 : decode cX6_ground 64 = .ok (.iload_n 3, 1) := by decide +kernel
theorem dX6_ground_65 : decode cX6_ground 65 = .ok (.lconst 0, 1) := by decide +kernel
theorem dX6_ground_66 : decode cX6_ground 66 = .ok (.lastore, 1) := by decide +kernel
theorem dX6_ground_67 : decode cX6_ground 67 = .ok (.iinc 3 1, 3) := by decide +kernel
theorem dX6_ground_70 : decode cX6_ground 70 = .ok (.goto (-17), 3) := by decide +kernel
theorem dX6_ground_73 : decode cX6_ground 73 = .ok (.iconst 0, 1) := by decide +kernel
theorem dX6_ground_74 : decode cX6_ground 74 = .ok (.istore_n 3, 1) := by decide +kernel
theorem dX6_ground_75 : decode cX6_ground 75 = .ok (.iload_n 3, 1) := by decide +kernel
theorem dX6_ground_76 : decode cX6_ground 76 = .ok (.sipush 305, 3) := by decide +kernel
theorem dX6_ground_79 : decode cX6_ground 79 = .ok (.if_icmp .ge 16, 3) := by decide +kernel
theorem dX6_ground_82 : decode cX6_ground 82 = .ok (.aload_n 0, 1) := by decide +kernel
theorem dX6_ground_83 : decode cX6_ground 83 = .ok (.getfield 35, 3) := by decide +kernel
theorem dX6_ground_86 : decode cX6_ground 86 = .ok (.iload_n 3, 1) := by decide +kernel
theorem dX6_ground_87 : decode cX6_ground 87 = .ok (.lconst 0, 1) := by decide +kernel
theorem dX6_ground_88 : decode cX6_ground 88 = .ok (.lastore, 1) := by decide +kernel
theorem dX6_ground_89 : decode cX6_ground 89 = .ok (.iinc 3 1, 3) := by decide +kernel
theorem dX6_ground_92 : decode cX6_ground 92 = .ok (.goto (-17), 3) := by decide +kernel
theorem dX6_ground_95 : decode cX6_ground 95 = .ok (.iconst 0, 1) := by decide +kernel
theorem dX6_ground_96 : decode cX6_ground 96 = .ok (.istore_n 3, 1) := by decide +kernel
theorem dX6_ground_97 : decode cX6_ground 97 = .ok (.iconst 0, 1) := by decide +kernel
theorem dX6_ground_98 : decode cX6_ground 98 = .ok (.istore 4, 2) := by decide +kernel
theorem dX6_ground_100 : decode cX6_ground 100 = .ok (.iload 4, 2) := by decide +kernel
theorem dX6_ground_102 : decode cX6_ground 102 = .ok (.iload_n 2, 1) := by decide +kernel
theorem dX6_ground_103 : decode cX6_ground 103 = .ok (.if_icmp .ge 144, 3) := by decide +kernel
theorem dX6_ground_106 : decode cX6_ground 106 = .ok (.iconst 0, 1) := by decide +kernel
theorem dX6_ground_107 : decode cX6_ground 107 = .ok (.istore 5, 2) := by decide +kernel
theorem dX6_ground_109 : decode cX6_ground 109 = .ok (.iload 5, 2) := by decide +kernel
theorem dX6_ground_111 : decode cX6_ground 111 = .ok (.iload_n 1, 1) := by decide +kernel
theorem dX6_ground_112 : decode cX6_ground 112 = .ok (.if_icmp .ge 129, 3) := by decide +kernel
theorem dX6_ground_115 : decode cX6_ground 115 = .ok (.bipush 8, 2) := by decide +kernel
theorem dX6_ground_117 : decode cX6_ground 117 = .ok (.iload 4, 2) := by decide +kernel
theorem dX6_ground_119 : decode cX6_ground 119 = .ok (.imul, 1) := by decide +kernel
theorem dX6_ground_120 : decode cX6_ground 120 = .ok (.iload 5, 2) := by decide +kernel
theorem dX6_ground_122 : decode cX6_ground 122 = .ok (.iadd, 1) := by decide +kernel
theorem dX6_ground_123 : decode cX6_ground 123 = .ok (.istore 6, 2) := by decide +kernel
theorem dX6_ground_125 : decode cX6_ground 125 = .ok (.aload_n 0, 1) := by decide +kernel
theorem dX6_ground_126 : decode cX6_ground 126 = .ok (.getfield 7, 3) := by decide +kernel
theorem dX6_ground_129 : decode cX6_ground 129 = .ok (.iload 4, 2) := by decide +kernel
theorem dX6_ground_131 : decode cX6_ground 131 = .ok (.iaload, 1) := by decide +kernel
theorem dX6_ground_132 : decode cX6_ground 132 = .ok (.bipush (-9), 2) := by decide +kernel
theorem dX6_ground_134 : decode cX6_ground 134 = .ok (.if_icmp .eq 36, 3) := by decide +kernel
theorem dX6_ground_137 : decode cX6_ground 137 = .ok (.iload 5, 2) := by decide +kernel
theorem dX6_ground_139 : decode cX6_ground 139 = .ok (.aload_n 0, 1) := by decide +kernel
theorem dX6_ground_140 : decode cX6_ground 140 = .ok (.getfield 13, 3) := by decide +kernel
theorem dX6_ground_143 : decode cX6_ground 143 = .ok (.iload 4, 2) := by decide +kernel
theorem dX6_ground_145 : decode cX6_ground 145 = .ok (.iaload, 1) := by decide +kernel
theorem dX6_ground_146 : decode cX6_ground 146 = .ok (.if_icmp .ge 24, 3) := by decide +kernel
theorem dX6_ground_149 : decode cX6_ground 149 = .ok (.aload_n 0, 1) := by decide +kernel
theorem dX6_ground_150 : decode cX6_ground 150 = .ok (.getfield 16, 3) := by decide +kernel
theorem dX6_ground_153 : decode cX6_ground 153 = .ok (.iload 6, 2) := by decide +kernel
theorem dX6_ground_155 : decode cX6_ground 155 = .ok (.laload, 1) := by decide +kernel
theorem dX6_ground_156 : decode cX6_ground 156 = .ok (.lconst 0, 1) := by decide +kernel
theorem dX6_ground_157 : decode cX6_ground 157 = .ok (.ldc2_w 113, 3) := by decide +kernel
theorem dX6_ground_160 : decode cX6_ground 160 = .ok (.invokestatic 77, 3) := by decide +kernel
theorem dX6_ground_163 : decode cX6_ground 163 = .ok (.ifCond .eq 7, 3) := by decide +kernel
theorem dX6_ground_166 : decode cX6_ground 166 = .ok (.iconst 1, 1) := by decide +kernel
theorem dX6_ground_167 : decode cX6_ground 167 = .ok (.goto 4, 3) := by decide +kernel
theorem dX6_ground_170 : decode cX6_ground 170 = .ok (.iconst 0, 1) := by decide +kernel
theorem dX6_ground_171 : decode cX6_ground 171 = .ok (.istore 7, 2) := by decide +kernel
theorem dX6_ground_173 : decode cX6_ground 173 = .ok (.aload_n 0, 1) := by decide +kernel
theorem dX6_ground_174 : decode cX6_ground 174 = .ok (.getfield 23, 3) := by decide +kernel
theorem dX6_ground_177 : decode cX6_ground 177 = .ok (.iload 6, 2) := by decide +kernel
theorem dX6_ground_179 : decode cX6_ground 179 = .ok (.iload 7, 2) := by decide +kernel
theorem dX6_ground_181 : decode cX6_ground 181 = .ok (.ifCond .eq 7, 3) := by decide +kernel
theorem dX6_ground_184 : decode cX6_ground 184 = .ok (.iconst 0, 1) := by decide +kernel
theorem dX6_ground_185 : decode cX6_ground 185 = .ok (.goto 4, 3) := by decide +kernel
theorem dX6_ground_188 : decode cX6_ground 188 = .ok (.iconst 4, 1) := by decide +kernel
theorem dX6_ground_189 : decode cX6_ground 189 = .ok (.iastore, 1) := by decide +kernel
theorem dX6_ground_190 : decode cX6_ground 190 = .ok (.aload_n 0, 1) := by decide +kernel
theorem dX6_ground_191 : decode cX6_ground 191 = .ok (.getfield 26, 3) := by decide +kernel
theorem dX6_ground_194 : decode cX6_ground 194 = .ok (.iload 6, 2) := by decide +kernel
theorem dX6_ground_196 : decode cX6_ground 196 = .ok (.iconst 0, 1) := by decide +kernel
theorem dX6_ground_197 : decode cX6_ground 197 = .ok (.iastore, 1) := by decide +kernel
theorem dX6_ground_198 : decode cX6_ground 198 = .ok (.aload_n 0, 1) := by decide +kernel
theorem dX6_ground_199 : decode cX6_ground 199 = .ok (.getfield 29, 3) := by decide +kernel
theorem dX6_ground_202 : decode cX6_ground 202 = .ok (.iload 6, 2) := by decide +kernel
theorem dX6_ground_204 : decode cX6_ground 204 = .ok (.iload 7, 2) := by decide +kernel
theorem dX6_ground_206 : decode cX6_ground 206 = .ok (.ifCond .eq 14, 3) := by decide +kernel
theorem dX6_ground_209 : decode cX6_ground 209 = .ok (.aload_n 0, 1) := by decide +kernel
theorem dX6_ground_210 : decode cX6_ground 210 = .ok (.getfield 16, 3) := by decide +kernel
theorem dX6_ground_213 : decode cX6_ground 213 = .ok (.iload 6, 2) := by decide +kernel
theorem dX6_ground_215 : decode cX6_ground 215 = .ok (.laload, 1) := by decide +kernel
theorem dX6_ground_216 : decode cX6_ground 216 = .ok (.l2i, 1) := by decide +kernel
theorem dX6_ground_217 : decode cX6_ground 217 = .ok (.goto 4, 3) := by decide +kernel
theorem dX6_ground_220 : decode cX6_ground 220 = .ok (.iconst 0, 1) := by decide +kernel
theorem dX6_ground_221 : decode cX6_ground 221 = .ok (.iastore, 1) := by decide +kernel
theorem dX6_ground_222 : decode cX6_ground 222 = .ok (.iload_n 3, 1) := by decide +kernel
theorem dX6_ground_223 : decode cX6_ground 223 = .ok (.iload 7, 2) := by decide +kernel
theorem dX6_ground_225 : decode cX6_ground 225 = .ok (.ifCond .eq 7, 3) := by decide +kernel
theorem dX6_ground_228 : decode cX6_ground 228 = .ok (.iconst 0, 1) := by decide +kernel
theorem dX6_ground_229 : decode cX6_ground 229 = .ok (.goto 4, 3) := by decide +kernel
theorem dX6_ground_232 : decode cX6_ground 232 = .ok (.iconst 1, 1) := by decide +kernel
theorem dX6_ground_233 : decode cX6_ground 233 = .ok (.iadd, 1) := by decide +kernel
theorem dX6_ground_234 : decode cX6_ground 234 = .ok (.istore_n 3, 1) := by decide +kernel
theorem dX6_ground_235 : decode cX6_ground 235 = .ok (.iinc 5 1, 3) := by decide +kernel
theorem dX6_ground_238 : decode cX6_ground 238 = .ok (.goto (-129), 3) := by decide +kernel
theorem dX6_ground_241 : decode cX6_ground 241 = .ok (.iinc 4 1, 3) := by decide +kernel
theorem dX6_ground_244 : decode cX6_ground 244 = .ok (.goto (-144), 3) := by decide +kernel
theorem dX6_ground_247 : decode cX6_ground 247 = .ok (.iload_n 3, 1) := by decide +kernel
theorem dX6_ground_248 : decode cX6_ground 248 = .ok (.ireturn, 1) := by decide +kernel
theorem dX6_kind_0 : decode cX6_kind 0 = .ok (.aload_n 0, 1) := by decide +kernel
theorem dX6_kind_1 : decode cX6_kind 1 = .ok (.iload_n 1, 1) := by decide +kernel
theorem dX6_kind_2 : decode cX6_kind 2 = .ok (.iload_n 2, 1) := by decide +kernel
theorem dX6_kind_3 : decode cX6_kind 3 = .ok (.invokevirtual 115, 3) := by decide +kernel
theorem dX6_kind_6 : decode cX6_kind 6 = .ok (.ifCond .ne 5, 3) := by decide +kernel
theorem dX6_kind_9 : decode cX6_kind 9 = .ok (.iconst (-1), 1) := by decide +kernel
theorem dX6_kind_10 : decode cX6_kind 10 = .ok (.ireturn, 1) := by decide +kernel
theorem dX6_kind_11 : decode cX6_kind 11 = .ok (.iload_n 3, 1) := by decide +kernel
theorem dX6_kind_12 : decode cX6_kind 12 = .ok (.i2l, 1) := by decide +kernel
theorem dX6_kind_13 : decode cX6_kind 13 = .ok (.lconst 0, 1) := by decide +kernel
theorem dX6_kind_14 : decode cX6_kind 14 = .ok (.ldc2_w 119, 3) := by decide +kernel
theorem dX6_kind_17 : decode cX6_kind 17 = .ok (.invokestatic 77, 3) := by decide +kernel
theorem dX6_kind_20 : decode cX6_kind 20 = .ok (.ifCond .eq 20, 3) := by decide +kernel
theorem dX6_kind_23 : decode cX6_kind 23 = .ok (.iload_n 3, 1) := by decide +kernel
theorem dX6_kind_24 : decode cX6_kind 24 = .ok (.ifCond .eq 19, 3) := by decide +kernel
theorem dX6_kind_27 : decode cX6_kind 27 = .ok (.iload 4, 2) := by decide +kernel
theorem dX6_kind_29 : decode cX6_kind 29 = .ok (.i2l, 1) := by decide +kernel
theorem dX6_kind_30 : decode cX6_kind 30 = .ok (.lconst 0, 1) := by decide +kernel
theorem dX6_kind_31 : decode cX6_kind 31 = .ok (.ldc2_w 121, 3) := by decide +kernel
theorem dX6_kind_34 : decode cX6_kind 34 = .ok (.invokestatic 77, 3) := by decide +kernel
theorem dX6_kind_37 : decode cX6_kind 37 = .ok (.ifCond .ne 6, 3) := by decide +kernel
theorem dX6_kind_40 : decode cX6_kind 40 = .ok (.bipush (-2), 2) := by decide +kernel
theorem dX6_kind_42 : decode cX6_kind 42 = .ok (.ireturn, 1) := by decide +kernel
theorem dX6_kind_43 : decode cX6_kind 43 = .ok (.bipush 8, 2) := by decide +kernel
theorem dX6_kind_45 : decode cX6_kind 45 = .ok (.iload_n 2, 1) := by decide +kernel
theorem dX6_kind_46 : decode cX6_kind 46 = .ok (.imul, 1) := by decide +kernel
theorem dX6_kind_47 : decode cX6_kind 47 = .ok (.iload_n 1, 1) := by decide +kernel
theorem dX6_kind_48 : decode cX6_kind 48 = .ok (.iadd, 1) := by decide +kernel
theorem dX6_kind_49 : decode cX6_kind 49 = .ok (.istore 5, 2) := by decide +kernel
theorem dX6_kind_51 : decode cX6_kind 51 = .ok (.aload_n 0, 1) := by decide +kernel
theorem dX6_kind_52 : decode cX6_kind 52 = .ok (.getfield 23, 3) := by decide +kernel
theorem dX6_kind_55 : decode cX6_kind 55 = .ok (.iload 5, 2) := by decide +kernel
theorem dX6_kind_57 : decode cX6_kind 57 = .ok (.iaload, 1) := by decide +kernel
theorem dX6_kind_58 : decode cX6_kind 58 = .ok (.iconst 4, 1) := by decide +kernel
theorem dX6_kind_59 : decode cX6_kind 59 = .ok (.if_icmp .ne 6, 3) := by decide +kernel
theorem dX6_kind_62 : decode cX6_kind 62 = .ok (.bipush (-3), 2) := by decide +kernel
theorem dX6_kind_64 : decode cX6_kind 64 = .ok (.ireturn, 1) := by decide +kernel
theorem dX6_kind_65 : decode cX6_kind 65 = .ok (.aload_n 0, 1) := by decide +kernel
theorem dX6_kind_66 : decode cX6_kind 66 = .ok (.getfield 23, 3) := by decide +kernel
theorem dX6_kind_69 : decode cX6_kind 69 = .ok (.iload 5, 2) := by decide +kernel
theorem dX6_kind_71 : decode cX6_kind 71 = .ok (.iaload, 1) := by decide +kernel
theorem dX6_kind_72 : decode cX6_kind 72 = .ok (.istore 6, 2) := by decide +kernel
theorem dX6_kind_74 : decode cX6_kind 74 = .ok (.aload_n 0, 1) := by decide +kernel
theorem dX6_kind_75 : decode cX6_kind 75 = .ok (.getfield 23, 3) := by decide +kernel
theorem dX6_kind_78 : decode cX6_kind 78 = .ok (.iload 5, 2) := by decide +kernel
theorem dX6_kind_80 : decode cX6_kind 80 = .ok (.iload_n 3, 1) := by decide +kernel
theorem dX6_kind_81 : decode cX6_kind 81 = .ok (.iastore, 1) := by decide +kernel
theorem dX6_kind_82 : decode cX6_kind 82 = .ok (.aload_n 0, 1) := by decide +kernel
theorem dX6_kind_83 : decode cX6_kind 83 = .ok (.getfield 26, 3) := by decide +kernel
theorem dX6_kind_86 : decode cX6_kind 86 = .ok (.iload 5, 2) := by decide +kernel
theorem dX6_kind_88 : decode cX6_kind 88 = .ok (.iload_n 3, 1) := by decide +kernel
theorem dX6_kind_89 : decode cX6_kind 89 = .ok (.ifCond .ne 7, 3) := by decide +kernel
theorem dX6_kind_92 : decode cX6_kind 92 = .ok (.iconst 0, 1) := by decide +kernel
theorem dX6_kind_93 : decode cX6_kind 93 = .ok (.goto 5, 3) := by decide +kernel
theorem dX6_kind_96 : decode cX6_kind 96 = .ok (.iload 4, 2) := by decide +kernel
theorem dX6_kind_98 : decode cX6_kind 98 = .ok (.iastore, 1) := by decide +kernel
theorem dX6_kind_99 : decode cX6_kind 99 = .ok (.aload_n 0, 1) := by decide +kernel
theorem dX6_kind_100 : decode cX6_kind 100 = .ok (.iconst 0, 1) := by decide +kernel
theorem dX6_kind_101 : decode cX6_kind 101 = .ok (.putfield 110, 3) := by decide +kernel
theorem dX6_kind_104 : decode cX6_kind 104 = .ok (.iload 6, 2) := by decide +kernel
theorem dX6_kind_106 : decode cX6_kind 106 = .ok (.ireturn, 1) := by decide +kernel
theorem dX6_taken_0 : decode cX6_taken 0 = .ok (.aload_n 0, 1) := by decide +kernel
theorem dX6_taken_1 : decode cX6_taken 1 = .ok (.iload_n 1, 1) := by decide +kernel
theorem dX6_taken_2 : decode cX6_taken 2 = .ok (.iload_n 2, 1) := by decide +kernel
theorem dX6_taken_3 : decode cX6_taken 3 = .ok (.invokevirtual 115, 3) := by decide +kernel
theorem dX6_taken_6 : decode cX6_taken 6 = .ok (.ifCond .ne 5, 3) := by decide +kernel
theorem dX6_taken_9 : decode cX6_taken 9 = .ok (.iconst (-1), 1) := by decide +kernel
theorem dX6_taken_10 : decode cX6_taken 10 = .ok (.ireturn, 1) := by decide +kernel
theorem dX6_taken_11 : decode cX6_taken 11 = .ok (.iload_n 3, 1) := by decide +kernel
theorem dX6_taken_12 : decode cX6_taken 12 = .ok (.i2l, 1) := by decide +kernel
theorem dX6_taken_13 : decode cX6_taken 13 = .ok (.lconst 0, 1) := by decide +kernel
theorem dX6_taken_14 : decode cX6_taken 14 = .ok (.ldc2_w 123, 3) := by decide +kernel
theorem dX6_taken_17 : decode cX6_taken 17 = .ok (.invokestatic 77, 3) := by decide +kernel
theorem dX6_taken_20 : decode cX6_taken 20 = .ok (.ifCond .eq 14, 3) := by decide +kernel
theorem dX6_taken_23 : decode cX6_taken 23 = .ok (.iload 4, 2) := by decide +kernel
theorem dX6_taken_25 : decode cX6_taken 25 = .ok (.i2l, 1) := by decide +kernel
theorem dX6_taken_26 : decode cX6_taken 26 = .ok (.lconst 0, 1) := by decide +kernel
theorem dX6_taken_27 : decode cX6_taken 27 = .ok (.lconst 1, 1) := by decide +kernel
theorem dX6_taken_28 : decode cX6_taken 28 = .ok (.invokestatic 77, 3) := by decide +kernel
theorem dX6_taken_31 : decode cX6_taken 31 = .ok (.ifCond .ne 6, 3) := by decide +kernel
theorem dX6_taken_34 : decode cX6_taken 34 = .ok (.bipush (-2), 2) := by decide +kernel
theorem dX6_taken_36 : decode cX6_taken 36 = .ok (.ireturn, 1) := by decide +kernel
theorem dX6_taken_37 : decode cX6_taken 37 = .ok (.bipush 8, 2) := by decide +kernel
theorem dX6_taken_39 : decode cX6_taken 39 = .ok (.iload_n 2, 1) := by decide +kernel
theorem dX6_taken_40 : decode cX6_taken 40 = .ok (.imul, 1) := by decide +kernel
theorem dX6_taken_41 : decode cX6_taken 41 = .ok (.iload_n 1, 1) := by decide +kernel
theorem dX6_taken_42 : decode cX6_taken 42 = .ok (.iadd, 1) := by decide +kernel
theorem dX6_taken_43 : decode cX6_taken 43 = .ok (.istore 5, 2) := by decide +kernel
theorem dX6_taken_45 : decode cX6_taken 45 = .ok (.aload_n 0, 1) := by decide +kernel
theorem dX6_taken_46 : decode cX6_taken 46 = .ok (.getfield 23, 3) := by decide +kernel
theorem dX6_taken_49 : decode cX6_taken 49 = .ok (.iload 5, 2) := by decide +kernel
theorem dX6_taken_51 : decode cX6_taken 51 = .ok (.iaload, 1) := by decide +kernel
theorem dX6_taken_52 : decode cX6_taken 52 = .ok (.istore 6, 2) := by decide +kernel
theorem dX6_taken_54 : decode cX6_taken 54 = .ok (.iload_n 3, 1) := by decide +kernel
theorem dX6_taken_55 : decode cX6_taken 55 = .ok (.ifCond .eq 31, 3) := by decide +kernel
theorem dX6_taken_58 : decode cX6_taken 58 = .ok (.iload_n 3, 1) := by decide +kernel
theorem dX6_taken_59 : decode cX6_taken 59 = .ok (.iload 6, 2) := by decide +kernel
theorem dX6_taken_61 : decode cX6_taken 61 = .ok (.if_icmp .eq 25, 3) := by decide +kernel
theorem dX6_taken_64 : decode cX6_taken 64 = .ok (.iload_n 3, 1) := by decide +kernel
theorem dX6_taken_65 : decode cX6_taken 65 = .ok (.iconst 2, 1) := by decide +kernel
theorem dX6_taken_66 : decode cX6_taken 66 = .ok (.if_icmp .ne 9, 3) := by decide +kernel
theorem dX6_taken_69 : decode cX6_taken 69 = .ok (.iload 6, 2) := by decide +kernel
theorem dX6_taken_71 : decode cX6_taken 71 = .ok (.iconst 3, 1) := by decide +kernel
theorem dX6_taken_72 : decode cX6_taken 72 = .ok (.if_icmp .eq 14, 3) := by decide +kernel
theorem dX6_taken_75 : decode cX6_taken 75 = .ok (.iload_n 3, 1) := by decide +kernel
theorem dX6_taken_76 : decode cX6_taken 76 = .ok (.iconst 1, 1) := by decide +kernel
theorem dX6_taken_77 : decode cX6_taken 77 = .ok (.if_icmp .ne 13, 3) := by decide +kernel
theorem dX6_taken_80 : decode cX6_taken 80 = .ok (.iload 6, 2) := by decide +kernel
theorem dX6_taken_82 : decode cX6_taken 82 = .ok (.iconst 4, 1) := by decide +kernel
theorem dX6_taken_83 : decode cX6_taken 83 = .ok (.if_icmp .ne 7, 3) := by decide +kernel
theorem dX6_taken_86 : decode cX6_taken 86 = .ok (.iconst 1, 1) := by decide +kernel
theorem dX6_taken_87 : decode cX6_taken 87 = .ok (.goto 4, 3) := by decide +kernel
theorem dX6_taken_90 : decode cX6_taken 90 = .ok (.iconst 0, 1) := by decide +kernel
theorem dX6_taken_91 : decode cX6_taken 91 = .ok (.istore 7, 2) := by decide +kernel
theorem dX6_taken_93 : decode cX6_taken 93 = .ok (.iload 7, 2) := by decide +kernel
theorem dX6_taken_95 : decode cX6_taken 95 = .ok (.ifCond .ne 9, 3) := by decide +kernel
theorem dX6_taken_98 : decode cX6_taken 98 = .ok (.aload_n 0, 1) := by decide +kernel
theorem dX6_taken_99 : decode cX6_taken 99 = .ok (.iconst 3, 1) := by decide +kernel
theorem dX6_taken_100 : decode cX6_taken 100 = .ok (.invokevirtual 87, 3) := by decide +kernel
theorem dX6_taken_103 : decode cX6_taken 103 = .ok (.ireturn, 1) := by decide +kernel
theorem dX6_taken_104 : decode cX6_taken 104 = .ok (.iload 4, 2) := by decide +kernel
theorem dX6_taken_106 : decode cX6_taken 106 = .ok (.ifCond .ne 8, 3) := by decide +kernel
theorem dX6_taken_109 : decode cX6_taken 109 = .ok (.iload 6, 2) := by decide +kernel
theorem dX6_taken_111 : decode cX6_taken 111 = .ok (.goto 10, 3) := by decide +kernel
theorem dX6_taken_114 : decode cX6_taken 114 = .ok (.aload_n 0, 1) := by decide +kernel
theorem dX6_taken_115 : decode cX6_taken 115 = .ok (.getfield 26, 3) := by decide +kernel
theorem dX6_taken_118 : decode cX6_taken 118 = .ok (.iload 5, 2) := by decide +kernel
theorem dX6_taken_120 : decode cX6_taken 120 = .ok (.iaload, 1) := by decide +kernel
theorem dX6_taken_121 : decode cX6_taken 121 = .ok (.ireturn, 1) := by decide +kernel
theorem dX6_tell_0 : decode cX6_tell 0 = .ok (.iload_n 2, 1) := by decide +kernel
theorem dX6_tell_1 : decode cX6_tell 1 = .ok (.i2l, 1) := by decide +kernel
theorem dX6_tell_2 : decode cX6_tell 2 = .ok (.lconst 0, 1) := by decide +kernel
theorem dX6_tell_3 : decode cX6_tell 3 = .ok (.ldc2_w 125, 3) := by decide +kernel
theorem dX6_tell_6 : decode cX6_tell 6 = .ok (.invokestatic 77, 3) := by decide +kernel
theorem dX6_tell_9 : decode cX6_tell 9 = .ok (.ifCond .eq 15, 3) := by decide +kernel
theorem dX6_tell_12 : decode cX6_tell 12 = .ok (.iload_n 3, 1) := by decide +kernel
theorem dX6_tell_13 : decode cX6_tell 13 = .ok (.i2l, 1) := by decide +kernel
theorem dX6_tell_14 : decode cX6_tell 14 = .ok (.lconst 0, 1) := by decide +kernel
theorem dX6_tell_15 : decode cX6_tell 15 = .ok (.ldc2_w 127, 3) := by decide +kernel
theorem dX6_tell_18 : decode cX6_tell 18 = .ok (.invokestatic 77, 3) := by decide +kernel
theorem dX6_tell_21 : decode cX6_tell 21 = .ok (.ifCond .ne 6, 3) := by decide +kernel
theorem dX6_tell_24 : decode cX6_tell 24 = .ok (.bipush (-2), 2) := by decide +kernel
theorem dX6_tell_26 : decode cX6_tell 26 = .ok (.ireturn, 1) := by decide +kernel
theorem dX6_tell_27 : decode cX6_tell 27 = .ok (.iload_n 1, 1) := by decide +kernel
theorem dX6_tell_28 : decode cX6_tell 28 = .ok (.ifCond .eq 12, 3) := by decide +kernel
theorem dX6_tell_31 : decode cX6_tell 31 = .ok (.aload_n 0, 1) := by decide +kernel
theorem dX6_tell_32 : decode cX6_tell 32 = .ok (.getfield 41, 3) := by decide +kernel
theorem dX6_tell_35 : decode cX6_tell 35 = .ok (.iload_n 2, 1) := by decide +kernel
theorem dX6_tell_36 : decode cX6_tell 36 = .ok (.iaload, 1) := by decide +kernel
theorem dX6_tell_37 : decode cX6_tell 37 = .ok (.goto 9, 3) := by decide +kernel
theorem dX6_tell_40 : decode cX6_tell 40 = .ok (.aload_n 0, 1) := by decide +kernel
theorem dX6_tell_41 : decode cX6_tell 41 = .ok (.getfield 38, 3) := by decide +kernel
theorem dX6_tell_44 : decode cX6_tell 44 = .ok (.iload_n 2, 1) := by decide +kernel
theorem dX6_tell_45 : decode cX6_tell 45 = .ok (.iaload, 1) := by decide +kernel
theorem dX6_tell_46 : decode cX6_tell 46 = .ok (.istore 4, 2) := by decide +kernel
theorem dX6_tell_48 : decode cX6_tell 48 = .ok (.iload_n 1, 1) := by decide +kernel
theorem dX6_tell_49 : decode cX6_tell 49 = .ok (.ifCond .eq 13, 3) := by decide +kernel
theorem dX6_tell_52 : decode cX6_tell 52 = .ok (.aload_n 0, 1) := by decide +kernel
theorem dX6_tell_53 : decode cX6_tell 53 = .ok (.getfield 41, 3) := by decide +kernel
theorem dX6_tell_56 : decode cX6_tell 56 = .ok (.iload_n 2, 1) := by decide +kernel
theorem dX6_tell_57 : decode cX6_tell 57 = .ok (.iload_n 3, 1) := by decide +kernel
theorem dX6_tell_58 : decode cX6_tell 58 = .ok (.iastore, 1) := by decide +kernel
theorem dX6_tell_59 : decode cX6_tell 59 = .ok (.goto 10, 3) := by decide +kernel
theorem dX6_tell_62 : decode cX6_tell 62 = .ok (.aload_n 0, 1) := by decide +kernel
theorem dX6_tell_63 : decode cX6_tell 63 = .ok (.getfield 38, 3) := by decide +kernel
theorem dX6_tell_66 : decode cX6_tell 66 = .ok (.iload_n 2, 1) := by decide +kernel
theorem dX6_tell_67 : decode cX6_tell 67 = .ok (.iload_n 3, 1) := by decide +kernel
theorem dX6_tell_68 : decode cX6_tell 68 = .ok (.iastore, 1) := by decide +kernel
theorem dX6_tell_69 : decode cX6_tell 69 = .ok (.iload 4, 2) := by decide +kernel
theorem dX6_tell_71 : decode cX6_tell 71 = .ok (.ireturn, 1) := by decide +kernel
theorem dX6_rule_0 : decode cX6_rule 0 = .ok (.iload_n 1, 1) := by decide +kernel
theorem dX6_rule_1 : decode cX6_rule 1 = .ok (.i2l, 1) := by decide +kernel
theorem dX6_rule_2 : decode cX6_rule 2 = .ok (.lconst 0, 1) := by decide +kernel
theorem dX6_rule_3 : decode cX6_rule 3 = .ok (.ldc2_w 121, 3) := by decide +kernel
theorem dX6_rule_6 : decode cX6_rule 6 = .ok (.invokestatic 77, 3) := by decide +kernel
theorem dX6_rule_9 : decode cX6_rule 9 = .ok (.ifCond .eq 15, 3) := by decide +kernel
theorem dX6_rule_12 : decode cX6_rule 12 = .ok (.iload_n 2, 1) := by decide +kernel
theorem dX6_rule_13 : decode cX6_rule 13 = .ok (.i2l, 1) := by decide +kernel
theorem dX6_rule_14 : decode cX6_rule 14 = .ok (.lconst 1, 1) := by decide +kernel
theorem dX6_rule_15 : decode cX6_rule 15 = .ok (.ldc2_w 129, 3) := by decide +kernel
theorem dX6_rule_18 : decode cX6_rule 18 = .ok (.invokestatic 77, 3) := by decide +kernel
theorem dX6_rule_21 : decode cX6_rule 21 = .ok (.ifCond .ne 6, 3) := by decide +kernel
theorem dX6_rule_24 : decode cX6_rule 24 = .ok (.bipush (-2), 2) := by decide +kernel
theorem dX6_rule_26 : decode cX6_rule 26 = .ok (.ireturn, 1) := by decide +kernel
theorem dX6_rule_27 : decode cX6_rule 27 = .ok (.aload_n 0, 1) := by decide +kernel
theorem dX6_rule_28 : decode cX6_rule 28 = .ok (.getfield 44, 3) := by decide +kernel
theorem dX6_rule_31 : decode cX6_rule 31 = .ok (.istore_n 3, 1) := by decide +kernel
theorem dX6_rule_32 : decode cX6_rule 32 = .ok (.aload_n 0, 1) := by decide +kernel
theorem dX6_rule_33 : decode cX6_rule 33 = .ok (.iload_n 1, 1) := by decide +kernel
theorem dX6_rule_34 : decode cX6_rule 34 = .ok (.putfield 131, 3) := by decide +kernel
theorem dX6_rule_37 : decode cX6_rule 37 = .ok (.aload_n 0, 1) := by decide +kernel
theorem dX6_rule_38 : decode cX6_rule 38 = .ok (.iload_n 2, 1) := by decide +kernel
theorem dX6_rule_39 : decode cX6_rule 39 = .ok (.putfield 44, 3) := by decide +kernel
theorem dX6_rule_42 : decode cX6_rule 42 = .ok (.iload_n 3, 1) := by decide +kernel
theorem dX6_rule_43 : decode cX6_rule 43 = .ok (.ireturn, 1) := by decide +kernel
theorem dX6_thick_0 : decode cX6_thick 0 = .ok (.lconst 0, 1) := by decide +kernel
theorem dX6_thick_1 : decode cX6_thick 1 = .ok (.lstore_n 2, 1) := by decide +kernel
theorem dX6_thick_2 : decode cX6_thick 2 = .ok (.iconst 0, 1) := by decide +kernel
theorem dX6_thick_3 : decode cX6_thick 3 = .ok (.istore 4, 2) := by decide +kernel
theorem dX6_thick_5 : decode cX6_thick 5 = .ok (.iload 4, 2) := by decide +kernel
theorem dX6_thick_7 : decode cX6_thick 7 = .ok (.bipush 61, 2) := by decide +kernel
theorem dX6_thick_9 : decode cX6_thick 9 = .ok (.if_icmp .ge 24, 3) := by decide +kernel
theorem dX6_thick_12 : decode cX6_thick 12 = .ok (.lload_n 2, 1) := by decide +kernel
theorem dX6_thick_13 : decode cX6_thick 13 = .ok (.aload_n 0, 1) := by decide +kernel
theorem dX6_thick_14 : decode cX6_thick 14 = .ok (.getfield 32, 3) := by decide +kernel
theorem dX6_thick_17 : decode cX6_thick 17 = .ok (.bipush 61, 2) := by decide +kernel
theorem dX6_thick_19 : decode cX6_thick 19 = .ok (.iload_n 1, 1) := by decide +kernel
theorem dX6_thick_20 : decode cX6_thick 20 = .ok (.imul, 1) := by decide +kernel
theorem dX6_thick_21 : decode cX6_thick 21 = .ok (.iload 4, 2) := by decide +kernel
theorem dX6_thick_23 : decode cX6_thick 23 = .ok (.iadd, 1) := by decide +kernel
theorem dX6_thick_24 : decode cX6_thick 24 = .ok (.laload, 1) := by decide +kernel
theorem dX6_thick_25 : decode cX6_thick 25 = .ok (.ladd, 1) := by decide +kernel
theorem dX6_thick_26 : decode cX6_thick 26 = .ok (.lstore_n 2, 1) := by decide +kernel
theorem dX6_thick_27 : decode cX6_thick 27 = .ok (.iinc 4 1, 3) := by decide +kernel
theorem dX6_thick_30 : decode cX6_thick 30 = .ok (.goto (-25), 3) := by decide +kernel
theorem dX6_thick_33 : decode cX6_thick 33 = .ok (.lload_n 2, 1) := by decide +kernel
theorem dX6_thick_34 : decode cX6_thick 34 = .ok (.lreturn, 1) := by decide +kernel
theorem dX6_ice_0 : decode cX6_ice 0 = .ok (.aload_n 0, 1) := by decide +kernel
theorem dX6_ice_1 : decode cX6_ice 1 = .ok (.iload_n 1, 1) := by decide +kernel
theorem dX6_ice_2 : decode cX6_ice 2 = .ok (.iload_n 2, 1) := by decide +kernel
theorem dX6_ice_3 : decode cX6_ice 3 = .ok (.invokevirtual 115, 3) := by decide +kernel
theorem dX6_ice_6 : decode cX6_ice 6 = .ok (.ifCond .ne 7, 3) := by decide +kernel
theorem dX6_ice_9 : decode cX6_ice 9 = .ok (.ldc2_w 95, 3) := by decide +kernel
theorem dX6_ice_12 : decode cX6_ice 12 = .ok (.lreturn, 1) := by decide +kernel
theorem dX6_ice_13 : decode cX6_ice 13 = .ok (.iload_n 3, 1) := by decide +kernel
theorem dX6_ice_14 : decode cX6_ice 14 = .ok (.i2l, 1) := by decide +kernel
theorem dX6_ice_15 : decode cX6_ice 15 = .ok (.lconst 0, 1) := by decide +kernel
theorem dX6_ice_16 : decode cX6_ice 16 = .ok (.ldc2_w 129, 3) := by decide +kernel
theorem dX6_ice_19 : decode cX6_ice 19 = .ok (.invokestatic 77, 3) := by decide +kernel
theorem dX6_ice_22 : decode cX6_ice 22 = .ok (.ifCond .ne 7, 3) := by decide +kernel
theorem dX6_ice_25 : decode cX6_ice 25 = .ok (.ldc2_w 97, 3) := by decide +kernel
theorem dX6_ice_28 : decode cX6_ice 28 = .ok (.lreturn, 1) := by decide +kernel
theorem dX6_ice_29 : decode cX6_ice 29 = .ok (.bipush 8, 2) := by decide +kernel
theorem dX6_ice_31 : decode cX6_ice 31 = .ok (.iload_n 2, 1) := by decide +kernel
theorem dX6_ice_32 : decode cX6_ice 32 = .ok (.imul, 1) := by decide +kernel
theorem dX6_ice_33 : decode cX6_ice 33 = .ok (.iload_n 1, 1) := by decide +kernel
theorem dX6_ice_34 : decode cX6_ice 34 = .ok (.iadd, 1) := by decide +kernel
theorem dX6_ice_35 : decode cX6_ice 35 = .ok (.istore 4, 2) := by decide +kernel
theorem dX6_ice_37 : decode cX6_ice 37 = .ok (.aload_n 0, 1) := by decide +kernel
theorem dX6_ice_38 : decode cX6_ice 38 = .ok (.getfield 23, 3) := by decide +kernel
theorem dX6_ice_41 : decode cX6_ice 41 = .ok (.iload 4, 2) := by decide +kernel
theorem dX6_ice_43 : decode cX6_ice 43 = .ok (.iaload, 1) := by decide +kernel
theorem dX6_ice_44 : decode cX6_ice 44 = .ok (.iconst 4, 1) := by decide +kernel
theorem dX6_ice_45 : decode cX6_ice 45 = .ok (.if_icmp .eq 10, 3) := by decide +kernel
theorem dX6_ice_48 : decode cX6_ice 48 = .ok (.aload_n 0, 1) := by decide +kernel
theorem dX6_ice_49 : decode cX6_ice 49 = .ok (.getfield 107, 3) := by decide +kernel
theorem dX6_ice_52 : decode cX6_ice 52 = .ok (.ifCond .eq 7, 3) := by decide +kernel
theorem dX6_ice_55 : decode cX6_ice 55 = .ok (.ldc2_w 134, 3) := by decide +kernel
theorem dX6_ice_58 : decode cX6_ice 58 = .ok (.lreturn, 1) := by decide +kernel
theorem dX6_ice_59 : decode cX6_ice 59 = .ok (.aload_n 0, 1) := by decide +kernel
theorem dX6_ice_60 : decode cX6_ice 60 = .ok (.getfield 32, 3) := by decide +kernel
theorem dX6_ice_63 : decode cX6_ice 63 = .ok (.bipush 61, 2) := by decide +kernel
theorem dX6_ice_65 : decode cX6_ice 65 = .ok (.iload 4, 2) := by decide +kernel
theorem dX6_ice_67 : decode cX6_ice 67 = .ok (.imul, 1) := by decide +kernel
theorem dX6_ice_68 : decode cX6_ice 68 = .ok (.dup2, 1) := by decide +kernel
theorem dX6_ice_69 : decode cX6_ice 69 = .ok (.laload, 1) := by decide +kernel
theorem dX6_ice_70 : decode cX6_ice 70 = .ok (.iload_n 3, 1) := by decide +kernel
theorem dX6_ice_71 : decode cX6_ice 71 = .ok (.i2l, 1) := by decide +kernel
theorem dX6_ice_72 : decode cX6_ice 72 = .ok (.ladd, 1) := by decide +kernel
theorem dX6_ice_73 : decode cX6_ice 73 = .ok (.lastore, 1) := by decide +kernel
theorem dX6_ice_74 : decode cX6_ice 74 = .ok (.aload_n 0, 1) := by decide +kernel
theorem dX6_ice_75 : decode cX6_ice 75 = .ok (.getfield 35, 3) := by decide +kernel
theorem dX6_ice_78 : decode cX6_ice 78 = .ok (.sipush 244, 3) := by decide +kernel
theorem dX6_ice_81 : decode cX6_ice 81 = .ok (.dup2, 1) := by decide +kernel
theorem dX6_ice_82 : decode cX6_ice 82 = .ok (.laload, 1) := by decide +kernel
theorem dX6_ice_83 : decode cX6_ice 83 = .ok (.iload_n 3, 1) := by decide +kernel
theorem dX6_ice_84 : decode cX6_ice 84 = .ok (.i2l, 1) := by decide +kernel
theorem dX6_ice_85 : decode cX6_ice 85 = .ok (.ladd, 1) := by decide +kernel
theorem dX6_ice_86 : decode cX6_ice 86 = .ok (.lastore, 1) := by decide +kernel
theorem dX6_ice_87 : decode cX6_ice 87 = .ok (.aload_n 0, 1) := by decide +kernel
theorem dX6_ice_88 : decode cX6_ice 88 = .ok (.iconst 0, 1) := by decide +kernel
theorem dX6_ice_89 : decode cX6_ice 89 = .ok (.putfield 110, 3) := by decide +kernel
theorem dX6_ice_92 : decode cX6_ice 92 = .ok (.aload_n 0, 1) := by decide +kernel
theorem dX6_ice_93 : decode cX6_ice 93 = .ok (.iload 4, 2) := by decide +kernel
theorem dX6_ice_95 : decode cX6_ice 95 = .ok (.invokevirtual 136, 3) := by decide +kernel
theorem dX6_ice_98 : decode cX6_ice 98 = .ok (.lreturn, 1) := by decide +kernel
theorem dX6_keep_0 : decode cX6_keep 0 = .ok (.iconst 0, 1) := by decide +kernel
theorem dX6_keep_1 : decode cX6_keep 1 = .ok (.istore_n 1, 1) := by decide +kernel
theorem dX6_keep_2 : decode cX6_keep 2 = .ok (.iload_n 1, 1) := by decide +kernel
theorem dX6_keep_3 : decode cX6_keep 3 = .ok (.sipush 3904, 3) := by decide +kernel
theorem dX6_keep_6 : decode cX6_keep 6 = .ok (.if_icmp .ge 30, 3) := by decide +kernel
theorem dX6_keep_9 : decode cX6_keep 9 = .ok (.aload_n 0, 1) := by decide +kernel
theorem dX6_keep_10 : decode cX6_keep 10 = .ok (.getfield 48, 3) := by decide +kernel
theorem dX6_keep_13 : decode cX6_keep 13 = .ok (.sipush 3904, 3) := by decide +kernel
theorem dX6_keep_16 : decode cX6_keep 16 = .ok (.aload_n 0, 1) := by decide +kernel
theorem dX6_keep_17 : decode cX6_keep 17 = .ok (.getfield 140, 3) := by decide +kernel
theorem dX6_keep_20 : decode cX6_keep 20 = .ok (.imul, 1) := by decide +kernel
theorem dX6_keep_21 : decode cX6_keep 21 = .ok (.iload_n 1, 1) := by decide +kernel
theorem dX6_keep_22 : decode cX6_keep 22 = .ok (.iadd, 1) := by decide +kernel
theorem dX6_keep_23 : decode cX6_keep 23 = .ok (.aload_n 0, 1) := by decide +kernel
theorem dX6_keep_24 : decode cX6_keep 24 = .ok (.getfield 32, 3) := by decide +kernel
theorem dX6_keep_27 : decode cX6_keep 27 = .ok (.iload_n 1, 1) := by decide +kernel
theorem dX6_keep_28 : decode cX6_keep 28 = .ok (.laload, 1) := by decide +kernel
theorem dX6_keep_29 : decode cX6_keep 29 = .ok (.lastore, 1) := by decide +kernel
theorem dX6_keep_30 : decode cX6_keep 30 = .ok (.iinc 1 1, 3) := by decide +kernel
theorem dX6_keep_33 : decode cX6_keep 33 = .ok (.goto (-31), 3) := by decide +kernel
theorem dX6_keep_36 : decode cX6_keep 36 = .ok (.iconst 0, 1) := by decide +kernel
theorem dX6_keep_37 : decode cX6_keep 37 = .ok (.istore_n 1, 1) := by decide +kernel
theorem dX6_keep_38 : decode cX6_keep 38 = .ok (.iload_n 1, 1) := by decide +kernel
theorem dX6_keep_39 : decode cX6_keep 39 = .ok (.sipush 305, 3) := by decide +kernel
theorem dX6_keep_42 : decode cX6_keep 42 = .ok (.if_icmp .ge 30, 3) := by decide +kernel
theorem dX6_keep_45 : decode cX6_keep 45 = .ok (.aload_n 0, 1) := by decide +kernel
theorem dX6_keep_46 : decode cX6_keep 46 = .ok (.getfield 51, 3) := by decide +kernel
theorem dX6_keep_49 : decode cX6_keep 49 = .ok (.sipush 305, 3) := by decide +kernel
theorem dX6_keep_52 : decode cX6_keep 52 = .ok (.aload_n 0, 1) := by decide +kernel
theorem dX6_keep_53 : decode cX6_keep 53 = .ok (.getfield 140, 3) := by decide +kernel
theorem dX6_keep_56 : decode cX6_keep 56 = .ok (.imul, 1) := by decide +kernel
theorem dX6_keep_57 : decode cX6_keep 57 = .ok (.iload_n 1, 1) := by decide +kernel
theorem dX6_keep_58 : decode cX6_keep 58 = .ok (.iadd, 1) := by decide +kernel
theorem dX6_keep_59 : decode cX6_keep 59 = .ok (.aload_n 0, 1) := by decide +kernel
theorem dX6_keep_60 : decode cX6_keep 60 = .ok (.getfield 35, 3) := by decide +kernel
theorem dX6_keep_63 : decode cX6_keep 63 = .ok (.iload_n 1, 1) := by decide +kernel
theorem dX6_keep_64 : decode cX6_keep 64 = .ok (.laload, 1) := by decide +kernel
theorem dX6_keep_65 : decode cX6_keep 65 = .ok (.lastore, 1) := by decide +kernel
theorem dX6_keep_66 : decode cX6_keep 66 = .ok (.iinc 1 1, 3) := by decide +kernel
theorem dX6_keep_69 : decode cX6_keep 69 = .ok (.goto (-31), 3) := by decide +kernel
theorem dX6_keep_72 : decode cX6_keep 72 = .ok (.aload_n 0, 1) := by decide +kernel
theorem dX6_keep_73 : decode cX6_keep 73 = .ok (.aload_n 0, 1) := by decide +kernel
theorem dX6_keep_74 : decode cX6_keep 74 = .ok (.getfield 140, 3) := by decide +kernel
theorem dX6_keep_77 : decode cX6_keep 77 = .ok (.iconst 1, 1) := by decide +kernel
theorem dX6_keep_78 : decode cX6_keep 78 = .ok (.iadd, 1) := by decide +kernel
theorem dX6_keep_79 : decode cX6_keep 79 = .ok (.iconst 5, 1) := by decide +kernel
theorem dX6_keep_80 : decode cX6_keep 80 = .ok (.irem, 1) := by decide +kernel
theorem dX6_keep_81 : decode cX6_keep 81 = .ok (.putfield 140, 3) := by decide +kernel
theorem dX6_keep_84 : decode cX6_keep 84 = .ok (.aload_n 0, 1) := by decide +kernel
theorem dX6_keep_85 : decode cX6_keep 85 = .ok (.aload_n 0, 1) := by decide +kernel
theorem dX6_keep_86 : decode cX6_keep 86 = .ok (.getfield 110, 3) := by decide +kernel
theorem dX6_keep_89 : decode cX6_keep 89 = .ok (.iconst 5, 1) := by decide +kernel
theorem dX6_keep_90 : decode cX6_keep 90 = .ok (.if_icmp .ge 12, 3) := by decide +kernel
theorem dX6_keep_93 : decode cX6_keep 93 = .ok (.aload_n 0, 1) := by decide +kernel
theorem dX6_keep_94 : decode cX6_keep 94 = .ok (.getfield 110, 3) := by decide +kernel
theorem dX6_keep_97 : decode cX6_keep 97 = .ok (.iconst 1, 1) := by decide +kernel
theorem dX6_keep_98 : decode cX6_keep 98 = .ok (.iadd, 1) := by decide +kernel
theorem dX6_keep_99 : decode cX6_keep 99 = .ok (.goto 4, 3) := by decide +kernel
theorem dX6_keep_102 : decode cX6_keep 102 = .ok (.iconst 5, 1) := by decide +kernel
theorem dX6_keep_103 : decode cX6_keep 103 = .ok (.putfield 110, 3) := by decide +kernel
theorem dX6_keep_106 : decode cX6_keep 106 = .ok (.return_, 1) := by decide +kernel
theorem dX6_back_0 : decode cX6_back 0 = .ok (.aload_n 0, 1) := by decide +kernel
theorem dX6_back_1 : decode cX6_back 1 = .ok (.getfield 110, 3) := by decide +kernel
theorem dX6_back_4 : decode cX6_back 4 = .ok (.ifCond .ne 6, 3) := by decide +kernel
theorem dX6_back_7 : decode cX6_back 7 = .ok (.bipush (-3), 2) := by decide +kernel
theorem dX6_back_9 : decode cX6_back 9 = .ok (.ireturn, 1) := by decide +kernel
theorem dX6_back_10 : decode cX6_back 10 = .ok (.aload_n 0, 1) := by decide +kernel
theorem dX6_back_11 : decode cX6_back 11 = .ok (.dup, 1) := by decide +kernel
theorem dX6_back_12 : decode cX6_back 12 = .ok (.getfield 110, 3) := by decide +kernel
theorem dX6_back_15 : decode cX6_back 15 = .ok (.iconst 1, 1) := by decide +kernel
theorem dX6_back_16 : decode cX6_back 16 = .ok (.isub, 1) := by decide +kernel
theorem dX6_back_17 : decode cX6_back 17 = .ok (.putfield 110, 3) := by decide +kernel
theorem dX6_back_20 : decode cX6_back 20 = .ok (.aload_n 0, 1) := by decide +kernel
theorem dX6_back_21 : decode cX6_back 21 = .ok (.aload_n 0, 1) := by decide +kernel
theorem dX6_back_22 : decode cX6_back 22 = .ok (.getfield 140, 3) := by decide +kernel
theorem dX6_back_25 : decode cX6_back 25 = .ok (.iconst 4, 1) := by decide +kernel
theorem dX6_back_26 : decode cX6_back 26 = .ok (.iadd, 1) := by decide +kernel
theorem dX6_back_27 : decode cX6_back 27 = .ok (.iconst 5, 1) := by decide +kernel
theorem dX6_back_28 : decode cX6_back 28 = .ok (.irem, 1) := by decide +kernel
theorem dX6_back_29 : decode cX6_back 29 = .ok (.putfield 140, 3) := by decide +kernel
theorem dX6_back_32 : decode cX6_back 32 = .ok (.iconst 0, 1) := by decide +kernel
theorem dX6_back_33 : decode cX6_back 33 = .ok (.istore_n 1, 1) := by decide +kernel
theorem dX6_back_34 : decode cX6_back 34 = .ok (.iload_n 1, 1) := by decide +kernel
theorem dX6_back_35 : decode cX6_back 35 = .ok (.sipush 3904, 3) := by decide +kernel
theorem dX6_back_38 : decode cX6_back 38 = .ok (.if_icmp .ge 30, 3) := by decide +kernel
theorem dX6_back_41 : decode cX6_back 41 = .ok (.aload_n 0, 1) := by decide +kernel
theorem dX6_back_42 : decode cX6_back 42 = .ok (.getfield 32, 3) := by decide +kernel
theorem dX6_back_45 : decode cX6_back 45 = .ok (.iload_n 1, 1) := by decide +kernel
theorem dX6_back_46 : decode cX6_back 46 = .ok (.aload_n 0, 1) := by decide +kernel
theorem dX6_back_47 : decode cX6_back 47 = .ok (.getfield 48, 3) := by decide +kernel
theorem dX6_back_50 : decode cX6_back 50 = .ok (.sipush 3904, 3) := by decide +kernel
theorem dX6_back_53 : decode cX6_back 53 = .ok (.aload_n 0, 1) := by decide +kernel
theorem dX6_back_54 : decode cX6_back 54 = .ok (.getfield 140, 3) := by decide +kernel
theorem dX6_back_57 : decode cX6_back 57 = .ok (.imul, 1) := by decide +kernel
theorem dX6_back_58 : decode cX6_back 58 = .ok (.iload_n 1, 1) := by decide +kernel
theorem dX6_back_59 : decode cX6_back 59 = .ok (.iadd, 1) := by decide +kernel
theorem dX6_back_60 : decode cX6_back 60 = .ok (.laload, 1) := by decide +kernel
theorem dX6_back_61 : decode cX6_back 61 = .ok (.lastore, 1) := by decide +kernel
theorem dX6_back_62 : decode cX6_back 62 = .ok (.iinc 1 1, 3) := by decide +kernel
theorem dX6_back_65 : decode cX6_back 65 = .ok (.goto (-31), 3) := by decide +kernel
theorem dX6_back_68 : decode cX6_back 68 = .ok (.iconst 0, 1) := by decide +kernel
theorem dX6_back_69 : decode cX6_back 69 = .ok (.istore_n 1, 1) := by decide +kernel
theorem dX6_back_70 : decode cX6_back 70 = .ok (.iload_n 1, 1) := by decide +kernel
theorem dX6_back_71 : decode cX6_back 71 = .ok (.sipush 305, 3) := by decide +kernel
theorem dX6_back_74 : decode cX6_back 74 = .ok (.if_icmp .ge 30, 3) := by decide +kernel
theorem dX6_back_77 : decode cX6_back 77 = .ok (.aload_n 0, 1) := by decide +kernel
theorem dX6_back_78 : decode cX6_back 78 = .ok (.getfield 35, 3) := by decide +kernel
theorem dX6_back_81 : decode cX6_back 81 = .ok (.iload_n 1, 1) := by decide +kernel
theorem dX6_back_82 : decode cX6_back 82 = .ok (.aload_n 0, 1) := by decide +kernel
theorem dX6_back_83 : decode cX6_back 83 = .ok (.getfield 51, 3) := by decide +kernel
theorem dX6_back_86 : decode cX6_back 86 = .ok (.sipush 305, 3) := by decide +kernel
theorem dX6_back_89 : decode cX6_back 89 = .ok (.aload_n 0, 1) := by decide +kernel
theorem dX6_back_90 : decode cX6_back 90 = .ok (.getfield 140, 3) := by decide +kernel
theorem dX6_back_93 : decode cX6_back 93 = .ok (.imul, 1) := by decide +kernel
theorem dX6_back_94 : decode cX6_back 94 = .ok (.iload_n 1, 1) := by decide +kernel
theorem dX6_back_95 : decode cX6_back 95 = .ok (.iadd, 1) := by decide +kernel
theorem dX6_back_96 : decode cX6_back 96 = .ok (.laload, 1) := by decide +kernel
theorem dX6_back_97 : decode cX6_back 97 = .ok (.lastore, 1) := by decide +kernel
theorem dX6_back_98 : decode cX6_back 98 = .ok (.iinc 1 1, 3) := by decide +kernel
theorem dX6_back_101 : decode cX6_back 101 = .ok (.goto (-31), 3) := by decide +kernel
theorem dX6_back_104 : decode cX6_back 104 = .ok (.aload_n 0, 1) := by decide +kernel
theorem dX6_back_105 : decode cX6_back 105 = .ok (.dup, 1) := by decide +kernel
theorem dX6_back_106 : decode cX6_back 106 = .ok (.getfield 107, 3) := by decide +kernel
theorem dX6_back_109 : decode cX6_back 109 = .ok (.iconst 1, 1) := by decide +kernel
theorem dX6_back_110 : decode cX6_back 110 = .ok (.isub, 1) := by decide +kernel
theorem dX6_back_111 : decode cX6_back 111 = .ok (.putfield 107, 3) := by decide +kernel
theorem dX6_back_114 : decode cX6_back 114 = .ok (.aload_n 0, 1) := by decide +kernel
theorem dX6_back_115 : decode cX6_back 115 = .ok (.getfield 107, 3) := by decide +kernel
theorem dX6_back_118 : decode cX6_back 118 = .ok (.ireturn, 1) := by decide +kernel
theorem dX6_beside_0 : decode cX6_beside 0 = .ok (.iload_n 1, 1) := by decide +kernel
theorem dX6_beside_1 : decode cX6_beside 1 = .ok (.bipush 8, 2) := by decide +kernel
theorem dX6_beside_3 : decode cX6_beside 3 = .ok (.irem, 1) := by decide +kernel
theorem dX6_beside_4 : decode cX6_beside 4 = .ok (.iload_n 2, 1) := by decide +kernel
theorem dX6_beside_5 : decode cX6_beside 5 = .ok (.iconst 1, 1) := by decide +kernel
theorem dX6_beside_6 : decode cX6_beside 6 = .ok (.if_icmp .ne 7, 3) := by decide +kernel
theorem dX6_beside_9 : decode cX6_beside 9 = .ok (.iconst 1, 1) := by decide +kernel
theorem dX6_beside_10 : decode cX6_beside 10 = .ok (.goto 13, 3) := by decide +kernel
theorem dX6_beside_13 : decode cX6_beside 13 = .ok (.iload_n 2, 1) := by decide +kernel
theorem dX6_beside_14 : decode cX6_beside 14 = .ok (.iconst 3, 1) := by decide +kernel
theorem dX6_beside_15 : decode cX6_beside 15 = .ok (.if_icmp .ne 7, 3) := by decide +kernel
theorem dX6_beside_18 : decode cX6_beside 18 = .ok (.iconst (-1), 1) := by decide +kernel
theorem dX6_beside_19 : decode cX6_beside 19 = .ok (.goto 4, 3) := by decide +kernel
theorem dX6_beside_22 : decode cX6_beside 22 = .ok (.iconst 0, 1) := by decide +kernel
theorem dX6_beside_23 : decode cX6_beside 23 = .ok (.iadd, 1) := by decide +kernel
theorem dX6_beside_24 : decode cX6_beside 24 = .ok (.istore_n 3, 1) := by decide +kernel
theorem dX6_beside_25 : decode cX6_beside 25 = .ok (.iload_n 1, 1) := by decide +kernel
theorem dX6_beside_26 : decode cX6_beside 26 = .ok (.bipush 8, 2) := by decide +kernel
theorem dX6_beside_28 : decode cX6_beside 28 = .ok (.idiv, 1) := by decide +kernel
theorem dX6_beside_29 : decode cX6_beside 29 = .ok (.iload_n 2, 1) := by decide +kernel
theorem dX6_beside_30 : decode cX6_beside 30 = .ok (.iconst 2, 1) := by decide +kernel
theorem dX6_beside_31 : decode cX6_beside 31 = .ok (.if_icmp .ne 7, 3) := by decide +kernel
theorem dX6_beside_34 : decode cX6_beside 34 = .ok (.iconst 1, 1) := by decide +kernel
theorem dX6_beside_35 : decode cX6_beside 35 = .ok (.goto 12, 3) := by decide +kernel
theorem dX6_beside_38 : decode cX6_beside 38 = .ok (.iload_n 2, 1) := by decide +kernel
theorem dX6_beside_39 : decode cX6_beside 39 = .ok (.ifCond .ne 7, 3) := by decide +kernel
theorem dX6_beside_42 : decode cX6_beside 42 = .ok (.iconst (-1), 1) := by decide +kernel
theorem dX6_beside_43 : decode cX6_beside 43 = .ok (.goto 4, 3) := by decide +kernel
theorem dX6_beside_46 : decode cX6_beside 46 = .ok (.iconst 0, 1) := by decide +kernel
theorem dX6_beside_47 : decode cX6_beside 47 = .ok (.iadd, 1) := by decide +kernel
theorem dX6_beside_48 : decode cX6_beside 48 = .ok (.istore 4, 2) := by decide +kernel
theorem dX6_beside_50 : decode cX6_beside 50 = .ok (.aload_n 0, 1) := by decide +kernel
theorem dX6_beside_51 : decode cX6_beside 51 = .ok (.iload_n 3, 1) := by decide +kernel
theorem dX6_beside_52 : decode cX6_beside 52 = .ok (.iload 4, 2) := by decide +kernel
theorem dX6_beside_54 : decode cX6_beside 54 = .ok (.invokevirtual 115, 3) := by decide +kernel
theorem dX6_beside_57 : decode cX6_beside 57 = .ok (.ifCond .eq 13, 3) := by decide +kernel
theorem dX6_beside_60 : decode cX6_beside 60 = .ok (.bipush 8, 2) := by decide +kernel
theorem dX6_beside_62 : decode cX6_beside 62 = .ok (.iload 4, 2) := by decide +kernel
theorem dX6_beside_64 : decode cX6_beside 64 = .ok (.imul, 1) := by decide +kernel
theorem dX6_beside_65 : decode cX6_beside 65 = .ok (.iload_n 3, 1) := by decide +kernel
theorem dX6_beside_66 : decode cX6_beside 66 = .ok (.iadd, 1) := by decide +kernel
theorem dX6_beside_67 : decode cX6_beside 67 = .ok (.goto 5, 3) := by decide +kernel
theorem dX6_beside_70 : decode cX6_beside 70 = .ok (.bipush (-9), 2) := by decide +kernel
theorem dX6_beside_72 : decode cX6_beside 72 = .ok (.ireturn, 1) := by decide +kernel
theorem dX6_lesser_0 : decode cX6_lesser 0 = .ok (.lload_n 0, 1) := by decide +kernel
theorem dX6_lesser_1 : decode cX6_lesser 1 = .ok (.lload_n 2, 1) := by decide +kernel
theorem dX6_lesser_2 : decode cX6_lesser 2 = .ok (.lcmp, 1) := by decide +kernel
theorem dX6_lesser_3 : decode cX6_lesser 3 = .ok (.ifCond .ge 7, 3) := by decide +kernel
theorem dX6_lesser_6 : decode cX6_lesser 6 = .ok (.lload_n 0, 1) := by decide +kernel
theorem dX6_lesser_7 : decode cX6_lesser 7 = .ok (.goto 4, 3) := by decide +kernel
theorem dX6_lesser_10 : decode cX6_lesser 10 = .ok (.lload_n 2, 1) := by decide +kernel
theorem dX6_lesser_11 : decode cX6_lesser 11 = .ok (.lreturn, 1) := by decide +kernel
theorem dX6_given_0 : decode cX6_given 0 = .ok (.aload_n 0, 1) := by decide +kernel
theorem dX6_given_1 : decode cX6_given 1 = .ok (.iload_n 1, 1) := by decide +kernel
theorem dX6_given_2 : decode cX6_given 2 = .ok (.iload_n 2, 1) := by decide +kernel
theorem dX6_given_3 : decode cX6_given 3 = .ok (.invokevirtual 143, 3) := by decide +kernel
theorem dX6_given_6 : decode cX6_given 6 = .ok (.istore_n 3, 1) := by decide +kernel
theorem dX6_given_7 : decode cX6_given 7 = .ok (.aload_n 0, 1) := by decide +kernel
theorem dX6_given_8 : decode cX6_given 8 = .ok (.iload_n 1, 1) := by decide +kernel
theorem dX6_given_9 : decode cX6_given 9 = .ok (.invokevirtual 136, 3) := by decide +kernel
theorem dX6_given_12 : decode cX6_given 12 = .ok (.lstore 4, 2) := by decide +kernel
theorem dX6_given_14 : decode cX6_given 14 = .ok (.iload_n 3, 1) := by decide +kernel
theorem dX6_given_15 : decode cX6_given 15 = .ok (.bipush (-9), 2) := by decide +kernel
theorem dX6_given_17 : decode cX6_given 17 = .ok (.if_icmp .eq 10, 3) := by decide +kernel
theorem dX6_given_20 : decode cX6_given 20 = .ok (.lload 4, 2) := by decide +kernel
theorem dX6_given_22 : decode cX6_given 22 = .ok (.lconst 0, 1) := by decide +kernel
theorem dX6_given_23 : decode cX6_given 23 = .ok (.lcmp, 1) := by decide +kernel
theorem dX6_given_24 : decode cX6_given 24 = .ok (.ifCond .ne 5, 3) := by decide +kernel
theorem dX6_given_27 : decode cX6_given 27 = .ok (.lconst 0, 1) := by decide +kernel
theorem dX6_given_28 : decode cX6_given 28 = .ok (.lreturn, 1) := by decide +kernel
theorem dX6_given_29 : decode cX6_given 29 = .ok (.aload_n 0, 1) := by decide +kernel
theorem dX6_given_30 : decode cX6_given 30 = .ok (.getfield 23, 3) := by decide +kernel
theorem dX6_given_33 : decode cX6_given 33 = .ok (.iload_n 3, 1) := by decide +kernel
theorem dX6_given_34 : decode cX6_given 34 = .ok (.iaload, 1) := by decide +kernel
theorem dX6_given_35 : decode cX6_given 35 = .ok (.iconst 4, 1) := by decide +kernel
theorem dX6_given_36 : decode cX6_given 36 = .ok (.if_icmp .ne 8, 3) := by decide +kernel
theorem dX6_given_39 : decode cX6_given 39 = .ok (.lload 4, 2) := by decide +kernel
theorem dX6_given_41 : decode cX6_given 41 = .ok (.goto 27, 3) := by decide +kernel
theorem dX6_given_44 : decode cX6_given 44 = .ok (.aload_n 0, 1) := by decide +kernel
theorem dX6_given_45 : decode cX6_given 45 = .ok (.getfield 29, 3) := by decide +kernel
theorem dX6_given_48 : decode cX6_given 48 = .ok (.iload_n 1, 1) := by decide +kernel
theorem dX6_given_49 : decode cX6_given 49 = .ok (.iaload, 1) := by decide +kernel
theorem dX6_given_50 : decode cX6_given 50 = .ok (.i2l, 1) := by decide +kernel
theorem dX6_given_51 : decode cX6_given 51 = .ok (.lload 4, 2) := by decide +kernel
theorem dX6_given_53 : decode cX6_given 53 = .ok (.ladd, 1) := by decide +kernel
theorem dX6_given_54 : decode cX6_given 54 = .ok (.aload_n 0, 1) := by decide +kernel
theorem dX6_given_55 : decode cX6_given 55 = .ok (.getfield 29, 3) := by decide +kernel
theorem dX6_given_58 : decode cX6_given 58 = .ok (.iload_n 3, 1) := by decide +kernel
theorem dX6_given_59 : decode cX6_given 59 = .ok (.iaload, 1) := by decide +kernel
theorem dX6_given_60 : decode cX6_given 60 = .ok (.i2l, 1) := by decide +kernel
theorem dX6_given_61 : decode cX6_given 61 = .ok (.lsub, 1) := by decide +kernel
theorem dX6_given_62 : decode cX6_given 62 = .ok (.aload_n 0, 1) := by decide +kernel
theorem dX6_given_63 : decode cX6_given 63 = .ok (.iload_n 3, 1) := by decide +kernel
theorem dX6_given_64 : decode cX6_given 64 = .ok (.invokevirtual 136, 3) := by decide +kernel
theorem dX6_given_67 : decode cX6_given 67 = .ok (.lsub, 1) := by decide +kernel
theorem dX6_given_68 : decode cX6_given 68 = .ok (.lstore 6, 2) := by decide +kernel
theorem dX6_given_70 : decode cX6_given 70 = .ok (.lload 6, 2) := by decide +kernel
theorem dX6_given_72 : decode cX6_given 72 = .ok (.lconst 0, 1) := by decide +kernel
theorem dX6_given_73 : decode cX6_given 73 = .ok (.lcmp, 1) := by decide +kernel
theorem dX6_given_74 : decode cX6_given 74 = .ok (.ifCond .gt 5, 3) := by decide +kernel
theorem dX6_given_77 : decode cX6_given 77 = .ok (.lconst 0, 1) := by decide +kernel
theorem dX6_given_78 : decode cX6_given 78 = .ok (.lreturn, 1) := by decide +kernel
theorem dX6_given_79 : decode cX6_given 79 = .ok (.aload_n 0, 1) := by decide +kernel
theorem dX6_given_80 : decode cX6_given 80 = .ok (.getfield 23, 3) := by decide +kernel
theorem dX6_given_83 : decode cX6_given 83 = .ok (.iload_n 1, 1) := by decide +kernel
theorem dX6_given_84 : decode cX6_given 84 = .ok (.iaload, 1) := by decide +kernel
theorem dX6_given_85 : decode cX6_given 85 = .ok (.iconst 1, 1) := by decide +kernel
theorem dX6_given_86 : decode cX6_given 86 = .ok (.if_icmp .ne 13, 3) := by decide +kernel
theorem dX6_given_89 : decode cX6_given 89 = .ok (.aload_n 0, 1) := by decide +kernel
theorem dX6_given_90 : decode cX6_given 90 = .ok (.getfield 26, 3) := by decide +kernel
theorem dX6_given_93 : decode cX6_given 93 = .ok (.iload_n 1, 1) := by decide +kernel
theorem dX6_given_94 : decode cX6_given 94 = .ok (.iaload, 1) := by decide +kernel
theorem dX6_given_95 : decode cX6_given 95 = .ok (.i2l, 1) := by decide +kernel
theorem dX6_given_96 : decode cX6_given 96 = .ok (.goto 8, 3) := by decide +kernel
theorem dX6_given_99 : decode cX6_given 99 = .ok (.aload_n 0, 1) := by decide +kernel
theorem dX6_given_100 : decode cX6_given 100 = .ok (.getfield 131, 3) := by decide +kernel
theorem dX6_given_103 : decode cX6_given 103 = .ok (.i2l, 1) := by decide +kernel
theorem dX6_given_104 : decode cX6_given 104 = .ok (.lstore 8, 2) := by decide +kernel
theorem dX6_given_106 : decode cX6_given 106 = .ok (.lload 8, 2) := by decide +kernel
theorem dX6_given_108 : decode cX6_given 108 = .ok (.lload 6, 2) := by decide +kernel
theorem dX6_given_110 : decode cX6_given 110 = .ok (.lmul, 1) := by decide +kernel
theorem dX6_given_111 : decode cX6_given 111 = .ok (.aload_n 0, 1) := by decide +kernel
theorem dX6_given_112 : decode cX6_given 112 = .ok (.getfield 44, 3) := by decide +kernel
theorem dX6_given_115 : decode cX6_given 115 = .ok (.i2l, 1) := by decide +kernel
theorem dX6_given_116 : decode cX6_given 116 = .ok (.lload 4, 2) := by decide +kernel
theorem dX6_given_118 : decode cX6_given 118 = .ok (.invokestatic 147, 3) := by decide +kernel
theorem dX6_given_121 : decode cX6_given 121 = .ok (.lmul, 1) := by decide +kernel
theorem dX6_given_122 : decode cX6_given 122 = .ok (.ldc2_w 121, 3) := by decide +kernel
theorem dX6_given_125 : decode cX6_given 125 = .ok (.ldiv, 1) := by decide +kernel
theorem dX6_given_126 : decode cX6_given 126 = .ok (.lstore 10, 2) := by decide +kernel
theorem dX6_given_128 : decode cX6_given 128 = .ok (.lload 10, 2) := by decide +kernel
theorem dX6_given_130 : decode cX6_given 130 = .ok (.lload 6, 2) := by decide +kernel
theorem dX6_given_132 : decode cX6_given 132 = .ok (.ldc2_w 105, 3) := by decide +kernel
theorem dX6_given_135 : decode cX6_given 135 = .ok (.ldiv, 1) := by decide +kernel
theorem dX6_given_136 : decode cX6_given 136 = .ok (.lload 4, 2) := by decide +kernel
theorem dX6_given_138 : decode cX6_given 138 = .ok (.ldc2_w 105, 3) := by decide +kernel
theorem dX6_given_141 : decode cX6_given 141 = .ok (.ldiv, 1) := by decide +kernel
theorem dX6_given_142 : decode cX6_given 142 = .ok (.invokestatic 147, 3) := by decide +kernel
theorem dX6_given_145 : decode cX6_given 145 = .ok (.invokestatic 147, 3) := by decide +kernel
theorem dX6_given_148 : decode cX6_given 148 = .ok (.lreturn, 1) := by decide +kernel
theorem dX6_isIce_0 : decode cX6_isIce 0 = .ok (.aload_n 0, 1) := by decide +kernel
theorem dX6_isIce_1 : decode cX6_isIce 1 = .ok (.iload_n 1, 1) := by decide +kernel
theorem dX6_isIce_2 : decode cX6_isIce 2 = .ok (.bipush 8, 2) := by decide +kernel
theorem dX6_isIce_4 : decode cX6_isIce 4 = .ok (.irem, 1) := by decide +kernel
theorem dX6_isIce_5 : decode cX6_isIce 5 = .ok (.iload_n 1, 1) := by decide +kernel
theorem dX6_isIce_6 : decode cX6_isIce 6 = .ok (.bipush 8, 2) := by decide +kernel
theorem dX6_isIce_8 : decode cX6_isIce 8 = .ok (.idiv, 1) := by decide +kernel
theorem dX6_isIce_9 : decode cX6_isIce 9 = .ok (.invokevirtual 115, 3) := by decide +kernel
theorem dX6_isIce_12 : decode cX6_isIce 12 = .ok (.ifCond .eq 17, 3) := by decide +kernel
theorem dX6_isIce_15 : decode cX6_isIce 15 = .ok (.aload_n 0, 1) := by decide +kernel
theorem dX6_isIce_16 : decode cX6_isIce 16 = .ok (.getfield 23, 3) := by decide +kernel
theorem dX6_isIce_19 : decode cX6_isIce 19 = .ok (.iload_n 1, 1) := by decide +kernel
theorem dX6_isIce_20 : decode cX6_isIce 20 = .ok (.iaload, 1) := by decide +kernel
theorem dX6_isIce_21 : decode cX6_isIce 21 = .ok (.iconst 4, 1) := by decide +kernel
theorem dX6_isIce_22 : decode cX6_isIce 22 = .ok (.if_icmp .eq 7, 3) := by decide +kernel
theorem dX6_isIce_25 : decode cX6_isIce 25 = .ok (.iconst 1, 1) := by decide +kernel
theorem dX6_isIce_26 : decode cX6_isIce 26 = .ok (.goto 4, 3) := by decide +kernel
theorem dX6_isIce_29 : decode cX6_isIce 29 = .ok (.iconst 0, 1) := by decide +kernel
theorem dX6_isIce_30 : decode cX6_isIce 30 = .ok (.ireturn, 1) := by decide +kernel
theorem dX6_fall_0 : decode cX6_fall 0 = .ok (.iconst 0, 1) := by decide +kernel
theorem dX6_fall_1 : decode cX6_fall 1 = .ok (.istore_n 1, 1) := by decide +kernel
theorem dX6_fall_2 : decode cX6_fall 2 = .ok (.iload_n 1, 1) := by decide +kernel
theorem dX6_fall_3 : decode cX6_fall 3 = .ok (.bipush 64, 2) := by decide +kernel
theorem dX6_fall_5 : decode cX6_fall 5 = .ok (.if_icmp .ge 193, 3) := by decide +kernel
theorem dX6_fall_8 : decode cX6_fall 8 = .ok (.aload_n 0, 1) := by decide +kernel
theorem dX6_fall_9 : decode cX6_fall 9 = .ok (.iload_n 1, 1) := by decide +kernel
theorem dX6_fall_10 : decode cX6_fall 10 = .ok (.invokevirtual 151, 3) := by decide +kernel
theorem dX6_fall_13 : decode cX6_fall 13 = .ok (.ifCond .eq 179, 3) := by decide +kernel
theorem dX6_fall_16 : decode cX6_fall 16 = .ok (.aload_n 0, 1) := by decide +kernel
theorem dX6_fall_17 : decode cX6_fall 17 = .ok (.getfield 38, 3) := by decide +kernel
theorem dX6_fall_20 : decode cX6_fall 20 = .ok (.aload_n 0, 1) := by decide +kernel
theorem dX6_fall_21 : decode cX6_fall 21 = .ok (.getfield 29, 3) := by decide +kernel
theorem dX6_fall_24 : decode cX6_fall 24 = .ok (.iload_n 1, 1) := by decide +kernel
theorem dX6_fall_25 : decode cX6_fall 25 = .ok (.iaload, 1) := by decide +kernel
theorem dX6_fall_26 : decode cX6_fall 26 = .ok (.sipush 1000, 3) := by decide +kernel
theorem dX6_fall_29 : decode cX6_fall 29 = .ok (.idiv, 1) := by decide +kernel
theorem dX6_fall_30 : decode cX6_fall 30 = .ok (.iaload, 1) := by decide +kernel
theorem dX6_fall_31 : decode cX6_fall 31 = .ok (.istore_n 2, 1) := by decide +kernel
theorem dX6_fall_32 : decode cX6_fall 32 = .ok (.aload_n 0, 1) := by decide +kernel
theorem dX6_fall_33 : decode cX6_fall 33 = .ok (.getfield 32, 3) := by decide +kernel
theorem dX6_fall_36 : decode cX6_fall 36 = .ok (.bipush 61, 2) := by decide +kernel
theorem dX6_fall_38 : decode cX6_fall 38 = .ok (.iload_n 1, 1) := by decide +kernel
theorem dX6_fall_39 : decode cX6_fall 39 = .ok (.imul, 1) := by decide +kernel
theorem dX6_fall_40 : decode cX6_fall 40 = .ok (.aload_n 0, 1) := by decide +kernel
theorem dX6_fall_41 : decode cX6_fall 41 = .ok (.getfield 107, 3) := by decide +kernel
theorem dX6_fall_44 : decode cX6_fall 44 = .ok (.iadd, 1) := by decide +kernel
theorem dX6_fall_45 : decode cX6_fall 45 = .ok (.dup2, 1) := by decide +kernel
theorem dX6_fall_46 : decode cX6_fall 46 = .ok (.laload, 1) := by decide +kernel
theorem dX6_fall_47 : decode cX6_fall 47 = .ok (.iload_n 2, 1) := by decide +kernel
theorem dX6_fall_48 : decode cX6_fall 48 = .ok (.i2l, 1) := by decide +kernel
theorem dX6_fall_49 : decode cX6_fall 49 = .ok (.ladd, 1) := by decide +kernel
theorem dX6_fall_50 : decode cX6_fall 50 = .ok (.lastore, 1) := by decide +kernel
theorem dX6_fall_51 : decode cX6_fall 51 = .ok (.aload_n 0, 1) := by decide +kernel
theorem dX6_fall_52 : decode cX6_fall 52 = .ok (.getfield 35, 3) := by decide +kernel
theorem dX6_fall_55 : decode cX6_fall 55 = .ok (.sipush 244, 3) := by decide +kernel
theorem dX6_fall_58 : decode cX6_fall 58 = .ok (.aload_n 0, 1) := by decide +kernel
theorem dX6_fall_59 : decode cX6_fall 59 = .ok (.getfield 107, 3) := by decide +kernel
theorem dX6_fall_62 : decode cX6_fall 62 = .ok (.iadd, 1) := by decide +kernel
theorem dX6_fall_63 : decode cX6_fall 63 = .ok (.dup2, 1) := by decide +kernel
theorem dX6_fall_64 : decode cX6_fall 64 = .ok (.laload, 1) := by decide +kernel
theorem dX6_fall_65 : decode cX6_fall 65 = .ok (.iload_n 2, 1) := by decide +kernel
theorem dX6_fall_66 : decode cX6_fall 66 = .ok (.i2l, 1) := by decide +kernel
theorem dX6_fall_67 : decode cX6_fall 67 = .ok (.ladd, 1) := by decide +kernel
theorem dX6_fall_68 : decode cX6_fall 68 = .ok (.lastore, 1) := by decide +kernel
theorem dX6_fall_69 : decode cX6_fall 69 = .ok (.aload_n 0, 1) := by decide +kernel
theorem dX6_fall_70 : decode cX6_fall 70 = .ok (.getfield 41, 3) := by decide +kernel
theorem dX6_fall_73 : decode cX6_fall 73 = .ok (.aload_n 0, 1) := by decide +kernel
theorem dX6_fall_74 : decode cX6_fall 74 = .ok (.getfield 29, 3) := by decide +kernel
theorem dX6_fall_77 : decode cX6_fall 77 = .ok (.iload_n 1, 1) := by decide +kernel
theorem dX6_fall_78 : decode cX6_fall 78 = .ok (.iaload, 1) := by decide +kernel
theorem dX6_fall_79 : decode cX6_fall 79 = .ok (.sipush 1000, 3) := by decide +kernel
theorem dX6_fall_82 : decode cX6_fall 82 = .ok (.idiv, 1) := by decide +kernel
theorem dX6_fall_83 : decode cX6_fall 83 = .ok (.iaload, 1) := by decide +kernel
theorem dX6_fall_84 : decode cX6_fall 84 = .ok (.i2l, 1) := by decide +kernel
theorem dX6_fall_85 : decode cX6_fall 85 = .ok (.lstore_n 3, 1) := by decide +kernel
theorem dX6_fall_86 : decode cX6_fall 86 = .ok (.aload_n 0, 1) := by decide +kernel
theorem dX6_fall_87 : decode cX6_fall 87 = .ok (.getfield 23, 3) := by decide +kernel
theorem dX6_fall_90 : decode cX6_fall 90 = .ok (.iload_n 1, 1) := by decide +kernel
theorem dX6_fall_91 : decode cX6_fall 91 = .ok (.iaload, 1) := by decide +kernel
theorem dX6_fall_92 : decode cX6_fall 92 = .ok (.iconst 2, 1) := by decide +kernel
theorem dX6_fall_93 : decode cX6_fall 93 = .ok (.if_icmp .eq 13, 3) := by decide +kernel
theorem dX6_fall_96 : decode cX6_fall 96 = .ok (.aload_n 0, 1) := by decide +kernel
theorem dX6_fall_97 : decode cX6_fall 97 = .ok (.getfield 23, 3) := by decide +kernel
theorem dX6_fall_100 : decode cX6_fall 100 = .ok (.iload_n 1, 1) := by decide +kernel
theorem dX6_fall_101 : decode cX6_fall 101 = .ok (.iaload, 1) := by decide +kernel
theorem dX6_fall_102 : decode cX6_fall 102 = .ok (.iconst 3, 1) := by decide +kernel
theorem dX6_fall_103 : decode cX6_fall 103 = .ok (.if_icmp .ne 19, 3) := by decide +kernel
theorem dX6_fall_106 : decode cX6_fall 106 = .ok (.lload_n 3, 1) := by decide +kernel
theorem dX6_fall_107 : decode cX6_fall 107 = .ok (.lload_n 3, 1) := by decide +kernel
theorem dX6_fall_108 : decode cX6_fall 108 = .ok (.aload_n 0, 1) := by decide +kernel
theorem dX6_fall_109 : decode cX6_fall 109 = .ok (.getfield 26, 3) := by decide +kernel
theorem dX6_fall_112 : decode cX6_fall 112 = .ok (.iload_n 1, 1) := by decide +kernel
theorem dX6_fall_113 : decode cX6_fall 113 = .ok (.iaload, 1) := by decide +kernel
theorem dX6_fall_114 : decode cX6_fall 114 = .ok (.i2l, 1) := by decide +kernel
theorem dX6_fall_115 : decode cX6_fall 115 = .ok (.lmul, 1) := by decide +kernel
theorem dX6_fall_116 : decode cX6_fall 116 = .ok (.ldc2_w 121, 3) := by decide +kernel
theorem dX6_fall_119 : decode cX6_fall 119 = .ok (.ldiv, 1) := by decide +kernel
theorem dX6_fall_120 : decode cX6_fall 120 = .ok (.lsub, 1) := by decide +kernel
theorem dX6_fall_121 : decode cX6_fall 121 = .ok (.lstore_n 3, 1) := by decide +kernel
theorem dX6_fall_122 : decode cX6_fall 122 = .ok (.bipush 60, 2) := by decide +kernel
theorem dX6_fall_124 : decode cX6_fall 124 = .ok (.istore 5, 2) := by decide +kernel
theorem dX6_fall_126 : decode cX6_fall 126 = .ok (.iload 5, 2) := by decide +kernel
theorem dX6_fall_128 : decode cX6_fall 128 = .ok (.ifCond .lt 64, 3) := by decide +kernel
theorem dX6_fall_131 : decode cX6_fall 131 = .ok (.lload_n 3, 1) := by decide +kernel
theorem dX6_fall_132 : decode cX6_fall 132 = .ok (.aload_n 0, 1) := by decide +kernel
theorem dX6_fall_133 : decode cX6_fall 133 = .ok (.getfield 32, 3) := by decide +kernel
theorem dX6_fall_136 : decode cX6_fall 136 = .ok (.bipush 61, 2) := by decide +kernel
theorem dX6_fall_138 : decode cX6_fall 138 = .ok (.iload_n 1, 1) := by decide +kernel
theorem dX6_fall_139 : decode cX6_fall 139 = .ok (.imul, 1) := by decide +kernel
theorem dX6_fall_140 : decode cX6_fall 140 = .ok (.iload 5, 2) := by decide +kernel
theorem dX6_fall_142 : decode cX6_fall 142 = .ok (.iadd, 1) := by decide +kernel
theorem dX6_fall_143 : decode cX6_fall 143 = .ok (.laload, 1) := by decide +kernel
theorem dX6_fall_144 : decode cX6_fall 144 = .ok (.invokestatic 147, 3) := by decide +kernel
theorem dX6_fall_147 : decode cX6_fall 147 = .ok (.lstore 6, 2) := by decide +kernel
theorem dX6_fall_149 : decode cX6_fall 149 = .ok (.aload_n 0, 1) := by decide +kernel
theorem dX6_fall_150 : decode cX6_fall 150 = .ok (.getfield 32, 3) := by decide +kernel
theorem dX6_fall_153 : decode cX6_fall 153 = .ok (.bipush 61, 2) := by decide +kernel
theorem dX6_fall_155 : decode cX6_fall 155 = .ok (.iload_n 1, 1) := by decide +kernel
theorem dX6_fall_156 : decode cX6_fall 156 = .ok (.imul, 1) := by decide +kernel
theorem dX6_fall_157 : decode cX6_fall 157 = .ok (.iload 5, 2) := by decide +kernel
theorem dX6_fall_159 : decode cX6_fall 159 = .ok (.iadd, 1) := by decide +kernel
theorem dX6_fall_160 : decode cX6_fall 160 = .ok (.dup2, 1) := by decide +kernel
theorem dX6_fall_161 : decode cX6_fall 161 = .ok (.laload, 1) := by decide +kernel
theorem dX6_fall_162 : decode cX6_fall 162 = .ok (.lload 6, 2) := by decide +kernel
theorem dX6_fall_164 : decode cX6_fall 164 = .ok (.lsub, 1) := by decide +kernel
theorem dX6_fall_165 : decode cX6_fall 165 = .ok (.lastore, 1) := by decide +kernel
theorem dX6_fall_166 : decode cX6_fall 166 = .ok (.aload_n 0, 1) := by decide +kernel
theorem dX6_fall_167 : decode cX6_fall 167 = .ok (.getfield 35, 3) := by decide +kernel
theorem dX6_fall_170 : decode cX6_fall 170 = .ok (.bipush 61, 2) := by decide +kernel
theorem dX6_fall_172 : decode cX6_fall 172 = .ok (.iload 5, 2) := by decide +kernel
theorem dX6_fall_174 : decode cX6_fall 174 = .ok (.iadd, 1) := by decide +kernel
theorem dX6_fall_175 : decode cX6_fall 175 = .ok (.dup2, 1) := by decide +kernel
theorem dX6_fall_176 : decode cX6_fall 176 = .ok (.laload, 1) := by decide +kernel
theorem dX6_fall_177 : decode cX6_fall 177 = .ok (.lload 6, 2) := by decide +kernel
theorem dX6_fall_179 : decode cX6_fall 179 = .ok (.ladd, 1) := by decide +kernel
theorem dX6_fall_180 : decode cX6_fall 180 = .ok (.lastore, 1) := by decide +kernel
theorem dX6_fall_181 : decode cX6_fall 181 = .ok (.lload_n 3, 1) := by decide +kernel
theorem dX6_fall_182 : decode cX6_fall 182 = .ok (.lload 6, 2) := by decide +kernel
theorem dX6_fall_184 : decode cX6_fall 184 = .ok (.lsub, 1) := by decide +kernel
theorem dX6_fall_185 : decode cX6_fall 185 = .ok (.lstore_n 3, 1) := by decide +kernel
theorem dX6_fall_186 : decode cX6_fall 186 = .ok (.iinc 5 (-1), 3) := by decide +kernel
theorem dX6_fall_189 : decode cX6_fall 189 = .ok (.goto (-63), 3) := by decide +kernel
theorem dX6_fall_192 : decode cX6_fall 192 = .ok (.iinc 1 1, 3) := by decide +kernel
theorem dX6_fall_195 : decode cX6_fall 195 = .ok (.goto (-193), 3) := by decide +kernel
theorem dX6_fall_198 : decode cX6_fall 198 = .ok (.return_, 1) := by decide +kernel
theorem dX6_move_0 : decode cX6_move 0 = .ok (.iconst 0, 1) := by decide +kernel
theorem dX6_move_1 : decode cX6_move 1 = .ok (.istore_n 1, 1) := by decide +kernel
theorem dX6_move_2 : decode cX6_move 2 = .ok (.iload_n 1, 1) := by decide +kernel
theorem dX6_move_3 : decode cX6_move 3 = .ok (.sipush 256, 3) := by decide +kernel
theorem dX6_move_6 : decode cX6_move 6 = .ok (.if_icmp .ge 39, 3) := by decide +kernel
theorem dX6_move_9 : decode cX6_move 9 = .ok (.aload_n 0, 1) := by decide +kernel
theorem dX6_move_10 : decode cX6_move 10 = .ok (.getfield 54, 3) := by decide +kernel
theorem dX6_move_13 : decode cX6_move 13 = .ok (.iload_n 1, 1) := by decide +kernel
theorem dX6_move_14 : decode cX6_move 14 = .ok (.aload_n 0, 1) := by decide +kernel
theorem dX6_move_15 : decode cX6_move 15 = .ok (.iload_n 1, 1) := by decide +kernel
theorem dX6_move_16 : decode cX6_move 16 = .ok (.iconst 4, 1) := by decide +kernel
theorem dX6_move_17 : decode cX6_move 17 = .ok (.idiv, 1) := by decide +kernel
theorem dX6_move_18 : decode cX6_move 18 = .ok (.invokevirtual 151, 3) := by decide +kernel
theorem dX6_move_21 : decode cX6_move 21 = .ok (.ifCond .eq 16, 3) := by decide +kernel
theorem dX6_move_24 : decode cX6_move 24 = .ok (.aload_n 0, 1) := by decide +kernel
theorem dX6_move_25 : decode cX6_move 25 = .ok (.iload_n 1, 1) := by decide +kernel
theorem dX6_move_26 : decode cX6_move 26 = .ok (.iconst 4, 1) := by decide +kernel
theorem dX6_move_27 : decode cX6_move 27 = .ok (.idiv, 1) := by decide +kernel
theorem dX6_move_28 : decode cX6_move 28 = .ok (.iload_n 1, 1) := by decide +kernel
theorem dX6_move_29 : decode cX6_move 29 = .ok (.iconst 4, 1) := by decide +kernel
theorem dX6_move_30 : decode cX6_move 30 = .ok (.irem, 1) := by decide +kernel
theorem dX6_move_31 : decode cX6_move 31 = .ok (.invokevirtual 154, 3) := by decide +kernel
theorem dX6_move_34 : decode cX6_move 34 = .ok (.goto 4, 3) := by decide +kernel
theorem dX6_move_37 : decode cX6_move 37 = .ok (.lconst 0, 1) := by decide +kernel
theorem dX6_move_38 : decode cX6_move 38 = .ok (.lastore, 1) := by decide +kernel
theorem dX6_move_39 : decode cX6_move 39 = .ok (.iinc 1 1, 3) := by decide +kernel
theorem dX6_move_42 : decode cX6_move 42 = .ok (.goto (-40), 3) := by decide +kernel
theorem dX6_move_45 : decode cX6_move 45 = .ok (.iconst 0, 1) := by decide +kernel
theorem dX6_move_46 : decode cX6_move 46 = .ok (.istore_n 1, 1) := by decide +kernel
theorem dX6_move_47 : decode cX6_move 47 = .ok (.iload_n 1, 1) := by decide +kernel
theorem dX6_move_48 : decode cX6_move 48 = .ok (.sipush 3904, 3) := by decide +kernel
theorem dX6_move_51 : decode cX6_move 51 = .ok (.if_icmp .ge 21, 3) := by decide +kernel
theorem dX6_move_54 : decode cX6_move 54 = .ok (.aload_n 0, 1) := by decide +kernel
theorem dX6_move_55 : decode cX6_move 55 = .ok (.getfield 57, 3) := by decide +kernel
theorem dX6_move_58 : decode cX6_move 58 = .ok (.iload_n 1, 1) := by decide +kernel
theorem dX6_move_59 : decode cX6_move 59 = .ok (.aload_n 0, 1) := by decide +kernel
theorem dX6_move_60 : decode cX6_move 60 = .ok (.getfield 32, 3) := by decide +kernel
theorem dX6_move_63 : decode cX6_move 63 = .ok (.iload_n 1, 1) := by decide +kernel
theorem dX6_move_64 : decode cX6_move 64 = .ok (.laload, 1) := by decide +kernel
theorem dX6_move_65 : decode cX6_move 65 = .ok (.lastore, 1) := by decide +kernel
theorem dX6_move_66 : decode cX6_move 66 = .ok (.iinc 1 1, 3) := by decide +kernel
theorem dX6_move_69 : decode cX6_move 69 = .ok (.goto (-22), 3) := by decide +kernel
theorem dX6_move_72 : decode cX6_move 72 = .ok (.iconst 0, 1) := by decide +kernel
theorem dX6_move_73 : decode cX6_move 73 = .ok (.istore_n 1, 1) := by decide +kernel
theorem dX6_move_74 : decode cX6_move 74 = .ok (.iload_n 1, 1) := by decide +kernel
theorem dX6_move_75 : decode cX6_move 75 = .ok (.sipush 256, 3) := by decide +kernel
theorem dX6_move_78 : decode cX6_move 78 = .ok (.if_icmp .ge 166, 3) := by decide +kernel
theorem dX6_move_81 : decode cX6_move 81 = .ok (.iload_n 1, 1) := by decide +kernel
theorem dX6_move_82 : decode cX6_move 82 = .ok (.iconst 4, 1) := by decide +kernel
theorem dX6_move_83 : decode cX6_move 83 = .ok (.idiv, 1) := by decide +kernel
theorem dX6_move_84 : decode cX6_move 84 = .ok (.istore_n 2, 1) := by decide +kernel
theorem dX6_move_85 : decode cX6_move 85 = .ok (.aload_n 0, 1) := by decide +kernel
theorem dX6_move_86 : decode cX6_move 86 = .ok (.getfield 54, 3) := by decide +kernel
theorem dX6_move_89 : decode cX6_move 89 = .ok (.iload_n 1, 1) := by decide +kernel
theorem dX6_move_90 : decode cX6_move 90 = .ok (.laload, 1) := by decide +kernel
theorem dX6_move_91 : decode cX6_move 91 = .ok (.lstore_n 3, 1) := by decide +kernel
theorem dX6_move_92 : decode cX6_move 92 = .ok (.lload_n 3, 1) := by decide +kernel
theorem dX6_move_93 : decode cX6_move 93 = .ok (.lconst 0, 1) := by decide +kernel
theorem dX6_move_94 : decode cX6_move 94 = .ok (.lcmp, 1) := by decide +kernel
theorem dX6_move_95 : decode cX6_move 95 = .ok (.ifCond .le 14, 3) := by decide +kernel
theorem dX6_move_98 : decode cX6_move 98 = .ok (.aload_n 0, 1) := by decide +kernel
theorem dX6_move_99 : decode cX6_move 99 = .ok (.iload_n 2, 1) := by decide +kernel
theorem dX6_move_100 : decode cX6_move 100 = .ok (.iload_n 1, 1) := by decide +kernel
theorem dX6_move_101 : decode cX6_move 101 = .ok (.iconst 4, 1) := by decide +kernel
theorem dX6_move_102 : decode cX6_move 102 = .ok (.irem, 1) := by decide +kernel
theorem dX6_move_103 : decode cX6_move 103 = .ok (.invokevirtual 143, 3) := by decide +kernel
theorem dX6_move_106 : decode cX6_move 106 = .ok (.goto 5, 3) := by decide +kernel
theorem dX6_move_109 : decode cX6_move 109 = .ok (.bipush (-9), 2) := by decide +kernel
theorem dX6_move_111 : decode cX6_move 111 = .ok (.istore 5, 2) := by decide +kernel
theorem dX6_move_113 : decode cX6_move 113 = .ok (.bipush 60, 2) := by decide +kernel
theorem dX6_move_115 : decode cX6_move 115 = .ok (.istore 6, 2) := by decide +kernel
theorem dX6_move_117 : decode cX6_move 117 = .ok (.iload 6, 2) := by decide +kernel
theorem dX6_move_119 : decode cX6_move 119 = .ok (.ifCond .lt 119, 3) := by decide +kernel
theorem dX6_move_122 : decode cX6_move 122 = .ok (.lload_n 3, 1) := by decide +kernel
theorem dX6_move_123 : decode cX6_move 123 = .ok (.lconst 0, 1) := by decide +kernel
theorem dX6_move_124 : decode cX6_move 124 = .ok (.lcmp, 1) := by decide +kernel
theorem dX6_move_125 : decode cX6_move 125 = .ok (.ifCond .le 113, 3) := by decide +kernel
theorem dX6_move_128 : decode cX6_move 128 = .ok (.lload_n 3, 1) := by decide +kernel
theorem dX6_move_129 : decode cX6_move 129 = .ok (.aload_n 0, 1) := by decide +kernel
theorem dX6_move_130 : decode cX6_move 130 = .ok (.getfield 57, 3) := by decide +kernel
theorem dX6_move_133 : decode cX6_move 133 = .ok (.bipush 61, 2) := by decide +kernel
theorem dX6_move_135 : decode cX6_move 135 = .ok (.iload_n 2, 1) := by decide +kernel
theorem dX6_move_136 : decode cX6_move 136 = .ok (.imul, 1) := by decide +kernel
theorem dX6_move_137 : decode cX6_move 137 = .ok (.iload 6, 2) := by decide +kernel
theorem dX6_move_139 : decode cX6_move 139 = .ok (.iadd, 1) := by decide +kernel
theorem dX6_move_140 : decode cX6_move 140 = .ok (.laload, 1) := by decide +kernel
theorem dX6_move_141 : decode cX6_move 141 = .ok (.invokestatic 147, 3) := by decide +kernel
theorem dX6_move_144 : decode cX6_move 144 = .ok (.lstore 7, 2) := by decide +kernel
theorem dX6_move_146 : decode cX6_move 146 = .ok (.aload_n 0, 1) := by decide +kernel
theorem dX6_move_147 : decode cX6_move 147 = .ok (.getfield 57, 3) := by decide +kernel
theorem dX6_move_150 : decode cX6_move 150 = .ok (.bipush 61, 2) := by decide +kernel
theorem dX6_move_152 : decode cX6_move 152 = .ok (.iload_n 2, 1) := by decide +kernel
theorem dX6_move_153 : decode cX6_move 153 = .ok (.imul, 1) := by decide +kernel
theorem dX6_move_154 : decode cX6_move 154 = .ok (.iload 6, 2) := by decide +kernel
theorem dX6_move_156 : decode cX6_move 156 = .ok (.iadd, 1) := by decide +kernel
theorem dX6_move_157 : decode cX6_move 157 = .ok (.dup2, 1) := by decide +kernel
theorem dX6_move_158 : decode cX6_move 158 = .ok (.laload, 1) := by decide +kernel
theorem dX6_move_159 : decode cX6_move 159 = .ok (.lload 7, 2) := by decide +kernel
theorem dX6_move_161 : decode cX6_move 161 = .ok (.lsub, 1) := by decide +kernel
theorem dX6_move_162 : decode cX6_move 162 = .ok (.lastore, 1) := by decide +kernel
theorem dX6_move_163 : decode cX6_move 163 = .ok (.aload_n 0, 1) := by decide +kernel
theorem dX6_move_164 : decode cX6_move 164 = .ok (.getfield 32, 3) := by decide +kernel
theorem dX6_move_167 : decode cX6_move 167 = .ok (.bipush 61, 2) := by decide +kernel
theorem dX6_move_169 : decode cX6_move 169 = .ok (.iload_n 2, 1) := by decide +kernel
theorem dX6_move_170 : decode cX6_move 170 = .ok (.imul, 1) := by decide +kernel
theorem dX6_move_171 : decode cX6_move 171 = .ok (.iload 6, 2) := by decide +kernel
theorem dX6_move_173 : decode cX6_move 173 = .ok (.iadd, 1) := by decide +kernel
theorem dX6_move_174 : decode cX6_move 174 = .ok (.dup2, 1) := by decide +kernel
theorem dX6_move_175 : decode cX6_move 175 = .ok (.laload, 1) := by decide +kernel
theorem dX6_move_176 : decode cX6_move 176 = .ok (.lload 7, 2) := by decide +kernel
theorem dX6_move_178 : decode cX6_move 178 = .ok (.lsub, 1) := by decide +kernel
theorem dX6_move_179 : decode cX6_move 179 = .ok (.lastore, 1) := by decide +kernel
theorem dX6_move_180 : decode cX6_move 180 = .ok (.lload_n 3, 1) := by decide +kernel
theorem dX6_move_181 : decode cX6_move 181 = .ok (.lload 7, 2) := by decide +kernel
theorem dX6_move_183 : decode cX6_move 183 = .ok (.lsub, 1) := by decide +kernel
theorem dX6_move_184 : decode cX6_move 184 = .ok (.lstore_n 3, 1) := by decide +kernel
theorem dX6_move_185 : decode cX6_move 185 = .ok (.aload_n 0, 1) := by decide +kernel
theorem dX6_move_186 : decode cX6_move 186 = .ok (.getfield 23, 3) := by decide +kernel
theorem dX6_move_189 : decode cX6_move 189 = .ok (.iload 5, 2) := by decide +kernel
theorem dX6_move_191 : decode cX6_move 191 = .ok (.iaload, 1) := by decide +kernel
theorem dX6_move_192 : decode cX6_move 192 = .ok (.iconst 4, 1) := by decide +kernel
theorem dX6_move_193 : decode cX6_move 193 = .ok (.if_icmp .ne 21, 3) := by decide +kernel
theorem dX6_move_196 : decode cX6_move 196 = .ok (.aload_n 0, 1) := by decide +kernel
theorem dX6_move_197 : decode cX6_move 197 = .ok (.getfield 35, 3) := by decide +kernel
theorem dX6_move_200 : decode cX6_move 200 = .ok (.bipush 122, 2) := by decide +kernel
theorem dX6_move_202 : decode cX6_move 202 = .ok (.iload 6, 2) := by decide +kernel
theorem dX6_move_204 : decode cX6_move 204 = .ok (.iadd, 1) := by decide +kernel
theorem dX6_move_205 : decode cX6_move 205 = .ok (.dup2, 1) := by decide +kernel
theorem dX6_move_206 : decode cX6_move 206 = .ok (.laload, 1) := by decide +kernel
theorem dX6_move_207 : decode cX6_move 207 = .ok (.lload 7, 2) := by decide +kernel
theorem dX6_move_209 : decode cX6_move 209 = .ok (.ladd, 1) := by decide +kernel
theorem dX6_move_210 : decode cX6_move 210 = .ok (.lastore, 1) := by decide +kernel
theorem dX6_move_211 : decode cX6_move 211 = .ok (.goto 21, 3) := by decide +kernel
theorem dX6_move_214 : decode cX6_move 214 = .ok (.aload_n 0, 1) := by decide +kernel
theorem dX6_move_215 : decode cX6_move 215 = .ok (.getfield 32, 3) := by decide +kernel
theorem dX6_move_218 : decode cX6_move 218 = .ok (.bipush 61, 2) := by decide +kernel
theorem dX6_move_220 : decode cX6_move 220 = .ok (.iload 5, 2) := by decide +kernel
theorem dX6_move_222 : decode cX6_move 222 = .ok (.imul, 1) := by decide +kernel
theorem dX6_move_223 : decode cX6_move 223 = .ok (.iload 6, 2) := by decide +kernel
theorem dX6_move_225 : decode cX6_move 225 = .ok (.iadd, 1) := by decide +kernel
theorem dX6_move_226 : decode cX6_move 226 = .ok (.dup2, 1) := by decide +kernel
theorem dX6_move_227 : decode cX6_move 227 = .ok (.laload, 1) := by decide +kernel
theorem dX6_move_228 : decode cX6_move 228 = .ok (.lload 7, 2) := by decide +kernel
theorem dX6_move_230 : decode cX6_move 230 = .ok (.ladd, 1) := by decide +kernel
theorem dX6_move_231 : decode cX6_move 231 = .ok (.lastore, 1) := by decide +kernel
theorem dX6_move_232 : decode cX6_move 232 = .ok (.iinc 6 (-1), 3) := by decide +kernel
theorem dX6_move_235 : decode cX6_move 235 = .ok (.goto (-118), 3) := by decide +kernel
theorem dX6_move_238 : decode cX6_move 238 = .ok (.iinc 1 1, 3) := by decide +kernel
theorem dX6_move_241 : decode cX6_move 241 = .ok (.goto (-167), 3) := by decide +kernel
theorem dX6_move_244 : decode cX6_move 244 = .ok (.return_, 1) := by decide +kernel
theorem dX6_swim_0 : decode cX6_swim 0 = .ok (.iconst 0, 1) := by decide +kernel
theorem dX6_swim_1 : decode cX6_swim 1 = .ok (.istore_n 1, 1) := by decide +kernel
theorem dX6_swim_2 : decode cX6_swim 2 = .ok (.iload_n 1, 1) := by decide +kernel
theorem dX6_swim_3 : decode cX6_swim 3 = .ok (.bipush 64, 2) := by decide +kernel
theorem dX6_swim_5 : decode cX6_swim 5 = .ok (.if_icmp .ge 77, 3) := by decide +kernel
theorem dX6_swim_8 : decode cX6_swim 8 = .ok (.iconst 0, 1) := by decide +kernel
theorem dX6_swim_9 : decode cX6_swim 9 = .ok (.istore_n 2, 1) := by decide +kernel
theorem dX6_swim_10 : decode cX6_swim 10 = .ok (.iload_n 2, 1) := by decide +kernel
theorem dX6_swim_11 : decode cX6_swim 11 = .ok (.bipush 61, 2) := by decide +kernel
theorem dX6_swim_13 : decode cX6_swim 13 = .ok (.if_icmp .ge 63, 3) := by decide +kernel
theorem dX6_swim_16 : decode cX6_swim 16 = .ok (.aload_n 0, 1) := by decide +kernel
theorem dX6_swim_17 : decode cX6_swim 17 = .ok (.iload_n 1, 1) := by decide +kernel
theorem dX6_swim_18 : decode cX6_swim 18 = .ok (.invokevirtual 151, 3) := by decide +kernel
theorem dX6_swim_21 : decode cX6_swim 21 = .ok (.ifCond .eq 55, 3) := by decide +kernel
theorem dX6_swim_24 : decode cX6_swim 24 = .ok (.aload_n 0, 1) := by decide +kernel
theorem dX6_swim_25 : decode cX6_swim 25 = .ok (.getfield 23, 3) := by decide +kernel
theorem dX6_swim_28 : decode cX6_swim 28 = .ok (.iload_n 1, 1) := by decide +kernel
theorem dX6_swim_29 : decode cX6_swim 29 = .ok (.iaload, 1) := by decide +kernel
theorem dX6_swim_30 : decode cX6_swim 30 = .ok (.iconst 3, 1) := by decide +kernel
theorem dX6_swim_31 : decode cX6_swim 31 = .ok (.if_icmp .ne 45, 3) := by decide +kernel
theorem dX6_swim_34 : decode cX6_swim 34 = .ok (.aload_n 0, 1) := by decide +kernel
theorem dX6_swim_35 : decode cX6_swim 35 = .ok (.getfield 35, 3) := by decide +kernel
theorem dX6_swim_38 : decode cX6_swim 38 = .ok (.sipush 183, 3) := by decide +kernel
theorem dX6_swim_41 : decode cX6_swim 41 = .ok (.iload_n 2, 1) := by decide +kernel
theorem dX6_swim_42 : decode cX6_swim 42 = .ok (.iadd, 1) := by decide +kernel
theorem dX6_swim_43 : decode cX6_swim 43 = .ok (.dup2, 1) := by decide +kernel
theorem dX6_swim_44 : decode cX6_swim 44 = .ok (.laload, 1) := by decide +kernel
theorem dX6_swim_45 : decode cX6_swim 45 = .ok (.aload_n 0, 1) := by decide +kernel
theorem dX6_swim_46 : decode cX6_swim 46 = .ok (.getfield 32, 3) := by decide +kernel
theorem dX6_swim_49 : decode cX6_swim 49 = .ok (.bipush 61, 2) := by decide +kernel
theorem dX6_swim_51 : decode cX6_swim 51 = .ok (.iload_n 1, 1) := by decide +kernel
theorem dX6_swim_52 : decode cX6_swim 52 = .ok (.imul, 1) := by decide +kernel
theorem dX6_swim_53 : decode cX6_swim 53 = .ok (.iload_n 2, 1) := by decide +kernel
theorem dX6_swim_54 : decode cX6_swim 54 = .ok (.iadd, 1) := by decide +kernel
theorem dX6_swim_55 : decode cX6_swim 55 = .ok (.laload, 1) := by decide +kernel
theorem dX6_swim_56 : decode cX6_swim 56 = .ok (.ladd, 1) := by decide +kernel
theorem dX6_swim_57 : decode cX6_swim 57 = .ok (.lastore, 1) := by decide +kernel
theorem dX6_swim_58 : decode cX6_swim 58 = .ok (.aload_n 0, 1) := by decide +kernel
theorem dX6_swim_59 : decode cX6_swim 59 = .ok (.getfield 32, 3) := by decide +kernel
theorem dX6_swim_62 : decode cX6_swim 62 = .ok (.bipush 61, 2) := by decide +kernel
theorem dX6_swim_64 : decode cX6_swim 64 = .ok (.iload_n 1, 1) := by decide +kernel
theorem dX6_swim_65 : decode cX6_swim 65 = .ok (.imul, 1) := by decide +kernel
theorem dX6_swim_66 : decode cX6_swim 66 = .ok (.iload_n 2, 1) := by decide +kernel
theorem dX6_swim_67 : decode cX6_swim 67 = .ok (.iadd, 1) := by decide +kernel
theorem dX6_swim_68 : decode cX6_swim 68 = .ok (.lconst 0, 1) := by decide +kernel
theorem dX6_swim_69 : decode cX6_swim 69 = .ok (.lastore, 1) := by decide +kernel
theorem dX6_swim_70 : decode cX6_swim 70 = .ok (.iinc 2 1, 3) := by decide +kernel
theorem dX6_swim_73 : decode cX6_swim 73 = .ok (.goto (-63), 3) := by decide +kernel
theorem dX6_swim_76 : decode cX6_swim 76 = .ok (.iinc 1 1, 3) := by decide +kernel
theorem dX6_swim_79 : decode cX6_swim 79 = .ok (.goto (-77), 3) := by decide +kernel
theorem dX6_swim_82 : decode cX6_swim 82 = .ok (.return_, 1) := by decide +kernel
theorem dX6_oneYear_0 : decode cX6_oneYear 0 = .ok (.aload_n 0, 1) := by decide +kernel
theorem dX6_oneYear_1 : decode cX6_oneYear 1 = .ok (.invokevirtual 158, 3) := by decide +kernel
theorem dX6_oneYear_4 : decode cX6_oneYear 4 = .ok (.aload_n 0, 1) := by decide +kernel
theorem dX6_oneYear_5 : decode cX6_oneYear 5 = .ok (.dup, 1) := by decide +kernel
theorem dX6_oneYear_6 : decode cX6_oneYear 6 = .ok (.getfield 107, 3) := by decide +kernel
theorem dX6_oneYear_9 : decode cX6_oneYear 9 = .ok (.iconst 1, 1) := by decide +kernel
theorem dX6_oneYear_10 : decode cX6_oneYear 10 = .ok (.iadd, 1) := by decide +kernel
theorem dX6_oneYear_11 : decode cX6_oneYear 11 = .ok (.putfield 107, 3) := by decide +kernel
theorem dX6_oneYear_14 : decode cX6_oneYear 14 = .ok (.aload_n 0, 1) := by decide +kernel
theorem dX6_oneYear_15 : decode cX6_oneYear 15 = .ok (.invokevirtual 161, 3) := by decide +kernel
theorem dX6_oneYear_18 : decode cX6_oneYear 18 = .ok (.aload_n 0, 1) := by decide +kernel
theorem dX6_oneYear_19 : decode cX6_oneYear 19 = .ok (.invokevirtual 164, 3) := by decide +kernel
theorem dX6_oneYear_22 : decode cX6_oneYear 22 = .ok (.aload_n 0, 1) := by decide +kernel
theorem dX6_oneYear_23 : decode cX6_oneYear 23 = .ok (.invokevirtual 167, 3) := by decide +kernel
theorem dX6_oneYear_26 : decode cX6_oneYear 26 = .ok (.return_, 1) := by decide +kernel
theorem dX6_years_0 : decode cX6_years 0 = .ok (.iload_n 1, 1) := by decide +kernel
theorem dX6_years_1 : decode cX6_years 1 = .ok (.i2l, 1) := by decide +kernel
theorem dX6_years_2 : decode cX6_years 2 = .ok (.lconst 1, 1) := by decide +kernel
theorem dX6_years_3 : decode cX6_years 3 = .ok (.ldc2_w 170, 3) := by decide +kernel
theorem dX6_years_6 : decode cX6_years 6 = .ok (.invokestatic 77, 3) := by decide +kernel
theorem dX6_years_9 : decode cX6_years 9 = .ok (.ifCond .ne 6, 3) := by decide +kernel
theorem dX6_years_12 : decode cX6_years 12 = .ok (.bipush (-2), 2) := by decide +kernel
theorem dX6_years_14 : decode cX6_years 14 = .ok (.ireturn, 1) := by decide +kernel
theorem dX6_years_15 : decode cX6_years 15 = .ok (.aload_n 0, 1) := by decide +kernel
theorem dX6_years_16 : decode cX6_years 16 = .ok (.getfield 99, 3) := by decide +kernel
theorem dX6_years_19 : decode cX6_years 19 = .ok (.ifCond .ne 6, 3) := by decide +kernel
theorem dX6_years_22 : decode cX6_years 22 = .ok (.bipush (-3), 2) := by decide +kernel
theorem dX6_years_24 : decode cX6_years 24 = .ok (.ireturn, 1) := by decide +kernel
theorem dX6_years_25 : decode cX6_years 25 = .ok (.aload_n 0, 1) := by decide +kernel
theorem dX6_years_26 : decode cX6_years 26 = .ok (.getfield 107, 3) := by decide +kernel
theorem dX6_years_29 : decode cX6_years 29 = .ok (.iload_n 1, 1) := by decide +kernel
theorem dX6_years_30 : decode cX6_years 30 = .ok (.iadd, 1) := by decide +kernel
theorem dX6_years_31 : decode cX6_years 31 = .ok (.bipush 60, 2) := by decide +kernel
theorem dX6_years_33 : decode cX6_years 33 = .ok (.if_icmp .le 6, 3) := by decide +kernel
theorem dX6_years_36 : decode cX6_years 36 = .ok (.bipush (-4), 2) := by decide +kernel
theorem dX6_years_38 : decode cX6_years 38 = .ok (.ireturn, 1) := by decide +kernel
theorem dX6_years_39 : decode cX6_years 39 = .ok (.iconst 0, 1) := by decide +kernel
theorem dX6_years_40 : decode cX6_years 40 = .ok (.istore_n 2, 1) := by decide +kernel
theorem dX6_years_41 : decode cX6_years 41 = .ok (.iload_n 2, 1) := by decide +kernel
theorem dX6_years_42 : decode cX6_years 42 = .ok (.iload_n 1, 1) := by decide +kernel
theorem dX6_years_43 : decode cX6_years 43 = .ok (.if_icmp .ge 13, 3) := by decide +kernel
theorem dX6_years_46 : decode cX6_years 46 = .ok (.aload_n 0, 1) := by decide +kernel
theorem dX6_years_47 : decode cX6_years 47 = .ok (.invokevirtual 172, 3) := by decide +kernel
theorem dX6_years_50 : decode cX6_years 50 = .ok (.iinc 2 1, 3) := by decide +kernel
theorem dX6_years_53 : decode cX6_years 53 = .ok (.goto (-12), 3) := by decide +kernel
theorem dX6_years_56 : decode cX6_years 56 = .ok (.aload_n 0, 1) := by decide +kernel
theorem dX6_years_57 : decode cX6_years 57 = .ok (.getfield 107, 3) := by decide +kernel
theorem dX6_years_60 : decode cX6_years 60 = .ok (.ireturn, 1) := by decide +kernel
theorem dX6_note_0 : decode cX6_note 0 = .ok (.iconst 0, 1) := by decide +kernel
theorem dX6_note_1 : decode cX6_note 1 = .ok (.istore_n 2, 1) := by decide +kernel
theorem dX6_note_2 : decode cX6_note 2 = .ok (.iload_n 2, 1) := by decide +kernel
theorem dX6_note_3 : decode cX6_note 3 = .ok (.bipush 64, 2) := by decide +kernel
theorem dX6_note_5 : decode cX6_note 5 = .ok (.if_icmp .ge 25, 3) := by decide +kernel
theorem dX6_note_8 : decode cX6_note 8 = .ok (.aload_n 0, 1) := by decide +kernel
theorem dX6_note_9 : decode cX6_note 9 = .ok (.getfield 60, 3) := by decide +kernel
theorem dX6_note_12 : decode cX6_note 12 = .ok (.bipush 64, 2) := by decide +kernel
theorem dX6_note_14 : decode cX6_note 14 = .ok (.iload_n 1, 1) := by decide +kernel
theorem dX6_note_15 : decode cX6_note 15 = .ok (.imul, 1) := by decide +kernel
theorem dX6_note_16 : decode cX6_note 16 = .ok (.iload_n 2, 1) := by decide +kernel
theorem dX6_note_17 : decode cX6_note 17 = .ok (.iadd, 1) := by decide +kernel
theorem dX6_note_18 : decode cX6_note 18 = .ok (.aload_n 0, 1) := by decide +kernel
theorem dX6_note_19 : decode cX6_note 19 = .ok (.iload_n 2, 1) := by decide +kernel
theorem dX6_note_20 : decode cX6_note 20 = .ok (.invokevirtual 136, 3) := by decide +kernel
theorem dX6_note_23 : decode cX6_note 23 = .ok (.lastore, 1) := by decide +kernel
theorem dX6_note_24 : decode cX6_note 24 = .ok (.iinc 2 1, 3) := by decide +kernel
theorem dX6_note_27 : decode cX6_note 27 = .ok (.goto (-25), 3) := by decide +kernel
theorem dX6_note_30 : decode cX6_note 30 = .ok (.return_, 1) := by decide +kernel
theorem dX6_isLike_0 : decode cX6_isLike 0 = .ok (.iconst 1, 1) := by decide +kernel
theorem dX6_isLike_1 : decode cX6_isLike 1 = .ok (.istore_n 3, 1) := by decide +kernel
theorem dX6_isLike_2 : decode cX6_isLike 2 = .ok (.iconst 0, 1) := by decide +kernel
theorem dX6_isLike_3 : decode cX6_isLike 3 = .ok (.istore 4, 2) := by decide +kernel
theorem dX6_isLike_5 : decode cX6_isLike 5 = .ok (.iload 4, 2) := by decide +kernel
theorem dX6_isLike_7 : decode cX6_isLike 7 = .ok (.bipush 64, 2) := by decide +kernel
theorem dX6_isLike_9 : decode cX6_isLike 9 = .ok (.if_icmp .ge 64, 3) := by decide +kernel
theorem dX6_isLike_12 : decode cX6_isLike 12 = .ok (.iload_n 3, 1) := by decide +kernel
theorem dX6_isLike_13 : decode cX6_isLike 13 = .ok (.ifCond .eq 52, 3) := by decide +kernel
theorem dX6_isLike_16 : decode cX6_isLike 16 = .ok (.aload_n 0, 1) := by decide +kernel
theorem dX6_isLike_17 : decode cX6_isLike 17 = .ok (.iload 4, 2) := by decide +kernel
theorem dX6_isLike_19 : decode cX6_isLike 19 = .ok (.bipush 8, 2) := by decide +kernel
theorem dX6_isLike_21 : decode cX6_isLike 21 = .ok (.irem, 1) := by decide +kernel
theorem dX6_isLike_22 : decode cX6_isLike 22 = .ok (.iload 4, 2) := by decide +kernel
theorem dX6_isLike_24 : decode cX6_isLike 24 = .ok (.bipush 8, 2) := by decide +kernel
theorem dX6_isLike_26 : decode cX6_isLike 26 = .ok (.idiv, 1) := by decide +kernel
theorem dX6_isLike_27 : decode cX6_isLike 27 = .ok (.invokevirtual 115, 3) := by decide +kernel
theorem dX6_isLike_30 : decode cX6_isLike 30 = .ok (.ifCond .eq 31, 3) := by decide +kernel
theorem dX6_isLike_33 : decode cX6_isLike 33 = .ok (.aload_n 0, 1) := by decide +kernel
theorem dX6_isLike_34 : decode cX6_isLike 34 = .ok (.getfield 60, 3) := by decide +kernel
theorem dX6_isLike_37 : decode cX6_isLike 37 = .ok (.bipush 64, 2) := by decide +kernel
theorem dX6_isLike_39 : decode cX6_isLike 39 = .ok (.iload_n 1, 1) := by decide +kernel
theorem dX6_isLike_40 : decode cX6_isLike 40 = .ok (.imul, 1) := by decide +kernel
theorem dX6_isLike_41 : decode cX6_isLike 41 = .ok (.iload 4, 2) := by decide +kernel
theorem dX6_isLike_43 : decode cX6_isLike 43 = .ok (.iadd, 1) := by decide +kernel
theorem dX6_isLike_44 : decode cX6_isLike 44 = .ok (.laload, 1) := by decide +kernel
theorem dX6_isLike_45 : decode cX6_isLike 45 = .ok (.aload_n 0, 1) := by decide +kernel
theorem dX6_isLike_46 : decode cX6_isLike 46 = .ok (.getfield 60, 3) := by decide +kernel
theorem dX6_isLike_49 : decode cX6_isLike 49 = .ok (.bipush 64, 2) := by decide +kernel
theorem dX6_isLike_51 : decode cX6_isLike 51 = .ok (.iload_n 2, 1) := by decide +kernel
theorem dX6_isLike_52 : decode cX6_isLike 52 = .ok (.imul, 1) := by decide +kernel
theorem dX6_isLike_53 : decode cX6_isLike 53 = .ok (.iload 4, 2) := by decide +kernel
theorem dX6_isLike_55 : decode cX6_isLike 55 = .ok (.iadd, 1) := by decide +kernel
theorem dX6_isLike_56 : decode cX6_isLike 56 = .ok (.laload, 1) := by decide +kernel
theorem dX6_isLike_57 : decode cX6_isLike 57 = .ok (.lcmp, 1) := by decide +kernel
theorem dX6_isLike_58 : decode cX6_isLike 58 = .ok (.ifCond .ne 7, 3) := by decide +kernel
theorem dX6_isLike_61 : decode cX6_isLike 61 = .ok (.iconst 1, 1) := by decide +kernel
theorem dX6_isLike_62 : decode cX6_isLike 62 = .ok (.goto 4, 3) := by decide +kernel
theorem dX6_isLike_65 : decode cX6_isLike 65 = .ok (.iconst 0, 1) := by decide +kernel
theorem dX6_isLike_66 : decode cX6_isLike 66 = .ok (.istore_n 3, 1) := by decide +kernel
theorem dX6_isLike_67 : decode cX6_isLike 67 = .ok (.iinc 4 1, 3) := by decide +kernel
theorem dX6_isLike_70 : decode cX6_isLike 70 = .ok (.goto (-65), 3) := by decide +kernel
theorem dX6_isLike_73 : decode cX6_isLike 73 = .ok (.iload_n 3, 1) := by decide +kernel
theorem dX6_isLike_74 : decode cX6_isLike 74 = .ok (.ireturn, 1) := by decide +kernel
theorem dX6_steady_0 : decode cX6_steady 0 = .ok (.iload_n 1, 1) := by decide +kernel
theorem dX6_steady_1 : decode cX6_steady 1 = .ok (.i2l, 1) := by decide +kernel
theorem dX6_steady_2 : decode cX6_steady 2 = .ok (.lconst 1, 1) := by decide +kernel
theorem dX6_steady_3 : decode cX6_steady 3 = .ok (.ldc2_w 170, 3) := by decide +kernel
theorem dX6_steady_6 : decode cX6_steady 6 = .ok (.invokestatic 77, 3) := by decide +kernel
theorem dX6_steady_9 : decode cX6_steady 9 = .ok (.ifCond .ne 6, 3) := by decide +kernel
theorem dX6_steady_12 : decode cX6_steady 12 = .ok (.bipush (-2), 2) := by decide +kernel
theorem dX6_steady_14 : decode cX6_steady 14 = .ok (.ireturn, 1) := by decide +kernel
theorem dX6_steady_15 : decode cX6_steady 15 = .ok (.aload_n 0, 1) := by decide +kernel
theorem dX6_steady_16 : decode cX6_steady 16 = .ok (.getfield 99, 3) := by decide +kernel
theorem dX6_steady_19 : decode cX6_steady 19 = .ok (.ifCond .ne 6, 3) := by decide +kernel
theorem dX6_steady_22 : decode cX6_steady 22 = .ok (.bipush (-3), 2) := by decide +kernel
theorem dX6_steady_24 : decode cX6_steady 24 = .ok (.ireturn, 1) := by decide +kernel
theorem dX6_steady_25 : decode cX6_steady 25 = .ok (.aload_n 0, 1) := by decide +kernel
theorem dX6_steady_26 : decode cX6_steady 26 = .ok (.getfield 107, 3) := by decide +kernel
theorem dX6_steady_29 : decode cX6_steady 29 = .ok (.iload_n 1, 1) := by decide +kernel
theorem dX6_steady_30 : decode cX6_steady 30 = .ok (.iadd, 1) := by decide +kernel
theorem dX6_steady_31 : decode cX6_steady 31 = .ok (.bipush 60, 2) := by decide +kernel
theorem dX6_steady_33 : decode cX6_steady 33 = .ok (.if_icmp .le 6, 3) := by decide +kernel
theorem dX6_steady_36 : decode cX6_steady 36 = .ok (.bipush (-4), 2) := by decide +kernel
theorem dX6_steady_38 : decode cX6_steady 38 = .ok (.ireturn, 1) := by decide +kernel
theorem dX6_steady_39 : decode cX6_steady 39 = .ok (.aload_n 0, 1) := by decide +kernel
theorem dX6_steady_40 : decode cX6_steady 40 = .ok (.iconst 0, 1) := by decide +kernel
theorem dX6_steady_41 : decode cX6_steady 41 = .ok (.invokevirtual 175, 3) := by decide +kernel
theorem dX6_steady_44 : decode cX6_steady 44 = .ok (.iconst 1, 1) := by decide +kernel
theorem dX6_steady_45 : decode cX6_steady 45 = .ok (.istore_n 2, 1) := by decide +kernel
theorem dX6_steady_46 : decode cX6_steady 46 = .ok (.iload_n 2, 1) := by decide +kernel
theorem dX6_steady_47 : decode cX6_steady 47 = .ok (.iload_n 1, 1) := by decide +kernel
theorem dX6_steady_48 : decode cX6_steady 48 = .ok (.if_icmp .gt 45, 3) := by decide +kernel
theorem dX6_steady_51 : decode cX6_steady 51 = .ok (.aload_n 0, 1) := by decide +kernel
theorem dX6_steady_52 : decode cX6_steady 52 = .ok (.invokevirtual 172, 3) := by decide +kernel
theorem dX6_steady_55 : decode cX6_steady 55 = .ok (.aload_n 0, 1) := by decide +kernel
theorem dX6_steady_56 : decode cX6_steady 56 = .ok (.iload_n 2, 1) := by decide +kernel
theorem dX6_steady_57 : decode cX6_steady 57 = .ok (.invokevirtual 175, 3) := by decide +kernel
theorem dX6_steady_60 : decode cX6_steady 60 = .ok (.iload_n 2, 1) := by decide +kernel
theorem dX6_steady_61 : decode cX6_steady 61 = .ok (.iconst 1, 1) := by decide +kernel
theorem dX6_steady_62 : decode cX6_steady 62 = .ok (.isub, 1) := by decide +kernel
theorem dX6_steady_63 : decode cX6_steady 63 = .ok (.istore_n 3, 1) := by decide +kernel
theorem dX6_steady_64 : decode cX6_steady 64 = .ok (.iload_n 3, 1) := by decide +kernel
theorem dX6_steady_65 : decode cX6_steady 65 = .ok (.ifCond .lt 22, 3) := by decide +kernel
theorem dX6_steady_68 : decode cX6_steady 68 = .ok (.aload_n 0, 1) := by decide +kernel
theorem dX6_steady_69 : decode cX6_steady 69 = .ok (.iload_n 2, 1) := by decide +kernel
theorem dX6_steady_70 : decode cX6_steady 70 = .ok (.iload_n 3, 1) := by decide +kernel
theorem dX6_steady_71 : decode cX6_steady 71 = .ok (.invokevirtual 179, 3) := by decide +kernel
theorem dX6_steady_74 : decode cX6_steady 74 = .ok (.ifCond .eq 7, 3) := by decide +kernel
theorem dX6_steady_77 : decode cX6_steady 77 = .ok (.iload_n 2, 1) := by decide +kernel
theorem dX6_steady_78 : decode cX6_steady 78 = .ok (.iload_n 3, 1) := by decide +kernel
theorem dX6_steady_79 : decode cX6_steady 79 = .ok (.isub, 1) := by decide +kernel
theorem dX6_steady_80 : decode cX6_steady 80 = .ok (.ireturn, 1) := by decide +kernel
theorem dX6_steady_81 : decode cX6_steady 81 = .ok (.iinc 3 (-1), 3) := by decide +kernel
theorem dX6_steady_84 : decode cX6_steady 84 = .ok (.goto (-20), 3) := by decide +kernel
theorem dX6_steady_87 : decode cX6_steady 87 = .ok (.iinc 2 1, 3) := by decide +kernel
theorem dX6_steady_90 : decode cX6_steady 90 = .ok (.goto (-44), 3) := by decide +kernel
theorem dX6_steady_93 : decode cX6_steady 93 = .ok (.iconst 0, 1) := by decide +kernel
theorem dX6_steady_94 : decode cX6_steady 94 = .ok (.ireturn, 1) := by decide +kernel
theorem dX6_layerOf_0 : decode cX6_layerOf 0 = .ok (.iload_n 2, 1) := by decide +kernel
theorem dX6_layerOf_1 : decode cX6_layerOf 1 = .ok (.istore_n 3, 1) := by decide +kernel
theorem dX6_layerOf_2 : decode cX6_layerOf 2 = .ok (.bipush 60, 2) := by decide +kernel
theorem dX6_layerOf_4 : decode cX6_layerOf 4 = .ok (.istore 4, 2) := by decide +kernel
theorem dX6_layerOf_6 : decode cX6_layerOf 6 = .ok (.iload 4, 2) := by decide +kernel
theorem dX6_layerOf_8 : decode cX6_layerOf 8 = .ok (.ifCond .lt 40, 3) := by decide +kernel
theorem dX6_layerOf_11 : decode cX6_layerOf 11 = .ok (.iload_n 2, 1) := by decide +kernel
theorem dX6_layerOf_12 : decode cX6_layerOf 12 = .ok (.ifCond .lt 36, 3) := by decide +kernel
theorem dX6_layerOf_15 : decode cX6_layerOf 15 = .ok (.aload_n 0, 1) := by decide +kernel
theorem dX6_layerOf_16 : decode cX6_layerOf 16 = .ok (.getfield 32, 3) := by decide +kernel
theorem dX6_layerOf_19 : decode cX6_layerOf 19 = .ok (.bipush 61, 2) := by decide +kernel
theorem dX6_layerOf_21 : decode cX6_layerOf 21 = .ok (.iload_n 1, 1) := by decide +kernel
theorem dX6_layerOf_22 : decode cX6_layerOf 22 = .ok (.imul, 1) := by decide +kernel
theorem dX6_layerOf_23 : decode cX6_layerOf 23 = .ok (.iload 4, 2) := by decide +kernel
theorem dX6_layerOf_25 : decode cX6_layerOf 25 = .ok (.iadd, 1) := by decide +kernel
theorem dX6_layerOf_26 : decode cX6_layerOf 26 = .ok (.laload, 1) := by decide +kernel
theorem dX6_layerOf_27 : decode cX6_layerOf 27 = .ok (.lconst 0, 1) := by decide +kernel
theorem dX6_layerOf_28 : decode cX6_layerOf 28 = .ok (.lcmp, 1) := by decide +kernel
theorem dX6_layerOf_29 : decode cX6_layerOf 29 = .ok (.ifCond .le 13, 3) := by decide +kernel
theorem dX6_layerOf_32 : decode cX6_layerOf 32 = .ok (.iload_n 3, 1) := by decide +kernel
theorem dX6_layerOf_33 : decode cX6_layerOf 33 = .ok (.ifCond .ne 6, 3) := by decide +kernel
theorem dX6_layerOf_36 : decode cX6_layerOf 36 = .ok (.iload 4, 2) := by decide +kernel
theorem dX6_layerOf_38 : decode cX6_layerOf 38 = .ok (.ireturn, 1) := by decide +kernel
theorem dX6_layerOf_39 : decode cX6_layerOf 39 = .ok (.iinc 3 (-1), 3) := by decide +kernel
theorem dX6_layerOf_42 : decode cX6_layerOf 42 = .ok (.iinc 4 (-1), 3) := by decide +kernel
theorem dX6_layerOf_45 : decode cX6_layerOf 45 = .ok (.goto (-39), 3) := by decide +kernel
theorem dX6_layerOf_48 : decode cX6_layerOf 48 = .ok (.bipush (-9), 2) := by decide +kernel
theorem dX6_layerOf_50 : decode cX6_layerOf 50 = .ok (.ireturn, 1) := by decide +kernel
theorem dX6_layers_0 : decode cX6_layers 0 = .ok (.iconst 0, 1) := by decide +kernel
theorem dX6_layers_1 : decode cX6_layers 1 = .ok (.istore_n 2, 1) := by decide +kernel
theorem dX6_layers_2 : decode cX6_layers 2 = .ok (.iconst 0, 1) := by decide +kernel
theorem dX6_layers_3 : decode cX6_layers 3 = .ok (.istore_n 3, 1) := by decide +kernel
theorem dX6_layers_4 : decode cX6_layers 4 = .ok (.iload_n 3, 1) := by decide +kernel
theorem dX6_layers_5 : decode cX6_layers 5 = .ok (.bipush 61, 2) := by decide +kernel
theorem dX6_layers_7 : decode cX6_layers 7 = .ok (.if_icmp .ge 33, 3) := by decide +kernel
theorem dX6_layers_10 : decode cX6_layers 10 = .ok (.iload_n 2, 1) := by decide +kernel
theorem dX6_layers_11 : decode cX6_layers 11 = .ok (.aload_n 0, 1) := by decide +kernel
theorem dX6_layers_12 : decode cX6_layers 12 = .ok (.getfield 32, 3) := by decide +kernel
theorem dX6_layers_15 : decode cX6_layers 15 = .ok (.bipush 61, 2) := by decide +kernel
theorem dX6_layers_17 : decode cX6_layers 17 = .ok (.iload_n 1, 1) := by decide +kernel
theorem dX6_layers_18 : decode cX6_layers 18 = .ok (.imul, 1) := by decide +kernel
theorem dX6_layers_19 : decode cX6_layers 19 = .ok (.iload_n 3, 1) := by decide +kernel
theorem dX6_layers_20 : decode cX6_layers 20 = .ok (.iadd, 1) := by decide +kernel
theorem dX6_layers_21 : decode cX6_layers 21 = .ok (.laload, 1) := by decide +kernel
theorem dX6_layers_22 : decode cX6_layers 22 = .ok (.lconst 0, 1) := by decide +kernel
theorem dX6_layers_23 : decode cX6_layers 23 = .ok (.lcmp, 1) := by decide +kernel
theorem dX6_layers_24 : decode cX6_layers 24 = .ok (.ifCond .le 7, 3) := by decide +kernel
theorem dX6_layers_27 : decode cX6_layers 27 = .ok (.iconst 1, 1) := by decide +kernel
theorem dX6_layers_28 : decode cX6_layers 28 = .ok (.goto 4, 3) := by decide +kernel
theorem dX6_layers_31 : decode cX6_layers 31 = .ok (.iconst 0, 1) := by decide +kernel
theorem dX6_layers_32 : decode cX6_layers 32 = .ok (.iadd, 1) := by decide +kernel
theorem dX6_layers_33 : decode cX6_layers 33 = .ok (.istore_n 2, 1) := by decide +kernel
theorem dX6_layers_34 : decode cX6_layers 34 = .ok (.iinc 3 1, 3) := by decide +kernel
theorem dX6_layers_37 : decode cX6_layers 37 = .ok (.goto (-33), 3) := by decide +kernel
theorem dX6_layers_40 : decode cX6_layers 40 = .ok (.iload_n 2, 1) := by decide +kernel
theorem dX6_layers_41 : decode cX6_layers 41 = .ok (.ireturn, 1) := by decide +kernel
theorem dX6_cell_0 : decode cX6_cell 0 = .ok (.aload_n 0, 1) := by decide +kernel
theorem dX6_cell_1 : decode cX6_cell 1 = .ok (.iload_n 1, 1) := by decide +kernel
theorem dX6_cell_2 : decode cX6_cell 2 = .ok (.iload_n 2, 1) := by decide +kernel
theorem dX6_cell_3 : decode cX6_cell 3 = .ok (.invokevirtual 115, 3) := by decide +kernel
theorem dX6_cell_6 : decode cX6_cell 6 = .ok (.ifCond .ne 7, 3) := by decide +kernel
end
section
theorem dX6_cell_9 : decode cX6_cell 9 = .ok (.ldc2_w 95, 3) := by decide +kernel
theorem dX6_cell_12 : decode cX6_cell 12 = .ok (.lreturn, 1) := by decide +kernel
theorem dX6_cell_13 : decode cX6_cell 13 = .ok (.iload_n 3, 1) := by decide +kernel
theorem dX6_cell_14 : decode cX6_cell 14 = .ok (.i2l, 1) := by decide +kernel
theorem dX6_cell_15 : decode cX6_cell 15 = .ok (.lconst 0, 1) := by decide +kernel
theorem dX6_cell_16 : decode cX6_cell 16 = .ok (.ldc2_w 182, 3) := by decide +kernel
theorem dX6_cell_19 : decode cX6_cell 19 = .ok (.invokestatic 77, 3) := by decide +kernel
theorem dX6_cell_22 : decode cX6_cell 22 = .ok (.ifCond .ne 7, 3) := by decide +kernel
theorem dX6_cell_25 : decode cX6_cell 25 = .ok (.ldc2_w 97, 3) := by decide +kernel
theorem dX6_cell_28 : decode cX6_cell 28 = .ok (.lreturn, 1) := by decide +kernel
theorem dX6_cell_29 : decode cX6_cell 29 = .ok (.bipush 8, 2) := by decide +kernel
theorem dX6_cell_31 : decode cX6_cell 31 = .ok (.iload_n 2, 1) := by decide +kernel
theorem dX6_cell_32 : decode cX6_cell 32 = .ok (.imul, 1) := by decide +kernel
theorem dX6_cell_33 : decode cX6_cell 33 = .ok (.iload_n 1, 1) := by decide +kernel
theorem dX6_cell_34 : decode cX6_cell 34 = .ok (.iadd, 1) := by decide +kernel
theorem dX6_cell_35 : decode cX6_cell 35 = .ok (.istore 4, 2) := by decide +kernel
theorem dX6_cell_37 : decode cX6_cell 37 = .ok (.aload_n 0, 1) := by decide +kernel
theorem dX6_cell_38 : decode cX6_cell 38 = .ok (.getfield 23, 3) := by decide +kernel
theorem dX6_cell_41 : decode cX6_cell 41 = .ok (.iload 4, 2) := by decide +kernel
theorem dX6_cell_43 : decode cX6_cell 43 = .ok (.iaload, 1) := by decide +kernel
theorem dX6_cell_44 : decode cX6_cell 44 = .ok (.iconst 4, 1) := by decide +kernel
theorem dX6_cell_45 : decode cX6_cell 45 = .ok (.if_icmp .ne 7, 3) := by decide +kernel
theorem dX6_cell_48 : decode cX6_cell 48 = .ok (.ldc2_w 134, 3) := by decide +kernel
theorem dX6_cell_51 : decode cX6_cell 51 = .ok (.lreturn, 1) := by decide +kernel
theorem dX6_cell_52 : decode cX6_cell 52 = .ok (.iload_n 3, 1) := by decide +kernel
theorem dX6_cell_53 : decode cX6_cell 53 = .ok (.tableswitch 104 0 5 #[39, 48, 55, 71, 79, 88], 39) := by decide +kernel
theorem dX6_cell_92 : decode cX6_cell 92 = .ok (.aload_n 0, 1) := by decide +kernel
theorem dX6_cell_93 : decode cX6_cell 93 = .ok (.getfield 29, 3) := by decide +kernel
theorem dX6_cell_96 : decode cX6_cell 96 = .ok (.iload 4, 2) := by decide +kernel
theorem dX6_cell_98 : decode cX6_cell 98 = .ok (.iaload, 1) := by decide +kernel
theorem dX6_cell_99 : decode cX6_cell 99 = .ok (.i2l, 1) := by decide +kernel
theorem dX6_cell_100 : decode cX6_cell 100 = .ok (.lreturn, 1) := by decide +kernel
theorem dX6_cell_101 : decode cX6_cell 101 = .ok (.aload_n 0, 1) := by decide +kernel
theorem dX6_cell_102 : decode cX6_cell 102 = .ok (.iload 4, 2) := by decide +kernel
theorem dX6_cell_104 : decode cX6_cell 104 = .ok (.invokevirtual 136, 3) := by decide +kernel
theorem dX6_cell_107 : decode cX6_cell 107 = .ok (.lreturn, 1) := by decide +kernel
theorem dX6_cell_108 : decode cX6_cell 108 = .ok (.aload_n 0, 1) := by decide +kernel
theorem dX6_cell_109 : decode cX6_cell 109 = .ok (.getfield 29, 3) := by decide +kernel
theorem dX6_cell_112 : decode cX6_cell 112 = .ok (.iload 4, 2) := by decide +kernel
theorem dX6_cell_114 : decode cX6_cell 114 = .ok (.iaload, 1) := by decide +kernel
theorem dX6_cell_115 : decode cX6_cell 115 = .ok (.i2l, 1) := by decide +kernel
theorem dX6_cell_116 : decode cX6_cell 116 = .ok (.aload_n 0, 1) := by decide +kernel
theorem dX6_cell_117 : decode cX6_cell 117 = .ok (.iload 4, 2) := by decide +kernel
theorem dX6_cell_119 : decode cX6_cell 119 = .ok (.invokevirtual 136, 3) := by decide +kernel
theorem dX6_cell_122 : decode cX6_cell 122 = .ok (.ladd, 1) := by decide +kernel
theorem dX6_cell_123 : decode cX6_cell 123 = .ok (.lreturn, 1) := by decide +kernel
theorem dX6_cell_124 : decode cX6_cell 124 = .ok (.aload_n 0, 1) := by decide +kernel
theorem dX6_cell_125 : decode cX6_cell 125 = .ok (.iload 4, 2) := by decide +kernel
theorem dX6_cell_127 : decode cX6_cell 127 = .ok (.invokevirtual 184, 3) := by decide +kernel
theorem dX6_cell_130 : decode cX6_cell 130 = .ok (.i2l, 1) := by decide +kernel
theorem dX6_cell_131 : decode cX6_cell 131 = .ok (.lreturn, 1) := by decide +kernel
theorem dX6_cell_132 : decode cX6_cell 132 = .ok (.aload_n 0, 1) := by decide +kernel
theorem dX6_cell_133 : decode cX6_cell 133 = .ok (.iload 4, 2) := by decide +kernel
theorem dX6_cell_135 : decode cX6_cell 135 = .ok (.iconst 0, 1) := by decide +kernel
theorem dX6_cell_136 : decode cX6_cell 136 = .ok (.invokevirtual 187, 3) := by decide +kernel
theorem dX6_cell_139 : decode cX6_cell 139 = .ok (.i2l, 1) := by decide +kernel
theorem dX6_cell_140 : decode cX6_cell 140 = .ok (.lreturn, 1) := by decide +kernel
theorem dX6_cell_141 : decode cX6_cell 141 = .ok (.aload_n 0, 1) := by decide +kernel
theorem dX6_cell_142 : decode cX6_cell 142 = .ok (.iload 4, 2) := by decide +kernel
theorem dX6_cell_144 : decode cX6_cell 144 = .ok (.aload_n 0, 1) := by decide +kernel
theorem dX6_cell_145 : decode cX6_cell 145 = .ok (.iload 4, 2) := by decide +kernel
theorem dX6_cell_147 : decode cX6_cell 147 = .ok (.invokevirtual 184, 3) := by decide +kernel
theorem dX6_cell_150 : decode cX6_cell 150 = .ok (.iconst 1, 1) := by decide +kernel
theorem dX6_cell_151 : decode cX6_cell 151 = .ok (.isub, 1) := by decide +kernel
theorem dX6_cell_152 : decode cX6_cell 152 = .ok (.invokevirtual 187, 3) := by decide +kernel
theorem dX6_cell_155 : decode cX6_cell 155 = .ok (.i2l, 1) := by decide +kernel
theorem dX6_cell_156 : decode cX6_cell 156 = .ok (.lreturn, 1) := by decide +kernel
theorem dX6_cell_157 : decode cX6_cell 157 = .ok (.aload_n 0, 1) := by decide +kernel
theorem dX6_cell_158 : decode cX6_cell 158 = .ok (.getfield 29, 3) := by decide +kernel
theorem dX6_cell_161 : decode cX6_cell 161 = .ok (.iload 4, 2) := by decide +kernel
theorem dX6_cell_163 : decode cX6_cell 163 = .ok (.iaload, 1) := by decide +kernel
theorem dX6_cell_164 : decode cX6_cell 164 = .ok (.sipush 1000, 3) := by decide +kernel
theorem dX6_cell_167 : decode cX6_cell 167 = .ok (.idiv, 1) := by decide +kernel
theorem dX6_cell_168 : decode cX6_cell 168 = .ok (.i2l, 1) := by decide +kernel
theorem dX6_cell_169 : decode cX6_cell 169 = .ok (.lreturn, 1) := by decide +kernel
theorem dX6_layer_0 : decode cX6_layer 0 = .ok (.aload_n 0, 1) := by decide +kernel
theorem dX6_layer_1 : decode cX6_layer 1 = .ok (.iload_n 1, 1) := by decide +kernel
theorem dX6_layer_2 : decode cX6_layer 2 = .ok (.iload_n 2, 1) := by decide +kernel
theorem dX6_layer_3 : decode cX6_layer 3 = .ok (.invokevirtual 115, 3) := by decide +kernel
theorem dX6_layer_6 : decode cX6_layer 6 = .ok (.ifCond .ne 7, 3) := by decide +kernel
theorem dX6_layer_9 : decode cX6_layer 9 = .ok (.ldc2_w 95, 3) := by decide +kernel
theorem dX6_layer_12 : decode cX6_layer 12 = .ok (.lreturn, 1) := by decide +kernel
theorem dX6_layer_13 : decode cX6_layer 13 = .ok (.iload 4, 2) := by decide +kernel
theorem dX6_layer_15 : decode cX6_layer 15 = .ok (.i2l, 1) := by decide +kernel
theorem dX6_layer_16 : decode cX6_layer 16 = .ok (.lconst 0, 1) := by decide +kernel
theorem dX6_layer_17 : decode cX6_layer 17 = .ok (.lconst 1, 1) := by decide +kernel
theorem dX6_layer_18 : decode cX6_layer 18 = .ok (.invokestatic 77, 3) := by decide +kernel
theorem dX6_layer_21 : decode cX6_layer 21 = .ok (.ifCond .ne 7, 3) := by decide +kernel
theorem dX6_layer_24 : decode cX6_layer 24 = .ok (.ldc2_w 97, 3) := by decide +kernel
theorem dX6_layer_27 : decode cX6_layer 27 = .ok (.lreturn, 1) := by decide +kernel
theorem dX6_layer_28 : decode cX6_layer 28 = .ok (.bipush 8, 2) := by decide +kernel
theorem dX6_layer_30 : decode cX6_layer 30 = .ok (.iload_n 2, 1) := by decide +kernel
theorem dX6_layer_31 : decode cX6_layer 31 = .ok (.imul, 1) := by decide +kernel
theorem dX6_layer_32 : decode cX6_layer 32 = .ok (.iload_n 1, 1) := by decide +kernel
theorem dX6_layer_33 : decode cX6_layer 33 = .ok (.iadd, 1) := by decide +kernel
theorem dX6_layer_34 : decode cX6_layer 34 = .ok (.istore 5, 2) := by decide +kernel
theorem dX6_layer_36 : decode cX6_layer 36 = .ok (.aload_n 0, 1) := by decide +kernel
theorem dX6_layer_37 : decode cX6_layer 37 = .ok (.getfield 23, 3) := by decide +kernel
theorem dX6_layer_40 : decode cX6_layer 40 = .ok (.iload 5, 2) := by decide +kernel
theorem dX6_layer_42 : decode cX6_layer 42 = .ok (.iaload, 1) := by decide +kernel
theorem dX6_layer_43 : decode cX6_layer 43 = .ok (.iconst 4, 1) := by decide +kernel
theorem dX6_layer_44 : decode cX6_layer 44 = .ok (.if_icmp .ne 7, 3) := by decide +kernel
theorem dX6_layer_47 : decode cX6_layer 47 = .ok (.ldc2_w 134, 3) := by decide +kernel
theorem dX6_layer_50 : decode cX6_layer 50 = .ok (.lreturn, 1) := by decide +kernel
theorem dX6_layer_51 : decode cX6_layer 51 = .ok (.aload_n 0, 1) := by decide +kernel
theorem dX6_layer_52 : decode cX6_layer 52 = .ok (.iload 5, 2) := by decide +kernel
theorem dX6_layer_54 : decode cX6_layer 54 = .ok (.iload_n 3, 1) := by decide +kernel
theorem dX6_layer_55 : decode cX6_layer 55 = .ok (.invokevirtual 187, 3) := by decide +kernel
theorem dX6_layer_58 : decode cX6_layer 58 = .ok (.istore 6, 2) := by decide +kernel
theorem dX6_layer_60 : decode cX6_layer 60 = .ok (.iload 6, 2) := by decide +kernel
theorem dX6_layer_62 : decode cX6_layer 62 = .ok (.bipush (-9), 2) := by decide +kernel
theorem dX6_layer_64 : decode cX6_layer 64 = .ok (.if_icmp .ne 9, 3) := by decide +kernel
theorem dX6_layer_67 : decode cX6_layer 67 = .ok (.ldc2_w 190, 3) := by decide +kernel
theorem dX6_layer_70 : decode cX6_layer 70 = .ok (.goto 27, 3) := by decide +kernel
theorem dX6_layer_73 : decode cX6_layer 73 = .ok (.iload 4, 2) := by decide +kernel
theorem dX6_layer_75 : decode cX6_layer 75 = .ok (.ifCond .ne 9, 3) := by decide +kernel
theorem dX6_layer_78 : decode cX6_layer 78 = .ok (.iload 6, 2) := by decide +kernel
theorem dX6_layer_80 : decode cX6_layer 80 = .ok (.i2l, 1) := by decide +kernel
theorem dX6_layer_81 : decode cX6_layer 81 = .ok (.goto 16, 3) := by decide +kernel
theorem dX6_layer_84 : decode cX6_layer 84 = .ok (.aload_n 0, 1) := by decide +kernel
theorem dX6_layer_85 : decode cX6_layer 85 = .ok (.getfield 32, 3) := by decide +kernel
theorem dX6_layer_88 : decode cX6_layer 88 = .ok (.bipush 61, 2) := by decide +kernel
theorem dX6_layer_90 : decode cX6_layer 90 = .ok (.iload 5, 2) := by decide +kernel
theorem dX6_layer_92 : decode cX6_layer 92 = .ok (.imul, 1) := by decide +kernel
theorem dX6_layer_93 : decode cX6_layer 93 = .ok (.iload 6, 2) := by decide +kernel
theorem dX6_layer_95 : decode cX6_layer 95 = .ok (.iadd, 1) := by decide +kernel
theorem dX6_layer_96 : decode cX6_layer 96 = .ok (.laload, 1) := by decide +kernel
theorem dX6_layer_97 : decode cX6_layer 97 = .ok (.lreturn, 1) := by decide +kernel
theorem dX6_sum_0 : decode cX6_sum 0 = .ok (.iload_n 1, 1) := by decide +kernel
theorem dX6_sum_1 : decode cX6_sum 1 = .ok (.i2l, 1) := by decide +kernel
theorem dX6_sum_2 : decode cX6_sum 2 = .ok (.lconst 0, 1) := by decide +kernel
theorem dX6_sum_3 : decode cX6_sum 3 = .ok (.ldc2_w 123, 3) := by decide +kernel
theorem dX6_sum_6 : decode cX6_sum 6 = .ok (.invokestatic 77, 3) := by decide +kernel
theorem dX6_sum_9 : decode cX6_sum 9 = .ok (.ifCond .eq 21, 3) := by decide +kernel
theorem dX6_sum_12 : decode cX6_sum 12 = .ok (.iload_n 2, 1) := by decide +kernel
theorem dX6_sum_13 : decode cX6_sum 13 = .ok (.bipush (-9), 2) := by decide +kernel
theorem dX6_sum_15 : decode cX6_sum 15 = .ok (.if_icmp .eq 19, 3) := by decide +kernel
theorem dX6_sum_18 : decode cX6_sum 18 = .ok (.iload_n 2, 1) := by decide +kernel
theorem dX6_sum_19 : decode cX6_sum 19 = .ok (.i2l, 1) := by decide +kernel
theorem dX6_sum_20 : decode cX6_sum 20 = .ok (.lconst 0, 1) := by decide +kernel
theorem dX6_sum_21 : decode cX6_sum 21 = .ok (.ldc2_w 170, 3) := by decide +kernel
theorem dX6_sum_24 : decode cX6_sum 24 = .ok (.invokestatic 77, 3) := by decide +kernel
theorem dX6_sum_27 : decode cX6_sum 27 = .ok (.ifCond .ne 7, 3) := by decide +kernel
theorem dX6_sum_30 : decode cX6_sum 30 = .ok (.ldc2_w 97, 3) := by decide +kernel
theorem dX6_sum_33 : decode cX6_sum 33 = .ok (.lreturn, 1) := by decide +kernel
theorem dX6_sum_34 : decode cX6_sum 34 = .ok (.aload_n 0, 1) := by decide +kernel
theorem dX6_sum_35 : decode cX6_sum 35 = .ok (.getfield 99, 3) := by decide +kernel
theorem dX6_sum_38 : decode cX6_sum 38 = .ok (.ifCond .ne 7, 3) := by decide +kernel
theorem dX6_sum_41 : decode cX6_sum 41 = .ok (.ldc2_w 134, 3) := by decide +kernel
theorem dX6_sum_44 : decode cX6_sum 44 = .ok (.lreturn, 1) := by decide +kernel
theorem dX6_sum_45 : decode cX6_sum 45 = .ok (.lconst 0, 1) := by decide +kernel
theorem dX6_sum_46 : decode cX6_sum 46 = .ok (.lstore_n 3, 1) := by decide +kernel
theorem dX6_sum_47 : decode cX6_sum 47 = .ok (.iconst 0, 1) := by decide +kernel
theorem dX6_sum_48 : decode cX6_sum 48 = .ok (.istore 5, 2) := by decide +kernel
theorem dX6_sum_50 : decode cX6_sum 50 = .ok (.iload 5, 2) := by decide +kernel
theorem dX6_sum_52 : decode cX6_sum 52 = .ok (.bipush 61, 2) := by decide +kernel
theorem dX6_sum_54 : decode cX6_sum 54 = .ok (.if_icmp .ge 85, 3) := by decide +kernel
theorem dX6_sum_57 : decode cX6_sum 57 = .ok (.iload_n 2, 1) := by decide +kernel
theorem dX6_sum_58 : decode cX6_sum 58 = .ok (.bipush (-9), 2) := by decide +kernel
theorem dX6_sum_60 : decode cX6_sum 60 = .ok (.if_icmp .eq 9, 3) := by decide +kernel
theorem dX6_sum_63 : decode cX6_sum 63 = .ok (.iload 5, 2) := by decide +kernel
theorem dX6_sum_65 : decode cX6_sum 65 = .ok (.iload_n 2, 1) := by decide +kernel
theorem dX6_sum_66 : decode cX6_sum 66 = .ok (.if_icmp .ne 67, 3) := by decide +kernel
theorem dX6_sum_69 : decode cX6_sum 69 = .ok (.lload_n 3, 1) := by decide +kernel
theorem dX6_sum_70 : decode cX6_sum 70 = .ok (.aload_n 0, 1) := by decide +kernel
theorem dX6_sum_71 : decode cX6_sum 71 = .ok (.getfield 35, 3) := by decide +kernel
theorem dX6_sum_74 : decode cX6_sum 74 = .ok (.bipush 61, 2) := by decide +kernel
theorem dX6_sum_76 : decode cX6_sum 76 = .ok (.iload_n 1, 1) := by decide +kernel
theorem dX6_sum_77 : decode cX6_sum 77 = .ok (.imul, 1) := by decide +kernel
theorem dX6_sum_78 : decode cX6_sum 78 = .ok (.iload 5, 2) := by decide +kernel
theorem dX6_sum_80 : decode cX6_sum 80 = .ok (.iadd, 1) := by decide +kernel
theorem dX6_sum_81 : decode cX6_sum 81 = .ok (.laload, 1) := by decide +kernel
theorem dX6_sum_82 : decode cX6_sum 82 = .ok (.ladd, 1) := by decide +kernel
theorem dX6_sum_83 : decode cX6_sum 83 = .ok (.lstore_n 3, 1) := by decide +kernel
theorem dX6_sum_84 : decode cX6_sum 84 = .ok (.iconst 0, 1) := by decide +kernel
theorem dX6_sum_85 : decode cX6_sum 85 = .ok (.istore 6, 2) := by decide +kernel
theorem dX6_sum_87 : decode cX6_sum 87 = .ok (.iload 6, 2) := by decide +kernel
theorem dX6_sum_89 : decode cX6_sum 89 = .ok (.bipush 64, 2) := by decide +kernel
theorem dX6_sum_91 : decode cX6_sum 91 = .ok (.if_icmp .ge 42, 3) := by decide +kernel
theorem dX6_sum_94 : decode cX6_sum 94 = .ok (.iload_n 1, 1) := by decide +kernel
theorem dX6_sum_95 : decode cX6_sum 95 = .ok (.ifCond .ne 38, 3) := by decide +kernel
theorem dX6_sum_98 : decode cX6_sum 98 = .ok (.lload_n 3, 1) := by decide +kernel
theorem dX6_sum_99 : decode cX6_sum 99 = .ok (.aload_n 0, 1) := by decide +kernel
theorem dX6_sum_100 : decode cX6_sum 100 = .ok (.iload 6, 2) := by decide +kernel
theorem dX6_sum_102 : decode cX6_sum 102 = .ok (.invokevirtual 151, 3) := by decide +kernel
theorem dX6_sum_105 : decode cX6_sum 105 = .ok (.ifCond .eq 19, 3) := by decide +kernel
theorem dX6_sum_108 : decode cX6_sum 108 = .ok (.aload_n 0, 1) := by decide +kernel
theorem dX6_sum_109 : decode cX6_sum 109 = .ok (.getfield 32, 3) := by decide +kernel
theorem dX6_sum_112 : decode cX6_sum 112 = .ok (.bipush 61, 2) := by decide +kernel
theorem dX6_sum_114 : decode cX6_sum 114 = .ok (.iload 6, 2) := by decide +kernel
theorem dX6_sum_116 : decode cX6_sum 116 = .ok (.imul, 1) := by decide +kernel
theorem dX6_sum_117 : decode cX6_sum 117 = .ok (.iload 5, 2) := by decide +kernel
theorem dX6_sum_119 : decode cX6_sum 119 = .ok (.iadd, 1) := by decide +kernel
theorem dX6_sum_120 : decode cX6_sum 120 = .ok (.laload, 1) := by decide +kernel
theorem dX6_sum_121 : decode cX6_sum 121 = .ok (.goto 4, 3) := by decide +kernel
theorem dX6_sum_124 : decode cX6_sum 124 = .ok (.lconst 0, 1) := by decide +kernel
theorem dX6_sum_125 : decode cX6_sum 125 = .ok (.ladd, 1) := by decide +kernel
theorem dX6_sum_126 : decode cX6_sum 126 = .ok (.lstore_n 3, 1) := by decide +kernel
theorem dX6_sum_127 : decode cX6_sum 127 = .ok (.iinc 6 1, 3) := by decide +kernel
theorem dX6_sum_130 : decode cX6_sum 130 = .ok (.goto (-43), 3) := by decide +kernel
theorem dX6_sum_133 : decode cX6_sum 133 = .ok (.iinc 5 1, 3) := by decide +kernel
theorem dX6_sum_136 : decode cX6_sum 136 = .ok (.goto (-86), 3) := by decide +kernel
theorem dX6_sum_139 : decode cX6_sum 139 = .ok (.lload_n 3, 1) := by decide +kernel
theorem dX6_sum_140 : decode cX6_sum 140 = .ok (.lreturn, 1) := by decide +kernel
theorem dX6_about_0 : decode cX6_about 0 = .ok (.iload_n 1, 1) := by decide +kernel
theorem dX6_about_1 : decode cX6_about 1 = .ok (.i2l, 1) := by decide +kernel
theorem dX6_about_2 : decode cX6_about 2 = .ok (.lconst 0, 1) := by decide +kernel
theorem dX6_about_3 : decode cX6_about 3 = .ok (.ldc2_w 123, 3) := by decide +kernel
theorem dX6_about_6 : decode cX6_about 6 = .ok (.invokestatic 77, 3) := by decide +kernel
theorem dX6_about_9 : decode cX6_about 9 = .ok (.ifCond .ne 7, 3) := by decide +kernel
theorem dX6_about_12 : decode cX6_about 12 = .ok (.ldc2_w 97, 3) := by decide +kernel
theorem dX6_about_15 : decode cX6_about 15 = .ok (.lreturn, 1) := by decide +kernel
theorem dX6_about_16 : decode cX6_about 16 = .ok (.aload_n 0, 1) := by decide +kernel
theorem dX6_about_17 : decode cX6_about 17 = .ok (.getfield 99, 3) := by decide +kernel
theorem dX6_about_20 : decode cX6_about 20 = .ok (.ifCond .ne 7, 3) := by decide +kernel
theorem dX6_about_23 : decode cX6_about 23 = .ok (.ldc2_w 134, 3) := by decide +kernel
theorem dX6_about_26 : decode cX6_about 26 = .ok (.lreturn, 1) := by decide +kernel
theorem dX6_about_27 : decode cX6_about 27 = .ok (.iconst 0, 1) := by decide +kernel
theorem dX6_about_28 : decode cX6_about 28 = .ok (.istore_n 2, 1) := by decide +kernel
theorem dX6_about_29 : decode cX6_about 29 = .ok (.lconst 0, 1) := by decide +kernel
theorem dX6_about_30 : decode cX6_about 30 = .ok (.lstore_n 3, 1) := by decide +kernel
theorem dX6_about_31 : decode cX6_about 31 = .ok (.bipush (-9), 2) := by decide +kernel
theorem dX6_about_33 : decode cX6_about 33 = .ok (.istore 5, 2) := by decide +kernel
theorem dX6_about_35 : decode cX6_about 35 = .ok (.ldc2_w 190, 3) := by decide +kernel
theorem dX6_about_38 : decode cX6_about 38 = .ok (.lstore 6, 2) := by decide +kernel
theorem dX6_about_40 : decode cX6_about 40 = .ok (.bipush (-9), 2) := by decide +kernel
theorem dX6_about_42 : decode cX6_about 42 = .ok (.istore 8, 2) := by decide +kernel
theorem dX6_about_44 : decode cX6_about 44 = .ok (.iconst 0, 1) := by decide +kernel
theorem dX6_about_45 : decode cX6_about 45 = .ok (.istore 9, 2) := by decide +kernel
theorem dX6_about_47 : decode cX6_about 47 = .ok (.iload 9, 2) := by decide +kernel
theorem dX6_about_49 : decode cX6_about 49 = .ok (.bipush 64, 2) := by decide +kernel
theorem dX6_about_51 : decode cX6_about 51 = .ok (.if_icmp .ge 153, 3) := by decide +kernel
theorem dX6_about_54 : decode cX6_about 54 = .ok (.aload_n 0, 1) := by decide +kernel
theorem dX6_about_55 : decode cX6_about 55 = .ok (.iload 9, 2) := by decide +kernel
theorem dX6_about_57 : decode cX6_about 57 = .ok (.invokevirtual 151, 3) := by decide +kernel
theorem dX6_about_60 : decode cX6_about 60 = .ok (.ifCond .eq 12, 3) := by decide +kernel
theorem dX6_about_63 : decode cX6_about 63 = .ok (.aload_n 0, 1) := by decide +kernel
theorem dX6_about_64 : decode cX6_about 64 = .ok (.iload 9, 2) := by decide +kernel
theorem dX6_about_66 : decode cX6_about 66 = .ok (.invokevirtual 136, 3) := by decide +kernel
theorem dX6_about_69 : decode cX6_about 69 = .ok (.goto 4, 3) := by decide +kernel
theorem dX6_about_72 : decode cX6_about 72 = .ok (.lconst 0, 1) := by decide +kernel
theorem dX6_about_73 : decode cX6_about 73 = .ok (.lstore 10, 2) := by decide +kernel
theorem dX6_about_75 : decode cX6_about 75 = .ok (.lload 10, 2) := by decide +kernel
theorem dX6_about_77 : decode cX6_about 77 = .ok (.lconst 0, 1) := by decide +kernel
theorem dX6_about_78 : decode cX6_about 78 = .ok (.lcmp, 1) := by decide +kernel
theorem dX6_about_79 : decode cX6_about 79 = .ok (.ifCond .le 119, 3) := by decide +kernel
theorem dX6_about_82 : decode cX6_about 82 = .ok (.iinc 2 1, 3) := by decide +kernel
theorem dX6_about_85 : decode cX6_about 85 = .ok (.lload 10, 2) := by decide +kernel
theorem dX6_about_87 : decode cX6_about 87 = .ok (.lload_n 3, 1) := by decide +kernel
theorem dX6_about_88 : decode cX6_about 88 = .ok (.lcmp, 1) := by decide +kernel
theorem dX6_about_89 : decode cX6_about 89 = .ok (.ifCond .le 8, 3) := by decide +kernel
theorem dX6_about_92 : decode cX6_about 92 = .ok (.iload 9, 2) := by decide +kernel
theorem dX6_about_94 : decode cX6_about 94 = .ok (.goto 5, 3) := by decide +kernel
theorem dX6_about_97 : decode cX6_about 97 = .ok (.iload 5, 2) := by decide +kernel
theorem dX6_about_99 : decode cX6_about 99 = .ok (.istore 5, 2) := by decide +kernel
theorem dX6_about_101 : decode cX6_about 101 = .ok (.lload 10, 2) := by decide +kernel
theorem dX6_about_103 : decode cX6_about 103 = .ok (.lload_n 3, 1) := by decide +kernel
theorem dX6_about_104 : decode cX6_about 104 = .ok (.lcmp, 1) := by decide +kernel
theorem dX6_about_105 : decode cX6_about 105 = .ok (.ifCond .le 8, 3) := by decide +kernel
theorem dX6_about_108 : decode cX6_about 108 = .ok (.lload 10, 2) := by decide +kernel
theorem dX6_about_110 : decode cX6_about 110 = .ok (.goto 4, 3) := by decide +kernel
theorem dX6_about_113 : decode cX6_about 113 = .ok (.lload_n 3, 1) := by decide +kernel
theorem dX6_about_114 : decode cX6_about 114 = .ok (.lstore_n 3, 1) := by decide +kernel
theorem dX6_about_115 : decode cX6_about 115 = .ok (.lload 6, 2) := by decide +kernel
theorem dX6_about_117 : decode cX6_about 117 = .ok (.ldc2_w 190, 3) := by decide +kernel
theorem dX6_about_120 : decode cX6_about 120 = .ok (.lcmp, 1) := by decide +kernel
theorem dX6_about_121 : decode cX6_about 121 = .ok (.ifCond .eq 20, 3) := by decide +kernel
theorem dX6_about_124 : decode cX6_about 124 = .ok (.aload_n 0, 1) := by decide +kernel
theorem dX6_about_125 : decode cX6_about 125 = .ok (.getfield 29, 3) := by decide +kernel
theorem dX6_about_128 : decode cX6_about 128 = .ok (.iload 9, 2) := by decide +kernel
theorem dX6_about_130 : decode cX6_about 130 = .ok (.iaload, 1) := by decide +kernel
theorem dX6_about_131 : decode cX6_about 131 = .ok (.i2l, 1) := by decide +kernel
theorem dX6_about_132 : decode cX6_about 132 = .ok (.lload 10, 2) := by decide +kernel
theorem dX6_about_134 : decode cX6_about 134 = .ok (.ladd, 1) := by decide +kernel
theorem dX6_about_135 : decode cX6_about 135 = .ok (.lload 6, 2) := by decide +kernel
theorem dX6_about_137 : decode cX6_about 137 = .ok (.lcmp, 1) := by decide +kernel
theorem dX6_about_138 : decode cX6_about 138 = .ok (.ifCond .ge 17, 3) := by decide +kernel
theorem dX6_about_141 : decode cX6_about 141 = .ok (.aload_n 0, 1) := by decide +kernel
theorem dX6_about_142 : decode cX6_about 142 = .ok (.getfield 29, 3) := by decide +kernel
theorem dX6_about_145 : decode cX6_about 145 = .ok (.iload 9, 2) := by decide +kernel
theorem dX6_about_147 : decode cX6_about 147 = .ok (.iaload, 1) := by decide +kernel
theorem dX6_about_148 : decode cX6_about 148 = .ok (.i2l, 1) := by decide +kernel
theorem dX6_about_149 : decode cX6_about 149 = .ok (.lload 10, 2) := by decide +kernel
theorem dX6_about_151 : decode cX6_about 151 = .ok (.ladd, 1) := by decide +kernel
theorem dX6_about_152 : decode cX6_about 152 = .ok (.goto 5, 3) := by decide +kernel
theorem dX6_about_155 : decode cX6_about 155 = .ok (.lload 6, 2) := by decide +kernel
theorem dX6_about_157 : decode cX6_about 157 = .ok (.lstore 6, 2) := by decide +kernel
theorem dX6_about_159 : decode cX6_about 159 = .ok (.aload_n 0, 1) := by decide +kernel
theorem dX6_about_160 : decode cX6_about 160 = .ok (.iload 9, 2) := by decide +kernel
theorem dX6_about_162 : decode cX6_about 162 = .ok (.aload_n 0, 1) := by decide +kernel
theorem dX6_about_163 : decode cX6_about 163 = .ok (.iload 9, 2) := by decide +kernel
theorem dX6_about_165 : decode cX6_about 165 = .ok (.invokevirtual 184, 3) := by decide +kernel
theorem dX6_about_168 : decode cX6_about 168 = .ok (.iconst 1, 1) := by decide +kernel
theorem dX6_about_169 : decode cX6_about 169 = .ok (.isub, 1) := by decide +kernel
theorem dX6_about_170 : decode cX6_about 170 = .ok (.invokevirtual 187, 3) := by decide +kernel
theorem dX6_about_173 : decode cX6_about 173 = .ok (.istore 12, 2) := by decide +kernel
theorem dX6_about_175 : decode cX6_about 175 = .ok (.iload 8, 2) := by decide +kernel
theorem dX6_about_177 : decode cX6_about 177 = .ok (.bipush (-9), 2) := by decide +kernel
theorem dX6_about_179 : decode cX6_about 179 = .ok (.if_icmp .eq 10, 3) := by decide +kernel
theorem dX6_about_182 : decode cX6_about 182 = .ok (.iload 12, 2) := by decide +kernel
theorem dX6_about_184 : decode cX6_about 184 = .ok (.iload 8, 2) := by decide +kernel
theorem dX6_about_186 : decode cX6_about 186 = .ok (.if_icmp .ge 8, 3) := by decide +kernel
theorem dX6_about_189 : decode cX6_about 189 = .ok (.iload 12, 2) := by decide +kernel
theorem dX6_about_191 : decode cX6_about 191 = .ok (.goto 5, 3) := by decide +kernel
theorem dX6_about_194 : decode cX6_about 194 = .ok (.iload 8, 2) := by decide +kernel
theorem dX6_about_196 : decode cX6_about 196 = .ok (.istore 8, 2) := by decide +kernel
theorem dX6_about_198 : decode cX6_about 198 = .ok (.iinc 9 1, 3) := by decide +kernel
theorem dX6_about_201 : decode cX6_about 201 = .ok (.goto (-154), 3) := by decide +kernel
theorem dX6_about_204 : decode cX6_about 204 = .ok (.iload_n 1, 1) := by decide +kernel
theorem dX6_about_205 : decode cX6_about 205 = .ok (.ifCond .ne 8, 3) := by decide +kernel
theorem dX6_about_208 : decode cX6_about 208 = .ok (.iload_n 2, 1) := by decide +kernel
theorem dX6_about_209 : decode cX6_about 209 = .ok (.i2l, 1) := by decide +kernel
theorem dX6_about_210 : decode cX6_about 210 = .ok (.goto 36, 3) := by decide +kernel
theorem dX6_about_213 : decode cX6_about 213 = .ok (.iload_n 1, 1) := by decide +kernel
theorem dX6_about_214 : decode cX6_about 214 = .ok (.iconst 1, 1) := by decide +kernel
theorem dX6_about_215 : decode cX6_about 215 = .ok (.if_icmp .ne 7, 3) := by decide +kernel
theorem dX6_about_218 : decode cX6_about 218 = .ok (.lload_n 3, 1) := by decide +kernel
theorem dX6_about_219 : decode cX6_about 219 = .ok (.goto 27, 3) := by decide +kernel
theorem dX6_about_222 : decode cX6_about 222 = .ok (.iload_n 1, 1) := by decide +kernel
theorem dX6_about_223 : decode cX6_about 223 = .ok (.iconst 2, 1) := by decide +kernel
theorem dX6_about_224 : decode cX6_about 224 = .ok (.if_icmp .ne 8, 3) := by decide +kernel
theorem dX6_about_227 : decode cX6_about 227 = .ok (.lload 6, 2) := by decide +kernel
theorem dX6_about_229 : decode cX6_about 229 = .ok (.goto 17, 3) := by decide +kernel
theorem dX6_about_232 : decode cX6_about 232 = .ok (.iload_n 1, 1) := by decide +kernel
theorem dX6_about_233 : decode cX6_about 233 = .ok (.iconst 3, 1) := by decide +kernel
theorem dX6_about_234 : decode cX6_about 234 = .ok (.if_icmp .ne 9, 3) := by decide +kernel
theorem dX6_about_237 : decode cX6_about 237 = .ok (.iload 8, 2) := by decide +kernel
theorem dX6_about_239 : decode cX6_about 239 = .ok (.i2l, 1) := by decide +kernel
theorem dX6_about_240 : decode cX6_about 240 = .ok (.goto 6, 3) := by decide +kernel
theorem dX6_about_243 : decode cX6_about 243 = .ok (.iload 5, 2) := by decide +kernel
theorem dX6_about_245 : decode cX6_about 245 = .ok (.i2l, 1) := by decide +kernel
theorem dX6_about_246 : decode cX6_about 246 = .ok (.lreturn, 1) := by decide +kernel
theorem dX6_gives_0 : decode cX6_gives 0 = .ok (.aload_n 0, 1) := by decide +kernel
theorem dX6_gives_1 : decode cX6_gives 1 = .ok (.iload_n 1, 1) := by decide +kernel
theorem dX6_gives_2 : decode cX6_gives 2 = .ok (.iload_n 2, 1) := by decide +kernel
theorem dX6_gives_3 : decode cX6_gives 3 = .ok (.invokevirtual 115, 3) := by decide +kernel
theorem dX6_gives_6 : decode cX6_gives 6 = .ok (.ifCond .ne 7, 3) := by decide +kernel
theorem dX6_gives_9 : decode cX6_gives 9 = .ok (.ldc2_w 95, 3) := by decide +kernel
theorem dX6_gives_12 : decode cX6_gives 12 = .ok (.lreturn, 1) := by decide +kernel
theorem dX6_gives_13 : decode cX6_gives 13 = .ok (.iload_n 3, 1) := by decide +kernel
theorem dX6_gives_14 : decode cX6_gives 14 = .ok (.i2l, 1) := by decide +kernel
theorem dX6_gives_15 : decode cX6_gives 15 = .ok (.lconst 0, 1) := by decide +kernel
theorem dX6_gives_16 : decode cX6_gives 16 = .ok (.ldc2_w 119, 3) := by decide +kernel
theorem dX6_gives_19 : decode cX6_gives 19 = .ok (.invokestatic 77, 3) := by decide +kernel
theorem dX6_gives_22 : decode cX6_gives 22 = .ok (.ifCond .ne 7, 3) := by decide +kernel
theorem dX6_gives_25 : decode cX6_gives 25 = .ok (.ldc2_w 97, 3) := by decide +kernel
theorem dX6_gives_28 : decode cX6_gives 28 = .ok (.lreturn, 1) := by decide +kernel
theorem dX6_gives_29 : decode cX6_gives 29 = .ok (.aload_n 0, 1) := by decide +kernel
theorem dX6_gives_30 : decode cX6_gives 30 = .ok (.getfield 23, 3) := by decide +kernel
theorem dX6_gives_33 : decode cX6_gives 33 = .ok (.bipush 8, 2) := by decide +kernel
theorem dX6_gives_35 : decode cX6_gives 35 = .ok (.iload_n 2, 1) := by decide +kernel
theorem dX6_gives_36 : decode cX6_gives 36 = .ok (.imul, 1) := by decide +kernel
theorem dX6_gives_37 : decode cX6_gives 37 = .ok (.iload_n 1, 1) := by decide +kernel
theorem dX6_gives_38 : decode cX6_gives 38 = .ok (.iadd, 1) := by decide +kernel
theorem dX6_gives_39 : decode cX6_gives 39 = .ok (.iaload, 1) := by decide +kernel
theorem dX6_gives_40 : decode cX6_gives 40 = .ok (.iconst 4, 1) := by decide +kernel
theorem dX6_gives_41 : decode cX6_gives 41 = .ok (.if_icmp .ne 9, 3) := by decide +kernel
theorem dX6_gives_44 : decode cX6_gives 44 = .ok (.ldc2_w 134, 3) := by decide +kernel
theorem dX6_gives_47 : decode cX6_gives 47 = .ok (.goto 14, 3) := by decide +kernel
theorem dX6_gives_50 : decode cX6_gives 50 = .ok (.aload_n 0, 1) := by decide +kernel
theorem dX6_gives_51 : decode cX6_gives 51 = .ok (.bipush 8, 2) := by decide +kernel
theorem dX6_gives_53 : decode cX6_gives 53 = .ok (.iload_n 2, 1) := by decide +kernel
theorem dX6_gives_54 : decode cX6_gives 54 = .ok (.imul, 1) := by decide +kernel
theorem dX6_gives_55 : decode cX6_gives 55 = .ok (.iload_n 1, 1) := by decide +kernel
theorem dX6_gives_56 : decode cX6_gives 56 = .ok (.iadd, 1) := by decide +kernel
theorem dX6_gives_57 : decode cX6_gives 57 = .ok (.iload_n 3, 1) := by decide +kernel
theorem dX6_gives_58 : decode cX6_gives 58 = .ok (.invokevirtual 154, 3) := by decide +kernel
theorem dX6_gives_61 : decode cX6_gives 61 = .ok (.lreturn, 1) := by decide +kernel
theorem dX6_turn_0 : decode cX6_turn 0 = .ok (.iload_n 1, 1) := by decide +kernel
theorem dX6_turn_1 : decode cX6_turn 1 = .ok (.i2l, 1) := by decide +kernel
theorem dX6_turn_2 : decode cX6_turn 2 = .ok (.lconst 0, 1) := by decide +kernel
theorem dX6_turn_3 : decode cX6_turn 3 = .ok (.lconst 1, 1) := by decide +kernel
theorem dX6_turn_4 : decode cX6_turn 4 = .ok (.invokestatic 77, 3) := by decide +kernel
theorem dX6_turn_7 : decode cX6_turn 7 = .ok (.ifCond .ne 6, 3) := by decide +kernel
theorem dX6_turn_10 : decode cX6_turn 10 = .ok (.bipush (-2), 2) := by decide +kernel
theorem dX6_turn_12 : decode cX6_turn 12 = .ok (.ireturn, 1) := by decide +kernel
theorem dX6_turn_13 : decode cX6_turn 13 = .ok (.aload_n 0, 1) := by decide +kernel
theorem dX6_turn_14 : decode cX6_turn 14 = .ok (.getfield 99, 3) := by decide +kernel
theorem dX6_turn_17 : decode cX6_turn 17 = .ok (.ifCond .ne 6, 3) := by decide +kernel
theorem dX6_turn_20 : decode cX6_turn 20 = .ok (.bipush (-3), 2) := by decide +kernel
theorem dX6_turn_22 : decode cX6_turn 22 = .ok (.ireturn, 1) := by decide +kernel
theorem dX6_turn_23 : decode cX6_turn 23 = .ok (.iconst 0, 1) := by decide +kernel
theorem dX6_turn_24 : decode cX6_turn 24 = .ok (.istore_n 2, 1) := by decide +kernel
theorem dX6_turn_25 : decode cX6_turn 25 = .ok (.iload_n 2, 1) := by decide +kernel
theorem dX6_turn_26 : decode cX6_turn 26 = .ok (.bipush 64, 2) := by decide +kernel
theorem dX6_turn_28 : decode cX6_turn 28 = .ok (.if_icmp .ge 45, 3) := by decide +kernel
theorem dX6_turn_31 : decode cX6_turn 31 = .ok (.aload_n 0, 1) := by decide +kernel
theorem dX6_turn_32 : decode cX6_turn 32 = .ok (.getfield 63, 3) := by decide +kernel
theorem dX6_turn_35 : decode cX6_turn 35 = .ok (.iload_n 2, 1) := by decide +kernel
theorem dX6_turn_36 : decode cX6_turn 36 = .ok (.aload_n 0, 1) := by decide +kernel
theorem dX6_turn_37 : decode cX6_turn 37 = .ok (.getfield 23, 3) := by decide +kernel
theorem dX6_turn_40 : decode cX6_turn 40 = .ok (.iload_n 2, 1) := by decide +kernel
theorem dX6_turn_41 : decode cX6_turn 41 = .ok (.iaload, 1) := by decide +kernel
theorem dX6_turn_42 : decode cX6_turn 42 = .ok (.iastore, 1) := by decide +kernel
theorem dX6_turn_43 : decode cX6_turn 43 = .ok (.aload_n 0, 1) := by decide +kernel
theorem dX6_turn_44 : decode cX6_turn 44 = .ok (.getfield 66, 3) := by decide +kernel
theorem dX6_turn_47 : decode cX6_turn 47 = .ok (.iload_n 2, 1) := by decide +kernel
theorem dX6_turn_48 : decode cX6_turn 48 = .ok (.aload_n 0, 1) := by decide +kernel
theorem dX6_turn_49 : decode cX6_turn 49 = .ok (.getfield 26, 3) := by decide +kernel
theorem dX6_turn_52 : decode cX6_turn 52 = .ok (.iload_n 2, 1) := by decide +kernel
theorem dX6_turn_53 : decode cX6_turn 53 = .ok (.iaload, 1) := by decide +kernel
theorem dX6_turn_54 : decode cX6_turn 54 = .ok (.iastore, 1) := by decide +kernel
theorem dX6_turn_55 : decode cX6_turn 55 = .ok (.aload_n 0, 1) := by decide +kernel
theorem dX6_turn_56 : decode cX6_turn 56 = .ok (.getfield 69, 3) := by decide +kernel
theorem dX6_turn_59 : decode cX6_turn 59 = .ok (.iload_n 2, 1) := by decide +kernel
theorem dX6_turn_60 : decode cX6_turn 60 = .ok (.aload_n 0, 1) := by decide +kernel
theorem dX6_turn_61 : decode cX6_turn 61 = .ok (.getfield 29, 3) := by decide +kernel
theorem dX6_turn_64 : decode cX6_turn 64 = .ok (.iload_n 2, 1) := by decide +kernel
theorem dX6_turn_65 : decode cX6_turn 65 = .ok (.iaload, 1) := by decide +kernel
theorem dX6_turn_66 : decode cX6_turn 66 = .ok (.iastore, 1) := by decide +kernel
theorem dX6_turn_67 : decode cX6_turn 67 = .ok (.iinc 2 1, 3) := by decide +kernel
theorem dX6_turn_70 : decode cX6_turn 70 = .ok (.goto (-45), 3) := by decide +kernel
theorem dX6_turn_73 : decode cX6_turn 73 = .ok (.iconst 0, 1) := by decide +kernel
theorem dX6_turn_74 : decode cX6_turn 74 = .ok (.istore_n 2, 1) := by decide +kernel
theorem dX6_turn_75 : decode cX6_turn 75 = .ok (.iload_n 2, 1) := by decide +kernel
theorem dX6_turn_76 : decode cX6_turn 76 = .ok (.sipush 3904, 3) := by decide +kernel
theorem dX6_turn_79 : decode cX6_turn 79 = .ok (.if_icmp .ge 28, 3) := by decide +kernel
theorem dX6_turn_82 : decode cX6_turn 82 = .ok (.aload_n 0, 1) := by decide +kernel
theorem dX6_turn_83 : decode cX6_turn 83 = .ok (.getfield 57, 3) := by decide +kernel
theorem dX6_turn_86 : decode cX6_turn 86 = .ok (.iload_n 2, 1) := by decide +kernel
theorem dX6_turn_87 : decode cX6_turn 87 = .ok (.aload_n 0, 1) := by decide +kernel
theorem dX6_turn_88 : decode cX6_turn 88 = .ok (.getfield 32, 3) := by decide +kernel
theorem dX6_turn_91 : decode cX6_turn 91 = .ok (.iload_n 2, 1) := by decide +kernel
theorem dX6_turn_92 : decode cX6_turn 92 = .ok (.laload, 1) := by decide +kernel
theorem dX6_turn_93 : decode cX6_turn 93 = .ok (.lastore, 1) := by decide +kernel
theorem dX6_turn_94 : decode cX6_turn 94 = .ok (.aload_n 0, 1) := by decide +kernel
theorem dX6_turn_95 : decode cX6_turn 95 = .ok (.getfield 32, 3) := by decide +kernel
theorem dX6_turn_98 : decode cX6_turn 98 = .ok (.iload_n 2, 1) := by decide +kernel
theorem dX6_turn_99 : decode cX6_turn 99 = .ok (.lconst 0, 1) := by decide +kernel
theorem dX6_turn_100 : decode cX6_turn 100 = .ok (.lastore, 1) := by decide +kernel
theorem dX6_turn_101 : decode cX6_turn 101 = .ok (.iinc 2 1, 3) := by decide +kernel
theorem dX6_turn_104 : decode cX6_turn 104 = .ok (.goto (-29), 3) := by decide +kernel
theorem dX6_turn_107 : decode cX6_turn 107 = .ok (.aload_n 0, 1) := by decide +kernel
theorem dX6_turn_108 : decode cX6_turn 108 = .ok (.getfield 99, 3) := by decide +kernel
theorem dX6_turn_111 : decode cX6_turn 111 = .ok (.istore_n 2, 1) := by decide +kernel
theorem dX6_turn_112 : decode cX6_turn 112 = .ok (.aload_n 0, 1) := by decide +kernel
theorem dX6_turn_113 : decode cX6_turn 113 = .ok (.getfield 102, 3) := by decide +kernel
theorem dX6_turn_116 : decode cX6_turn 116 = .ok (.istore_n 3, 1) := by decide +kernel
theorem dX6_turn_117 : decode cX6_turn 117 = .ok (.aload_n 0, 1) := by decide +kernel
theorem dX6_turn_118 : decode cX6_turn 118 = .ok (.iload_n 1, 1) := by decide +kernel
theorem dX6_turn_119 : decode cX6_turn 119 = .ok (.ifCond .ne 7, 3) := by decide +kernel
theorem dX6_turn_122 : decode cX6_turn 122 = .ok (.iload_n 2, 1) := by decide +kernel
theorem dX6_turn_123 : decode cX6_turn 123 = .ok (.goto 4, 3) := by decide +kernel
theorem dX6_turn_126 : decode cX6_turn 126 = .ok (.iload_n 3, 1) := by decide +kernel
theorem dX6_turn_127 : decode cX6_turn 127 = .ok (.putfield 99, 3) := by decide +kernel
theorem dX6_turn_130 : decode cX6_turn 130 = .ok (.aload_n 0, 1) := by decide +kernel
theorem dX6_turn_131 : decode cX6_turn 131 = .ok (.iload_n 1, 1) := by decide +kernel
theorem dX6_turn_132 : decode cX6_turn 132 = .ok (.ifCond .ne 7, 3) := by decide +kernel
theorem dX6_turn_135 : decode cX6_turn 135 = .ok (.iload_n 3, 1) := by decide +kernel
theorem dX6_turn_136 : decode cX6_turn 136 = .ok (.goto 4, 3) := by decide +kernel
theorem dX6_turn_139 : decode cX6_turn 139 = .ok (.iload_n 2, 1) := by decide +kernel
theorem dX6_turn_140 : decode cX6_turn 140 = .ok (.putfield 102, 3) := by decide +kernel
theorem dX6_turn_143 : decode cX6_turn 143 = .ok (.iconst 0, 1) := by decide +kernel
theorem dX6_turn_144 : decode cX6_turn 144 = .ok (.istore 4, 2) := by decide +kernel
theorem dX6_turn_146 : decode cX6_turn 146 = .ok (.iload 4, 2) := by decide +kernel
theorem dX6_turn_148 : decode cX6_turn 148 = .ok (.iload_n 3, 1) := by decide +kernel
theorem dX6_turn_149 : decode cX6_turn 149 = .ok (.if_icmp .ge 151, 3) := by decide +kernel
theorem dX6_turn_152 : decode cX6_turn 152 = .ok (.iconst 0, 1) := by decide +kernel
theorem dX6_turn_153 : decode cX6_turn 153 = .ok (.istore 5, 2) := by decide +kernel
theorem dX6_turn_155 : decode cX6_turn 155 = .ok (.iload 5, 2) := by decide +kernel
theorem dX6_turn_157 : decode cX6_turn 157 = .ok (.iload_n 2, 1) := by decide +kernel
theorem dX6_turn_158 : decode cX6_turn 158 = .ok (.if_icmp .ge 136, 3) := by decide +kernel
theorem dX6_turn_161 : decode cX6_turn 161 = .ok (.bipush 8, 2) := by decide +kernel
theorem dX6_turn_163 : decode cX6_turn 163 = .ok (.iload 4, 2) := by decide +kernel
theorem dX6_turn_165 : decode cX6_turn 165 = .ok (.imul, 1) := by decide +kernel
theorem dX6_turn_166 : decode cX6_turn 166 = .ok (.iload 5, 2) := by decide +kernel
theorem dX6_turn_168 : decode cX6_turn 168 = .ok (.iadd, 1) := by decide +kernel
theorem dX6_turn_169 : decode cX6_turn 169 = .ok (.istore 6, 2) := by decide +kernel
theorem dX6_turn_171 : decode cX6_turn 171 = .ok (.iload_n 1, 1) := by decide +kernel
theorem dX6_turn_172 : decode cX6_turn 172 = .ok (.ifCond .ne 18, 3) := by decide +kernel
theorem dX6_turn_175 : decode cX6_turn 175 = .ok (.bipush 8, 2) := by decide +kernel
theorem dX6_turn_177 : decode cX6_turn 177 = .ok (.iload 4, 2) := by decide +kernel
theorem dX6_turn_179 : decode cX6_turn 179 = .ok (.imul, 1) := by decide +kernel
theorem dX6_turn_180 : decode cX6_turn 180 = .ok (.iload_n 2, 1) := by decide +kernel
theorem dX6_turn_181 : decode cX6_turn 181 = .ok (.iadd, 1) := by decide +kernel
theorem dX6_turn_182 : decode cX6_turn 182 = .ok (.iconst 1, 1) := by decide +kernel
theorem dX6_turn_183 : decode cX6_turn 183 = .ok (.isub, 1) := by decide +kernel
theorem dX6_turn_184 : decode cX6_turn 184 = .ok (.iload 5, 2) := by decide +kernel
theorem dX6_turn_186 : decode cX6_turn 186 = .ok (.isub, 1) := by decide +kernel
theorem dX6_turn_187 : decode cX6_turn 187 = .ok (.goto 15, 3) := by decide +kernel
theorem dX6_turn_190 : decode cX6_turn 190 = .ok (.bipush 8, 2) := by decide +kernel
theorem dX6_turn_192 : decode cX6_turn 192 = .ok (.iload 5, 2) := by decide +kernel
theorem dX6_turn_194 : decode cX6_turn 194 = .ok (.imul, 1) := by decide +kernel
theorem dX6_turn_195 : decode cX6_turn 195 = .ok (.iload_n 3, 1) := by decide +kernel
theorem dX6_turn_196 : decode cX6_turn 196 = .ok (.iadd, 1) := by decide +kernel
theorem dX6_turn_197 : decode cX6_turn 197 = .ok (.iconst 1, 1) := by decide +kernel
theorem dX6_turn_198 : decode cX6_turn 198 = .ok (.isub, 1) := by decide +kernel
theorem dX6_turn_199 : decode cX6_turn 199 = .ok (.iload 4, 2) := by decide +kernel
theorem dX6_turn_201 : decode cX6_turn 201 = .ok (.isub, 1) := by decide +kernel
theorem dX6_turn_202 : decode cX6_turn 202 = .ok (.istore 7, 2) := by decide +kernel
theorem dX6_turn_204 : decode cX6_turn 204 = .ok (.aload_n 0, 1) := by decide +kernel
theorem dX6_turn_205 : decode cX6_turn 205 = .ok (.getfield 23, 3) := by decide +kernel
theorem dX6_turn_208 : decode cX6_turn 208 = .ok (.iload 7, 2) := by decide +kernel
theorem dX6_turn_210 : decode cX6_turn 210 = .ok (.aload_n 0, 1) := by decide +kernel
theorem dX6_turn_211 : decode cX6_turn 211 = .ok (.getfield 63, 3) := by decide +kernel
theorem dX6_turn_214 : decode cX6_turn 214 = .ok (.iload 6, 2) := by decide +kernel
theorem dX6_turn_216 : decode cX6_turn 216 = .ok (.iaload, 1) := by decide +kernel
theorem dX6_turn_217 : decode cX6_turn 217 = .ok (.iastore, 1) := by decide +kernel
theorem dX6_turn_218 : decode cX6_turn 218 = .ok (.aload_n 0, 1) := by decide +kernel
theorem dX6_turn_219 : decode cX6_turn 219 = .ok (.getfield 26, 3) := by decide +kernel
theorem dX6_turn_222 : decode cX6_turn 222 = .ok (.iload 7, 2) := by decide +kernel
theorem dX6_turn_224 : decode cX6_turn 224 = .ok (.aload_n 0, 1) := by decide +kernel
theorem dX6_turn_225 : decode cX6_turn 225 = .ok (.getfield 66, 3) := by decide +kernel
theorem dX6_turn_228 : decode cX6_turn 228 = .ok (.iload 6, 2) := by decide +kernel
theorem dX6_turn_230 : decode cX6_turn 230 = .ok (.iaload, 1) := by decide +kernel
theorem dX6_turn_231 : decode cX6_turn 231 = .ok (.iastore, 1) := by decide +kernel
theorem dX6_turn_232 : decode cX6_turn 232 = .ok (.aload_n 0, 1) := by decide +kernel
theorem dX6_turn_233 : decode cX6_turn 233 = .ok (.getfield 29, 3) := by decide +kernel
theorem dX6_turn_236 : decode cX6_turn 236 = .ok (.iload 7, 2) := by decide +kernel
theorem dX6_turn_238 : decode cX6_turn 238 = .ok (.aload_n 0, 1) := by decide +kernel
theorem dX6_turn_239 : decode cX6_turn 239 = .ok (.getfield 69, 3) := by decide +kernel
theorem dX6_turn_242 : decode cX6_turn 242 = .ok (.iload 6, 2) := by decide +kernel
theorem dX6_turn_244 : decode cX6_turn 244 = .ok (.iaload, 1) := by decide +kernel
theorem dX6_turn_245 : decode cX6_turn 245 = .ok (.iastore, 1) := by decide +kernel
theorem dX6_turn_246 : decode cX6_turn 246 = .ok (.iconst 0, 1) := by decide +kernel
theorem dX6_turn_247 : decode cX6_turn 247 = .ok (.istore 8, 2) := by decide +kernel
theorem dX6_turn_249 : decode cX6_turn 249 = .ok (.iload 8, 2) := by decide +kernel
theorem dX6_turn_251 : decode cX6_turn 251 = .ok (.bipush 61, 2) := by decide +kernel
theorem dX6_turn_253 : decode cX6_turn 253 = .ok (.if_icmp .ge 35, 3) := by decide +kernel
theorem dX6_turn_256 : decode cX6_turn 256 = .ok (.aload_n 0, 1) := by decide +kernel
theorem dX6_turn_257 : decode cX6_turn 257 = .ok (.getfield 32, 3) := by decide +kernel
theorem dX6_turn_260 : decode cX6_turn 260 = .ok (.bipush 61, 2) := by decide +kernel
theorem dX6_turn_262 : decode cX6_turn 262 = .ok (.iload 7, 2) := by decide +kernel
theorem dX6_turn_264 : decode cX6_turn 264 = .ok (.imul, 1) := by decide +kernel
theorem dX6_turn_265 : decode cX6_turn 265 = .ok (.iload 8, 2) := by decide +kernel
theorem dX6_turn_267 : decode cX6_turn 267 = .ok (.iadd, 1) := by decide +kernel
theorem dX6_turn_268 : decode cX6_turn 268 = .ok (.aload_n 0, 1) := by decide +kernel
theorem dX6_turn_269 : decode cX6_turn 269 = .ok (.getfield 57, 3) := by decide +kernel
theorem dX6_turn_272 : decode cX6_turn 272 = .ok (.bipush 61, 2) := by decide +kernel
theorem dX6_turn_274 : decode cX6_turn 274 = .ok (.iload 6, 2) := by decide +kernel
theorem dX6_turn_276 : decode cX6_turn 276 = .ok (.imul, 1) := by decide +kernel
theorem dX6_turn_277 : decode cX6_turn 277 = .ok (.iload 8, 2) := by decide +kernel
theorem dX6_turn_279 : decode cX6_turn 279 = .ok (.iadd, 1) := by decide +kernel
theorem dX6_turn_280 : decode cX6_turn 280 = .ok (.laload, 1) := by decide +kernel
theorem dX6_turn_281 : decode cX6_turn 281 = .ok (.lastore, 1) := by decide +kernel
theorem dX6_turn_282 : decode cX6_turn 282 = .ok (.iinc 8 1, 3) := by decide +kernel
theorem dX6_turn_285 : decode cX6_turn 285 = .ok (.goto (-36), 3) := by decide +kernel
theorem dX6_turn_288 : decode cX6_turn 288 = .ok (.iinc 5 1, 3) := by decide +kernel
theorem dX6_turn_291 : decode cX6_turn 291 = .ok (.goto (-136), 3) := by decide +kernel
theorem dX6_turn_294 : decode cX6_turn 294 = .ok (.iinc 4 1, 3) := by decide +kernel
theorem dX6_turn_297 : decode cX6_turn 297 = .ok (.goto (-151), 3) := by decide +kernel
theorem dX6_turn_300 : decode cX6_turn 300 = .ok (.aload_n 0, 1) := by decide +kernel
theorem dX6_turn_301 : decode cX6_turn 301 = .ok (.iconst 0, 1) := by decide +kernel
theorem dX6_turn_302 : decode cX6_turn 302 = .ok (.putfield 110, 3) := by decide +kernel
theorem dX6_turn_305 : decode cX6_turn 305 = .ok (.aload_n 0, 1) := by decide +kernel
theorem dX6_turn_306 : decode cX6_turn 306 = .ok (.getfield 99, 3) := by decide +kernel
theorem dX6_turn_309 : decode cX6_turn 309 = .ok (.ireturn, 1) := by decide +kernel
theorem dX6_count_0 : decode cX6_count 0 = .ok (.iconst 0, 1) := by decide +kernel
theorem dX6_count_1 : decode cX6_count 1 = .ok (.istore_n 2, 1) := by decide +kernel
theorem dX6_count_2 : decode cX6_count 2 = .ok (.iload_n 1, 1) := by decide +kernel
theorem dX6_count_3 : decode cX6_count 3 = .ok (.tableswitch 150 0 6 #[41, 46, 51, 56, 61, 66, 115], 41) := by decide +kernel
theorem dX6_count_44 : decode cX6_count 44 = .ok (.aload_n 0, 1) := by decide +kernel
theorem dX6_count_45 : decode cX6_count 45 = .ok (.getfield 99, 3) := by decide +kernel
theorem dX6_count_48 : decode cX6_count 48 = .ok (.ireturn, 1) := by decide +kernel
theorem dX6_count_49 : decode cX6_count 49 = .ok (.aload_n 0, 1) := by decide +kernel
theorem dX6_count_50 : decode cX6_count 50 = .ok (.getfield 102, 3) := by decide +kernel
theorem dX6_count_53 : decode cX6_count 53 = .ok (.ireturn, 1) := by decide +kernel
theorem dX6_count_54 : decode cX6_count 54 = .ok (.aload_n 0, 1) := by decide +kernel
theorem dX6_count_55 : decode cX6_count 55 = .ok (.getfield 107, 3) := by decide +kernel
theorem dX6_count_58 : decode cX6_count 58 = .ok (.ireturn, 1) := by decide +kernel
theorem dX6_count_59 : decode cX6_count 59 = .ok (.aload_n 0, 1) := by decide +kernel
theorem dX6_count_60 : decode cX6_count 60 = .ok (.getfield 110, 3) := by decide +kernel
theorem dX6_count_63 : decode cX6_count 63 = .ok (.ireturn, 1) := by decide +kernel
theorem dX6_count_64 : decode cX6_count 64 = .ok (.aload_n 0, 1) := by decide +kernel
theorem dX6_count_65 : decode cX6_count 65 = .ok (.getfield 72, 3) := by decide +kernel
theorem dX6_count_68 : decode cX6_count 68 = .ok (.ireturn, 1) := by decide +kernel
theorem dX6_count_69 : decode cX6_count 69 = .ok (.iconst 0, 1) := by decide +kernel
theorem dX6_count_70 : decode cX6_count 70 = .ok (.istore_n 3, 1) := by decide +kernel
theorem dX6_count_71 : decode cX6_count 71 = .ok (.iload_n 3, 1) := by decide +kernel
theorem dX6_count_72 : decode cX6_count 72 = .ok (.bipush 64, 2) := by decide +kernel
theorem dX6_count_74 : decode cX6_count 74 = .ok (.if_icmp .ge 42, 3) := by decide +kernel
theorem dX6_count_77 : decode cX6_count 77 = .ok (.iload_n 2, 1) := by decide +kernel
theorem dX6_count_78 : decode cX6_count 78 = .ok (.aload_n 0, 1) := by decide +kernel
theorem dX6_count_79 : decode cX6_count 79 = .ok (.iload_n 3, 1) := by decide +kernel
theorem dX6_count_80 : decode cX6_count 80 = .ok (.bipush 8, 2) := by decide +kernel
theorem dX6_count_82 : decode cX6_count 82 = .ok (.irem, 1) := by decide +kernel
theorem dX6_count_83 : decode cX6_count 83 = .ok (.iload_n 3, 1) := by decide +kernel
theorem dX6_count_84 : decode cX6_count 84 = .ok (.bipush 8, 2) := by decide +kernel
theorem dX6_count_86 : decode cX6_count 86 = .ok (.idiv, 1) := by decide +kernel
theorem dX6_count_87 : decode cX6_count 87 = .ok (.invokevirtual 115, 3) := by decide +kernel
theorem dX6_count_90 : decode cX6_count 90 = .ok (.ifCond .eq 17, 3) := by decide +kernel
theorem dX6_count_93 : decode cX6_count 93 = .ok (.aload_n 0, 1) := by decide +kernel
theorem dX6_count_94 : decode cX6_count 94 = .ok (.getfield 23, 3) := by decide +kernel
theorem dX6_count_97 : decode cX6_count 97 = .ok (.iload_n 3, 1) := by decide +kernel
theorem dX6_count_98 : decode cX6_count 98 = .ok (.iaload, 1) := by decide +kernel
theorem dX6_count_99 : decode cX6_count 99 = .ok (.iconst 4, 1) := by decide +kernel
theorem dX6_count_100 : decode cX6_count 100 = .ok (.if_icmp .ne 7, 3) := by decide +kernel
theorem dX6_count_103 : decode cX6_count 103 = .ok (.iconst 1, 1) := by decide +kernel
theorem dX6_count_104 : decode cX6_count 104 = .ok (.goto 4, 3) := by decide +kernel
theorem dX6_count_107 : decode cX6_count 107 = .ok (.iconst 0, 1) := by decide +kernel
theorem dX6_count_108 : decode cX6_count 108 = .ok (.iadd, 1) := by decide +kernel
theorem dX6_count_109 : decode cX6_count 109 = .ok (.istore_n 2, 1) := by decide +kernel
theorem dX6_count_110 : decode cX6_count 110 = .ok (.iinc 3 1, 3) := by decide +kernel
theorem dX6_count_113 : decode cX6_count 113 = .ok (.goto (-42), 3) := by decide +kernel
theorem dX6_count_116 : decode cX6_count 116 = .ok (.iload_n 2, 1) := by decide +kernel
theorem dX6_count_117 : decode cX6_count 117 = .ok (.ireturn, 1) := by decide +kernel
theorem dX6_count_118 : decode cX6_count 118 = .ok (.iconst 0, 1) := by decide +kernel
theorem dX6_count_119 : decode cX6_count 119 = .ok (.istore_n 3, 1) := by decide +kernel
theorem dX6_count_120 : decode cX6_count 120 = .ok (.iload_n 3, 1) := by decide +kernel
theorem dX6_count_121 : decode cX6_count 121 = .ok (.bipush 8, 2) := by decide +kernel
theorem dX6_count_123 : decode cX6_count 123 = .ok (.if_icmp .ge 28, 3) := by decide +kernel
theorem dX6_count_126 : decode cX6_count 126 = .ok (.iload_n 2, 1) := by decide +kernel
theorem dX6_count_127 : decode cX6_count 127 = .ok (.aload_n 0, 1) := by decide +kernel
theorem dX6_count_128 : decode cX6_count 128 = .ok (.getfield 7, 3) := by decide +kernel
theorem dX6_count_131 : decode cX6_count 131 = .ok (.iload_n 3, 1) := by decide +kernel
theorem dX6_count_132 : decode cX6_count 132 = .ok (.iaload, 1) := by decide +kernel
theorem dX6_count_133 : decode cX6_count 133 = .ok (.bipush (-9), 2) := by decide +kernel
theorem dX6_count_135 : decode cX6_count 135 = .ok (.if_icmp .ne 7, 3) := by decide +kernel
theorem dX6_count_138 : decode cX6_count 138 = .ok (.iconst 0, 1) := by decide +kernel
theorem dX6_count_139 : decode cX6_count 139 = .ok (.goto 4, 3) := by decide +kernel
theorem dX6_count_142 : decode cX6_count 142 = .ok (.iconst 1, 1) := by decide +kernel
theorem dX6_count_143 : decode cX6_count 143 = .ok (.iadd, 1) := by decide +kernel
theorem dX6_count_144 : decode cX6_count 144 = .ok (.istore_n 2, 1) := by decide +kernel
theorem dX6_count_145 : decode cX6_count 145 = .ok (.iinc 3 1, 3) := by decide +kernel
theorem dX6_count_148 : decode cX6_count 148 = .ok (.goto (-28), 3) := by decide +kernel
theorem dX6_count_151 : decode cX6_count 151 = .ok (.iload_n 2, 1) := by decide +kernel
theorem dX6_count_152 : decode cX6_count 152 = .ok (.ireturn, 1) := by decide +kernel
theorem dX6_count_153 : decode cX6_count 153 = .ok (.bipush (-2), 2) := by decide +kernel
theorem dX6_count_155 : decode cX6_count 155 = .ok (.ireturn, 1) := by decide +kernel
theorem dJ9_min_f86c9_0 : decode cJ9_min_f86c9 0 = .ok (.lload_n 0, 1) := by decide +kernel
theorem dJ9_min_f86c9_1 : decode cJ9_min_f86c9 1 = .ok (.lload_n 2, 1) := by decide +kernel
theorem dJ9_min_f86c9_2 : decode cJ9_min_f86c9 2 = .ok (.lcmp, 1) := by decide +kernel
theorem dJ9_min_f86c9_3 : decode cJ9_min_f86c9 3 = .ok (.ifCond .gt 7, 3) := by decide +kernel
theorem dJ9_min_f86c9_6 : decode cJ9_min_f86c9 6 = .ok (.lload_n 0, 1) := by decide +kernel
theorem dJ9_min_f86c9_7 : decode cJ9_min_f86c9 7 = .ok (.goto 4, 3) := by decide +kernel
theorem dJ9_min_f86c9_10 : decode cJ9_min_f86c9 10 = .ok (.lload_n 2, 1) := by decide +kernel
theorem dJ9_min_f86c9_11 : decode cJ9_min_f86c9 11 = .ok (.lreturn, 1) := by decide +kernel
theorem dJ7_fill_d0a16_0 : decode cJ7_fill_d0a16 0 = .ok (.iconst 0, 1) := by decide +kernel
theorem dJ7_fill_d0a16_1 : decode cJ7_fill_d0a16 1 = .ok (.istore_n 3, 1) := by decide +kernel
theorem dJ7_fill_d0a16_2 : decode cJ7_fill_d0a16 2 = .ok (.aload_n 0, 1) := by decide +kernel
theorem dJ7_fill_d0a16_3 : decode cJ7_fill_d0a16 3 = .ok (.arraylength, 1) := by decide +kernel
theorem dJ7_fill_d0a16_4 : decode cJ7_fill_d0a16 4 = .ok (.istore 4, 2) := by decide +kernel
theorem dJ7_fill_d0a16_6 : decode cJ7_fill_d0a16 6 = .ok (.iload_n 3, 1) := by decide +kernel
theorem dJ7_fill_d0a16_7 : decode cJ7_fill_d0a16 7 = .ok (.iload 4, 2) := by decide +kernel
theorem dJ7_fill_d0a16_9 : decode cJ7_fill_d0a16 9 = .ok (.if_icmp .ge 13, 3) := by decide +kernel
theorem dJ7_fill_d0a16_12 : decode cJ7_fill_d0a16 12 = .ok (.aload_n 0, 1) := by decide +kernel
theorem dJ7_fill_d0a16_13 : decode cJ7_fill_d0a16 13 = .ok (.iload_n 3, 1) := by decide +kernel
theorem dJ7_fill_d0a16_14 : decode cJ7_fill_d0a16 14 = .ok (.lload_n 1, 1) := by decide +kernel
theorem dJ7_fill_d0a16_15 : decode cJ7_fill_d0a16 15 = .ok (.lastore, 1) := by decide +kernel
theorem dJ7_fill_d0a16_16 : decode cJ7_fill_d0a16 16 = .ok (.iinc 3 1, 3) := by decide +kernel
theorem dJ7_fill_d0a16_19 : decode cJ7_fill_d0a16 19 = .ok (.goto (-13), 3) := by decide +kernel
theorem dJ7_fill_d0a16_22 : decode cJ7_fill_d0a16 22 = .ok (.return_, 1) := by decide +kernel
theorem dL_law_0 : decode cL_law 0 = .ok (.new 7, 3) := by decide +kernel
theorem dL_law_3 : decode cL_law 3 = .ok (.dup, 1) := by decide +kernel
theorem dL_law_4 : decode cL_law 4 = .ok (.invokespecial 9, 3) := by decide +kernel
theorem dL_law_7 : decode cL_law 7 = .ok (.astore_n 1, 1) := by decide +kernel
theorem dL_law_8 : decode cL_law 8 = .ok (.new 10, 3) := by decide +kernel
theorem dL_law_11 : decode cL_law 11 = .ok (.dup, 1) := by decide +kernel
theorem dL_law_12 : decode cL_law 12 = .ok (.invokespecial 12, 3) := by decide +kernel
theorem dL_law_15 : decode cL_law 15 = .ok (.astore_n 2, 1) := by decide +kernel
theorem dL_law_16 : decode cL_law 16 = .ok (.iconst 0, 1) := by decide +kernel
theorem dL_law_17 : decode cL_law 17 = .ok (.istore_n 3, 1) := by decide +kernel
theorem dL_law_18 : decode cL_law 18 = .ok (.iload_n 3, 1) := by decide +kernel
theorem dL_law_19 : decode cL_law 19 = .ok (.aload_n 0, 1) := by decide +kernel
theorem dL_law_20 : decode cL_law 20 = .ok (.arraylength, 1) := by decide +kernel
theorem dL_law_21 : decode cL_law 21 = .ok (.bipush 6, 2) := by decide +kernel
theorem dL_law_23 : decode cL_law 23 = .ok (.isub, 1) := by decide +kernel
theorem dL_law_24 : decode cL_law 24 = .ok (.if_icmp .gt 940, 3) := by decide +kernel
theorem dL_law_27 : decode cL_law 27 = .ok (.aload_n 0, 1) := by decide +kernel
theorem dL_law_28 : decode cL_law 28 = .ok (.iload_n 3, 1) := by decide +kernel
theorem dL_law_29 : decode cL_law 29 = .ok (.iaload, 1) := by decide +kernel
theorem dL_law_30 : decode cL_law 30 = .ok (.bipush 31, 2) := by decide +kernel
theorem dL_law_32 : decode cL_law 32 = .ok (.iand, 1) := by decide +kernel
theorem dL_law_33 : decode cL_law 33 = .ok (.tableswitch 925 0 20 #[99, 142, 165, 238, 282, 345, 378, 431, 484, 543, 576, 620, 643, 656, 679, 723, 777, 811, 835, 879, 902], 99) := by decide +kernel
theorem dL_law_132 : decode cL_law 132 = .ok (.aload_n 1, 1) := by decide +kernel
theorem dL_law_133 : decode cL_law 133 = .ok (.aload_n 0, 1) := by decide +kernel
theorem dL_law_134 : decode cL_law 134 = .ok (.iload_n 3, 1) := by decide +kernel
theorem dL_law_135 : decode cL_law 135 = .ok (.iconst 1, 1) := by decide +kernel
theorem dL_law_136 : decode cL_law 136 = .ok (.iadd, 1) := by decide +kernel
theorem dL_law_137 : decode cL_law 137 = .ok (.iaload, 1) := by decide +kernel
theorem dL_law_138 : decode cL_law 138 = .ok (.aload_n 0, 1) := by decide +kernel
theorem dL_law_139 : decode cL_law 139 = .ok (.iload_n 3, 1) := by decide +kernel
theorem dL_law_140 : decode cL_law 140 = .ok (.iconst 2, 1) := by decide +kernel
theorem dL_law_141 : decode cL_law 141 = .ok (.iadd, 1) := by decide +kernel
theorem dL_law_142 : decode cL_law 142 = .ok (.iaload, 1) := by decide +kernel
theorem dL_law_143 : decode cL_law 143 = .ok (.aload_n 0, 1) := by decide +kernel
theorem dL_law_144 : decode cL_law 144 = .ok (.iload_n 3, 1) := by decide +kernel
theorem dL_law_145 : decode cL_law 145 = .ok (.iconst 3, 1) := by decide +kernel
theorem dL_law_146 : decode cL_law 146 = .ok (.iadd, 1) := by decide +kernel
theorem dL_law_147 : decode cL_law 147 = .ok (.iaload, 1) := by decide +kernel
theorem dL_law_148 : decode cL_law 148 = .ok (.invokevirtual 13, 3) := by decide +kernel
theorem dL_law_151 : decode cL_law 151 = .ok (.aload_n 2, 1) := by decide +kernel
theorem dL_law_152 : decode cL_law 152 = .ok (.aload_n 0, 1) := by decide +kernel
theorem dL_law_153 : decode cL_law 153 = .ok (.iload_n 3, 1) := by decide +kernel
theorem dL_law_154 : decode cL_law 154 = .ok (.iconst 1, 1) := by decide +kernel
theorem dL_law_155 : decode cL_law 155 = .ok (.iadd, 1) := by decide +kernel
theorem dL_law_156 : decode cL_law 156 = .ok (.iaload, 1) := by decide +kernel
theorem dL_law_157 : decode cL_law 157 = .ok (.aload_n 0, 1) := by decide +kernel
theorem dL_law_158 : decode cL_law 158 = .ok (.iload_n 3, 1) := by decide +kernel
theorem dL_law_159 : decode cL_law 159 = .ok (.iconst 2, 1) := by decide +kernel
theorem dL_law_160 : decode cL_law 160 = .ok (.iadd, 1) := by decide +kernel
theorem dL_law_161 : decode cL_law 161 = .ok (.iaload, 1) := by decide +kernel
theorem dL_law_162 : decode cL_law 162 = .ok (.aload_n 0, 1) := by decide +kernel
theorem dL_law_163 : decode cL_law 163 = .ok (.iload_n 3, 1) := by decide +kernel
theorem dL_law_164 : decode cL_law 164 = .ok (.iconst 3, 1) := by decide +kernel
theorem dL_law_165 : decode cL_law 165 = .ok (.iadd, 1) := by decide +kernel
theorem dL_law_166 : decode cL_law 166 = .ok (.iaload, 1) := by decide +kernel
theorem dL_law_167 : decode cL_law 167 = .ok (.invokevirtual 17, 3) := by decide +kernel
theorem dL_law_170 : decode cL_law 170 = .ok (.if_icmp .eq 788, 3) := by decide +kernel
theorem dL_law_173 : decode cL_law 173 = .ok (.iconst 0, 1) := by decide +kernel
theorem dL_law_174 : decode cL_law 174 = .ok (.ireturn, 1) := by decide +kernel
theorem dL_law_175 : decode cL_law 175 = .ok (.aload_n 1, 1) := by decide +kernel
theorem dL_law_176 : decode cL_law 176 = .ok (.aload_n 0, 1) := by decide +kernel
theorem dL_law_177 : decode cL_law 177 = .ok (.iload_n 3, 1) := by decide +kernel
theorem dL_law_178 : decode cL_law 178 = .ok (.iconst 1, 1) := by decide +kernel
theorem dL_law_179 : decode cL_law 179 = .ok (.iadd, 1) := by decide +kernel
theorem dL_law_180 : decode cL_law 180 = .ok (.iaload, 1) := by decide +kernel
theorem dL_law_181 : decode cL_law 181 = .ok (.invokevirtual 18, 3) := by decide +kernel
theorem dL_law_184 : decode cL_law 184 = .ok (.aload_n 2, 1) := by decide +kernel
theorem dL_law_185 : decode cL_law 185 = .ok (.aload_n 0, 1) := by decide +kernel
theorem dL_law_186 : decode cL_law 186 = .ok (.iload_n 3, 1) := by decide +kernel
theorem dL_law_187 : decode cL_law 187 = .ok (.iconst 1, 1) := by decide +kernel
theorem dL_law_188 : decode cL_law 188 = .ok (.iadd, 1) := by decide +kernel
theorem dL_law_189 : decode cL_law 189 = .ok (.iaload, 1) := by decide +kernel
theorem dL_law_190 : decode cL_law 190 = .ok (.invokevirtual 22, 3) := by decide +kernel
theorem dL_law_193 : decode cL_law 193 = .ok (.if_icmp .eq 765, 3) := by decide +kernel
theorem dL_law_196 : decode cL_law 196 = .ok (.iconst 0, 1) := by decide +kernel
theorem dL_law_197 : decode cL_law 197 = .ok (.ireturn, 1) := by decide +kernel
theorem dL_law_198 : decode cL_law 198 = .ok (.aload_n 1, 1) := by decide +kernel
theorem dL_law_199 : decode cL_law 199 = .ok (.aload_n 0, 1) := by decide +kernel
theorem dL_law_200 : decode cL_law 200 = .ok (.iload_n 3, 1) := by decide +kernel
theorem dL_law_201 : decode cL_law 201 = .ok (.iconst 1, 1) := by decide +kernel
theorem dL_law_202 : decode cL_law 202 = .ok (.iadd, 1) := by decide +kernel
theorem dL_law_203 : decode cL_law 203 = .ok (.iaload, 1) := by decide +kernel
theorem dL_law_204 : decode cL_law 204 = .ok (.aload_n 0, 1) := by decide +kernel
theorem dL_law_205 : decode cL_law 205 = .ok (.iload_n 3, 1) := by decide +kernel
theorem dL_law_206 : decode cL_law 206 = .ok (.iconst 2, 1) := by decide +kernel
theorem dL_law_207 : decode cL_law 207 = .ok (.iadd, 1) := by decide +kernel
theorem dL_law_208 : decode cL_law 208 = .ok (.iaload, 1) := by decide +kernel
theorem dL_law_209 : decode cL_law 209 = .ok (.aload_n 0, 1) := by decide +kernel
theorem dL_law_210 : decode cL_law 210 = .ok (.iload_n 3, 1) := by decide +kernel
theorem dL_law_211 : decode cL_law 211 = .ok (.iconst 3, 1) := by decide +kernel
theorem dL_law_212 : decode cL_law 212 = .ok (.iadd, 1) := by decide +kernel
theorem dL_law_213 : decode cL_law 213 = .ok (.iaload, 1) := by decide +kernel
theorem dL_law_214 : decode cL_law 214 = .ok (.i2l, 1) := by decide +kernel
theorem dL_law_215 : decode cL_law 215 = .ok (.bipush 32, 2) := by decide +kernel
theorem dL_law_217 : decode cL_law 217 = .ok (.lshl, 1) := by decide +kernel
theorem dL_law_218 : decode cL_law 218 = .ok (.aload_n 0, 1) := by decide +kernel
theorem dL_law_219 : decode cL_law 219 = .ok (.iload_n 3, 1) := by decide +kernel
theorem dL_law_220 : decode cL_law 220 = .ok (.iconst 4, 1) := by decide +kernel
theorem dL_law_221 : decode cL_law 221 = .ok (.iadd, 1) := by decide +kernel
theorem dL_law_222 : decode cL_law 222 = .ok (.iaload, 1) := by decide +kernel
theorem dL_law_223 : decode cL_law 223 = .ok (.i2l, 1) := by decide +kernel
theorem dL_law_224 : decode cL_law 224 = .ok (.ldc2_w 23, 3) := by decide +kernel
theorem dL_law_227 : decode cL_law 227 = .ok (.land, 1) := by decide +kernel
theorem dL_law_228 : decode cL_law 228 = .ok (.lor, 1) := by decide +kernel
theorem dL_law_229 : decode cL_law 229 = .ok (.invokevirtual 25, 3) := by decide +kernel
theorem dL_law_232 : decode cL_law 232 = .ok (.aload_n 2, 1) := by decide +kernel
theorem dL_law_233 : decode cL_law 233 = .ok (.aload_n 0, 1) := by decide +kernel
theorem dL_law_234 : decode cL_law 234 = .ok (.iload_n 3, 1) := by decide +kernel
theorem dL_law_235 : decode cL_law 235 = .ok (.iconst 1, 1) := by decide +kernel
theorem dL_law_236 : decode cL_law 236 = .ok (.iadd, 1) := by decide +kernel
theorem dL_law_237 : decode cL_law 237 = .ok (.iaload, 1) := by decide +kernel
theorem dL_law_238 : decode cL_law 238 = .ok (.aload_n 0, 1) := by decide +kernel
theorem dL_law_239 : decode cL_law 239 = .ok (.iload_n 3, 1) := by decide +kernel
theorem dL_law_240 : decode cL_law 240 = .ok (.iconst 2, 1) := by decide +kernel
theorem dL_law_241 : decode cL_law 241 = .ok (.iadd, 1) := by decide +kernel
theorem dL_law_242 : decode cL_law 242 = .ok (.iaload, 1) := by decide +kernel
theorem dL_law_243 : decode cL_law 243 = .ok (.aload_n 0, 1) := by decide +kernel
theorem dL_law_244 : decode cL_law 244 = .ok (.iload_n 3, 1) := by decide +kernel
theorem dL_law_245 : decode cL_law 245 = .ok (.iconst 3, 1) := by decide +kernel
theorem dL_law_246 : decode cL_law 246 = .ok (.iadd, 1) := by decide +kernel
theorem dL_law_247 : decode cL_law 247 = .ok (.iaload, 1) := by decide +kernel
theorem dL_law_248 : decode cL_law 248 = .ok (.i2l, 1) := by decide +kernel
theorem dL_law_249 : decode cL_law 249 = .ok (.bipush 32, 2) := by decide +kernel
theorem dL_law_251 : decode cL_law 251 = .ok (.lshl, 1) := by decide +kernel
theorem dL_law_252 : decode cL_law 252 = .ok (.aload_n 0, 1) := by decide +kernel
theorem dL_law_253 : decode cL_law 253 = .ok (.iload_n 3, 1) := by decide +kernel
theorem dL_law_254 : decode cL_law 254 = .ok (.iconst 4, 1) := by decide +kernel
theorem dL_law_255 : decode cL_law 255 = .ok (.iadd, 1) := by decide +kernel
theorem dL_law_256 : decode cL_law 256 = .ok (.iaload, 1) := by decide +kernel
theorem dL_law_257 : decode cL_law 257 = .ok (.i2l, 1) := by decide +kernel
theorem dL_law_258 : decode cL_law 258 = .ok (.ldc2_w 23, 3) := by decide +kernel
theorem dL_law_261 : decode cL_law 261 = .ok (.land, 1) := by decide +kernel
theorem dL_law_262 : decode cL_law 262 = .ok (.lor, 1) := by decide +kernel
theorem dL_law_263 : decode cL_law 263 = .ok (.invokevirtual 29, 3) := by decide +kernel
theorem dL_law_266 : decode cL_law 266 = .ok (.if_icmp .eq 692, 3) := by decide +kernel
theorem dL_law_269 : decode cL_law 269 = .ok (.iconst 0, 1) := by decide +kernel
theorem dL_law_270 : decode cL_law 270 = .ok (.ireturn, 1) := by decide +kernel
theorem dL_law_271 : decode cL_law 271 = .ok (.aload_n 1, 1) := by decide +kernel
theorem dL_law_272 : decode cL_law 272 = .ok (.aload_n 0, 1) := by decide +kernel
theorem dL_law_273 : decode cL_law 273 = .ok (.iload_n 3, 1) := by decide +kernel
theorem dL_law_274 : decode cL_law 274 = .ok (.iconst 1, 1) := by decide +kernel
theorem dL_law_275 : decode cL_law 275 = .ok (.iadd, 1) := by decide +kernel
theorem dL_law_276 : decode cL_law 276 = .ok (.iaload, 1) := by decide +kernel
theorem dL_law_277 : decode cL_law 277 = .ok (.aload_n 0, 1) := by decide +kernel
theorem dL_law_278 : decode cL_law 278 = .ok (.iload_n 3, 1) := by decide +kernel
theorem dL_law_279 : decode cL_law 279 = .ok (.iconst 2, 1) := by decide +kernel
theorem dL_law_280 : decode cL_law 280 = .ok (.iadd, 1) := by decide +kernel
theorem dL_law_281 : decode cL_law 281 = .ok (.iaload, 1) := by decide +kernel
theorem dL_law_282 : decode cL_law 282 = .ok (.aload_n 0, 1) := by decide +kernel
theorem dL_law_283 : decode cL_law 283 = .ok (.iload_n 3, 1) := by decide +kernel
theorem dL_law_284 : decode cL_law 284 = .ok (.iconst 3, 1) := by decide +kernel
theorem dL_law_285 : decode cL_law 285 = .ok (.iadd, 1) := by decide +kernel
theorem dL_law_286 : decode cL_law 286 = .ok (.iaload, 1) := by decide +kernel
theorem dL_law_287 : decode cL_law 287 = .ok (.invokevirtual 30, 3) := by decide +kernel
theorem dL_law_290 : decode cL_law 290 = .ok (.aload_n 2, 1) := by decide +kernel
theorem dL_law_291 : decode cL_law 291 = .ok (.aload_n 0, 1) := by decide +kernel
theorem dL_law_292 : decode cL_law 292 = .ok (.iload_n 3, 1) := by decide +kernel
theorem dL_law_293 : decode cL_law 293 = .ok (.iconst 1, 1) := by decide +kernel
theorem dL_law_294 : decode cL_law 294 = .ok (.iadd, 1) := by decide +kernel
theorem dL_law_295 : decode cL_law 295 = .ok (.iaload, 1) := by decide +kernel
theorem dL_law_296 : decode cL_law 296 = .ok (.aload_n 0, 1) := by decide +kernel
theorem dL_law_297 : decode cL_law 297 = .ok (.iload_n 3, 1) := by decide +kernel
theorem dL_law_298 : decode cL_law 298 = .ok (.iconst 2, 1) := by decide +kernel
theorem dL_law_299 : decode cL_law 299 = .ok (.iadd, 1) := by decide +kernel
theorem dL_law_300 : decode cL_law 300 = .ok (.iaload, 1) := by decide +kernel
theorem dL_law_301 : decode cL_law 301 = .ok (.aload_n 0, 1) := by decide +kernel
theorem dL_law_302 : decode cL_law 302 = .ok (.iload_n 3, 1) := by decide +kernel
theorem dL_law_303 : decode cL_law 303 = .ok (.iconst 3, 1) := by decide +kernel
theorem dL_law_304 : decode cL_law 304 = .ok (.iadd, 1) := by decide +kernel
theorem dL_law_305 : decode cL_law 305 = .ok (.iaload, 1) := by decide +kernel
theorem dL_law_306 : decode cL_law 306 = .ok (.invokevirtual 34, 3) := by decide +kernel
theorem dL_law_309 : decode cL_law 309 = .ok (.lcmp, 1) := by decide +kernel
theorem dL_law_310 : decode cL_law 310 = .ok (.ifCond .eq 648, 3) := by decide +kernel
theorem dL_law_313 : decode cL_law 313 = .ok (.iconst 0, 1) := by decide +kernel
theorem dL_law_314 : decode cL_law 314 = .ok (.ireturn, 1) := by decide +kernel
theorem dL_law_315 : decode cL_law 315 = .ok (.aload_n 1, 1) := by decide +kernel
theorem dL_law_316 : decode cL_law 316 = .ok (.aload_n 0, 1) := by decide +kernel
theorem dL_law_317 : decode cL_law 317 = .ok (.iload_n 3, 1) := by decide +kernel
theorem dL_law_318 : decode cL_law 318 = .ok (.iconst 1, 1) := by decide +kernel
theorem dL_law_319 : decode cL_law 319 = .ok (.iadd, 1) := by decide +kernel
theorem dL_law_320 : decode cL_law 320 = .ok (.iaload, 1) := by decide +kernel
theorem dL_law_321 : decode cL_law 321 = .ok (.aload_n 0, 1) := by decide +kernel
theorem dL_law_322 : decode cL_law 322 = .ok (.iload_n 3, 1) := by decide +kernel
theorem dL_law_323 : decode cL_law 323 = .ok (.iconst 2, 1) := by decide +kernel
theorem dL_law_324 : decode cL_law 324 = .ok (.iadd, 1) := by decide +kernel
theorem dL_law_325 : decode cL_law 325 = .ok (.iaload, 1) := by decide +kernel
theorem dL_law_326 : decode cL_law 326 = .ok (.aload_n 0, 1) := by decide +kernel
theorem dL_law_327 : decode cL_law 327 = .ok (.iload_n 3, 1) := by decide +kernel
theorem dL_law_328 : decode cL_law 328 = .ok (.iconst 3, 1) := by decide +kernel
theorem dL_law_329 : decode cL_law 329 = .ok (.iadd, 1) := by decide +kernel
theorem dL_law_330 : decode cL_law 330 = .ok (.iaload, 1) := by decide +kernel
theorem dL_law_331 : decode cL_law 331 = .ok (.aload_n 0, 1) := by decide +kernel
theorem dL_law_332 : decode cL_law 332 = .ok (.iload_n 3, 1) := by decide +kernel
theorem dL_law_333 : decode cL_law 333 = .ok (.iconst 4, 1) := by decide +kernel
theorem dL_law_334 : decode cL_law 334 = .ok (.iadd, 1) := by decide +kernel
theorem dL_law_335 : decode cL_law 335 = .ok (.iaload, 1) := by decide +kernel
theorem dL_law_336 : decode cL_law 336 = .ok (.aload_n 0, 1) := by decide +kernel
theorem dL_law_337 : decode cL_law 337 = .ok (.iload_n 3, 1) := by decide +kernel
theorem dL_law_338 : decode cL_law 338 = .ok (.iconst 5, 1) := by decide +kernel
theorem dL_law_339 : decode cL_law 339 = .ok (.iadd, 1) := by decide +kernel
theorem dL_law_340 : decode cL_law 340 = .ok (.iaload, 1) := by decide +kernel
theorem dL_law_341 : decode cL_law 341 = .ok (.invokevirtual 35, 3) := by decide +kernel
theorem dL_law_344 : decode cL_law 344 = .ok (.aload_n 2, 1) := by decide +kernel
theorem dL_law_345 : decode cL_law 345 = .ok (.aload_n 0, 1) := by decide +kernel
theorem dL_law_346 : decode cL_law 346 = .ok (.iload_n 3, 1) := by decide +kernel
theorem dL_law_347 : decode cL_law 347 = .ok (.iconst 1, 1) := by decide +kernel
theorem dL_law_348 : decode cL_law 348 = .ok (.iadd, 1) := by decide +kernel
theorem dL_law_349 : decode cL_law 349 = .ok (.iaload, 1) := by decide +kernel
theorem dL_law_350 : decode cL_law 350 = .ok (.aload_n 0, 1) := by decide +kernel
theorem dL_law_351 : decode cL_law 351 = .ok (.iload_n 3, 1) := by decide +kernel
theorem dL_law_352 : decode cL_law 352 = .ok (.iconst 2, 1) := by decide +kernel
theorem dL_law_353 : decode cL_law 353 = .ok (.iadd, 1) := by decide +kernel
theorem dL_law_354 : decode cL_law 354 = .ok (.iaload, 1) := by decide +kernel
theorem dL_law_355 : decode cL_law 355 = .ok (.aload_n 0, 1) := by decide +kernel
theorem dL_law_356 : decode cL_law 356 = .ok (.iload_n 3, 1) := by decide +kernel
theorem dL_law_357 : decode cL_law 357 = .ok (.iconst 3, 1) := by decide +kernel
theorem dL_law_358 : decode cL_law 358 = .ok (.iadd, 1) := by decide +kernel
theorem dL_law_359 : decode cL_law 359 = .ok (.iaload, 1) := by decide +kernel
theorem dL_law_360 : decode cL_law 360 = .ok (.aload_n 0, 1) := by decide +kernel
theorem dL_law_361 : decode cL_law 361 = .ok (.iload_n 3, 1) := by decide +kernel
theorem dL_law_362 : decode cL_law 362 = .ok (.iconst 4, 1) := by decide +kernel
theorem dL_law_363 : decode cL_law 363 = .ok (.iadd, 1) := by decide +kernel
theorem dL_law_364 : decode cL_law 364 = .ok (.iaload, 1) := by decide +kernel
theorem dL_law_365 : decode cL_law 365 = .ok (.aload_n 0, 1) := by decide +kernel
theorem dL_law_366 : decode cL_law 366 = .ok (.iload_n 3, 1) := by decide +kernel
theorem dL_law_367 : decode cL_law 367 = .ok (.iconst 5, 1) := by decide +kernel
theorem dL_law_368 : decode cL_law 368 = .ok (.iadd, 1) := by decide +kernel
theorem dL_law_369 : decode cL_law 369 = .ok (.iaload, 1) := by decide +kernel
theorem dL_law_370 : decode cL_law 370 = .ok (.invokevirtual 39, 3) := by decide +kernel
theorem dL_law_373 : decode cL_law 373 = .ok (.if_icmp .eq 585, 3) := by decide +kernel
theorem dL_law_376 : decode cL_law 376 = .ok (.iconst 0, 1) := by decide +kernel
theorem dL_law_377 : decode cL_law 377 = .ok (.ireturn, 1) := by decide +kernel
theorem dL_law_378 : decode cL_law 378 = .ok (.aload_n 1, 1) := by decide +kernel
theorem dL_law_379 : decode cL_law 379 = .ok (.aload_n 0, 1) := by decide +kernel
theorem dL_law_380 : decode cL_law 380 = .ok (.iload_n 3, 1) := by decide +kernel
theorem dL_law_381 : decode cL_law 381 = .ok (.iconst 1, 1) := by decide +kernel
theorem dL_law_382 : decode cL_law 382 = .ok (.iadd, 1) := by decide +kernel
theorem dL_law_383 : decode cL_law 383 = .ok (.iaload, 1) := by decide +kernel
theorem dL_law_384 : decode cL_law 384 = .ok (.aload_n 0, 1) := by decide +kernel
theorem dL_law_385 : decode cL_law 385 = .ok (.iload_n 3, 1) := by decide +kernel
theorem dL_law_386 : decode cL_law 386 = .ok (.iconst 2, 1) := by decide +kernel
theorem dL_law_387 : decode cL_law 387 = .ok (.iadd, 1) := by decide +kernel
theorem dL_law_388 : decode cL_law 388 = .ok (.iaload, 1) := by decide +kernel
theorem dL_law_389 : decode cL_law 389 = .ok (.invokevirtual 40, 3) := by decide +kernel
theorem dL_law_392 : decode cL_law 392 = .ok (.aload_n 2, 1) := by decide +kernel
theorem dL_law_393 : decode cL_law 393 = .ok (.aload_n 0, 1) := by decide +kernel
theorem dL_law_394 : decode cL_law 394 = .ok (.iload_n 3, 1) := by decide +kernel
theorem dL_law_395 : decode cL_law 395 = .ok (.iconst 1, 1) := by decide +kernel
theorem dL_law_396 : decode cL_law 396 = .ok (.iadd, 1) := by decide +kernel
theorem dL_law_397 : decode cL_law 397 = .ok (.iaload, 1) := by decide +kernel
theorem dL_law_398 : decode cL_law 398 = .ok (.aload_n 0, 1) := by decide +kernel
theorem dL_law_399 : decode cL_law 399 = .ok (.iload_n 3, 1) := by decide +kernel
theorem dL_law_400 : decode cL_law 400 = .ok (.iconst 2, 1) := by decide +kernel
theorem dL_law_401 : decode cL_law 401 = .ok (.iadd, 1) := by decide +kernel
theorem dL_law_402 : decode cL_law 402 = .ok (.iaload, 1) := by decide +kernel
theorem dL_law_403 : decode cL_law 403 = .ok (.invokevirtual 44, 3) := by decide +kernel
theorem dL_law_406 : decode cL_law 406 = .ok (.if_icmp .eq 552, 3) := by decide +kernel
theorem dL_law_409 : decode cL_law 409 = .ok (.iconst 0, 1) := by decide +kernel
theorem dL_law_410 : decode cL_law 410 = .ok (.ireturn, 1) := by decide +kernel
theorem dL_law_411 : decode cL_law 411 = .ok (.aload_n 1, 1) := by decide +kernel
theorem dL_law_412 : decode cL_law 412 = .ok (.aload_n 0, 1) := by decide +kernel
theorem dL_law_413 : decode cL_law 413 = .ok (.iload_n 3, 1) := by decide +kernel
theorem dL_law_414 : decode cL_law 414 = .ok (.iconst 1, 1) := by decide +kernel
theorem dL_law_415 : decode cL_law 415 = .ok (.iadd, 1) := by decide +kernel
theorem dL_law_416 : decode cL_law 416 = .ok (.iaload, 1) := by decide +kernel
theorem dL_law_417 : decode cL_law 417 = .ok (.aload_n 0, 1) := by decide +kernel
theorem dL_law_418 : decode cL_law 418 = .ok (.iload_n 3, 1) := by decide +kernel
theorem dL_law_419 : decode cL_law 419 = .ok (.iconst 2, 1) := by decide +kernel
theorem dL_law_420 : decode cL_law 420 = .ok (.iadd, 1) := by decide +kernel
theorem dL_law_421 : decode cL_law 421 = .ok (.iaload, 1) := by decide +kernel
theorem dL_law_422 : decode cL_law 422 = .ok (.aload_n 0, 1) := by decide +kernel
theorem dL_law_423 : decode cL_law 423 = .ok (.iload_n 3, 1) := by decide +kernel
theorem dL_law_424 : decode cL_law 424 = .ok (.iconst 3, 1) := by decide +kernel
theorem dL_law_425 : decode cL_law 425 = .ok (.iadd, 1) := by decide +kernel
theorem dL_law_426 : decode cL_law 426 = .ok (.iaload, 1) := by decide +kernel
theorem dL_law_427 : decode cL_law 427 = .ok (.aload_n 0, 1) := by decide +kernel
theorem dL_law_428 : decode cL_law 428 = .ok (.iload_n 3, 1) := by decide +kernel
theorem dL_law_429 : decode cL_law 429 = .ok (.iconst 4, 1) := by decide +kernel
theorem dL_law_430 : decode cL_law 430 = .ok (.iadd, 1) := by decide +kernel
theorem dL_law_431 : decode cL_law 431 = .ok (.iaload, 1) := by decide +kernel
theorem dL_law_432 : decode cL_law 432 = .ok (.invokevirtual 45, 3) := by decide +kernel
theorem dL_law_435 : decode cL_law 435 = .ok (.aload_n 2, 1) := by decide +kernel
theorem dL_law_436 : decode cL_law 436 = .ok (.aload_n 0, 1) := by decide +kernel
theorem dL_law_437 : decode cL_law 437 = .ok (.iload_n 3, 1) := by decide +kernel
theorem dL_law_438 : decode cL_law 438 = .ok (.iconst 1, 1) := by decide +kernel
theorem dL_law_439 : decode cL_law 439 = .ok (.iadd, 1) := by decide +kernel
theorem dL_law_440 : decode cL_law 440 = .ok (.iaload, 1) := by decide +kernel
theorem dL_law_441 : decode cL_law 441 = .ok (.aload_n 0, 1) := by decide +kernel
theorem dL_law_442 : decode cL_law 442 = .ok (.iload_n 3, 1) := by decide +kernel
theorem dL_law_443 : decode cL_law 443 = .ok (.iconst 2, 1) := by decide +kernel
theorem dL_law_444 : decode cL_law 444 = .ok (.iadd, 1) := by decide +kernel
theorem dL_law_445 : decode cL_law 445 = .ok (.iaload, 1) := by decide +kernel
theorem dL_law_446 : decode cL_law 446 = .ok (.aload_n 0, 1) := by decide +kernel
theorem dL_law_447 : decode cL_law 447 = .ok (.iload_n 3, 1) := by decide +kernel
theorem dL_law_448 : decode cL_law 448 = .ok (.iconst 3, 1) := by decide +kernel
theorem dL_law_449 : decode cL_law 449 = .ok (.iadd, 1) := by decide +kernel
theorem dL_law_450 : decode cL_law 450 = .ok (.iaload, 1) := by decide +kernel
theorem dL_law_451 : decode cL_law 451 = .ok (.aload_n 0, 1) := by decide +kernel
theorem dL_law_452 : decode cL_law 452 = .ok (.iload_n 3, 1) := by decide +kernel
theorem dL_law_453 : decode cL_law 453 = .ok (.iconst 4, 1) := by decide +kernel
theorem dL_law_454 : decode cL_law 454 = .ok (.iadd, 1) := by decide +kernel
theorem dL_law_455 : decode cL_law 455 = .ok (.iaload, 1) := by decide +kernel
theorem dL_law_456 : decode cL_law 456 = .ok (.invokevirtual 49, 3) := by decide +kernel
theorem dL_law_459 : decode cL_law 459 = .ok (.if_icmp .eq 499, 3) := by decide +kernel
theorem dL_law_462 : decode cL_law 462 = .ok (.iconst 0, 1) := by decide +kernel
theorem dL_law_463 : decode cL_law 463 = .ok (.ireturn, 1) := by decide +kernel
theorem dL_law_464 : decode cL_law 464 = .ok (.aload_n 1, 1) := by decide +kernel
theorem dL_law_465 : decode cL_law 465 = .ok (.aload_n 0, 1) := by decide +kernel
theorem dL_law_466 : decode cL_law 466 = .ok (.iload_n 3, 1) := by decide +kernel
theorem dL_law_467 : decode cL_law 467 = .ok (.iconst 1, 1) := by decide +kernel
theorem dL_law_468 : decode cL_law 468 = .ok (.iadd, 1) := by decide +kernel
theorem dL_law_469 : decode cL_law 469 = .ok (.iaload, 1) := by decide +kernel
theorem dL_law_470 : decode cL_law 470 = .ok (.aload_n 0, 1) := by decide +kernel
theorem dL_law_471 : decode cL_law 471 = .ok (.iload_n 3, 1) := by decide +kernel
theorem dL_law_472 : decode cL_law 472 = .ok (.iconst 2, 1) := by decide +kernel
theorem dL_law_473 : decode cL_law 473 = .ok (.iadd, 1) := by decide +kernel
theorem dL_law_474 : decode cL_law 474 = .ok (.iaload, 1) := by decide +kernel
theorem dL_law_475 : decode cL_law 475 = .ok (.aload_n 0, 1) := by decide +kernel
theorem dL_law_476 : decode cL_law 476 = .ok (.iload_n 3, 1) := by decide +kernel
theorem dL_law_477 : decode cL_law 477 = .ok (.iconst 3, 1) := by decide +kernel
theorem dL_law_478 : decode cL_law 478 = .ok (.iadd, 1) := by decide +kernel
theorem dL_law_479 : decode cL_law 479 = .ok (.iaload, 1) := by decide +kernel
theorem dL_law_480 : decode cL_law 480 = .ok (.aload_n 0, 1) := by decide +kernel
theorem dL_law_481 : decode cL_law 481 = .ok (.iload_n 3, 1) := by decide +kernel
theorem dL_law_482 : decode cL_law 482 = .ok (.iconst 4, 1) := by decide +kernel
theorem dL_law_483 : decode cL_law 483 = .ok (.iadd, 1) := by decide +kernel
theorem dL_law_484 : decode cL_law 484 = .ok (.iaload, 1) := by decide +kernel
theorem dL_law_485 : decode cL_law 485 = .ok (.invokevirtual 50, 3) := by decide +kernel
theorem dL_law_488 : decode cL_law 488 = .ok (.aload_n 2, 1) := by decide +kernel
theorem dL_law_489 : decode cL_law 489 = .ok (.aload_n 0, 1) := by decide +kernel
theorem dL_law_490 : decode cL_law 490 = .ok (.iload_n 3, 1) := by decide +kernel
theorem dL_law_491 : decode cL_law 491 = .ok (.iconst 1, 1) := by decide +kernel
theorem dL_law_492 : decode cL_law 492 = .ok (.iadd, 1) := by decide +kernel
theorem dL_law_493 : decode cL_law 493 = .ok (.iaload, 1) := by decide +kernel
theorem dL_law_494 : decode cL_law 494 = .ok (.aload_n 0, 1) := by decide +kernel
theorem dL_law_495 : decode cL_law 495 = .ok (.iload_n 3, 1) := by decide +kernel
theorem dL_law_496 : decode cL_law 496 = .ok (.iconst 2, 1) := by decide +kernel
theorem dL_law_497 : decode cL_law 497 = .ok (.iadd, 1) := by decide +kernel
theorem dL_law_498 : decode cL_law 498 = .ok (.iaload, 1) := by decide +kernel
theorem dL_law_499 : decode cL_law 499 = .ok (.aload_n 0, 1) := by decide +kernel
theorem dL_law_500 : decode cL_law 500 = .ok (.iload_n 3, 1) := by decide +kernel
theorem dL_law_501 : decode cL_law 501 = .ok (.iconst 3, 1) := by decide +kernel
theorem dL_law_502 : decode cL_law 502 = .ok (.iadd, 1) := by decide +kernel
theorem dL_law_503 : decode cL_law 503 = .ok (.iaload, 1) := by decide +kernel
theorem dL_law_504 : decode cL_law 504 = .ok (.aload_n 0, 1) := by decide +kernel
theorem dL_law_505 : decode cL_law 505 = .ok (.iload_n 3, 1) := by decide +kernel
theorem dL_law_506 : decode cL_law 506 = .ok (.iconst 4, 1) := by decide +kernel
theorem dL_law_507 : decode cL_law 507 = .ok (.iadd, 1) := by decide +kernel
theorem dL_law_508 : decode cL_law 508 = .ok (.iaload, 1) := by decide +kernel
theorem dL_law_509 : decode cL_law 509 = .ok (.invokevirtual 53, 3) := by decide +kernel
theorem dL_law_512 : decode cL_law 512 = .ok (.if_icmp .eq 446, 3) := by decide +kernel
theorem dL_law_515 : decode cL_law 515 = .ok (.iconst 0, 1) := by decide +kernel
theorem dL_law_516 : decode cL_law 516 = .ok (.ireturn, 1) := by decide +kernel
theorem dL_law_517 : decode cL_law 517 = .ok (.aload_n 1, 1) := by decide +kernel
theorem dL_law_518 : decode cL_law 518 = .ok (.aload_n 0, 1) := by decide +kernel
theorem dL_law_519 : decode cL_law 519 = .ok (.iload_n 3, 1) := by decide +kernel
theorem dL_law_520 : decode cL_law 520 = .ok (.iconst 1, 1) := by decide +kernel
theorem dL_law_521 : decode cL_law 521 = .ok (.iadd, 1) := by decide +kernel
theorem dL_law_522 : decode cL_law 522 = .ok (.iaload, 1) := by decide +kernel
theorem dL_law_523 : decode cL_law 523 = .ok (.ifCond .eq 7, 3) := by decide +kernel
theorem dL_law_526 : decode cL_law 526 = .ok (.iconst 1, 1) := by decide +kernel
theorem dL_law_527 : decode cL_law 527 = .ok (.goto 4, 3) := by decide +kernel
theorem dL_law_530 : decode cL_law 530 = .ok (.iconst 0, 1) := by decide +kernel
theorem dL_law_531 : decode cL_law 531 = .ok (.aload_n 0, 1) := by decide +kernel
theorem dL_law_532 : decode cL_law 532 = .ok (.iload_n 3, 1) := by decide +kernel
theorem dL_law_533 : decode cL_law 533 = .ok (.iconst 2, 1) := by decide +kernel
theorem dL_law_534 : decode cL_law 534 = .ok (.iadd, 1) := by decide +kernel
theorem dL_law_535 : decode cL_law 535 = .ok (.iaload, 1) := by decide +kernel
theorem dL_law_536 : decode cL_law 536 = .ok (.aload_n 0, 1) := by decide +kernel
theorem dL_law_537 : decode cL_law 537 = .ok (.iload_n 3, 1) := by decide +kernel
theorem dL_law_538 : decode cL_law 538 = .ok (.iconst 3, 1) := by decide +kernel
theorem dL_law_539 : decode cL_law 539 = .ok (.iadd, 1) := by decide +kernel
theorem dL_law_540 : decode cL_law 540 = .ok (.iaload, 1) := by decide +kernel
theorem dL_law_541 : decode cL_law 541 = .ok (.invokevirtual 54, 3) := by decide +kernel
theorem dL_law_544 : decode cL_law 544 = .ok (.aload_n 2, 1) := by decide +kernel
theorem dL_law_545 : decode cL_law 545 = .ok (.aload_n 0, 1) := by decide +kernel
theorem dL_law_546 : decode cL_law 546 = .ok (.iload_n 3, 1) := by decide +kernel
theorem dL_law_547 : decode cL_law 547 = .ok (.iconst 1, 1) := by decide +kernel
theorem dL_law_548 : decode cL_law 548 = .ok (.iadd, 1) := by decide +kernel
theorem dL_law_549 : decode cL_law 549 = .ok (.iaload, 1) := by decide +kernel
theorem dL_law_550 : decode cL_law 550 = .ok (.ifCond .eq 7, 3) := by decide +kernel
theorem dL_law_553 : decode cL_law 553 = .ok (.iconst 1, 1) := by decide +kernel
theorem dL_law_554 : decode cL_law 554 = .ok (.goto 4, 3) := by decide +kernel
theorem dL_law_557 : decode cL_law 557 = .ok (.iconst 0, 1) := by decide +kernel
theorem dL_law_558 : decode cL_law 558 = .ok (.aload_n 0, 1) := by decide +kernel
theorem dL_law_559 : decode cL_law 559 = .ok (.iload_n 3, 1) := by decide +kernel
theorem dL_law_560 : decode cL_law 560 = .ok (.iconst 2, 1) := by decide +kernel
theorem dL_law_561 : decode cL_law 561 = .ok (.iadd, 1) := by decide +kernel
theorem dL_law_562 : decode cL_law 562 = .ok (.iaload, 1) := by decide +kernel
theorem dL_law_563 : decode cL_law 563 = .ok (.aload_n 0, 1) := by decide +kernel
theorem dL_law_564 : decode cL_law 564 = .ok (.iload_n 3, 1) := by decide +kernel
theorem dL_law_565 : decode cL_law 565 = .ok (.iconst 3, 1) := by decide +kernel
theorem dL_law_566 : decode cL_law 566 = .ok (.iadd, 1) := by decide +kernel
theorem dL_law_567 : decode cL_law 567 = .ok (.iaload, 1) := by decide +kernel
theorem dL_law_568 : decode cL_law 568 = .ok (.invokevirtual 58, 3) := by decide +kernel
theorem dL_law_571 : decode cL_law 571 = .ok (.if_icmp .eq 387, 3) := by decide +kernel
theorem dL_law_574 : decode cL_law 574 = .ok (.iconst 0, 1) := by decide +kernel
theorem dL_law_575 : decode cL_law 575 = .ok (.ireturn, 1) := by decide +kernel
theorem dL_law_576 : decode cL_law 576 = .ok (.aload_n 1, 1) := by decide +kernel
theorem dL_law_577 : decode cL_law 577 = .ok (.aload_n 0, 1) := by decide +kernel
theorem dL_law_578 : decode cL_law 578 = .ok (.iload_n 3, 1) := by decide +kernel
theorem dL_law_579 : decode cL_law 579 = .ok (.iconst 1, 1) := by decide +kernel
theorem dL_law_580 : decode cL_law 580 = .ok (.iadd, 1) := by decide +kernel
theorem dL_law_581 : decode cL_law 581 = .ok (.iaload, 1) := by decide +kernel
theorem dL_law_582 : decode cL_law 582 = .ok (.aload_n 0, 1) := by decide +kernel
theorem dL_law_583 : decode cL_law 583 = .ok (.iload_n 3, 1) := by decide +kernel
theorem dL_law_584 : decode cL_law 584 = .ok (.iconst 2, 1) := by decide +kernel
theorem dL_law_585 : decode cL_law 585 = .ok (.iadd, 1) := by decide +kernel
theorem dL_law_586 : decode cL_law 586 = .ok (.iaload, 1) := by decide +kernel
theorem dL_law_587 : decode cL_law 587 = .ok (.invokevirtual 59, 3) := by decide +kernel
theorem dL_law_590 : decode cL_law 590 = .ok (.aload_n 2, 1) := by decide +kernel
theorem dL_law_591 : decode cL_law 591 = .ok (.aload_n 0, 1) := by decide +kernel
theorem dL_law_592 : decode cL_law 592 = .ok (.iload_n 3, 1) := by decide +kernel
theorem dL_law_593 : decode cL_law 593 = .ok (.iconst 1, 1) := by decide +kernel
theorem dL_law_594 : decode cL_law 594 = .ok (.iadd, 1) := by decide +kernel
theorem dL_law_595 : decode cL_law 595 = .ok (.iaload, 1) := by decide +kernel
theorem dL_law_596 : decode cL_law 596 = .ok (.aload_n 0, 1) := by decide +kernel
theorem dL_law_597 : decode cL_law 597 = .ok (.iload_n 3, 1) := by decide +kernel
theorem dL_law_598 : decode cL_law 598 = .ok (.iconst 2, 1) := by decide +kernel
theorem dL_law_599 : decode cL_law 599 = .ok (.iadd, 1) := by decide +kernel
theorem dL_law_600 : decode cL_law 600 = .ok (.iaload, 1) := by decide +kernel
theorem dL_law_601 : decode cL_law 601 = .ok (.invokevirtual 62, 3) := by decide +kernel
theorem dL_law_604 : decode cL_law 604 = .ok (.if_icmp .eq 354, 3) := by decide +kernel
theorem dL_law_607 : decode cL_law 607 = .ok (.iconst 0, 1) := by decide +kernel
theorem dL_law_608 : decode cL_law 608 = .ok (.ireturn, 1) := by decide +kernel
theorem dL_law_609 : decode cL_law 609 = .ok (.aload_n 1, 1) := by decide +kernel
theorem dL_law_610 : decode cL_law 610 = .ok (.aload_n 0, 1) := by decide +kernel
theorem dL_law_611 : decode cL_law 611 = .ok (.iload_n 3, 1) := by decide +kernel
theorem dL_law_612 : decode cL_law 612 = .ok (.iconst 1, 1) := by decide +kernel
theorem dL_law_613 : decode cL_law 613 = .ok (.iadd, 1) := by decide +kernel
theorem dL_law_614 : decode cL_law 614 = .ok (.iaload, 1) := by decide +kernel
theorem dL_law_615 : decode cL_law 615 = .ok (.aload_n 0, 1) := by decide +kernel
theorem dL_law_616 : decode cL_law 616 = .ok (.iload_n 3, 1) := by decide +kernel
theorem dL_law_617 : decode cL_law 617 = .ok (.iconst 2, 1) := by decide +kernel
theorem dL_law_618 : decode cL_law 618 = .ok (.iadd, 1) := by decide +kernel
theorem dL_law_619 : decode cL_law 619 = .ok (.iaload, 1) := by decide +kernel
theorem dL_law_620 : decode cL_law 620 = .ok (.aload_n 0, 1) := by decide +kernel
theorem dL_law_621 : decode cL_law 621 = .ok (.iload_n 3, 1) := by decide +kernel
theorem dL_law_622 : decode cL_law 622 = .ok (.iconst 3, 1) := by decide +kernel
theorem dL_law_623 : decode cL_law 623 = .ok (.iadd, 1) := by decide +kernel
theorem dL_law_624 : decode cL_law 624 = .ok (.iaload, 1) := by decide +kernel
theorem dL_law_625 : decode cL_law 625 = .ok (.invokevirtual 63, 3) := by decide +kernel
theorem dL_law_628 : decode cL_law 628 = .ok (.aload_n 2, 1) := by decide +kernel
theorem dL_law_629 : decode cL_law 629 = .ok (.aload_n 0, 1) := by decide +kernel
theorem dL_law_630 : decode cL_law 630 = .ok (.iload_n 3, 1) := by decide +kernel
theorem dL_law_631 : decode cL_law 631 = .ok (.iconst 1, 1) := by decide +kernel
theorem dL_law_632 : decode cL_law 632 = .ok (.iadd, 1) := by decide +kernel
theorem dL_law_633 : decode cL_law 633 = .ok (.iaload, 1) := by decide +kernel
theorem dL_law_634 : decode cL_law 634 = .ok (.aload_n 0, 1) := by decide +kernel
theorem dL_law_635 : decode cL_law 635 = .ok (.iload_n 3, 1) := by decide +kernel
theorem dL_law_636 : decode cL_law 636 = .ok (.iconst 2, 1) := by decide +kernel
theorem dL_law_637 : decode cL_law 637 = .ok (.iadd, 1) := by decide +kernel
theorem dL_law_638 : decode cL_law 638 = .ok (.iaload, 1) := by decide +kernel
theorem dL_law_639 : decode cL_law 639 = .ok (.aload_n 0, 1) := by decide +kernel
theorem dL_law_640 : decode cL_law 640 = .ok (.iload_n 3, 1) := by decide +kernel
theorem dL_law_641 : decode cL_law 641 = .ok (.iconst 3, 1) := by decide +kernel
theorem dL_law_642 : decode cL_law 642 = .ok (.iadd, 1) := by decide +kernel
theorem dL_law_643 : decode cL_law 643 = .ok (.iaload, 1) := by decide +kernel
theorem dL_law_644 : decode cL_law 644 = .ok (.invokevirtual 66, 3) := by decide +kernel
theorem dL_law_647 : decode cL_law 647 = .ok (.lcmp, 1) := by decide +kernel
theorem dL_law_648 : decode cL_law 648 = .ok (.ifCond .eq 310, 3) := by decide +kernel
theorem dL_law_651 : decode cL_law 651 = .ok (.iconst 0, 1) := by decide +kernel
theorem dL_law_652 : decode cL_law 652 = .ok (.ireturn, 1) := by decide +kernel
theorem dL_law_653 : decode cL_law 653 = .ok (.aload_n 1, 1) := by decide +kernel
theorem dL_law_654 : decode cL_law 654 = .ok (.aload_n 0, 1) := by decide +kernel
theorem dL_law_655 : decode cL_law 655 = .ok (.iload_n 3, 1) := by decide +kernel
theorem dL_law_656 : decode cL_law 656 = .ok (.iconst 1, 1) := by decide +kernel
theorem dL_law_657 : decode cL_law 657 = .ok (.iadd, 1) := by decide +kernel
theorem dL_law_658 : decode cL_law 658 = .ok (.iaload, 1) := by decide +kernel
theorem dL_law_659 : decode cL_law 659 = .ok (.invokevirtual 67, 3) := by decide +kernel
theorem dL_law_662 : decode cL_law 662 = .ok (.aload_n 2, 1) := by decide +kernel
theorem dL_law_663 : decode cL_law 663 = .ok (.aload_n 0, 1) := by decide +kernel
theorem dL_law_664 : decode cL_law 664 = .ok (.iload_n 3, 1) := by decide +kernel
theorem dL_law_665 : decode cL_law 665 = .ok (.iconst 1, 1) := by decide +kernel
theorem dL_law_666 : decode cL_law 666 = .ok (.iadd, 1) := by decide +kernel
theorem dL_law_667 : decode cL_law 667 = .ok (.iaload, 1) := by decide +kernel
theorem dL_law_668 : decode cL_law 668 = .ok (.invokevirtual 70, 3) := by decide +kernel
theorem dL_law_671 : decode cL_law 671 = .ok (.if_icmp .eq 287, 3) := by decide +kernel
theorem dL_law_674 : decode cL_law 674 = .ok (.iconst 0, 1) := by decide +kernel
theorem dL_law_675 : decode cL_law 675 = .ok (.ireturn, 1) := by decide +kernel
theorem dL_law_676 : decode cL_law 676 = .ok (.aload_n 1, 1) := by decide +kernel
theorem dL_law_677 : decode cL_law 677 = .ok (.invokevirtual 71, 3) := by decide +kernel
theorem dL_law_680 : decode cL_law 680 = .ok (.aload_n 2, 1) := by decide +kernel
theorem dL_law_681 : decode cL_law 681 = .ok (.invokevirtual 75, 3) := by decide +kernel
theorem dL_law_684 : decode cL_law 684 = .ok (.if_icmp .eq 274, 3) := by decide +kernel
theorem dL_law_687 : decode cL_law 687 = .ok (.iconst 0, 1) := by decide +kernel
theorem dL_law_688 : decode cL_law 688 = .ok (.ireturn, 1) := by decide +kernel
theorem dL_law_689 : decode cL_law 689 = .ok (.aload_n 1, 1) := by decide +kernel
theorem dL_law_690 : decode cL_law 690 = .ok (.aload_n 0, 1) := by decide +kernel
theorem dL_law_691 : decode cL_law 691 = .ok (.iload_n 3, 1) := by decide +kernel
theorem dL_law_692 : decode cL_law 692 = .ok (.iconst 1, 1) := by decide +kernel
theorem dL_law_693 : decode cL_law 693 = .ok (.iadd, 1) := by decide +kernel
theorem dL_law_694 : decode cL_law 694 = .ok (.iaload, 1) := by decide +kernel
theorem dL_law_695 : decode cL_law 695 = .ok (.invokevirtual 76, 3) := by decide +kernel
theorem dL_law_698 : decode cL_law 698 = .ok (.aload_n 2, 1) := by decide +kernel
theorem dL_law_699 : decode cL_law 699 = .ok (.aload_n 0, 1) := by decide +kernel
theorem dL_law_700 : decode cL_law 700 = .ok (.iload_n 3, 1) := by decide +kernel
theorem dL_law_701 : decode cL_law 701 = .ok (.iconst 1, 1) := by decide +kernel
theorem dL_law_702 : decode cL_law 702 = .ok (.iadd, 1) := by decide +kernel
theorem dL_law_703 : decode cL_law 703 = .ok (.iaload, 1) := by decide +kernel
theorem dL_law_704 : decode cL_law 704 = .ok (.invokevirtual 79, 3) := by decide +kernel
theorem dL_law_707 : decode cL_law 707 = .ok (.if_icmp .eq 251, 3) := by decide +kernel
theorem dL_law_710 : decode cL_law 710 = .ok (.iconst 0, 1) := by decide +kernel
theorem dL_law_711 : decode cL_law 711 = .ok (.ireturn, 1) := by decide +kernel
theorem dL_law_712 : decode cL_law 712 = .ok (.aload_n 1, 1) := by decide +kernel
theorem dL_law_713 : decode cL_law 713 = .ok (.aload_n 0, 1) := by decide +kernel
theorem dL_law_714 : decode cL_law 714 = .ok (.iload_n 3, 1) := by decide +kernel
theorem dL_law_715 : decode cL_law 715 = .ok (.iconst 1, 1) := by decide +kernel
theorem dL_law_716 : decode cL_law 716 = .ok (.iadd, 1) := by decide +kernel
theorem dL_law_717 : decode cL_law 717 = .ok (.iaload, 1) := by decide +kernel
theorem dL_law_718 : decode cL_law 718 = .ok (.aload_n 0, 1) := by decide +kernel
theorem dL_law_719 : decode cL_law 719 = .ok (.iload_n 3, 1) := by decide +kernel
theorem dL_law_720 : decode cL_law 720 = .ok (.iconst 2, 1) := by decide +kernel
theorem dL_law_721 : decode cL_law 721 = .ok (.iadd, 1) := by decide +kernel
theorem dL_law_722 : decode cL_law 722 = .ok (.iaload, 1) := by decide +kernel
theorem dL_law_723 : decode cL_law 723 = .ok (.aload_n 0, 1) := by decide +kernel
theorem dL_law_724 : decode cL_law 724 = .ok (.iload_n 3, 1) := by decide +kernel
theorem dL_law_725 : decode cL_law 725 = .ok (.iconst 3, 1) := by decide +kernel
theorem dL_law_726 : decode cL_law 726 = .ok (.iadd, 1) := by decide +kernel
theorem dL_law_727 : decode cL_law 727 = .ok (.iaload, 1) := by decide +kernel
theorem dL_law_728 : decode cL_law 728 = .ok (.invokevirtual 80, 3) := by decide +kernel
theorem dL_law_731 : decode cL_law 731 = .ok (.aload_n 2, 1) := by decide +kernel
theorem dL_law_732 : decode cL_law 732 = .ok (.aload_n 0, 1) := by decide +kernel
theorem dL_law_733 : decode cL_law 733 = .ok (.iload_n 3, 1) := by decide +kernel
theorem dL_law_734 : decode cL_law 734 = .ok (.iconst 1, 1) := by decide +kernel
theorem dL_law_735 : decode cL_law 735 = .ok (.iadd, 1) := by decide +kernel
theorem dL_law_736 : decode cL_law 736 = .ok (.iaload, 1) := by decide +kernel
theorem dL_law_737 : decode cL_law 737 = .ok (.aload_n 0, 1) := by decide +kernel
theorem dL_law_738 : decode cL_law 738 = .ok (.iload_n 3, 1) := by decide +kernel
theorem dL_law_739 : decode cL_law 739 = .ok (.iconst 2, 1) := by decide +kernel
theorem dL_law_740 : decode cL_law 740 = .ok (.iadd, 1) := by decide +kernel
theorem dL_law_741 : decode cL_law 741 = .ok (.iaload, 1) := by decide +kernel
theorem dL_law_742 : decode cL_law 742 = .ok (.aload_n 0, 1) := by decide +kernel
theorem dL_law_743 : decode cL_law 743 = .ok (.iload_n 3, 1) := by decide +kernel
theorem dL_law_744 : decode cL_law 744 = .ok (.iconst 3, 1) := by decide +kernel
theorem dL_law_745 : decode cL_law 745 = .ok (.iadd, 1) := by decide +kernel
theorem dL_law_746 : decode cL_law 746 = .ok (.iaload, 1) := by decide +kernel
theorem dL_law_747 : decode cL_law 747 = .ok (.invokevirtual 83, 3) := by decide +kernel
theorem dL_law_750 : decode cL_law 750 = .ok (.lcmp, 1) := by decide +kernel
theorem dL_law_751 : decode cL_law 751 = .ok (.ifCond .eq 207, 3) := by decide +kernel
theorem dL_law_754 : decode cL_law 754 = .ok (.iconst 0, 1) := by decide +kernel
theorem dL_law_755 : decode cL_law 755 = .ok (.ireturn, 1) := by decide +kernel
theorem dL_law_756 : decode cL_law 756 = .ok (.aload_n 1, 1) := by decide +kernel
theorem dL_law_757 : decode cL_law 757 = .ok (.aload_n 0, 1) := by decide +kernel
theorem dL_law_758 : decode cL_law 758 = .ok (.iload_n 3, 1) := by decide +kernel
theorem dL_law_759 : decode cL_law 759 = .ok (.iconst 1, 1) := by decide +kernel
theorem dL_law_760 : decode cL_law 760 = .ok (.iadd, 1) := by decide +kernel
theorem dL_law_761 : decode cL_law 761 = .ok (.iaload, 1) := by decide +kernel
theorem dL_law_762 : decode cL_law 762 = .ok (.aload_n 0, 1) := by decide +kernel
theorem dL_law_763 : decode cL_law 763 = .ok (.iload_n 3, 1) := by decide +kernel
theorem dL_law_764 : decode cL_law 764 = .ok (.iconst 2, 1) := by decide +kernel
theorem dL_law_765 : decode cL_law 765 = .ok (.iadd, 1) := by decide +kernel
theorem dL_law_766 : decode cL_law 766 = .ok (.iaload, 1) := by decide +kernel
theorem dL_law_767 : decode cL_law 767 = .ok (.aload_n 0, 1) := by decide +kernel
theorem dL_law_768 : decode cL_law 768 = .ok (.iload_n 3, 1) := by decide +kernel
theorem dL_law_769 : decode cL_law 769 = .ok (.iconst 3, 1) := by decide +kernel
theorem dL_law_770 : decode cL_law 770 = .ok (.iadd, 1) := by decide +kernel
theorem dL_law_771 : decode cL_law 771 = .ok (.iaload, 1) := by decide +kernel
theorem dL_law_772 : decode cL_law 772 = .ok (.aload_n 0, 1) := by decide +kernel
theorem dL_law_773 : decode cL_law 773 = .ok (.iload_n 3, 1) := by decide +kernel
theorem dL_law_774 : decode cL_law 774 = .ok (.iconst 4, 1) := by decide +kernel
theorem dL_law_775 : decode cL_law 775 = .ok (.iadd, 1) := by decide +kernel
theorem dL_law_776 : decode cL_law 776 = .ok (.iaload, 1) := by decide +kernel
theorem dL_law_777 : decode cL_law 777 = .ok (.invokevirtual 84, 3) := by decide +kernel
theorem dL_law_780 : decode cL_law 780 = .ok (.aload_n 2, 1) := by decide +kernel
theorem dL_law_781 : decode cL_law 781 = .ok (.aload_n 0, 1) := by decide +kernel
theorem dL_law_782 : decode cL_law 782 = .ok (.iload_n 3, 1) := by decide +kernel
theorem dL_law_783 : decode cL_law 783 = .ok (.iconst 1, 1) := by decide +kernel
theorem dL_law_784 : decode cL_law 784 = .ok (.iadd, 1) := by decide +kernel
theorem dL_law_785 : decode cL_law 785 = .ok (.iaload, 1) := by decide +kernel
theorem dL_law_786 : decode cL_law 786 = .ok (.aload_n 0, 1) := by decide +kernel
theorem dL_law_787 : decode cL_law 787 = .ok (.iload_n 3, 1) := by decide +kernel
theorem dL_law_788 : decode cL_law 788 = .ok (.iconst 2, 1) := by decide +kernel
theorem dL_law_789 : decode cL_law 789 = .ok (.iadd, 1) := by decide +kernel
theorem dL_law_790 : decode cL_law 790 = .ok (.iaload, 1) := by decide +kernel
theorem dL_law_791 : decode cL_law 791 = .ok (.aload_n 0, 1) := by decide +kernel
theorem dL_law_792 : decode cL_law 792 = .ok (.iload_n 3, 1) := by decide +kernel
theorem dL_law_793 : decode cL_law 793 = .ok (.iconst 3, 1) := by decide +kernel
theorem dL_law_794 : decode cL_law 794 = .ok (.iadd, 1) := by decide +kernel
theorem dL_law_795 : decode cL_law 795 = .ok (.iaload, 1) := by decide +kernel
theorem dL_law_796 : decode cL_law 796 = .ok (.aload_n 0, 1) := by decide +kernel
theorem dL_law_797 : decode cL_law 797 = .ok (.iload_n 3, 1) := by decide +kernel
theorem dL_law_798 : decode cL_law 798 = .ok (.iconst 4, 1) := by decide +kernel
theorem dL_law_799 : decode cL_law 799 = .ok (.iadd, 1) := by decide +kernel
theorem dL_law_800 : decode cL_law 800 = .ok (.iaload, 1) := by decide +kernel
theorem dL_law_801 : decode cL_law 801 = .ok (.invokevirtual 88, 3) := by decide +kernel
theorem dL_law_804 : decode cL_law 804 = .ok (.lcmp, 1) := by decide +kernel
theorem dL_law_805 : decode cL_law 805 = .ok (.ifCond .eq 153, 3) := by decide +kernel
theorem dL_law_808 : decode cL_law 808 = .ok (.iconst 0, 1) := by decide +kernel
theorem dL_law_809 : decode cL_law 809 = .ok (.ireturn, 1) := by decide +kernel
theorem dL_law_810 : decode cL_law 810 = .ok (.aload_n 1, 1) := by decide +kernel
theorem dL_law_811 : decode cL_law 811 = .ok (.aload_n 0, 1) := by decide +kernel
theorem dL_law_812 : decode cL_law 812 = .ok (.iload_n 3, 1) := by decide +kernel
theorem dL_law_813 : decode cL_law 813 = .ok (.iconst 1, 1) := by decide +kernel
theorem dL_law_814 : decode cL_law 814 = .ok (.iadd, 1) := by decide +kernel
theorem dL_law_815 : decode cL_law 815 = .ok (.iaload, 1) := by decide +kernel
theorem dL_law_816 : decode cL_law 816 = .ok (.aload_n 0, 1) := by decide +kernel
theorem dL_law_817 : decode cL_law 817 = .ok (.iload_n 3, 1) := by decide +kernel
theorem dL_law_818 : decode cL_law 818 = .ok (.iconst 2, 1) := by decide +kernel
theorem dL_law_819 : decode cL_law 819 = .ok (.iadd, 1) := by decide +kernel
theorem dL_law_820 : decode cL_law 820 = .ok (.iaload, 1) := by decide +kernel
theorem dL_law_821 : decode cL_law 821 = .ok (.invokevirtual 89, 3) := by decide +kernel
theorem dL_law_824 : decode cL_law 824 = .ok (.aload_n 2, 1) := by decide +kernel
theorem dL_law_825 : decode cL_law 825 = .ok (.aload_n 0, 1) := by decide +kernel
theorem dL_law_826 : decode cL_law 826 = .ok (.iload_n 3, 1) := by decide +kernel
theorem dL_law_827 : decode cL_law 827 = .ok (.iconst 1, 1) := by decide +kernel
theorem dL_law_828 : decode cL_law 828 = .ok (.iadd, 1) := by decide +kernel
theorem dL_law_829 : decode cL_law 829 = .ok (.iaload, 1) := by decide +kernel
theorem dL_law_830 : decode cL_law 830 = .ok (.aload_n 0, 1) := by decide +kernel
theorem dL_law_831 : decode cL_law 831 = .ok (.iload_n 3, 1) := by decide +kernel
theorem dL_law_832 : decode cL_law 832 = .ok (.iconst 2, 1) := by decide +kernel
theorem dL_law_833 : decode cL_law 833 = .ok (.iadd, 1) := by decide +kernel
theorem dL_law_834 : decode cL_law 834 = .ok (.iaload, 1) := by decide +kernel
theorem dL_law_835 : decode cL_law 835 = .ok (.invokevirtual 93, 3) := by decide +kernel
theorem dL_law_838 : decode cL_law 838 = .ok (.lcmp, 1) := by decide +kernel
theorem dL_law_839 : decode cL_law 839 = .ok (.ifCond .eq 119, 3) := by decide +kernel
theorem dL_law_842 : decode cL_law 842 = .ok (.iconst 0, 1) := by decide +kernel
theorem dL_law_843 : decode cL_law 843 = .ok (.ireturn, 1) := by decide +kernel
theorem dL_law_844 : decode cL_law 844 = .ok (.aload_n 1, 1) := by decide +kernel
theorem dL_law_845 : decode cL_law 845 = .ok (.aload_n 0, 1) := by decide +kernel
theorem dL_law_846 : decode cL_law 846 = .ok (.iload_n 3, 1) := by decide +kernel
theorem dL_law_847 : decode cL_law 847 = .ok (.iconst 1, 1) := by decide +kernel
theorem dL_law_848 : decode cL_law 848 = .ok (.iadd, 1) := by decide +kernel
theorem dL_law_849 : decode cL_law 849 = .ok (.iaload, 1) := by decide +kernel
theorem dL_law_850 : decode cL_law 850 = .ok (.invokevirtual 94, 3) := by decide +kernel
theorem dL_law_853 : decode cL_law 853 = .ok (.aload_n 2, 1) := by decide +kernel
theorem dL_law_854 : decode cL_law 854 = .ok (.aload_n 0, 1) := by decide +kernel
theorem dL_law_855 : decode cL_law 855 = .ok (.iload_n 3, 1) := by decide +kernel
theorem dL_law_856 : decode cL_law 856 = .ok (.iconst 1, 1) := by decide +kernel
theorem dL_law_857 : decode cL_law 857 = .ok (.iadd, 1) := by decide +kernel
theorem dL_law_858 : decode cL_law 858 = .ok (.iaload, 1) := by decide +kernel
theorem dL_law_859 : decode cL_law 859 = .ok (.invokevirtual 98, 3) := by decide +kernel
theorem dL_law_862 : decode cL_law 862 = .ok (.lcmp, 1) := by decide +kernel
theorem dL_law_863 : decode cL_law 863 = .ok (.ifCond .eq 95, 3) := by decide +kernel
theorem dL_law_866 : decode cL_law 866 = .ok (.iconst 0, 1) := by decide +kernel
theorem dL_law_867 : decode cL_law 867 = .ok (.ireturn, 1) := by decide +kernel
theorem dL_law_868 : decode cL_law 868 = .ok (.aload_n 1, 1) := by decide +kernel
theorem dL_law_869 : decode cL_law 869 = .ok (.aload_n 0, 1) := by decide +kernel
theorem dL_law_870 : decode cL_law 870 = .ok (.iload_n 3, 1) := by decide +kernel
theorem dL_law_871 : decode cL_law 871 = .ok (.iconst 1, 1) := by decide +kernel
theorem dL_law_872 : decode cL_law 872 = .ok (.iadd, 1) := by decide +kernel
theorem dL_law_873 : decode cL_law 873 = .ok (.iaload, 1) := by decide +kernel
theorem dL_law_874 : decode cL_law 874 = .ok (.aload_n 0, 1) := by decide +kernel
theorem dL_law_875 : decode cL_law 875 = .ok (.iload_n 3, 1) := by decide +kernel
theorem dL_law_876 : decode cL_law 876 = .ok (.iconst 2, 1) := by decide +kernel
theorem dL_law_877 : decode cL_law 877 = .ok (.iadd, 1) := by decide +kernel
theorem dL_law_878 : decode cL_law 878 = .ok (.iaload, 1) := by decide +kernel
theorem dL_law_879 : decode cL_law 879 = .ok (.aload_n 0, 1) := by decide +kernel
theorem dL_law_880 : decode cL_law 880 = .ok (.iload_n 3, 1) := by decide +kernel
theorem dL_law_881 : decode cL_law 881 = .ok (.iconst 3, 1) := by decide +kernel
theorem dL_law_882 : decode cL_law 882 = .ok (.iadd, 1) := by decide +kernel
theorem dL_law_883 : decode cL_law 883 = .ok (.iaload, 1) := by decide +kernel
theorem dL_law_884 : decode cL_law 884 = .ok (.invokevirtual 99, 3) := by decide +kernel
theorem dL_law_887 : decode cL_law 887 = .ok (.aload_n 2, 1) := by decide +kernel
theorem dL_law_888 : decode cL_law 888 = .ok (.aload_n 0, 1) := by decide +kernel
theorem dL_law_889 : decode cL_law 889 = .ok (.iload_n 3, 1) := by decide +kernel
theorem dL_law_890 : decode cL_law 890 = .ok (.iconst 1, 1) := by decide +kernel
theorem dL_law_891 : decode cL_law 891 = .ok (.iadd, 1) := by decide +kernel
theorem dL_law_892 : decode cL_law 892 = .ok (.iaload, 1) := by decide +kernel
theorem dL_law_893 : decode cL_law 893 = .ok (.aload_n 0, 1) := by decide +kernel
theorem dL_law_894 : decode cL_law 894 = .ok (.iload_n 3, 1) := by decide +kernel
theorem dL_law_895 : decode cL_law 895 = .ok (.iconst 2, 1) := by decide +kernel
theorem dL_law_896 : decode cL_law 896 = .ok (.iadd, 1) := by decide +kernel
theorem dL_law_897 : decode cL_law 897 = .ok (.iaload, 1) := by decide +kernel
theorem dL_law_898 : decode cL_law 898 = .ok (.aload_n 0, 1) := by decide +kernel
theorem dL_law_899 : decode cL_law 899 = .ok (.iload_n 3, 1) := by decide +kernel
theorem dL_law_900 : decode cL_law 900 = .ok (.iconst 3, 1) := by decide +kernel
theorem dL_law_901 : decode cL_law 901 = .ok (.iadd, 1) := by decide +kernel
theorem dL_law_902 : decode cL_law 902 = .ok (.iaload, 1) := by decide +kernel
theorem dL_law_903 : decode cL_law 903 = .ok (.invokevirtual 102, 3) := by decide +kernel
theorem dL_law_906 : decode cL_law 906 = .ok (.lcmp, 1) := by decide +kernel
theorem dL_law_907 : decode cL_law 907 = .ok (.ifCond .eq 51, 3) := by decide +kernel
theorem dL_law_910 : decode cL_law 910 = .ok (.iconst 0, 1) := by decide +kernel
theorem dL_law_911 : decode cL_law 911 = .ok (.ireturn, 1) := by decide +kernel
theorem dL_law_912 : decode cL_law 912 = .ok (.aload_n 1, 1) := by decide +kernel
theorem dL_law_913 : decode cL_law 913 = .ok (.aload_n 0, 1) := by decide +kernel
theorem dL_law_914 : decode cL_law 914 = .ok (.iload_n 3, 1) := by decide +kernel
theorem dL_law_915 : decode cL_law 915 = .ok (.iconst 1, 1) := by decide +kernel
theorem dL_law_916 : decode cL_law 916 = .ok (.iadd, 1) := by decide +kernel
theorem dL_law_917 : decode cL_law 917 = .ok (.iaload, 1) := by decide +kernel
theorem dL_law_918 : decode cL_law 918 = .ok (.invokevirtual 103, 3) := by decide +kernel
theorem dL_law_921 : decode cL_law 921 = .ok (.aload_n 2, 1) := by decide +kernel
theorem dL_law_922 : decode cL_law 922 = .ok (.aload_n 0, 1) := by decide +kernel
theorem dL_law_923 : decode cL_law 923 = .ok (.iload_n 3, 1) := by decide +kernel
theorem dL_law_924 : decode cL_law 924 = .ok (.iconst 1, 1) := by decide +kernel
theorem dL_law_925 : decode cL_law 925 = .ok (.iadd, 1) := by decide +kernel
theorem dL_law_926 : decode cL_law 926 = .ok (.iaload, 1) := by decide +kernel
theorem dL_law_927 : decode cL_law 927 = .ok (.invokevirtual 106, 3) := by decide +kernel
theorem dL_law_930 : decode cL_law 930 = .ok (.if_icmp .eq 28, 3) := by decide +kernel
theorem dL_law_933 : decode cL_law 933 = .ok (.iconst 0, 1) := by decide +kernel
theorem dL_law_934 : decode cL_law 934 = .ok (.ireturn, 1) := by decide +kernel
theorem dL_law_935 : decode cL_law 935 = .ok (.aload_n 1, 1) := by decide +kernel
theorem dL_law_936 : decode cL_law 936 = .ok (.aload_n 0, 1) := by decide +kernel
theorem dL_law_937 : decode cL_law 937 = .ok (.iload_n 3, 1) := by decide +kernel
theorem dL_law_938 : decode cL_law 938 = .ok (.iconst 1, 1) := by decide +kernel
theorem dL_law_939 : decode cL_law 939 = .ok (.iadd, 1) := by decide +kernel
theorem dL_law_940 : decode cL_law 940 = .ok (.iaload, 1) := by decide +kernel
theorem dL_law_941 : decode cL_law 941 = .ok (.invokevirtual 107, 3) := by decide +kernel
theorem dL_law_944 : decode cL_law 944 = .ok (.aload_n 2, 1) := by decide +kernel
theorem dL_law_945 : decode cL_law 945 = .ok (.aload_n 0, 1) := by decide +kernel
theorem dL_law_946 : decode cL_law 946 = .ok (.iload_n 3, 1) := by decide +kernel
theorem dL_law_947 : decode cL_law 947 = .ok (.iconst 1, 1) := by decide +kernel
theorem dL_law_948 : decode cL_law 948 = .ok (.iadd, 1) := by decide +kernel
theorem dL_law_949 : decode cL_law 949 = .ok (.iaload, 1) := by decide +kernel
theorem dL_law_950 : decode cL_law 950 = .ok (.invokevirtual 110, 3) := by decide +kernel
theorem dL_law_953 : decode cL_law 953 = .ok (.if_icmp .eq 5, 3) := by decide +kernel
theorem dL_law_956 : decode cL_law 956 = .ok (.iconst 0, 1) := by decide +kernel
theorem dL_law_957 : decode cL_law 957 = .ok (.ireturn, 1) := by decide +kernel
theorem dL_law_958 : decode cL_law 958 = .ok (.iinc 3 6, 3) := by decide +kernel
theorem dL_law_961 : decode cL_law 961 = .ok (.goto (-943), 3) := by decide +kernel
theorem dL_law_964 : decode cL_law 964 = .ok (.iconst 1, 1) := by decide +kernel
theorem dL_law_965 : decode cL_law 965 = .ok (.ireturn, 1) := by decide +kernel
end
section
/-! the state of one side: whole numbers of the objects (by object and field), ints and longs of the rows (by row and place) -/
abbrev gS : Type := (Nat → Nat → Int32) × (Nat → Nat → Int32) × (Nat → Nat → Int64)
def gI (S : gS) : Nat → Nat → Int32 := S.1
def gA (S : gS) : Nat → Nat → Int32 := S.2.1
def gJ (S : gS) : Nat → Nat → Int64 := S.2.2
def gup {α : Type} (f : Nat → Nat → α) (o k : Nat) (v : α) : Nat → Nat → α := fun i j => if i = o ∧ j = k then v else f i j
def grow {α : Type} (f : Nat → Nat → α) (o : Nat) (r : Nat → α) : Nat → Nat → α := fun i => if i = o then r else f i
def gI_up (S : gS) (o k : Nat) (v : Int32) : gS := (gup S.1 o k v, S.2)
def gA_up (S : gS) (o k : Nat) (v : Int32) : gS := (S.1, gup S.2.1 o k v, S.2.2)
def gJ_up (S : gS) (o k : Nat) (v : Int64) : gS := (S.1, S.2.1, gup S.2.2 o k v)
def gA_row (S : gS) (o : Nat) (r : Nat → Int32) : gS := (S.1, grow S.2.1 o r, S.2.2)
def gJ_row (S : gS) (o : Nat) (r : Nat → Int64) : gS := (S.1, S.2.1, grow S.2.2 o r)
theorem gA_row_up (S : gS) (o k : Nat) (v : Int32) : gA_row S o (upd (gA S o) k v) = gA_up S o k v := by
  have h : grow S.2.1 o (upd (S.2.1 o) k v) = gup S.2.1 o k v := by
    funext i j
    by_cases hi : i = o
    · subst hi; simp [grow, gup, upd]
    · simp [grow, gup, hi]
  unfold gA_row gA_up gA; rw [h]
theorem gJ_row_up (S : gS) (o k : Nat) (v : Int64) : gJ_row S o (vp_updL (gJ S o) k v) = gJ_up S o k v := by
  have h : grow S.2.2 o (vp_updL (S.2.2 o) k v) = gup S.2.2 o k v := by
    funext i j
    by_cases hi : i = o
    · subst hi; simp [grow, gup, vp_updL]
    · simp [grow, gup, hi]
  unfold gJ_row gJ_up gJ; rw [h]
/-! the words of the programs: a name, a look at an index, a call -/
def gx_let {α β : Type} (v : α) (f : α → β) : β := f v
def gx_chk {β : Type} (i : Int32) (n : Nat) (k : Option β) : Option β := if i < 0 ∨ n ≤ i.toNatClampNeg then none else k
def gx_ok {β : Type} (c : Bool) (k : Option β) : Option β := if c = true then k else none
def gx_bind {α β : Type} (x : Option (α × gS)) (f : α → gS → Option β) : Option β := match x with
  | none => none
  | some q => f q.1 q.2
def gx_fuel : Nat := 100000
theorem gx_let_e {α β : Type} {v y : α} {f : α → β} {z : β} (e : y = v) (h : gx_let v f = z) : f y = z := by rw [e]; exact h
theorem gx_chk_e {β : Type} {i : Int32} {n : Nat} {k : Option β} {z : β} (h : gx_chk i n k = some z) : vp_in i n ∧ k = some z := by
  unfold gx_chk at h
  by_cases q : i < 0 ∨ n ≤ i.toNatClampNeg
  · rw [if_pos q] at h; cases h
  · rw [if_neg q] at h; exact ⟨q, h⟩
theorem gx_ok_e {β : Type} {c : Bool} {k : Option β} {z : β} (h : gx_ok c k = some z) : c = true ∧ k = some z := by
  unfold gx_ok at h
  by_cases q : c = true
  · rw [if_pos q] at h; exact ⟨q, h⟩
  · rw [if_neg q] at h; cases h
theorem gx_bind_e {α β : Type} {x : Option (α × gS)} {f : α → gS → Option β} {z : β} (h : gx_bind x f = some z) : ∃ (a : α) (S : gS), x = some (a, S) ∧ f a S = some z := by
  cases x with
  | none => cases h
  | some q => exact ⟨q.1, q.2, rfl, h⟩
def gx_cpyJ {β : Type} (S : gS) (a b n0 n1 : Nat) (sp dp n : Int32) (k : gS → Option β) : Option β := gx_ok (decide (¬ sp < 0 ∧ ¬ dp < 0 ∧ ¬ n < 0 ∧ sp.toNatClampNeg + n.toNatClampNeg ≤ n0 ∧ dp.toNatClampNeg + n.toNatClampNeg ≤ n1)) (k (gJ_row S b (va_cpy (gJ S a) (gJ S b) sp.toNatClampNeg dp.toNatClampNeg n.toNatClampNeg)))
def gx_cpyA {β : Type} (S : gS) (a b n0 n1 : Nat) (sp dp n : Int32) (k : gS → Option β) : Option β := gx_ok (decide (¬ sp < 0 ∧ ¬ dp < 0 ∧ ¬ n < 0 ∧ sp.toNatClampNeg + n.toNatClampNeg ≤ n0 ∧ dp.toNatClampNeg + n.toNatClampNeg ≤ n1)) (k (gA_row S b (va_cpy (gA S a) (gA S b) sp.toNatClampNeg dp.toNatClampNeg n.toNatClampNeg)))
/-! worlds of cells by their numbers -/
abbrev gG : Type := va_G × (Nat → ClassId)
abbrev gW : Type := gG → (Nat → Nat) → gS → va_W
def gTys (G : gG) : List (ClassId × FieldType) := [(G.2 0, .int), (G.2 1, .long), (G.2 2, .object RX0), (G.2 3, .object RX3)]
def gisJ (wd : gW) (o n : Nat) : Prop := ∀ (G : gG) (ad : Nat → Nat) (S : gS), (wd G ad S)[o]? = some (ad o, .inl (G.2 1, n, .inr (.inl (gJ S o)))) ∧ ∀ f, (wd G ad S).set o (ad o, .inl (G.2 1, n, .inr (.inl f))) = wd G ad (gJ_row S o f)
def gisA (wd : gW) (o n : Nat) : Prop := ∀ (G : gG) (ad : Nat → Nat) (S : gS), (wd G ad S)[o]? = some (ad o, .inl (G.2 0, n, .inl (gA S o))) ∧ ∀ f, (wd G ad S).set o (ad o, .inl (G.2 0, n, .inl f)) = wd G ad (gA_row S o f)
def gisQ (wd : gW) (o n t : Nat) (g : Nat → Nat) : Prop := ∀ (G : gG) (ad : Nat → Nat) (S : gS), (wd G ad S)[o]? = some (ad o, .inl (G.2 t, n, .inr (.inr (.inr (.inr (fun k => some (ad (g k))))))))
def gisO (wd : gW) (o ci : Nat) (fs : (Nat → Nat) → gS → List Value) : Prop := ∀ (G : gG) (ad : Nat → Nat) (S : gS), (wd G ad S)[o]? = some (ad o, .inr (ci, fs ad S))
def gisP (wd : gW) (o ci k : Nat) (fs : (Nat → Nat) → gS → List Value) : Prop := ∀ (G : gG) (ad : Nat → Nat) (S : gS) (v : Int32), (wd G ad S).set o (ad o, .inr (ci, (fs ad S).set k (.int v))) = wd G ad (gI_up S o k v)
def gCx (p : Program) (s : State) (m : MethodId) (args : Array Value) (meth : Method) (c : Code) (G : gG) (cc : ByteArray) (own : String) (ret : Option FieldType) (nL : Nat) : Prop :=
  p.tables.exec = Jvm.exec ∧ c.code = cc ∧ meth.sig.returnType = ret ∧ c.maxLocals = nL ∧ s.vm.findClass own = some m.cls ∧ (∀ w ∈ g_tbl, w.before args s = true) ∧ meth.locks = false ∧ va_K G.1 vwCl (gTys G) s
def gV (wd : gW) (G : gG) (ad : Nat → Nat) (A : Nat → Prop) (H0 : Heap) (S : gS) (H : Heap) (locs : List Loc) : Prop := va_P G.1 vwCl (wd G ad S) H ∧ va_D A (wd G ad S) ∧ va_S A H0 H locs
def gPre (wd : gW) (G : gG) (ad : Nat → Nat) (S : gS) (sz : Nat) (U : State) : Prop := U.heap.size = sz ∧ va_P G.1 vwCl (wd G ad S) U.heap ∧ va_K G.1 vwCl (gTys G) U ∧ va_D (fun _ => True) (wd G ad S)
def gAt (wd : gW) (G : gG) (ad : Nat → Nat) (A : Nat → Prop) (u : gS) (t : State) : Prop := va_P G.1 vwCl (wd G ad u) t.heap ∧ va_K G.1 vwCl (gTys G) t ∧ va_D A (wd G ad u)
def gQi (wd : gW) (G : gG) (ad : Nat → Nat) (A : Nat → Prop) (z : Int32 × gS) : Array Value → State → Outcome → State → Prop := va_Qi (fun (r : Int32) (u : gS) => r = z.1 ∧ u = z.2) (gAt wd G ad A) A
def gQl (wd : gW) (G : gG) (ad : Nat → Nat) (A : Nat → Prop) (z : Int64 × gS) : Array Value → State → Outcome → State → Prop := va_Ql (fun (r : Int64) (u : gS) => r = z.1 ∧ u = z.2) (gAt wd G ad A) A
def gQv (wd : gW) (G : gG) (ad : Nat → Nat) (A : Nat → Prop) (z : Unit × gS) : Array Value → State → Outcome → State → Prop := va_Qv (fun (u : gS) => u = z.2) (gAt wd G ad A) A
def gMet (l : Launch) (y : MethodName) (cc : ByteArray) (nL : Nat) (ret : Option FieldType) (rm : Room) (wd : gW) (G : gG) (ad : Nat → Nat) (S : gS) (sz : Nat) (av : List Value) (Q : (Nat → Prop) → Array Value → State → Outcome → State → Prop) : Prop :=
  Met l y (Cond.code y cc nL ret :: g_tbl) rm (va_Pc av (gPre wd G ad S sz)) (Q (va_A (wd G ad S) sz)) 0 0 (va_A (wd G ad S) sz)
def gMetI (l : Launch) (y : MethodName) (cc : ByteArray) (nL : Nat) (ret : Option FieldType) (rm : Room) (wd : gW) (G : gG) (ad : Nat → Nat) (S : gS) (sz : Nat) (av : List Value) (r : Int32) (S' : gS) : Prop := gMet l y cc nL ret rm wd G ad S sz av (fun A => gQi wd G ad A (r, S'))
def gMetL (l : Launch) (y : MethodName) (cc : ByteArray) (nL : Nat) (ret : Option FieldType) (rm : Room) (wd : gW) (G : gG) (ad : Nat → Nat) (S : gS) (sz : Nat) (av : List Value) (r : Int64) (S' : gS) : Prop := gMet l y cc nL ret rm wd G ad S sz av (fun A => gQl wd G ad A (r, S'))
def gMetV (l : Launch) (y : MethodName) (cc : ByteArray) (nL : Nat) (ret : Option FieldType) (rm : Room) (wd : gW) (G : gG) (ad : Nat → Nat) (S : gS) (sz : Nat) (av : List Value) (r : Unit) (S' : gS) : Prop := gMet l y cc nL ret rm wd G ad S sz av (fun A => gQv wd G ad A (r, S'))
theorem g_free {A : Nat → Prop} {ws : va_W} {H0 H : Heap} {locs : List Loc} (hD : va_D A ws) (hS : va_S A H0 H locs) (hA : ∀ q, H0.size ≤ q → A q) : ∀ q, va_A ws H.size q → A q := by
  intro q h
  rcases h with ⟨k, e, h⟩ | h
  · exact hD.2 k (q, e) h
  · exact hA q (Nat.le_trans hS.1 h)
/-- a method's start -/
theorem gMet_of {l : Launch} {y : MethodName} {cc : ByteArray} {nL : Nat} {ret : Option FieldType} {rm : Room} {wd : gW} {G : gG} {ad : Nat → Nat} {S : gS} {sz : Nat} {av : List Value} {Q : (Nat → Prop) → Array Value → State → Outcome → State → Prop} (hy : plainName y.cls = true)
    (body : ∀ (p : Program) (e : Env) (s : State) (m : MethodId) (below : List Frame) (meth : Method) (c : Code) (A : Nat → Prop), (∀ q, s.heap.size ≤ q → A q) → gCx p s m av.toArray meth c G cc y.cls ret nL → meth.name = y.name → gV wd G ad A s.heap S s.heap [] →
      W p l e rm s m av.toArray below meth c s.heap [] 0 0 (MQ below (Q A) av.toArray s 0 0 A) (entryFrame m av.toArray nL)) : gMet l y cc nL ret rm wd G ad S sz av Q := by
  refine Met.ofW (cc := cc) (maxL := nL) (ret := ret) hy rfl ?_
  intro p e s m args below meth c s₁ B hml hv
  obtain ⟨rfl, hsz, hP, hK, hD0⟩ := hv
  have hts := atoms_spec (ws := Cond.code y cc nL ret :: g_tbl) B.pre
  subst hsz
  exact body p e s m below meth c (va_A (wd G ad S) s.heap.size) (fun q h => Or.inr h) ⟨B.exec, B.bytes, B.returns, hml, findClass_of_methodNamed B.named, fun w hw => hts w (List.mem_cons_of_mem _ hw), B.notSynchronized, hK⟩ (name_of_methodNamed B.named B.method).1 ⟨hP, hD0.self, va_S.rf⟩
/-- what a call takes of the tables -/
def gKV (own : String) (ix : Nat) (y : MethodName) (bytes : ByteArray) (nL : Nat) (ret : Option FieldType) (n : Nat) : Prop :=
  Cond.methodLink own ix y ∈ g_tbl ∧ Cond.instanceMethod y ∈ g_tbl ∧ Cond.selects y.cls y y ∈ g_tbl ∧ Cond.code y bytes nL ret ∈ g_tbl ∧ Cond.initialized y.cls ∈ g_tbl ∧ (y.cls ≠ "java/lang/invoke/MethodHandle" ∧ y.cls ≠ "java/lang/invoke/VarHandle" ∧ (parseMethodDescriptor y.desc).map (fun d => d.parameters.length) = some n)
def gKS (own : String) (ix : Nat) (y : MethodName) (bytes : ByteArray) (nL : Nat) (ret : Option FieldType) (n : Nat) : Prop :=
  Cond.methodLink own ix y ∈ g_tbl ∧ Cond.static y ∈ g_tbl ∧ Cond.code y bytes nL ret ∈ g_tbl ∧ Cond.initialized y.cls ∈ g_tbl ∧ (y.cls ≠ "java/lang/invoke/MethodHandle" ∧ y.cls ≠ "java/lang/invoke/VarHandle" ∧ (parseMethodDescriptor y.desc).map (fun d => d.parameters.length) = some n)
section GR
variable {p : Program} {l : Launch} {e : Env} {R : Room} {s : State} {m : MethodId} {args : Array Value} {below : List Frame} {meth : Method} {c : Code} {H : Heap} {locs : List Loc} {cells slots : Nat} {Q : State → Prop}
variable {cc : ByteArray} {pc : Nat} {ls : Array Slot} {rest : List Value} {G : gG} {own : String} {ret : Option FieldType} {nL : Nat} {wd : gW} {ad : Nat → Nat} {A : Nat → Prop} {H0 : Heap} {S : gS}
theorem gw_get (X : gCx p s m args meth c G cc own ret nL) (hV : gV wd G ad A H0 S H locs) {C : String} {T : u_T} {N ci ix o k : Nat} {fs : (Nat → Nat) → gS → List Value} (hc : vwCl[ci]? = some (C, T, N)) (hin : ∀ w ∈ u_ws C T N, w ∈ g_tbl) (hk : k < N) (hl : Cond.fieldLink own ix C (T k).2.1 (T k).2.2.1 ∈ g_tbl) (hT : (T k).1 = C)
    (hO : gisO wd o ci fs) {v : Value} (hv : (fs ad S)[k]? = some v) (d : decode cc pc = .ok (.getfield ix, 3)) (kk : W p l e R s m args below meth c H locs cells slots Q (F0 m (pc + 3) ls (v :: rest))) : W p l e R s m args below meth c H locs cells slots Q (F0 m pc ls (.ref (ad o) :: rest)) := by
  obtain ⟨hx, hb, -, -, hown, hts, -, hK⟩ := X
  exact va_get hx hb hts hin hown hK hV.1 o (hO G ad S) hc k hk (hts _ hl) (fun x h => by rw [hT] at h; exact h) hv d kk
theorem gw_put (X : gCx p s m args meth c G cc own ret nL) (hV : gV wd G ad A H0 S H locs) {C : String} {T : u_T} {ty0 : Nat → FieldType} {N ci ix o k : Nat} {fs : (Nat → Nat) → gS → List Value} (hc : vwCl[ci]? = some (C, T, N)) (hin : ∀ w ∈ u_ws C T N, w ∈ g_tbl) (hty : ∀ k, k < N → parseFieldDescriptor (T k).2.2.1 = some (ty0 k)) (hnm : ∀ a, a < N → ∀ b, b < N → a ≠ b → (T a).2.1 ≠ (T b).2.1) (hk : k < N) (hl : Cond.fieldLink own ix C (T k).2.1 (T k).2.2.1 ∈ g_tbl) (hT : (T k).1 = C) (hfin : (T k).2.2.2 = false) {ty : FieldType} (hd : parseFieldDescriptor (T k).2.2.1 = some ty)
    (hO : gisO wd o ci fs) (hP : gisP wd o ci k fs) {v : Int32} (hn : narrow ty (.int v) = .int v) (hfit : fits ty (.int v) = true) (hlen : k < (fs ad S).length) (d : decode cc pc = .ok (.putfield ix, 3))
    (kk : ∀ S' : gS, S' = gI_up S o k v → ∀ (H1 : Heap) (locs1 : List Loc), gV wd G ad A H0 S' H1 locs1 → W p l e R s m args below meth c H1 locs1 cells slots Q (F0 m (pc + 3) ls rest)) : W p l e R s m args below meth c H locs cells slots Q (F0 m pc ls (.int v :: .ref (ad o) :: rest)) := by
  obtain ⟨hx, hb, -, -, hown, hts, -, hK⟩ := X
  refine va_put hx hb hts hin ty0 hty hnm hown hK hV.1 hV.2.1 hV.2.2 o (hO G ad S) hc k hk (hts _ hl) (fun x h => by rw [hT] at h; exact h) hfin hd hn hfit hlen d (fun H1 l1 h1 h2 h3 => kk _ rfl H1 l1 ?_)
  rw [hP G ad S v] at h1 h2
  exact ⟨h1, h2, h3⟩
theorem gw_lald (X : gCx p s m args meth c G cc own ret nL) (hV : gV wd G ad A H0 S H locs) {o n : Nat} (hJ : gisJ wd o n) {i : Int32} (hi : vp_in i n) (d : decode cc pc = .ok (.laload, 1)) (kk : W p l e R s m args below meth c H locs cells slots Q (F0 m (pc + 1) ls (.long (gJ S o i.toNatClampNeg) :: rest))) : W p l e R s m args below meth c H locs cells slots Q (F0 m pc ls (.int i :: .ref (ad o) :: rest)) := by
  obtain ⟨hx, hb, -, -, hown, hts, -, hK⟩ := X
  exact va_lald hx hb hK hV.1 o 1 (hJ G ad S).1 rfl hi d kk
theorem gw_iald (X : gCx p s m args meth c G cc own ret nL) (hV : gV wd G ad A H0 S H locs) {o n : Nat} (hJ : gisA wd o n) {i : Int32} (hi : vp_in i n) (d : decode cc pc = .ok (.iaload, 1)) (kk : W p l e R s m args below meth c H locs cells slots Q (F0 m (pc + 1) ls (.int (gA S o i.toNatClampNeg) :: rest))) : W p l e R s m args below meth c H locs cells slots Q (F0 m pc ls (.int i :: .ref (ad o) :: rest)) := by
  obtain ⟨hx, hb, -, -, hown, hts, -, hK⟩ := X
  exact va_iald hx hb hK hV.1 o 0 (hJ G ad S).1 rfl hi d kk
theorem gw_last (X : gCx p s m args meth c G cc own ret nL) (hV : gV wd G ad A H0 S H locs) {o n : Nat} (hJ : gisJ wd o n) {i : Int32} {v : Int64} (hi : vp_in i n) (d : decode cc pc = .ok (.lastore, 1))
    (kk : ∀ S' : gS, S' = gJ_up S o i.toNatClampNeg v → ∀ (H1 : Heap) (locs1 : List Loc), gV wd G ad A H0 S' H1 locs1 → W p l e R s m args below meth c H1 locs1 cells slots Q (F0 m (pc + 1) ls rest)) : W p l e R s m args below meth c H locs cells slots Q (F0 m pc ls (.long v :: .int i :: .ref (ad o) :: rest)) := by
  obtain ⟨hx, hb, -, -, hown, hts, -, hK⟩ := X
  refine va_last hx hb hK hV.1 hV.2.1 hV.2.2 o 1 (hJ G ad S).1 rfl hi d (fun H1 l1 h1 h2 h3 => kk _ rfl H1 l1 ?_)
  rw [(hJ G ad S).2, gJ_row_up] at h1 h2
  exact ⟨h1, h2, h3⟩
theorem gw_iast (X : gCx p s m args meth c G cc own ret nL) (hV : gV wd G ad A H0 S H locs) {o n : Nat} (hJ : gisA wd o n) {i : Int32} {v : Int32} (hi : vp_in i n) (d : decode cc pc = .ok (.iastore, 1))
    (kk : ∀ S' : gS, S' = gA_up S o i.toNatClampNeg v → ∀ (H1 : Heap) (locs1 : List Loc), gV wd G ad A H0 S' H1 locs1 → W p l e R s m args below meth c H1 locs1 cells slots Q (F0 m (pc + 1) ls rest)) : W p l e R s m args below meth c H locs cells slots Q (F0 m pc ls (.int v :: .int i :: .ref (ad o) :: rest)) := by
  obtain ⟨hx, hb, -, -, hown, hts, -, hK⟩ := X
  refine va_iast hx hb hK hV.1 hV.2.1 hV.2.2 o 0 (hJ G ad S).1 rfl hi d (fun H1 l1 h1 h2 h3 => kk _ rfl H1 l1 ?_)
  rw [(hJ G ad S).2, gA_row_up] at h1 h2
  exact ⟨h1, h2, h3⟩
theorem gw_aald (X : gCx p s m args meth c G cc own ret nL) (hV : gV wd G ad A H0 S H locs) {o n t : Nat} {g : Nat → Nat} {C : String} (hJ : gisQ wd o n t g) (ht : (gTys G)[t]? = some (G.2 t, .object C)) {i : Int32} (hi : vp_in i n) (d : decode cc pc = .ok (.aaload, 1))
    (kk : ∀ w : Nat, w = g i.toNatClampNeg → W p l e R s m args below meth c H locs cells slots Q (F0 m (pc + 1) ls (.ref (ad w) :: rest))) : W p l e R s m args below meth c H locs cells slots Q (F0 m pc ls (.int i :: .ref (ad o) :: rest)) := by
  obtain ⟨hx, hb, -, -, hown, hts, -, hK⟩ := X
  exact va_aldq hx hb hK hV.1 o t (hJ G ad S) ht hi d (kk _ rfl)
theorem gw_alen (X : gCx p s m args meth c G cc own ret nL) (hV : gV wd G ad A H0 S H locs) {o n : Nat} (hJ : gisJ wd o n) (d : decode cc pc = .ok (.arraylength, 1)) (kk : W p l e R s m args below meth c H locs cells slots Q (F0 m (pc + 1) ls (.int (nI n) :: rest))) : W p l e R s m args below meth c H locs cells slots Q (F0 m pc ls (.ref (ad o) :: rest)) := by
  obtain ⟨hx, hb, -, -, hown, hts, -, hK⟩ := X
  exact va_alen hx hb hK hV.1 o 1 (hJ G ad S).1 (ty := .long) rfl rfl d kk
theorem gw_cpyJ (X : gCx p s m args meth c G cc own ret nL) (hV : gV wd G ad A H0 S H locs) {a b n0 n1 ix : Nat} (h0 : gisJ wd a n0) (h1 : gisJ wd b n1) (hls : ls.size = nL) (w1 : Cond.methodLink own ix arraycopyName ∈ g_tbl) (w2 : Cond.native arraycopyName ∈ g_tbl) (w3 : Cond.static arraycopyName ∈ g_tbl) (w4 : Cond.initialized "java/lang/System" ∈ g_tbl) {sp dp n : Int32} (hi : decide (¬ sp < 0 ∧ ¬ dp < 0 ∧ ¬ n < 0 ∧ sp.toNatClampNeg + n.toNatClampNeg ≤ n0 ∧ dp.toNatClampNeg + n.toNatClampNeg ≤ n1) = true) (hf : 1 ≤ R.frames) (hlo : (rest.map fun v => v.category).sum + (nativeFrameWords "java/lang/System" "arraycopy" 5 + 11) ≤ R.locals) (d : decode cc pc = .ok (.invokestatic ix, 3))
    (kk : ∀ S' : gS, S' = gJ_row S b (va_cpy (gJ S a) (gJ S b) sp.toNatClampNeg dp.toNatClampNeg n.toNatClampNeg) → ∀ (H1 : Heap) (locs1 : List Loc), gV wd G ad A H0 S' H1 locs1 → W p l e R s m args below meth c H1 locs1 cells slots Q (F0 m (pc + 3) ls rest)) : W p l e R s m args below meth c H locs cells slots Q (F0 m pc ls (.int n :: .int dp :: .ref (ad b) :: .int sp :: .ref (ad a) :: rest)) := by
  obtain ⟨hx, hb, -, hml, hown, hts, -, hK⟩ := X
  obtain ⟨i1, i2, i3, i4, i5⟩ := of_decide_eq_true hi
  refine va_copyl hx hb (hml.trans hls.symm) hown (hts _ w1) (hts _ w2) (hts _ w3) (hts _ w4) hK hV.1 hV.2.1 hV.2.2 a b 1 1 (ty := .long) (h0 G ad S).1 (h1 G ad S).1 rfl rfl rfl i1 i2 i3 i4 i5 (fun i _ => rfl) hf hlo d (fun H1 l1 g1 g2 g3 => kk _ rfl H1 l1 ?_)
  rw [(h1 G ad S).2] at g1 g2
  exact ⟨g1, g2, g3⟩
theorem gw_cpyA (X : gCx p s m args meth c G cc own ret nL) (hV : gV wd G ad A H0 S H locs) {a b n0 n1 ix : Nat} (h0 : gisA wd a n0) (h1 : gisA wd b n1) (hls : ls.size = nL) (w1 : Cond.methodLink own ix arraycopyName ∈ g_tbl) (w2 : Cond.native arraycopyName ∈ g_tbl) (w3 : Cond.static arraycopyName ∈ g_tbl) (w4 : Cond.initialized "java/lang/System" ∈ g_tbl) {sp dp n : Int32} (hi : decide (¬ sp < 0 ∧ ¬ dp < 0 ∧ ¬ n < 0 ∧ sp.toNatClampNeg + n.toNatClampNeg ≤ n0 ∧ dp.toNatClampNeg + n.toNatClampNeg ≤ n1) = true) (hf : 1 ≤ R.frames) (hlo : (rest.map fun v => v.category).sum + (nativeFrameWords "java/lang/System" "arraycopy" 5 + 11) ≤ R.locals) (d : decode cc pc = .ok (.invokestatic ix, 3))
    (kk : ∀ S' : gS, S' = gA_row S b (va_cpy (gA S a) (gA S b) sp.toNatClampNeg dp.toNatClampNeg n.toNatClampNeg) → ∀ (H1 : Heap) (locs1 : List Loc), gV wd G ad A H0 S' H1 locs1 → W p l e R s m args below meth c H1 locs1 cells slots Q (F0 m (pc + 3) ls rest)) : W p l e R s m args below meth c H locs cells slots Q (F0 m pc ls (.int n :: .int dp :: .ref (ad b) :: .int sp :: .ref (ad a) :: rest)) := by
  obtain ⟨hx, hb, -, hml, hown, hts, -, hK⟩ := X
  obtain ⟨i1, i2, i3, i4, i5⟩ := of_decide_eq_true hi
  refine va_copyi hx hb (hml.trans hls.symm) hown (hts _ w1) (hts _ w2) (hts _ w3) (hts _ w4) hK hV.1 hV.2.1 hV.2.2 a b 0 0 (ty := .int) (h0 G ad S).1 (h1 G ad S).1 rfl rfl rfl i1 i2 i3 i4 i5 (fun i _ => rfl) hf hlo d (fun H1 l1 g1 g2 g3 => kk _ rfl H1 l1 ?_)
  rw [(h1 G ad S).2] at g1 g2
  exact ⟨g1, g2, g3⟩
theorem gw_min (X : gCx p s m args meth c G cc own ret nL) {ix : Nat} (hls : ls.size = nL) (w1 : Cond.methodLink own ix Lib.MathLoose.min_long.x ∈ g_tbl) (w2 : Cond.static Lib.MathLoose.min_long.x ∈ g_tbl) (w3 : Cond.initialized "java/lang/Math" ∈ g_tbl) (w4 : Cond.code Lib.MathLoose.min_long.x Lib.MathLoose.min_long.code 4 (some .long) ∈ g_tbl) (hf : 1 ≤ R.frames) (hlo : (rest.map fun v => v.category).sum + 15 ≤ R.locals) (hc : cells ≤ R.cells) (hs : slots ≤ R.slots) {x y : Int64} (d : decode cc pc = .ok (.invokestatic ix, 3))
    (kk : W p l e R s m args below meth c H locs cells slots Q (F0 m (pc + 3) ls (.long (if y < x then y else x) :: rest))) : W p l e R s m args below meth c H locs cells slots Q (F0 m pc ls (.long y :: .long x :: rest)) := by
  obtain ⟨hx, hb, -, hml, hown, hts, -, hK⟩ := X
  exact va_mmin_long hx hb (hml.trans hls.symm) hown (hts _ w1) (hts _ w2) (hts _ w3) (hts _ w4) hf hlo hc hs d kk
theorem gw_cmp_lt (X : gCx p s m args meth c G cc own ret nL) {x y : Int64} {off : Int} {tgt : Nat} (d1 : decode cc pc = .ok (.lcmp, 1)) (d : decode cc (pc + 1) = .ok (.ifCond .lt off, 3)) (ht : ((pc + 1 : Nat) : Int) + off = (tgt : Int)) (kt : x < y → W p l e R s m args below meth c H locs cells slots Q (F0 m tgt ls rest)) (kf : ¬ x < y → W p l e R s m args below meth c H locs cells slots Q (F0 m (pc + 4) ls rest)) : W p l e R s m args below meth c H locs cells slots Q (F0 m pc ls (.long y :: .long x :: rest)) :=
  W.lcmp X.1 X.2.1 d1 (lv_if_lt X.1 X.2.1 d ht (fun h => kt ((lg_cmp_lt x y).mp h)) (fun h => kf (fun q => h ((lg_cmp_lt x y).mpr q))))
theorem gw_cmp_ge (X : gCx p s m args meth c G cc own ret nL) {x y : Int64} {off : Int} {tgt : Nat} (d1 : decode cc pc = .ok (.lcmp, 1)) (d : decode cc (pc + 1) = .ok (.ifCond .ge off, 3)) (ht : ((pc + 1 : Nat) : Int) + off = (tgt : Int)) (kt : y ≤ x → W p l e R s m args below meth c H locs cells slots Q (F0 m tgt ls rest)) (kf : ¬ y ≤ x → W p l e R s m args below meth c H locs cells slots Q (F0 m (pc + 4) ls rest)) : W p l e R s m args below meth c H locs cells slots Q (F0 m pc ls (.long y :: .long x :: rest)) :=
  W.lcmp X.1 X.2.1 d1 (lv_if_ge X.1 X.2.1 d ht (fun h => kt ((lg_cmp_ge x y).mp h)) (fun h => kf (fun q => h ((lg_cmp_ge x y).mpr q))))
theorem gw_cmp_gt (X : gCx p s m args meth c G cc own ret nL) {x y : Int64} {off : Int} {tgt : Nat} (d1 : decode cc pc = .ok (.lcmp, 1)) (d : decode cc (pc + 1) = .ok (.ifCond .gt off, 3)) (ht : ((pc + 1 : Nat) : Int) + off = (tgt : Int)) (kt : y < x → W p l e R s m args below meth c H locs cells slots Q (F0 m tgt ls rest)) (kf : ¬ y < x → W p l e R s m args below meth c H locs cells slots Q (F0 m (pc + 4) ls rest)) : W p l e R s m args below meth c H locs cells slots Q (F0 m pc ls (.long y :: .long x :: rest)) :=
  W.lcmp X.1 X.2.1 d1 (lv_if_gt X.1 X.2.1 d ht (fun h => kt ((lg_cmp_gt x y).mp h)) (fun h => kf (fun q => h ((lg_cmp_gt x y).mpr q))))
theorem gw_cmp_le (X : gCx p s m args meth c G cc own ret nL) {x y : Int64} {off : Int} {tgt : Nat} (d1 : decode cc pc = .ok (.lcmp, 1)) (d : decode cc (pc + 1) = .ok (.ifCond .le off, 3)) (ht : ((pc + 1 : Nat) : Int) + off = (tgt : Int)) (kt : x ≤ y → W p l e R s m args below meth c H locs cells slots Q (F0 m tgt ls rest)) (kf : ¬ x ≤ y → W p l e R s m args below meth c H locs cells slots Q (F0 m (pc + 4) ls rest)) : W p l e R s m args below meth c H locs cells slots Q (F0 m pc ls (.long y :: .long x :: rest)) :=
  W.lcmp X.1 X.2.1 d1 (lv_if_le X.1 X.2.1 d ht (fun h => kt ((lg_cmp_le x y).mp h)) (fun h => kf (fun q => h ((lg_cmp_le x y).mpr q))))
theorem gw_cmp_eq (X : gCx p s m args meth c G cc own ret nL) {x y : Int64} {off : Int} {tgt : Nat} (d1 : decode cc pc = .ok (.lcmp, 1)) (d : decode cc (pc + 1) = .ok (.ifCond .eq off, 3)) (ht : ((pc + 1 : Nat) : Int) + off = (tgt : Int)) (kt : x = y → W p l e R s m args below meth c H locs cells slots Q (F0 m tgt ls rest)) (kf : ¬ x = y → W p l e R s m args below meth c H locs cells slots Q (F0 m (pc + 4) ls rest)) : W p l e R s m args below meth c H locs cells slots Q (F0 m pc ls (.long y :: .long x :: rest)) :=
  W.lcmp X.1 X.2.1 d1 (lv_if_eq X.1 X.2.1 d ht (fun h => kt ((lg_cmp_eq x y).mp h)) (fun h => kf (fun q => h ((lg_cmp_eq x y).mpr q))))
theorem gw_cmp_ne (X : gCx p s m args meth c G cc own ret nL) {x y : Int64} {off : Int} {tgt : Nat} (d1 : decode cc pc = .ok (.lcmp, 1)) (d : decode cc (pc + 1) = .ok (.ifCond .ne off, 3)) (ht : ((pc + 1 : Nat) : Int) + off = (tgt : Int)) (kt : ¬ x = y → W p l e R s m args below meth c H locs cells slots Q (F0 m tgt ls rest)) (kf : x = y → W p l e R s m args below meth c H locs cells slots Q (F0 m (pc + 4) ls rest)) : W p l e R s m args below meth c H locs cells slots Q (F0 m pc ls (.long y :: .long x :: rest)) :=
  W.lcmp X.1 X.2.1 d1 (lv_if_ne X.1 X.2.1 d ht (fun h => kt (fun q => h ((lg_cmp_eq x y).mpr q))) (fun h => kf ((lg_cmp_eq x y).mp h)))
theorem g_blind {wd : gW} {G : gG} {ad : Nat → Nat} {S : gS} {sz : Nat} {av : List Value} : FrameBlind (va_Pc av (gPre wd G ad S sz)) := fun a U g mk q => by
  obtain ⟨q0, q1, qP, qK, qD⟩ := q
  exact ⟨q0, q1, qP, va_K.moved (u := U) (U := U.calling g mk a) (Vm.Alike.refl U.vm) qK, qD⟩
theorem gw_runV (X : gCx p s m args meth c G cc own ret nL) (hV : gV wd G ad A H0 S H locs) {y : MethodName} {bytes : ByteArray} {n2 ix n o ci : Nat} {ret2 : Option FieldType} {rm : Room} {As : List Value} {fs : (Nat → Nat) → gS → List Value} {q : vw_C} {QQ : (Nat → Prop) → Array Value → State → Outcome → State → Prop} {st : List Value}
    (hM : gMet l y bytes n2 ret2 rm wd G ad S H.size (.ref (ad o) :: As) QQ) (hk : gKV own ix y bytes n2 ret2 n) (hO : gisO wd o ci fs) (hc : vwCl[ci]? = some q) (hC : q.1 = y.cls) (hn : As.length = n) (hls : ls.size = nL) (hst : st = As.reverse ++ .ref (ad o) :: rest) (hW : (rest.map fun v => v.category).sum ≤ 8) (hrm : rm.cells = 0 ∧ rm.slots = 0) (hR : rm.frames + 1 ≤ R.frames ∧ 8 + (n2 + 11) + rm.locals ≤ R.locals) (hz : cells + 0 ≤ R.cells ∧ slots + 0 ≤ R.slots) (d : decode cc pc = .ok (.invokevirtual ix, 3)) :
    va_Run p l e R s m args below meth c H locs cells slots 0 0 (F0 m pc ls st) rest (QQ (va_A (wd G ad S) H.size) (Value.ref (ad o) :: As).toArray) (va_A (wd G ad S) H.size) := by
  obtain ⟨hx, hb, -, hml, hown, hts, -, hK⟩ := X
  obtain ⟨w1, w2, w3, w4, w5, hd⟩ := hk
  obtain ⟨hP, hD, hS⟩ := hV
  refine va_runV (C := y.cls) (index := ix) (nL := nL) (cc := cc) ⟨hx, hb, hml, hown, hts⟩ hM ⟨callB_of (ws' := g_tbl) n hts (g_good w4) rfl hrm.1 hrm.2 (hts _ w5) (hts _ w1) hd hR, hts _ w2, hts _ w3⟩ ⟨g_blind, ?_, fun U hU hW => ⟨rfl, by rw [hU], by rw [hU]; exact hP, va_K.moved hW.alike hK, hD.weaken (fun _ _ _ _ => trivial)⟩⟩ rfl hn hls hst (lv_room hW) d hz
  have h := va_recv hK hP hc (hO G ad S)
  rw [hC] at h
  exact h
theorem gw_runS (X : gCx p s m args meth c G cc own ret nL) (hV : gV wd G ad A H0 S H locs) {y : MethodName} {bytes : ByteArray} {n2 ix n : Nat} {ret2 : Option FieldType} {rm : Room} {As : List Value} {QQ : (Nat → Prop) → Array Value → State → Outcome → State → Prop} {st : List Value}
    (hM : gMet l y bytes n2 ret2 rm wd G ad S H.size As QQ) (hk : gKS own ix y bytes n2 ret2 n) (hn : As.length = n) (hls : ls.size = nL) (hst : st = As.reverse ++ rest) (hW : (rest.map fun v => v.category).sum ≤ 8) (hrm : rm.cells = 0 ∧ rm.slots = 0) (hR : rm.frames + 1 ≤ R.frames ∧ 8 + (n2 + 11) + rm.locals ≤ R.locals) (hz : cells + 0 ≤ R.cells ∧ slots + 0 ≤ R.slots) (d : decode cc pc = .ok (.invokestatic ix, 3)) :
    va_Run p l e R s m args below meth c H locs cells slots 0 0 (F0 m pc ls st) rest (QQ (va_A (wd G ad S) H.size) As.toArray) (va_A (wd G ad S) H.size) := by
  obtain ⟨hx, hb, -, hml, hown, hts, -, hK⟩ := X
  obtain ⟨w1, w2, w4, w5, hd⟩ := hk
  obtain ⟨hP, hD, hS⟩ := hV
  exact va_runS (index := ix) (nL := nL) (cc := cc) ⟨hx, hb, hml, hown, hts⟩ hM ⟨callB_of (ws' := g_tbl) n hts (g_good w4) rfl hrm.1 hrm.2 (hts _ w5) (hts _ w1) hd hR, hts _ w2⟩ ⟨g_blind, fun U hU hW => ⟨rfl, by rw [hU], by rw [hU]; exact hP, va_K.moved hW.alike hK, hD.weaken (fun _ _ _ _ => trivial)⟩⟩ rfl hn hls hst (lv_room hW) d hz
variable {st : List Value} {a : Array Value} {S' : gS}
theorem gw_back {H1 : Heap} {t : State} {locs1 : List Loc} (X : gCx p s m args meth c G cc own ret nL) (hA : ∀ q, H0.size ≤ q → A q) (hV : gV wd G ad A H0 S H locs) (ht : t.heap = H1) (hB : gAt wd G ad (va_A (wd G ad S) H.size) S' t) (hS1 : va_S A H0 H1 locs1) : gV wd G ad A H0 S' H1 locs1 := by
  obtain ⟨g1, g2, g3⟩ := hB
  rw [ht] at g1
  exact ⟨g1, g3.weaken (fun _ _ _ h => g_free hV.2.1 hV.2.2 hA _ h), hS1⟩
theorem gw_callI (X : gCx p s m args meth c G cc own ret nL) (hA : ∀ q, H0.size ≤ q → A q) (hV : gV wd G ad A H0 S H locs) {r : Int32} (hr : va_Run p l e R s m args below meth c H locs cells slots 0 0 (F0 m pc ls st) rest (gQi wd G ad (va_A (wd G ad S) H.size) (r, S') a) (va_A (wd G ad S) H.size))
    (kk : ∀ (H1 : Heap) (locs1 : List Loc), gV wd G ad A H0 S' H1 locs1 → W p l e R s m args below meth c H1 locs1 cells slots Q (F0 m (pc + 3) ls (.int r :: rest))) : W p l e R s m args below meth c H locs cells slots Q (F0 m pc ls st) := by
  refine va_calli hr hV.2.2 (fun q _ h => g_free hV.2.1 hV.2.2 hA q h) (g_free hV.2.1 hV.2.2 hA) (fun r1 u t H1 locs1 ht hvm hw hB hz1 hk1 hS1 => ?_)
  obtain ⟨rfl, rfl⟩ := hw
  exact kk H1 locs1 (gw_back X hA hV ht hB hS1)
theorem gw_callL (X : gCx p s m args meth c G cc own ret nL) (hA : ∀ q, H0.size ≤ q → A q) (hV : gV wd G ad A H0 S H locs) {r : Int64} (hr : va_Run p l e R s m args below meth c H locs cells slots 0 0 (F0 m pc ls st) rest (gQl wd G ad (va_A (wd G ad S) H.size) (r, S') a) (va_A (wd G ad S) H.size))
    (kk : ∀ (H1 : Heap) (locs1 : List Loc), gV wd G ad A H0 S' H1 locs1 → W p l e R s m args below meth c H1 locs1 cells slots Q (F0 m (pc + 3) ls (.long r :: rest))) : W p l e R s m args below meth c H locs cells slots Q (F0 m pc ls st) := by
  refine va_calll hr hV.2.2 (fun q _ h => g_free hV.2.1 hV.2.2 hA q h) (g_free hV.2.1 hV.2.2 hA) (fun r1 u t H1 locs1 ht hvm hw hB hz1 hk1 hS1 => ?_)
  obtain ⟨rfl, rfl⟩ := hw
  exact kk H1 locs1 (gw_back X hA hV ht hB hS1)
theorem gw_callv (X : gCx p s m args meth c G cc own ret nL) (hA : ∀ q, H0.size ≤ q → A q) (hV : gV wd G ad A H0 S H locs) {r : Unit} (hr : va_Run p l e R s m args below meth c H locs cells slots 0 0 (F0 m pc ls st) rest (gQv wd G ad (va_A (wd G ad S) H.size) (r, S') a) (va_A (wd G ad S) H.size))
    (kk : ∀ (H1 : Heap) (locs1 : List Loc), gV wd G ad A H0 S' H1 locs1 → W p l e R s m args below meth c H1 locs1 cells slots Q (F0 m (pc + 3) ls rest)) : W p l e R s m args below meth c H locs cells slots Q (F0 m pc ls st) := by
  refine va_callv hr hV.2.2 (fun q _ h => g_free hV.2.1 hV.2.2 hA q h) (g_free hV.2.1 hV.2.2 hA) (fun u t H1 locs1 ht hvm hw hB hz1 hk1 hS1 => ?_)
  obtain rfl := hw
  exact kk H1 locs1 (gw_back X hA hV ht hB hS1)
theorem gw_ireti (X : gCx p s m args meth c G cc own (some .int) nL) (hV : gV wd G ad A s.heap S H locs) {v : Int32} {z : Int32 × gS} (h : some (v, S) = some z) (d : decode cc pc = .ok (.ireturn, 1)) : W p l e R s m args below meth c H locs cells slots (MQ below (gQi wd G ad A z) args s cells slots A) (F0 m pc ls [.int v]) := by
  cases h
  obtain ⟨hx, hb, hr, hml, hown, hts, hlk, hK⟩ := X
  obtain ⟨hP, hD, hS⟩ := hV
  exact W.iret hx hb hr (fun t ht hW => ⟨⟨v, S, rfl, ⟨rfl, rfl⟩, by rw [ht]; exact hP, va_K.moved hW.alike hK, hD⟩, hS.F ht⟩) hS.2.2 d hlk
theorem gw_iretz (X : gCx p s m args meth c G cc own (some .boolean) nL) (hV : gV wd G ad A s.heap S H locs) {v : Int32} {z : Int32 × gS} (h : some (v, S) = some z) (hn : narrow .boolean (.int v) = .int v) (d : decode cc pc = .ok (.ireturn, 1)) : W p l e R s m args below meth c H locs cells slots (MQ below (gQi wd G ad A z) args s cells slots A) (F0 m pc ls [.int v]) := by
  cases h
  obtain ⟨hx, hb, hr, hml, hown, hts, hlk, hK⟩ := X
  obtain ⟨hP, hD, hS⟩ := hV
  exact W.zret hx hb hr hn (fun t ht hW => ⟨⟨v, S, rfl, ⟨rfl, rfl⟩, by rw [ht]; exact hP, va_K.moved hW.alike hK, hD⟩, hS.F ht⟩) hS.2.2 d hlk
theorem gw_lret (X : gCx p s m args meth c G cc own (some .long) nL) (hV : gV wd G ad A s.heap S H locs) {v : Int64} {z : Int64 × gS} (h : some (v, S) = some z) (d : decode cc pc = .ok (.lreturn, 1)) : W p l e R s m args below meth c H locs cells slots (MQ below (gQl wd G ad A z) args s cells slots A) (F0 m pc ls [.long v]) := by
  cases h
  obtain ⟨hx, hb, hr, hml, hown, hts, hlk, hK⟩ := X
  obtain ⟨hP, hD, hS⟩ := hV
  exact W.lret hx hb hr (fun t ht hW => ⟨⟨v, S, rfl, ⟨rfl, rfl⟩, by rw [ht]; exact hP, va_K.moved hW.alike hK, hD⟩, hS.F ht⟩) hS.2.2 d hlk
theorem gw_vret (X : gCx p s m args meth c G cc own none nL) (hV : gV wd G ad A s.heap S H locs) {z : Unit × gS} (h : some ((), S) = some z) (d : decode cc pc = .ok (.return_, 1)) : W p l e R s m args below meth c H locs cells slots (MQ below (gQv wd G ad A z) args s cells slots A) (F0 m pc ls []) := by
  cases h
  obtain ⟨hx, hb, hr, hml, hown, hts, hlk, hK⟩ := X
  obtain ⟨hP, hD, hS⟩ := hV
  exact W.vret hx hb hr (fun t ht hW => ⟨⟨S, rfl, rfl, by rw [ht]; exact hP, va_K.moved hW.alike hK, hD⟩, hS.F ht⟩) hS.2.2 d hlk
end GR
theorem g_bool0 : narrow .boolean (.int 0) = .int 0 := by decide
theorem g_bool1 : narrow .boolean (.int 1) = .int 1 := by decide
theorem g_boolv {v : Int32} (h : decide (v = 0 ∨ v = 1) = true) : narrow .boolean (.int v) = .int v := by
  rcases of_decide_eq_true h with rfl | rfl
  · exact g_bool0
  · exact g_bool1
theorem g_boolf {v : Int32} (h : decide (v = 0 ∨ v = 1) = true) : fits .boolean (.int v) = true := by
  rcases of_decide_eq_true h with rfl | rfl <;> decide
end
section
theorem g_in_lays {C : String} {T : u_T} {N : Nat} (h : ∀ k, k < N → u_lay C T k ∈ g_tbl) : ∀ w ∈ u_ws C T N, w ∈ g_tbl := fun w hw => by
  obtain ⟨k, hk, rfl⟩ := List.mem_map.mp hw
  exact h k (List.mem_range.mp hk)
def kX (i : Nat) : Nat := ([0, 1, 2, 3, 3, 4, 5, 5, 5, 5, 6, 7, 8, 9, 10, 11, 6, 7, 8, 9, 6, 7, 8, 9, 6, 7, 8, 9, 6, 7, 8, 9, 6, 7, 8, 9, 4, 5, 5, 5, 5, 6, 7, 8, 9, 12, 7, 13, 14, 13, 14, 13, 14, 13, 14, 13, 14, 13, 14, 13, 14, 13, 14] : List Nat).getD i 99
def fX_0 (o : Nat) (ad : Nat → Nat) (S : gS) : List Value := [.ref (ad 1), .ref (ad 2), .ref (ad 5), .ref (ad 10), .ref (ad 14), .ref (ad 36), .ref (ad 41), .ref (ad 45), .ref (ad 46), .int (gI S o 9)]
def fX_2 (o : Nat) (ad : Nat → Nat) (S : gS) : List Value := [.ref (ad (o + 1)), .ref (ad (o + 2)), .int (gI S o 2), .int (gI S o 3)]
def fX_4 (o : Nat) (ad : Nat → Nat) (S : gS) : List Value := [.ref (ad (o + 1)), .ref (ad (o + 2)), .ref (ad (o + 3)), .ref (ad (o + 4)), .int (gI S o 4), .int (gI S o 5), .int (gI S o 6)]
def fX_6 (o : Nat) (ad : Nat → Nat) (S : gS) : List Value := [.ref (ad (o + 1)), .ref (ad (o + 2)), .ref (ad (o + 3)), .int (gI S o 3)]
def fX_10 (o : Nat) (ad : Nat → Nat) (S : gS) : List Value := [.ref (ad (o + 1)), .int (gI S o 1), .int (gI S o 2)]
def fX_13 (o : Nat) (ad : Nat → Nat) (S : gS) : List Value := [.ref (ad (o + 1)), .int (gI S o 1), .int (gI S o 2), .int (gI S o 3)]
def eX (G : gG) (ad : Nat → Nat) (S : gS) (o : Nat) : va_E :=
  if kX o = 0 then .inr (5, fX_0 o ad S) else
  if kX o = 1 then .inl (G.2 3, 8, .inr (.inr (.inr (.inr (fun k => some (ad (47 + 2 * k))))))) else
  if kX o = 2 then .inr (4, fX_2 o ad S) else
  if kX o = 3 then .inl (G.2 0, 10, .inl (gA S o)) else
  if kX o = 4 then .inr (1, fX_4 o ad S) else
  if kX o = 5 then .inl (G.2 0, 64, .inl (gA S o)) else
  if kX o = 6 then .inr (0, fX_6 o ad S) else
  if kX o = 7 then .inl (G.2 1, 3904, .inr (.inl (gJ S o))) else
  if kX o = 8 then .inl (G.2 1, 64, .inr (.inl (gJ S o))) else
  if kX o = 9 then .inl (G.2 1, 305, .inr (.inl (gJ S o))) else
  if kX o = 10 then .inr (2, fX_10 o ad S) else
  if kX o = 11 then .inl (G.2 2, 5, .inr (.inr (.inr (.inr (fun k => some (ad (16 + 4 * k))))))) else
  if kX o = 12 then .inl (G.2 1, 256, .inr (.inl (gJ S o))) else
  if kX o = 13 then .inr (3, fX_13 o ad S) else
  if kX o = 14 then .inl (G.2 1, 8, .inr (.inl (gJ S o))) else
  .inr (99, [])
def wdX : gW := fun G ad S => (List.range 63).map (fun i => (ad i, eX G ad S i))
theorem kX_lt {o : Nat} {k : Nat} (h : kX o = k) (hk : k < 99) : o < 63 := by
  rcases Nat.lt_or_ge o 63 with q | q
  · exact q
  · have e : kX o = 99 := by
      unfold kX
      rw [List.getD_eq_getElem?_getD, List.getElem?_eq_none (by exact q)]
      rfl
    omega
theorem wdX_at (G : gG) (ad : Nat → Nat) (S : gS) {o : Nat} (h : o < 63) : (wdX G ad S)[o]? = some (ad o, eX G ad S o) := by
  unfold wdX
  rw [List.getElem?_map, List.getElem?_range h]
  rfl
theorem wdX_set (G : gG) (ad : Nat → Nat) (S S' : gS) {o : Nat} (h : o < 63) {e : va_E} (he : eX G ad S' o = e) (ho : ∀ i, i ≠ o → eX G ad S' i = eX G ad S i) : (wdX G ad S).set o (ad o, e) = wdX G ad S' := by
  apply List.ext_getElem?
  intro i
  by_cases hi : i = o
  · subst hi
    rw [List.getElem?_set_self (by simp [wdX, h]), wdX_at G ad S' h, he]
  · rw [List.getElem?_set_ne (Ne.symm hi)]
    rcases Nat.lt_or_ge i 63 with q | q
    · rw [wdX_at G ad S q, wdX_at G ad S' q, ho i hi]
    · rw [List.getElem?_eq_none (by simp [wdX, q]), List.getElem?_eq_none (by simp [wdX, q])]
theorem eX_congr (G : gG) (ad : Nat → Nat) (S S' : gS) (o : Nat) (h1 : gI S' o = gI S o) (h2 : gA S' o = gA S o) (h3 : gJ S' o = gJ S o) : eX G ad S' o = eX G ad S o := by
  unfold eX fX_0 fX_2 fX_4 fX_6 fX_10 fX_13
  rw [h1, h2, h3]
theorem iXO_0 {o : Nat} (h : kX o = 0) : gisO wdX o 5 (fX_0 o) := fun G ad S => by
  rw [wdX_at G ad S (kX_lt h (by decide))]
  simp [eX, h]
theorem iXP_0_9 {o : Nat} (h : kX o = 0) : gisP wdX o 5 9 (fX_0 o) := fun G ad S v => wdX_set G ad S _ (kX_lt h (by decide)) (by simp [eX, h, fX_0, gI, gI_up, gup]) (fun i hi => eX_congr G ad _ _ i (by funext q; simp [gI, gI_up, gup, hi]) rfl rfl)
theorem iXQ_1 {o : Nat} (h : kX o = 1) : gisQ wdX o 8 3 (fun k => 47 + 2 * k) := fun G ad S => by
  rw [wdX_at G ad S (kX_lt h (by decide))]
  simp [eX, h]
theorem iXO_2 {o : Nat} (h : kX o = 2) : gisO wdX o 4 (fX_2 o) := fun G ad S => by
  rw [wdX_at G ad S (kX_lt h (by decide))]
  simp [eX, h]
theorem iXP_2_2 {o : Nat} (h : kX o = 2) : gisP wdX o 4 2 (fX_2 o) := fun G ad S v => wdX_set G ad S _ (kX_lt h (by decide)) (by simp [eX, h, fX_2, gI, gI_up, gup]) (fun i hi => eX_congr G ad _ _ i (by funext q; simp [gI, gI_up, gup, hi]) rfl rfl)
theorem iXP_2_3 {o : Nat} (h : kX o = 2) : gisP wdX o 4 3 (fX_2 o) := fun G ad S v => wdX_set G ad S _ (kX_lt h (by decide)) (by simp [eX, h, fX_2, gI, gI_up, gup]) (fun i hi => eX_congr G ad _ _ i (by funext q; simp [gI, gI_up, gup, hi]) rfl rfl)
theorem iXA_3 {o : Nat} (h : kX o = 3) : gisA wdX o 10 := fun G ad S => ⟨by
  rw [wdX_at G ad S (kX_lt h (by decide))]
  simp [eX, h], fun f => wdX_set G ad S _ (kX_lt h (by decide)) (by simp [eX, h, gA, gA_row, grow]) (fun i hi => eX_congr G ad _ _ i rfl (by simp [gA, gA_row, grow, hi]) rfl)⟩
theorem iXO_4 {o : Nat} (h : kX o = 4) : gisO wdX o 1 (fX_4 o) := fun G ad S => by
  rw [wdX_at G ad S (kX_lt h (by decide))]
  simp [eX, h]
theorem iXP_4_4 {o : Nat} (h : kX o = 4) : gisP wdX o 1 4 (fX_4 o) := fun G ad S v => wdX_set G ad S _ (kX_lt h (by decide)) (by simp [eX, h, fX_4, gI, gI_up, gup]) (fun i hi => eX_congr G ad _ _ i (by funext q; simp [gI, gI_up, gup, hi]) rfl rfl)
theorem iXP_4_5 {o : Nat} (h : kX o = 4) : gisP wdX o 1 5 (fX_4 o) := fun G ad S v => wdX_set G ad S _ (kX_lt h (by decide)) (by simp [eX, h, fX_4, gI, gI_up, gup]) (fun i hi => eX_congr G ad _ _ i (by funext q; simp [gI, gI_up, gup, hi]) rfl rfl)
theorem iXP_4_6 {o : Nat} (h : kX o = 4) : gisP wdX o 1 6 (fX_4 o) := fun G ad S v => wdX_set G ad S _ (kX_lt h (by decide)) (by simp [eX, h, fX_4, gI, gI_up, gup]) (fun i hi => eX_congr G ad _ _ i (by funext q; simp [gI, gI_up, gup, hi]) rfl rfl)
theorem iXA_5 {o : Nat} (h : kX o = 5) : gisA wdX o 64 := fun G ad S => ⟨by
  rw [wdX_at G ad S (kX_lt h (by decide))]
  simp [eX, h], fun f => wdX_set G ad S _ (kX_lt h (by decide)) (by simp [eX, h, gA, gA_row, grow]) (fun i hi => eX_congr G ad _ _ i rfl (by simp [gA, gA_row, grow, hi]) rfl)⟩
theorem iXO_6 {o : Nat} (h : kX o = 6) : gisO wdX o 0 (fX_6 o) := fun G ad S => by
  rw [wdX_at G ad S (kX_lt h (by decide))]
  simp [eX, h]
theorem iXP_6_3 {o : Nat} (h : kX o = 6) : gisP wdX o 0 3 (fX_6 o) := fun G ad S v => wdX_set G ad S _ (kX_lt h (by decide)) (by simp [eX, h, fX_6, gI, gI_up, gup]) (fun i hi => eX_congr G ad _ _ i (by funext q; simp [gI, gI_up, gup, hi]) rfl rfl)
theorem iXJ_7 {o : Nat} (h : kX o = 7) : gisJ wdX o 3904 := fun G ad S => ⟨by
  rw [wdX_at G ad S (kX_lt h (by decide))]
  simp [eX, h], fun f => wdX_set G ad S _ (kX_lt h (by decide)) (by simp [eX, h, gJ, gJ_row, grow]) (fun i hi => eX_congr G ad _ _ i rfl rfl (by simp [gJ, gJ_row, grow, hi]))⟩
theorem iXJ_8 {o : Nat} (h : kX o = 8) : gisJ wdX o 64 := fun G ad S => ⟨by
  rw [wdX_at G ad S (kX_lt h (by decide))]
  simp [eX, h], fun f => wdX_set G ad S _ (kX_lt h (by decide)) (by simp [eX, h, gJ, gJ_row, grow]) (fun i hi => eX_congr G ad _ _ i rfl rfl (by simp [gJ, gJ_row, grow, hi]))⟩
theorem iXJ_9 {o : Nat} (h : kX o = 9) : gisJ wdX o 305 := fun G ad S => ⟨by
  rw [wdX_at G ad S (kX_lt h (by decide))]
  simp [eX, h], fun f => wdX_set G ad S _ (kX_lt h (by decide)) (by simp [eX, h, gJ, gJ_row, grow]) (fun i hi => eX_congr G ad _ _ i rfl rfl (by simp [gJ, gJ_row, grow, hi]))⟩
theorem iXO_10 {o : Nat} (h : kX o = 10) : gisO wdX o 2 (fX_10 o) := fun G ad S => by
  rw [wdX_at G ad S (kX_lt h (by decide))]
  simp [eX, h]
theorem iXP_10_1 {o : Nat} (h : kX o = 10) : gisP wdX o 2 1 (fX_10 o) := fun G ad S v => wdX_set G ad S _ (kX_lt h (by decide)) (by simp [eX, h, fX_10, gI, gI_up, gup]) (fun i hi => eX_congr G ad _ _ i (by funext q; simp [gI, gI_up, gup, hi]) rfl rfl)
theorem iXP_10_2 {o : Nat} (h : kX o = 10) : gisP wdX o 2 2 (fX_10 o) := fun G ad S v => wdX_set G ad S _ (kX_lt h (by decide)) (by simp [eX, h, fX_10, gI, gI_up, gup]) (fun i hi => eX_congr G ad _ _ i (by funext q; simp [gI, gI_up, gup, hi]) rfl rfl)
theorem iXQ_11 {o : Nat} (h : kX o = 11) : gisQ wdX o 5 2 (fun k => 16 + 4 * k) := fun G ad S => by
  rw [wdX_at G ad S (kX_lt h (by decide))]
  simp [eX, h]
theorem iXJ_12 {o : Nat} (h : kX o = 12) : gisJ wdX o 256 := fun G ad S => ⟨by
  rw [wdX_at G ad S (kX_lt h (by decide))]
  simp [eX, h], fun f => wdX_set G ad S _ (kX_lt h (by decide)) (by simp [eX, h, gJ, gJ_row, grow]) (fun i hi => eX_congr G ad _ _ i rfl rfl (by simp [gJ, gJ_row, grow, hi]))⟩
theorem iXO_13 {o : Nat} (h : kX o = 13) : gisO wdX o 3 (fX_13 o) := fun G ad S => by
  rw [wdX_at G ad S (kX_lt h (by decide))]
  simp [eX, h]
theorem iXP_13_1 {o : Nat} (h : kX o = 13) : gisP wdX o 3 1 (fX_13 o) := fun G ad S v => wdX_set G ad S _ (kX_lt h (by decide)) (by simp [eX, h, fX_13, gI, gI_up, gup]) (fun i hi => eX_congr G ad _ _ i (by funext q; simp [gI, gI_up, gup, hi]) rfl rfl)
theorem iXP_13_2 {o : Nat} (h : kX o = 13) : gisP wdX o 3 2 (fX_13 o) := fun G ad S v => wdX_set G ad S _ (kX_lt h (by decide)) (by simp [eX, h, fX_13, gI, gI_up, gup]) (fun i hi => eX_congr G ad _ _ i (by funext q; simp [gI, gI_up, gup, hi]) rfl rfl)
theorem iXP_13_3 {o : Nat} (h : kX o = 13) : gisP wdX o 3 3 (fX_13 o) := fun G ad S v => wdX_set G ad S _ (kX_lt h (by decide)) (by simp [eX, h, fX_13, gI, gI_up, gup]) (fun i hi => eX_congr G ad _ _ i (by funext q; simp [gI, gI_up, gup, hi]) rfl rfl)
theorem iXJ_14 {o : Nat} (h : kX o = 14) : gisJ wdX o 8 := fun G ad S => ⟨by
  rw [wdX_at G ad S (kX_lt h (by decide))]
  simp [eX, h], fun f => wdX_set G ad S _ (kX_lt h (by decide)) (by simp [eX, h, gJ, gJ_row, grow]) (fun i hi => eX_congr G ad _ _ i rfl rfl (by simp [gJ, gJ_row, grow, hi]))⟩
theorem kX_2_1 {o : Nat} (h : kX o = 2) : kX (o + 1) = 3 := by
  have q : ∀ i, i < 63 → kX i = 2 → kX (i + 1) = 3 := by decide +kernel
  exact q o (kX_lt h (by decide)) h
theorem kX_2_2 {o : Nat} (h : kX o = 2) : kX (o + 2) = 3 := by
  have q : ∀ i, i < 63 → kX i = 2 → kX (i + 2) = 3 := by decide +kernel
  exact q o (kX_lt h (by decide)) h
theorem kX_4_1 {o : Nat} (h : kX o = 4) : kX (o + 1) = 5 := by
  have q : ∀ i, i < 63 → kX i = 4 → kX (i + 1) = 5 := by decide +kernel
  exact q o (kX_lt h (by decide)) h
theorem kX_4_2 {o : Nat} (h : kX o = 4) : kX (o + 2) = 5 := by
  have q : ∀ i, i < 63 → kX i = 4 → kX (i + 2) = 5 := by decide +kernel
  exact q o (kX_lt h (by decide)) h
theorem kX_4_3 {o : Nat} (h : kX o = 4) : kX (o + 3) = 5 := by
  have q : ∀ i, i < 63 → kX i = 4 → kX (i + 3) = 5 := by decide +kernel
  exact q o (kX_lt h (by decide)) h
theorem kX_4_4 {o : Nat} (h : kX o = 4) : kX (o + 4) = 5 := by
  have q : ∀ i, i < 63 → kX i = 4 → kX (i + 4) = 5 := by decide +kernel
  exact q o (kX_lt h (by decide)) h
theorem kX_6_1 {o : Nat} (h : kX o = 6) : kX (o + 1) = 7 := by
  have q : ∀ i, i < 63 → kX i = 6 → kX (i + 1) = 7 := by decide +kernel
  exact q o (kX_lt h (by decide)) h
theorem kX_6_2 {o : Nat} (h : kX o = 6) : kX (o + 2) = 8 := by
  have q : ∀ i, i < 63 → kX i = 6 → kX (i + 2) = 8 := by decide +kernel
  exact q o (kX_lt h (by decide)) h
theorem kX_6_3 {o : Nat} (h : kX o = 6) : kX (o + 3) = 9 := by
  have q : ∀ i, i < 63 → kX i = 6 → kX (i + 3) = 9 := by decide +kernel
  exact q o (kX_lt h (by decide)) h
theorem kX_10_1 {o : Nat} (h : kX o = 10) : kX (o + 1) = 11 := by
  have q : ∀ i, i < 63 → kX i = 10 → kX (i + 1) = 11 := by decide +kernel
  exact q o (kX_lt h (by decide)) h
theorem kX_13_1 {o : Nat} (h : kX o = 13) : kX (o + 1) = 14 := by
  have q : ∀ i, i < 63 → kX i = 13 → kX (i + 1) = 14 := by decide +kernel
  exact q o (kX_lt h (by decide)) h
def kY (i : Nat) : Nat := ([0, 1, 1, 2, 3, 4, 4, 4, 5, 6, 7, 7, 8, 9, 10, 5, 5, 4, 4, 4] : List Nat).getD i 99
def fY_0 (o : Nat) (ad : Nat → Nat) (S : gS) : List Value := [.ref (ad 1), .ref (ad 2), .ref (ad 3), .int (gI S o 3), .ref (ad 4), .int (gI S o 5), .int (gI S o 6), .int (gI S o 7), .ref (ad 5), .ref (ad 6), .ref (ad 7), .ref (ad 8), .ref (ad 9), .ref (ad 10), .ref (ad 11), .int (gI S o 15), .int (gI S o 16), .int (gI S o 17), .int (gI S o 18), .ref (ad 12), .ref (ad 13), .ref (ad 14), .ref (ad 15), .ref (ad 16), .ref (ad 17), .ref (ad 18), .ref (ad 19)]
def eY (G : gG) (ad : Nat → Nat) (S : gS) (o : Nat) : va_E :=
  if kY o = 0 then .inr (6, fY_0 o ad S) else
  if kY o = 1 then .inl (G.2 0, 8, .inl (gA S o)) else
  if kY o = 2 then .inl (G.2 1, 64, .inr (.inl (gJ S o))) else
  if kY o = 3 then .inl (G.2 1, 8, .inr (.inl (gJ S o))) else
  if kY o = 4 then .inl (G.2 0, 64, .inl (gA S o)) else
  if kY o = 5 then .inl (G.2 1, 3904, .inr (.inl (gJ S o))) else
  if kY o = 6 then .inl (G.2 1, 305, .inr (.inl (gJ S o))) else
  if kY o = 7 then .inl (G.2 0, 10, .inl (gA S o)) else
  if kY o = 8 then .inl (G.2 1, 19520, .inr (.inl (gJ S o))) else
  if kY o = 9 then .inl (G.2 1, 1525, .inr (.inl (gJ S o))) else
  if kY o = 10 then .inl (G.2 1, 256, .inr (.inl (gJ S o))) else
  .inr (99, [])
def wdY : gW := fun G ad S => (List.range 20).map (fun i => (ad i, eY G ad S i))
theorem kY_lt {o : Nat} {k : Nat} (h : kY o = k) (hk : k < 99) : o < 20 := by
  rcases Nat.lt_or_ge o 20 with q | q
  · exact q
  · have e : kY o = 99 := by
      unfold kY
      rw [List.getD_eq_getElem?_getD, List.getElem?_eq_none (by exact q)]
      rfl
    omega
theorem wdY_at (G : gG) (ad : Nat → Nat) (S : gS) {o : Nat} (h : o < 20) : (wdY G ad S)[o]? = some (ad o, eY G ad S o) := by
  unfold wdY
  rw [List.getElem?_map, List.getElem?_range h]
  rfl
theorem wdY_set (G : gG) (ad : Nat → Nat) (S S' : gS) {o : Nat} (h : o < 20) {e : va_E} (he : eY G ad S' o = e) (ho : ∀ i, i ≠ o → eY G ad S' i = eY G ad S i) : (wdY G ad S).set o (ad o, e) = wdY G ad S' := by
  apply List.ext_getElem?
  intro i
  by_cases hi : i = o
  · subst hi
    rw [List.getElem?_set_self (by simp [wdY, h]), wdY_at G ad S' h, he]
  · rw [List.getElem?_set_ne (Ne.symm hi)]
    rcases Nat.lt_or_ge i 20 with q | q
    · rw [wdY_at G ad S q, wdY_at G ad S' q, ho i hi]
    · rw [List.getElem?_eq_none (by simp [wdY, q]), List.getElem?_eq_none (by simp [wdY, q])]
theorem eY_congr (G : gG) (ad : Nat → Nat) (S S' : gS) (o : Nat) (h1 : gI S' o = gI S o) (h2 : gA S' o = gA S o) (h3 : gJ S' o = gJ S o) : eY G ad S' o = eY G ad S o := by
  unfold eY fY_0
  rw [h1, h2, h3]
theorem iYO_0 {o : Nat} (h : kY o = 0) : gisO wdY o 6 (fY_0 o) := fun G ad S => by
  rw [wdY_at G ad S (kY_lt h (by decide))]
  simp [eY, h]
theorem iYP_0_3 {o : Nat} (h : kY o = 0) : gisP wdY o 6 3 (fY_0 o) := fun G ad S v => wdY_set G ad S _ (kY_lt h (by decide)) (by simp [eY, h, fY_0, gI, gI_up, gup]) (fun i hi => eY_congr G ad _ _ i (by funext q; simp [gI, gI_up, gup, hi]) rfl rfl)
theorem iYP_0_5 {o : Nat} (h : kY o = 0) : gisP wdY o 6 5 (fY_0 o) := fun G ad S v => wdY_set G ad S _ (kY_lt h (by decide)) (by simp [eY, h, fY_0, gI, gI_up, gup]) (fun i hi => eY_congr G ad _ _ i (by funext q; simp [gI, gI_up, gup, hi]) rfl rfl)
theorem iYP_0_6 {o : Nat} (h : kY o = 0) : gisP wdY o 6 6 (fY_0 o) := fun G ad S v => wdY_set G ad S _ (kY_lt h (by decide)) (by simp [eY, h, fY_0, gI, gI_up, gup]) (fun i hi => eY_congr G ad _ _ i (by funext q; simp [gI, gI_up, gup, hi]) rfl rfl)
theorem iYP_0_7 {o : Nat} (h : kY o = 0) : gisP wdY o 6 7 (fY_0 o) := fun G ad S v => wdY_set G ad S _ (kY_lt h (by decide)) (by simp [eY, h, fY_0, gI, gI_up, gup]) (fun i hi => eY_congr G ad _ _ i (by funext q; simp [gI, gI_up, gup, hi]) rfl rfl)
theorem iYP_0_15 {o : Nat} (h : kY o = 0) : gisP wdY o 6 15 (fY_0 o) := fun G ad S v => wdY_set G ad S _ (kY_lt h (by decide)) (by simp [eY, h, fY_0, gI, gI_up, gup]) (fun i hi => eY_congr G ad _ _ i (by funext q; simp [gI, gI_up, gup, hi]) rfl rfl)
theorem iYP_0_16 {o : Nat} (h : kY o = 0) : gisP wdY o 6 16 (fY_0 o) := fun G ad S v => wdY_set G ad S _ (kY_lt h (by decide)) (by simp [eY, h, fY_0, gI, gI_up, gup]) (fun i hi => eY_congr G ad _ _ i (by funext q; simp [gI, gI_up, gup, hi]) rfl rfl)
theorem iYP_0_17 {o : Nat} (h : kY o = 0) : gisP wdY o 6 17 (fY_0 o) := fun G ad S v => wdY_set G ad S _ (kY_lt h (by decide)) (by simp [eY, h, fY_0, gI, gI_up, gup]) (fun i hi => eY_congr G ad _ _ i (by funext q; simp [gI, gI_up, gup, hi]) rfl rfl)
theorem iYP_0_18 {o : Nat} (h : kY o = 0) : gisP wdY o 6 18 (fY_0 o) := fun G ad S v => wdY_set G ad S _ (kY_lt h (by decide)) (by simp [eY, h, fY_0, gI, gI_up, gup]) (fun i hi => eY_congr G ad _ _ i (by funext q; simp [gI, gI_up, gup, hi]) rfl rfl)
theorem iYA_1 {o : Nat} (h : kY o = 1) : gisA wdY o 8 := fun G ad S => ⟨by
  rw [wdY_at G ad S (kY_lt h (by decide))]
  simp [eY, h], fun f => wdY_set G ad S _ (kY_lt h (by decide)) (by simp [eY, h, gA, gA_row, grow]) (fun i hi => eY_congr G ad _ _ i rfl (by simp [gA, gA_row, grow, hi]) rfl)⟩
theorem iYJ_2 {o : Nat} (h : kY o = 2) : gisJ wdY o 64 := fun G ad S => ⟨by
  rw [wdY_at G ad S (kY_lt h (by decide))]
  simp [eY, h], fun f => wdY_set G ad S _ (kY_lt h (by decide)) (by simp [eY, h, gJ, gJ_row, grow]) (fun i hi => eY_congr G ad _ _ i rfl rfl (by simp [gJ, gJ_row, grow, hi]))⟩
theorem iYJ_3 {o : Nat} (h : kY o = 3) : gisJ wdY o 8 := fun G ad S => ⟨by
  rw [wdY_at G ad S (kY_lt h (by decide))]
  simp [eY, h], fun f => wdY_set G ad S _ (kY_lt h (by decide)) (by simp [eY, h, gJ, gJ_row, grow]) (fun i hi => eY_congr G ad _ _ i rfl rfl (by simp [gJ, gJ_row, grow, hi]))⟩
theorem iYA_4 {o : Nat} (h : kY o = 4) : gisA wdY o 64 := fun G ad S => ⟨by
  rw [wdY_at G ad S (kY_lt h (by decide))]
  simp [eY, h], fun f => wdY_set G ad S _ (kY_lt h (by decide)) (by simp [eY, h, gA, gA_row, grow]) (fun i hi => eY_congr G ad _ _ i rfl (by simp [gA, gA_row, grow, hi]) rfl)⟩
theorem iYJ_5 {o : Nat} (h : kY o = 5) : gisJ wdY o 3904 := fun G ad S => ⟨by
  rw [wdY_at G ad S (kY_lt h (by decide))]
  simp [eY, h], fun f => wdY_set G ad S _ (kY_lt h (by decide)) (by simp [eY, h, gJ, gJ_row, grow]) (fun i hi => eY_congr G ad _ _ i rfl rfl (by simp [gJ, gJ_row, grow, hi]))⟩
theorem iYJ_6 {o : Nat} (h : kY o = 6) : gisJ wdY o 305 := fun G ad S => ⟨by
  rw [wdY_at G ad S (kY_lt h (by decide))]
  simp [eY, h], fun f => wdY_set G ad S _ (kY_lt h (by decide)) (by simp [eY, h, gJ, gJ_row, grow]) (fun i hi => eY_congr G ad _ _ i rfl rfl (by simp [gJ, gJ_row, grow, hi]))⟩
theorem iYA_7 {o : Nat} (h : kY o = 7) : gisA wdY o 10 := fun G ad S => ⟨by
  rw [wdY_at G ad S (kY_lt h (by decide))]
  simp [eY, h], fun f => wdY_set G ad S _ (kY_lt h (by decide)) (by simp [eY, h, gA, gA_row, grow]) (fun i hi => eY_congr G ad _ _ i rfl (by simp [gA, gA_row, grow, hi]) rfl)⟩
theorem iYJ_8 {o : Nat} (h : kY o = 8) : gisJ wdY o 19520 := fun G ad S => ⟨by
  rw [wdY_at G ad S (kY_lt h (by decide))]
  simp [eY, h], fun f => wdY_set G ad S _ (kY_lt h (by decide)) (by simp [eY, h, gJ, gJ_row, grow]) (fun i hi => eY_congr G ad _ _ i rfl rfl (by simp [gJ, gJ_row, grow, hi]))⟩
theorem iYJ_9 {o : Nat} (h : kY o = 9) : gisJ wdY o 1525 := fun G ad S => ⟨by
  rw [wdY_at G ad S (kY_lt h (by decide))]
  simp [eY, h], fun f => wdY_set G ad S _ (kY_lt h (by decide)) (by simp [eY, h, gJ, gJ_row, grow]) (fun i hi => eY_congr G ad _ _ i rfl rfl (by simp [gJ, gJ_row, grow, hi]))⟩
theorem iYJ_10 {o : Nat} (h : kY o = 10) : gisJ wdY o 256 := fun G ad S => ⟨by
  rw [wdY_at G ad S (kY_lt h (by decide))]
  simp [eY, h], fun f => wdY_set G ad S _ (kY_lt h (by decide)) (by simp [eY, h, gJ, gJ_row, grow]) (fun i hi => eY_congr G ad _ _ i rfl rfl (by simp [gJ, gJ_row, grow, hi]))⟩
theorem inT_0 : ∀ w ∈ u_ws RX0 TX0 4, w ∈ g_tbl := g_in_lays (fun k hk => by
  match k, hk with
  | 0, _ => exact q_128
  | 1, _ => exact q_130
  | 2, _ => exact q_132
  | 3, _ => exact q_134
  | j + 4, hj => exact absurd hj (by omega))
theorem inT_1 : ∀ w ∈ u_ws RX1 TX1 7, w ∈ g_tbl := g_in_lays (fun k hk => by
  match k, hk with
  | 0, _ => exact q_99
  | 1, _ => exact q_101
  | 2, _ => exact q_103
  | 3, _ => exact q_105
  | 4, _ => exact q_107
  | 5, _ => exact q_109
  | 6, _ => exact q_111
  | j + 7, hj => exact absurd hj (by omega))
theorem inT_2 : ∀ w ∈ u_ws RX2 TX2 3, w ∈ g_tbl := g_in_lays (fun k hk => by
  match k, hk with
  | 0, _ => exact q_151
  | 1, _ => exact q_153
  | 2, _ => exact q_155
  | j + 3, hj => exact absurd hj (by omega))
theorem inT_3 : ∀ w ∈ u_ws RX3 TX3 4, w ∈ g_tbl := g_in_lays (fun k hk => by
  match k, hk with
  | 0, _ => exact q_170
  | 1, _ => exact q_172
  | 2, _ => exact q_174
  | 3, _ => exact q_176
  | j + 4, hj => exact absurd hj (by omega))
theorem inT_4 : ∀ w ∈ u_ws RX4 TX4 4, w ∈ g_tbl := g_in_lays (fun k hk => by
  match k, hk with
  | 0, _ => exact q_69
  | 1, _ => exact q_71
  | 2, _ => exact q_73
  | 3, _ => exact q_75
  | j + 4, hj => exact absurd hj (by omega))
theorem inT_5 : ∀ w ∈ u_ws RX5 TX5 10, w ∈ g_tbl := g_in_lays (fun k hk => by
  match k, hk with
  | 0, _ => exact q_189
  | 1, _ => exact q_191
  | 2, _ => exact q_193
  | 3, _ => exact q_195
  | 4, _ => exact q_197
  | 5, _ => exact q_199
  | 6, _ => exact q_201
  | 7, _ => exact q_203
  | 8, _ => exact q_205
  | 9, _ => exact q_207
  | j + 10, hj => exact absurd hj (by omega))
theorem inT_6 : ∀ w ∈ u_ws RX6 TX6 27, w ∈ g_tbl := g_in_lays (fun k hk => by
  match k, hk with
  | 0, _ => exact q_565
  | 1, _ => exact q_567
  | 2, _ => exact q_569
  | 3, _ => exact q_571
  | 4, _ => exact q_573
  | 5, _ => exact q_575
  | 6, _ => exact q_577
  | 7, _ => exact q_579
  | 8, _ => exact q_581
  | 9, _ => exact q_583
  | 10, _ => exact q_585
  | 11, _ => exact q_587
  | 12, _ => exact q_589
  | 13, _ => exact q_591
  | 14, _ => exact q_593
  | 15, _ => exact q_595
  | 16, _ => exact q_597
  | 17, _ => exact q_599
  | 18, _ => exact q_601
  | 19, _ => exact q_603
  | 20, _ => exact q_605
  | 21, _ => exact q_607
  | 22, _ => exact q_609
  | 23, _ => exact q_611
  | 24, _ => exact q_613
  | 25, _ => exact q_615
  | 26, _ => exact q_617
  | j + 27, hj => exact absurd hj (by omega))
theorem ggX5_11 {p : Program} {l : Launch} {e : Env} {R : Room} {s : State} {m : MethodId} {args : Array Value} {below : List Frame} {meth : Method} {c : Code} {H : Heap} {locs : List Loc} {cells slots : Nat} {Q : State → Prop} {cc : ByteArray} {pc : Nat} {ls : Array Slot} {rest : List Value} {G : gG} {ret : Option FieldType} {nL : Nat} {ad : Nat → Nat} {A : Nat → Prop} {H0 : Heap} {S : gS} {o : Nat} (X : gCx p s m args meth c G cc RX5 ret nL) (hV : gV wdX G ad A H0 S H locs) (ho : kX o = 0) (d : decode cc pc = .ok (.getfield 11, 3)) (kk : W p l e R s m args below meth c H locs cells slots Q (F0 m (pc + 3) ls (.ref (ad 1) :: rest))) : W p l e R s m args below meth c H locs cells slots Q (F0 m pc ls (.ref (ad o) :: rest)) :=
  gw_get X hV (C := RX5) (T := TX5) (N := 10) (ci := 5) (k := 0) rfl inT_5 (by decide) q_179 rfl (iXO_0 ho) rfl d kk
theorem ggX5_18 {p : Program} {l : Launch} {e : Env} {R : Room} {s : State} {m : MethodId} {args : Array Value} {below : List Frame} {meth : Method} {c : Code} {H : Heap} {locs : List Loc} {cells slots : Nat} {Q : State → Prop} {cc : ByteArray} {pc : Nat} {ls : Array Slot} {rest : List Value} {G : gG} {ret : Option FieldType} {nL : Nat} {ad : Nat → Nat} {A : Nat → Prop} {H0 : Heap} {S : gS} {o : Nat} (X : gCx p s m args meth c G cc RX5 ret nL) (hV : gV wdX G ad A H0 S H locs) (ho : kX o = 0) (d : decode cc pc = .ok (.getfield 18, 3)) (kk : W p l e R s m args below meth c H locs cells slots Q (F0 m (pc + 3) ls (.ref (ad 2) :: rest))) : W p l e R s m args below meth c H locs cells slots Q (F0 m pc ls (.ref (ad o) :: rest)) :=
  gw_get X hV (C := RX5) (T := TX5) (N := 10) (ci := 5) (k := 1) rfl inT_5 (by decide) q_180 rfl (iXO_0 ho) rfl d kk
theorem ggX5_25 {p : Program} {l : Launch} {e : Env} {R : Room} {s : State} {m : MethodId} {args : Array Value} {below : List Frame} {meth : Method} {c : Code} {H : Heap} {locs : List Loc} {cells slots : Nat} {Q : State → Prop} {cc : ByteArray} {pc : Nat} {ls : Array Slot} {rest : List Value} {G : gG} {ret : Option FieldType} {nL : Nat} {ad : Nat → Nat} {A : Nat → Prop} {H0 : Heap} {S : gS} {o : Nat} (X : gCx p s m args meth c G cc RX5 ret nL) (hV : gV wdX G ad A H0 S H locs) (ho : kX o = 0) (d : decode cc pc = .ok (.getfield 25, 3)) (kk : W p l e R s m args below meth c H locs cells slots Q (F0 m (pc + 3) ls (.ref (ad 5) :: rest))) : W p l e R s m args below meth c H locs cells slots Q (F0 m pc ls (.ref (ad o) :: rest)) :=
  gw_get X hV (C := RX5) (T := TX5) (N := 10) (ci := 5) (k := 2) rfl inT_5 (by decide) q_181 rfl (iXO_0 ho) rfl d kk
theorem ggX5_32 {p : Program} {l : Launch} {e : Env} {R : Room} {s : State} {m : MethodId} {args : Array Value} {below : List Frame} {meth : Method} {c : Code} {H : Heap} {locs : List Loc} {cells slots : Nat} {Q : State → Prop} {cc : ByteArray} {pc : Nat} {ls : Array Slot} {rest : List Value} {G : gG} {ret : Option FieldType} {nL : Nat} {ad : Nat → Nat} {A : Nat → Prop} {H0 : Heap} {S : gS} {o : Nat} (X : gCx p s m args meth c G cc RX5 ret nL) (hV : gV wdX G ad A H0 S H locs) (ho : kX o = 0) (d : decode cc pc = .ok (.getfield 32, 3)) (kk : W p l e R s m args below meth c H locs cells slots Q (F0 m (pc + 3) ls (.ref (ad 10) :: rest))) : W p l e R s m args below meth c H locs cells slots Q (F0 m pc ls (.ref (ad o) :: rest)) :=
  gw_get X hV (C := RX5) (T := TX5) (N := 10) (ci := 5) (k := 3) rfl inT_5 (by decide) q_182 rfl (iXO_0 ho) rfl d kk
theorem ggX5_39 {p : Program} {l : Launch} {e : Env} {R : Room} {s : State} {m : MethodId} {args : Array Value} {below : List Frame} {meth : Method} {c : Code} {H : Heap} {locs : List Loc} {cells slots : Nat} {Q : State → Prop} {cc : ByteArray} {pc : Nat} {ls : Array Slot} {rest : List Value} {G : gG} {ret : Option FieldType} {nL : Nat} {ad : Nat → Nat} {A : Nat → Prop} {H0 : Heap} {S : gS} {o : Nat} (X : gCx p s m args meth c G cc RX5 ret nL) (hV : gV wdX G ad A H0 S H locs) (ho : kX o = 0) (d : decode cc pc = .ok (.getfield 39, 3)) (kk : W p l e R s m args below meth c H locs cells slots Q (F0 m (pc + 3) ls (.ref (ad 14) :: rest))) : W p l e R s m args below meth c H locs cells slots Q (F0 m pc ls (.ref (ad o) :: rest)) :=
  gw_get X hV (C := RX5) (T := TX5) (N := 10) (ci := 5) (k := 4) rfl inT_5 (by decide) q_183 rfl (iXO_0 ho) rfl d kk
theorem ggX5_43 {p : Program} {l : Launch} {e : Env} {R : Room} {s : State} {m : MethodId} {args : Array Value} {below : List Frame} {meth : Method} {c : Code} {H : Heap} {locs : List Loc} {cells slots : Nat} {Q : State → Prop} {cc : ByteArray} {pc : Nat} {ls : Array Slot} {rest : List Value} {G : gG} {ret : Option FieldType} {nL : Nat} {ad : Nat → Nat} {A : Nat → Prop} {H0 : Heap} {S : gS} {o : Nat} (X : gCx p s m args meth c G cc RX5 ret nL) (hV : gV wdX G ad A H0 S H locs) (ho : kX o = 0) (d : decode cc pc = .ok (.getfield 43, 3)) (kk : W p l e R s m args below meth c H locs cells slots Q (F0 m (pc + 3) ls (.ref (ad 36) :: rest))) : W p l e R s m args below meth c H locs cells slots Q (F0 m pc ls (.ref (ad o) :: rest)) :=
  gw_get X hV (C := RX5) (T := TX5) (N := 10) (ci := 5) (k := 5) rfl inT_5 (by decide) q_184 rfl (iXO_0 ho) rfl d kk
theorem ggX5_46 {p : Program} {l : Launch} {e : Env} {R : Room} {s : State} {m : MethodId} {args : Array Value} {below : List Frame} {meth : Method} {c : Code} {H : Heap} {locs : List Loc} {cells slots : Nat} {Q : State → Prop} {cc : ByteArray} {pc : Nat} {ls : Array Slot} {rest : List Value} {G : gG} {ret : Option FieldType} {nL : Nat} {ad : Nat → Nat} {A : Nat → Prop} {H0 : Heap} {S : gS} {o : Nat} (X : gCx p s m args meth c G cc RX5 ret nL) (hV : gV wdX G ad A H0 S H locs) (ho : kX o = 0) (d : decode cc pc = .ok (.getfield 46, 3)) (kk : W p l e R s m args below meth c H locs cells slots Q (F0 m (pc + 3) ls (.ref (ad 41) :: rest))) : W p l e R s m args below meth c H locs cells slots Q (F0 m pc ls (.ref (ad o) :: rest)) :=
  gw_get X hV (C := RX5) (T := TX5) (N := 10) (ci := 5) (k := 6) rfl inT_5 (by decide) q_185 rfl (iXO_0 ho) rfl d kk
theorem ggX5_49 {p : Program} {l : Launch} {e : Env} {R : Room} {s : State} {m : MethodId} {args : Array Value} {below : List Frame} {meth : Method} {c : Code} {H : Heap} {locs : List Loc} {cells slots : Nat} {Q : State → Prop} {cc : ByteArray} {pc : Nat} {ls : Array Slot} {rest : List Value} {G : gG} {ret : Option FieldType} {nL : Nat} {ad : Nat → Nat} {A : Nat → Prop} {H0 : Heap} {S : gS} {o : Nat} (X : gCx p s m args meth c G cc RX5 ret nL) (hV : gV wdX G ad A H0 S H locs) (ho : kX o = 0) (d : decode cc pc = .ok (.getfield 49, 3)) (kk : W p l e R s m args below meth c H locs cells slots Q (F0 m (pc + 3) ls (.ref (ad 45) :: rest))) : W p l e R s m args below meth c H locs cells slots Q (F0 m pc ls (.ref (ad o) :: rest)) :=
  gw_get X hV (C := RX5) (T := TX5) (N := 10) (ci := 5) (k := 7) rfl inT_5 (by decide) q_186 rfl (iXO_0 ho) rfl d kk
theorem ggX5_53 {p : Program} {l : Launch} {e : Env} {R : Room} {s : State} {m : MethodId} {args : Array Value} {below : List Frame} {meth : Method} {c : Code} {H : Heap} {locs : List Loc} {cells slots : Nat} {Q : State → Prop} {cc : ByteArray} {pc : Nat} {ls : Array Slot} {rest : List Value} {G : gG} {ret : Option FieldType} {nL : Nat} {ad : Nat → Nat} {A : Nat → Prop} {H0 : Heap} {S : gS} {o : Nat} (X : gCx p s m args meth c G cc RX5 ret nL) (hV : gV wdX G ad A H0 S H locs) (ho : kX o = 0) (d : decode cc pc = .ok (.getfield 53, 3)) (kk : W p l e R s m args below meth c H locs cells slots Q (F0 m (pc + 3) ls (.ref (ad 46) :: rest))) : W p l e R s m args below meth c H locs cells slots Q (F0 m pc ls (.ref (ad o) :: rest)) :=
  gw_get X hV (C := RX5) (T := TX5) (N := 10) (ci := 5) (k := 8) rfl inT_5 (by decide) q_187 rfl (iXO_0 ho) rfl d kk
theorem ggX5_72 {p : Program} {l : Launch} {e : Env} {R : Room} {s : State} {m : MethodId} {args : Array Value} {below : List Frame} {meth : Method} {c : Code} {H : Heap} {locs : List Loc} {cells slots : Nat} {Q : State → Prop} {cc : ByteArray} {pc : Nat} {ls : Array Slot} {rest : List Value} {G : gG} {ret : Option FieldType} {nL : Nat} {ad : Nat → Nat} {A : Nat → Prop} {H0 : Heap} {S : gS} {o : Nat} (X : gCx p s m args meth c G cc RX5 ret nL) (hV : gV wdX G ad A H0 S H locs) (ho : kX o = 13) (d : decode cc pc = .ok (.getfield 72, 3)) (kk : W p l e R s m args below meth c H locs cells slots Q (F0 m (pc + 3) ls (.int (gI S o 1) :: rest))) : W p l e R s m args below meth c H locs cells slots Q (F0 m pc ls (.ref (ad o) :: rest)) :=
  gw_get X hV (C := RX3) (T := TX3) (N := 4) (ci := 3) (k := 1) rfl inT_3 (by decide) q_166 rfl (iXO_13 ho) rfl d kk
theorem gpX5_72 {p : Program} {l : Launch} {e : Env} {R : Room} {s : State} {m : MethodId} {args : Array Value} {below : List Frame} {meth : Method} {c : Code} {H : Heap} {locs : List Loc} {cells slots : Nat} {Q : State → Prop} {cc : ByteArray} {pc : Nat} {ls : Array Slot} {rest : List Value} {G : gG} {ret : Option FieldType} {nL : Nat} {ad : Nat → Nat} {A : Nat → Prop} {H0 : Heap} {S : gS} {o : Nat} {v : Int32} (X : gCx p s m args meth c G cc RX5 ret nL) (hV : gV wdX G ad A H0 S H locs) (ho : kX o = 13) (hn : decide (v = 0 ∨ v = 1) = true) (d : decode cc pc = .ok (.putfield 72, 3)) (kk : ∀ S' : gS, S' = gI_up S o 1 v → ∀ (H1 : Heap) (locs1 : List Loc), gV wdX G ad A H0 S' H1 locs1 → W p l e R s m args below meth c H1 locs1 cells slots Q (F0 m (pc + 3) ls rest)) : W p l e R s m args below meth c H locs cells slots Q (F0 m pc ls (.int v :: .ref (ad o) :: rest)) :=
  gw_put X hV (C := RX3) (T := TX3) (ty0 := tyX3) (N := 4) (ci := 3) (k := 1) rfl inT_3 tyX3_ok nmX3 (by decide) q_166 rfl rfl (ty := .boolean) (by decide +kernel) (iXO_13 ho) (iXP_13_1 ho) (g_boolv hn) (g_boolf hn) (by show 1 < 4; decide) d kk
theorem ggX5_90 {p : Program} {l : Launch} {e : Env} {R : Room} {s : State} {m : MethodId} {args : Array Value} {below : List Frame} {meth : Method} {c : Code} {H : Heap} {locs : List Loc} {cells slots : Nat} {Q : State → Prop} {cc : ByteArray} {pc : Nat} {ls : Array Slot} {rest : List Value} {G : gG} {ret : Option FieldType} {nL : Nat} {ad : Nat → Nat} {A : Nat → Prop} {H0 : Heap} {S : gS} {o : Nat} (X : gCx p s m args meth c G cc RX5 ret nL) (hV : gV wdX G ad A H0 S H locs) (ho : kX o = 13) (d : decode cc pc = .ok (.getfield 90, 3)) (kk : W p l e R s m args below meth c H locs cells slots Q (F0 m (pc + 3) ls (.int (gI S o 2) :: rest))) : W p l e R s m args below meth c H locs cells slots Q (F0 m pc ls (.ref (ad o) :: rest)) :=
  gw_get X hV (C := RX3) (T := TX3) (N := 4) (ci := 3) (k := 2) rfl inT_3 (by decide) q_168 rfl (iXO_13 ho) rfl d kk
theorem gpX5_90 {p : Program} {l : Launch} {e : Env} {R : Room} {s : State} {m : MethodId} {args : Array Value} {below : List Frame} {meth : Method} {c : Code} {H : Heap} {locs : List Loc} {cells slots : Nat} {Q : State → Prop} {cc : ByteArray} {pc : Nat} {ls : Array Slot} {rest : List Value} {G : gG} {ret : Option FieldType} {nL : Nat} {ad : Nat → Nat} {A : Nat → Prop} {H0 : Heap} {S : gS} {o : Nat} {v : Int32} (X : gCx p s m args meth c G cc RX5 ret nL) (hV : gV wdX G ad A H0 S H locs) (ho : kX o = 13) (d : decode cc pc = .ok (.putfield 90, 3)) (kk : ∀ S' : gS, S' = gI_up S o 2 v → ∀ (H1 : Heap) (locs1 : List Loc), gV wdX G ad A H0 S' H1 locs1 → W p l e R s m args below meth c H1 locs1 cells slots Q (F0 m (pc + 3) ls rest)) : W p l e R s m args below meth c H locs cells slots Q (F0 m pc ls (.int v :: .ref (ad o) :: rest)) :=
  gw_put X hV (C := RX3) (T := TX3) (ty0 := tyX3) (N := 4) (ci := 3) (k := 2) rfl inT_3 tyX3_ok nmX3 (by decide) q_168 rfl rfl (ty := .int) (by decide +kernel) (iXO_13 ho) (iXP_13_2 ho) rfl rfl (by show 2 < 4; decide) d kk
theorem ggX5_94 {p : Program} {l : Launch} {e : Env} {R : Room} {s : State} {m : MethodId} {args : Array Value} {below : List Frame} {meth : Method} {c : Code} {H : Heap} {locs : List Loc} {cells slots : Nat} {Q : State → Prop} {cc : ByteArray} {pc : Nat} {ls : Array Slot} {rest : List Value} {G : gG} {ret : Option FieldType} {nL : Nat} {ad : Nat → Nat} {A : Nat → Prop} {H0 : Heap} {S : gS} {o : Nat} (X : gCx p s m args meth c G cc RX5 ret nL) (hV : gV wdX G ad A H0 S H locs) (ho : kX o = 13) (d : decode cc pc = .ok (.getfield 94, 3)) (kk : W p l e R s m args below meth c H locs cells slots Q (F0 m (pc + 3) ls (.ref (ad (o + 1)) :: rest))) : W p l e R s m args below meth c H locs cells slots Q (F0 m pc ls (.ref (ad o) :: rest)) :=
  gw_get X hV (C := RX3) (T := TX3) (N := 4) (ci := 3) (k := 0) rfl inT_3 (by decide) q_164 rfl (iXO_13 ho) rfl d kk
theorem ggX5_136 {p : Program} {l : Launch} {e : Env} {R : Room} {s : State} {m : MethodId} {args : Array Value} {below : List Frame} {meth : Method} {c : Code} {H : Heap} {locs : List Loc} {cells slots : Nat} {Q : State → Prop} {cc : ByteArray} {pc : Nat} {ls : Array Slot} {rest : List Value} {G : gG} {ret : Option FieldType} {nL : Nat} {ad : Nat → Nat} {A : Nat → Prop} {H0 : Heap} {S : gS} {o : Nat} (X : gCx p s m args meth c G cc RX5 ret nL) (hV : gV wdX G ad A H0 S H locs) (ho : kX o = 4) (d : decode cc pc = .ok (.getfield 136, 3)) (kk : W p l e R s m args below meth c H locs cells slots Q (F0 m (pc + 3) ls (.ref (ad (o + 2)) :: rest))) : W p l e R s m args below meth c H locs cells slots Q (F0 m pc ls (.ref (ad o) :: rest)) :=
  gw_get X hV (C := RX1) (T := TX1) (N := 7) (ci := 1) (k := 1) rfl inT_1 (by decide) q_88 rfl (iXO_4 ho) rfl d kk
theorem ggX5_140 {p : Program} {l : Launch} {e : Env} {R : Room} {s : State} {m : MethodId} {args : Array Value} {below : List Frame} {meth : Method} {c : Code} {H : Heap} {locs : List Loc} {cells slots : Nat} {Q : State → Prop} {cc : ByteArray} {pc : Nat} {ls : Array Slot} {rest : List Value} {G : gG} {ret : Option FieldType} {nL : Nat} {ad : Nat → Nat} {A : Nat → Prop} {H0 : Heap} {S : gS} {o : Nat} (X : gCx p s m args meth c G cc RX5 ret nL) (hV : gV wdX G ad A H0 S H locs) (ho : kX o = 4) (d : decode cc pc = .ok (.getfield 140, 3)) (kk : W p l e R s m args below meth c H locs cells slots Q (F0 m (pc + 3) ls (.ref (ad (o + 3)) :: rest))) : W p l e R s m args below meth c H locs cells slots Q (F0 m pc ls (.ref (ad o) :: rest)) :=
  gw_get X hV (C := RX1) (T := TX1) (N := 7) (ci := 1) (k := 2) rfl inT_1 (by decide) q_90 rfl (iXO_4 ho) rfl d kk
theorem ggX5_147 {p : Program} {l : Launch} {e : Env} {R : Room} {s : State} {m : MethodId} {args : Array Value} {below : List Frame} {meth : Method} {c : Code} {H : Heap} {locs : List Loc} {cells slots : Nat} {Q : State → Prop} {cc : ByteArray} {pc : Nat} {ls : Array Slot} {rest : List Value} {G : gG} {ret : Option FieldType} {nL : Nat} {ad : Nat → Nat} {A : Nat → Prop} {H0 : Heap} {S : gS} {o : Nat} (X : gCx p s m args meth c G cc RX5 ret nL) (hV : gV wdX G ad A H0 S H locs) (ho : kX o = 2) (d : decode cc pc = .ok (.getfield 147, 3)) (kk : W p l e R s m args below meth c H locs cells slots Q (F0 m (pc + 3) ls (.ref (ad (o + 2)) :: rest))) : W p l e R s m args below meth c H locs cells slots Q (F0 m pc ls (.ref (ad o) :: rest)) :=
  gw_get X hV (C := RX4) (T := TX4) (N := 4) (ci := 4) (k := 1) rfl inT_4 (by decide) q_65 rfl (iXO_2 ho) rfl d kk
theorem ggX5_150 {p : Program} {l : Launch} {e : Env} {R : Room} {s : State} {m : MethodId} {args : Array Value} {below : List Frame} {meth : Method} {c : Code} {H : Heap} {locs : List Loc} {cells slots : Nat} {Q : State → Prop} {cc : ByteArray} {pc : Nat} {ls : Array Slot} {rest : List Value} {G : gG} {ret : Option FieldType} {nL : Nat} {ad : Nat → Nat} {A : Nat → Prop} {H0 : Heap} {S : gS} {o : Nat} (X : gCx p s m args meth c G cc RX5 ret nL) (hV : gV wdX G ad A H0 S H locs) (ho : kX o = 2) (d : decode cc pc = .ok (.getfield 150, 3)) (kk : W p l e R s m args below meth c H locs cells slots Q (F0 m (pc + 3) ls (.ref (ad (o + 1)) :: rest))) : W p l e R s m args below meth c H locs cells slots Q (F0 m pc ls (.ref (ad o) :: rest)) :=
  gw_get X hV (C := RX4) (T := TX4) (N := 4) (ci := 4) (k := 0) rfl inT_4 (by decide) q_63 rfl (iXO_2 ho) rfl d kk
theorem ggX5_154 {p : Program} {l : Launch} {e : Env} {R : Room} {s : State} {m : MethodId} {args : Array Value} {below : List Frame} {meth : Method} {c : Code} {H : Heap} {locs : List Loc} {cells slots : Nat} {Q : State → Prop} {cc : ByteArray} {pc : Nat} {ls : Array Slot} {rest : List Value} {G : gG} {ret : Option FieldType} {nL : Nat} {ad : Nat → Nat} {A : Nat → Prop} {H0 : Heap} {S : gS} {o : Nat} (X : gCx p s m args meth c G cc RX5 ret nL) (hV : gV wdX G ad A H0 S H locs) (ho : kX o = 2) (d : decode cc pc = .ok (.getfield 154, 3)) (kk : W p l e R s m args below meth c H locs cells slots Q (F0 m (pc + 3) ls (.int (gI S o 3) :: rest))) : W p l e R s m args below meth c H locs cells slots Q (F0 m pc ls (.ref (ad o) :: rest)) :=
  gw_get X hV (C := RX4) (T := TX4) (N := 4) (ci := 4) (k := 3) rfl inT_4 (by decide) q_68 rfl (iXO_2 ho) rfl d kk
theorem gpX5_154 {p : Program} {l : Launch} {e : Env} {R : Room} {s : State} {m : MethodId} {args : Array Value} {below : List Frame} {meth : Method} {c : Code} {H : Heap} {locs : List Loc} {cells slots : Nat} {Q : State → Prop} {cc : ByteArray} {pc : Nat} {ls : Array Slot} {rest : List Value} {G : gG} {ret : Option FieldType} {nL : Nat} {ad : Nat → Nat} {A : Nat → Prop} {H0 : Heap} {S : gS} {o : Nat} {v : Int32} (X : gCx p s m args meth c G cc RX5 ret nL) (hV : gV wdX G ad A H0 S H locs) (ho : kX o = 2) (d : decode cc pc = .ok (.putfield 154, 3)) (kk : ∀ S' : gS, S' = gI_up S o 3 v → ∀ (H1 : Heap) (locs1 : List Loc), gV wdX G ad A H0 S' H1 locs1 → W p l e R s m args below meth c H1 locs1 cells slots Q (F0 m (pc + 3) ls rest)) : W p l e R s m args below meth c H locs cells slots Q (F0 m pc ls (.int v :: .ref (ad o) :: rest)) :=
  gw_put X hV (C := RX4) (T := TX4) (ty0 := tyX4) (N := 4) (ci := 4) (k := 3) rfl inT_4 tyX4_ok nmX4 (by decide) q_68 rfl rfl (ty := .int) (by decide +kernel) (iXO_2 ho) (iXP_2_3 ho) rfl rfl (by show 3 < 4; decide) d kk
theorem ggX5_157 {p : Program} {l : Launch} {e : Env} {R : Room} {s : State} {m : MethodId} {args : Array Value} {below : List Frame} {meth : Method} {c : Code} {H : Heap} {locs : List Loc} {cells slots : Nat} {Q : State → Prop} {cc : ByteArray} {pc : Nat} {ls : Array Slot} {rest : List Value} {G : gG} {ret : Option FieldType} {nL : Nat} {ad : Nat → Nat} {A : Nat → Prop} {H0 : Heap} {S : gS} {o : Nat} (X : gCx p s m args meth c G cc RX5 ret nL) (hV : gV wdX G ad A H0 S H locs) (ho : kX o = 2) (d : decode cc pc = .ok (.getfield 157, 3)) (kk : W p l e R s m args below meth c H locs cells slots Q (F0 m (pc + 3) ls (.int (gI S o 2) :: rest))) : W p l e R s m args below meth c H locs cells slots Q (F0 m pc ls (.ref (ad o) :: rest)) :=
  gw_get X hV (C := RX4) (T := TX4) (N := 4) (ci := 4) (k := 2) rfl inT_4 (by decide) q_66 rfl (iXO_2 ho) rfl d kk
theorem gpX5_157 {p : Program} {l : Launch} {e : Env} {R : Room} {s : State} {m : MethodId} {args : Array Value} {below : List Frame} {meth : Method} {c : Code} {H : Heap} {locs : List Loc} {cells slots : Nat} {Q : State → Prop} {cc : ByteArray} {pc : Nat} {ls : Array Slot} {rest : List Value} {G : gG} {ret : Option FieldType} {nL : Nat} {ad : Nat → Nat} {A : Nat → Prop} {H0 : Heap} {S : gS} {o : Nat} {v : Int32} (X : gCx p s m args meth c G cc RX5 ret nL) (hV : gV wdX G ad A H0 S H locs) (ho : kX o = 2) (d : decode cc pc = .ok (.putfield 157, 3)) (kk : ∀ S' : gS, S' = gI_up S o 2 v → ∀ (H1 : Heap) (locs1 : List Loc), gV wdX G ad A H0 S' H1 locs1 → W p l e R s m args below meth c H1 locs1 cells slots Q (F0 m (pc + 3) ls rest)) : W p l e R s m args below meth c H locs cells slots Q (F0 m pc ls (.int v :: .ref (ad o) :: rest)) :=
  gw_put X hV (C := RX4) (T := TX4) (ty0 := tyX4) (N := 4) (ci := 4) (k := 2) rfl inT_4 tyX4_ok nmX4 (by decide) q_66 rfl rfl (ty := .int) (by decide +kernel) (iXO_2 ho) (iXP_2_2 ho) rfl rfl (by show 2 < 4; decide) d kk
theorem ggX5_160 {p : Program} {l : Launch} {e : Env} {R : Room} {s : State} {m : MethodId} {args : Array Value} {below : List Frame} {meth : Method} {c : Code} {H : Heap} {locs : List Loc} {cells slots : Nat} {Q : State → Prop} {cc : ByteArray} {pc : Nat} {ls : Array Slot} {rest : List Value} {G : gG} {ret : Option FieldType} {nL : Nat} {ad : Nat → Nat} {A : Nat → Prop} {H0 : Heap} {S : gS} {o : Nat} (X : gCx p s m args meth c G cc RX5 ret nL) (hV : gV wdX G ad A H0 S H locs) (ho : kX o = 6) (d : decode cc pc = .ok (.getfield 160, 3)) (kk : W p l e R s m args below meth c H locs cells slots Q (F0 m (pc + 3) ls (.int (gI S o 3) :: rest))) : W p l e R s m args below meth c H locs cells slots Q (F0 m pc ls (.ref (ad o) :: rest)) :=
  gw_get X hV (C := RX0) (T := TX0) (N := 4) (ci := 0) (k := 3) rfl inT_0 (by decide) q_127 rfl (iXO_6 ho) rfl d kk
theorem gpX5_160 {p : Program} {l : Launch} {e : Env} {R : Room} {s : State} {m : MethodId} {args : Array Value} {below : List Frame} {meth : Method} {c : Code} {H : Heap} {locs : List Loc} {cells slots : Nat} {Q : State → Prop} {cc : ByteArray} {pc : Nat} {ls : Array Slot} {rest : List Value} {G : gG} {ret : Option FieldType} {nL : Nat} {ad : Nat → Nat} {A : Nat → Prop} {H0 : Heap} {S : gS} {o : Nat} {v : Int32} (X : gCx p s m args meth c G cc RX5 ret nL) (hV : gV wdX G ad A H0 S H locs) (ho : kX o = 6) (d : decode cc pc = .ok (.putfield 160, 3)) (kk : ∀ S' : gS, S' = gI_up S o 3 v → ∀ (H1 : Heap) (locs1 : List Loc), gV wdX G ad A H0 S' H1 locs1 → W p l e R s m args below meth c H1 locs1 cells slots Q (F0 m (pc + 3) ls rest)) : W p l e R s m args below meth c H locs cells slots Q (F0 m pc ls (.int v :: .ref (ad o) :: rest)) :=
  gw_put X hV (C := RX0) (T := TX0) (ty0 := tyX0) (N := 4) (ci := 0) (k := 3) rfl inT_0 tyX0_ok nmX0 (by decide) q_127 rfl rfl (ty := .int) (by decide +kernel) (iXO_6 ho) (iXP_6_3 ho) rfl rfl (by show 3 < 4; decide) d kk
theorem ggX5_168 {p : Program} {l : Launch} {e : Env} {R : Room} {s : State} {m : MethodId} {args : Array Value} {below : List Frame} {meth : Method} {c : Code} {H : Heap} {locs : List Loc} {cells slots : Nat} {Q : State → Prop} {cc : ByteArray} {pc : Nat} {ls : Array Slot} {rest : List Value} {G : gG} {ret : Option FieldType} {nL : Nat} {ad : Nat → Nat} {A : Nat → Prop} {H0 : Heap} {S : gS} {o : Nat} (X : gCx p s m args meth c G cc RX5 ret nL) (hV : gV wdX G ad A H0 S H locs) (ho : kX o = 6) (d : decode cc pc = .ok (.getfield 168, 3)) (kk : W p l e R s m args below meth c H locs cells slots Q (F0 m (pc + 3) ls (.ref (ad (o + 2)) :: rest))) : W p l e R s m args below meth c H locs cells slots Q (F0 m pc ls (.ref (ad o) :: rest)) :=
  gw_get X hV (C := RX0) (T := TX0) (N := 4) (ci := 0) (k := 1) rfl inT_0 (by decide) q_123 rfl (iXO_6 ho) rfl d kk
theorem ggX5_177 {p : Program} {l : Launch} {e : Env} {R : Room} {s : State} {m : MethodId} {args : Array Value} {below : List Frame} {meth : Method} {c : Code} {H : Heap} {locs : List Loc} {cells slots : Nat} {Q : State → Prop} {cc : ByteArray} {pc : Nat} {ls : Array Slot} {rest : List Value} {G : gG} {ret : Option FieldType} {nL : Nat} {ad : Nat → Nat} {A : Nat → Prop} {H0 : Heap} {S : gS} {o : Nat} (X : gCx p s m args meth c G cc RX5 ret nL) (hV : gV wdX G ad A H0 S H locs) (ho : kX o = 10) (d : decode cc pc = .ok (.getfield 177, 3)) (kk : W p l e R s m args below meth c H locs cells slots Q (F0 m (pc + 3) ls (.int (gI S o 2) :: rest))) : W p l e R s m args below meth c H locs cells slots Q (F0 m pc ls (.ref (ad o) :: rest)) :=
  gw_get X hV (C := RX2) (T := TX2) (N := 3) (ci := 2) (k := 2) rfl inT_2 (by decide) q_150 rfl (iXO_10 ho) rfl d kk
theorem gpX5_177 {p : Program} {l : Launch} {e : Env} {R : Room} {s : State} {m : MethodId} {args : Array Value} {below : List Frame} {meth : Method} {c : Code} {H : Heap} {locs : List Loc} {cells slots : Nat} {Q : State → Prop} {cc : ByteArray} {pc : Nat} {ls : Array Slot} {rest : List Value} {G : gG} {ret : Option FieldType} {nL : Nat} {ad : Nat → Nat} {A : Nat → Prop} {H0 : Heap} {S : gS} {o : Nat} {v : Int32} (X : gCx p s m args meth c G cc RX5 ret nL) (hV : gV wdX G ad A H0 S H locs) (ho : kX o = 10) (d : decode cc pc = .ok (.putfield 177, 3)) (kk : ∀ S' : gS, S' = gI_up S o 2 v → ∀ (H1 : Heap) (locs1 : List Loc), gV wdX G ad A H0 S' H1 locs1 → W p l e R s m args below meth c H1 locs1 cells slots Q (F0 m (pc + 3) ls rest)) : W p l e R s m args below meth c H locs cells slots Q (F0 m pc ls (.int v :: .ref (ad o) :: rest)) :=
  gw_put X hV (C := RX2) (T := TX2) (ty0 := tyX2) (N := 3) (ci := 2) (k := 2) rfl inT_2 tyX2_ok nmX2 (by decide) q_150 rfl rfl (ty := .int) (by decide +kernel) (iXO_10 ho) (iXP_10_2 ho) rfl rfl (by show 2 < 3; decide) d kk
theorem ggX5_191 {p : Program} {l : Launch} {e : Env} {R : Room} {s : State} {m : MethodId} {args : Array Value} {below : List Frame} {meth : Method} {c : Code} {H : Heap} {locs : List Loc} {cells slots : Nat} {Q : State → Prop} {cc : ByteArray} {pc : Nat} {ls : Array Slot} {rest : List Value} {G : gG} {ret : Option FieldType} {nL : Nat} {ad : Nat → Nat} {A : Nat → Prop} {H0 : Heap} {S : gS} {o : Nat} (X : gCx p s m args meth c G cc RX5 ret nL) (hV : gV wdX G ad A H0 S H locs) (ho : kX o = 4) (d : decode cc pc = .ok (.getfield 191, 3)) (kk : W p l e R s m args below meth c H locs cells slots Q (F0 m (pc + 3) ls (.ref (ad (o + 1)) :: rest))) : W p l e R s m args below meth c H locs cells slots Q (F0 m pc ls (.ref (ad o) :: rest)) :=
  gw_get X hV (C := RX1) (T := TX1) (N := 7) (ci := 1) (k := 0) rfl inT_1 (by decide) q_86 rfl (iXO_4 ho) rfl d kk
theorem ggX5_207 {p : Program} {l : Launch} {e : Env} {R : Room} {s : State} {m : MethodId} {args : Array Value} {below : List Frame} {meth : Method} {c : Code} {H : Heap} {locs : List Loc} {cells slots : Nat} {Q : State → Prop} {cc : ByteArray} {pc : Nat} {ls : Array Slot} {rest : List Value} {G : gG} {ret : Option FieldType} {nL : Nat} {ad : Nat → Nat} {A : Nat → Prop} {H0 : Heap} {S : gS} {o : Nat} (X : gCx p s m args meth c G cc RX5 ret nL) (hV : gV wdX G ad A H0 S H locs) (ho : kX o = 6) (d : decode cc pc = .ok (.getfield 207, 3)) (kk : W p l e R s m args below meth c H locs cells slots Q (F0 m (pc + 3) ls (.ref (ad (o + 1)) :: rest))) : W p l e R s m args below meth c H locs cells slots Q (F0 m pc ls (.ref (ad o) :: rest)) :=
  gw_get X hV (C := RX0) (T := TX0) (N := 4) (ci := 0) (k := 0) rfl inT_0 (by decide) q_121 rfl (iXO_6 ho) rfl d kk
theorem ggX5_217 {p : Program} {l : Launch} {e : Env} {R : Room} {s : State} {m : MethodId} {args : Array Value} {below : List Frame} {meth : Method} {c : Code} {H : Heap} {locs : List Loc} {cells slots : Nat} {Q : State → Prop} {cc : ByteArray} {pc : Nat} {ls : Array Slot} {rest : List Value} {G : gG} {ret : Option FieldType} {nL : Nat} {ad : Nat → Nat} {A : Nat → Prop} {H0 : Heap} {S : gS} {o : Nat} (X : gCx p s m args meth c G cc RX5 ret nL) (hV : gV wdX G ad A H0 S H locs) (ho : kX o = 6) (d : decode cc pc = .ok (.getfield 217, 3)) (kk : W p l e R s m args below meth c H locs cells slots Q (F0 m (pc + 3) ls (.ref (ad (o + 3)) :: rest))) : W p l e R s m args below meth c H locs cells slots Q (F0 m pc ls (.ref (ad o) :: rest)) :=
  gw_get X hV (C := RX0) (T := TX0) (N := 4) (ci := 0) (k := 2) rfl inT_0 (by decide) q_125 rfl (iXO_6 ho) rfl d kk
theorem ggX5_249 {p : Program} {l : Launch} {e : Env} {R : Room} {s : State} {m : MethodId} {args : Array Value} {below : List Frame} {meth : Method} {c : Code} {H : Heap} {locs : List Loc} {cells slots : Nat} {Q : State → Prop} {cc : ByteArray} {pc : Nat} {ls : Array Slot} {rest : List Value} {G : gG} {ret : Option FieldType} {nL : Nat} {ad : Nat → Nat} {A : Nat → Prop} {H0 : Heap} {S : gS} {o : Nat} (X : gCx p s m args meth c G cc RX5 ret nL) (hV : gV wdX G ad A H0 S H locs) (ho : kX o = 4) (d : decode cc pc = .ok (.getfield 249, 3)) (kk : W p l e R s m args below meth c H locs cells slots Q (F0 m (pc + 3) ls (.int (gI S o 5) :: rest))) : W p l e R s m args below meth c H locs cells slots Q (F0 m pc ls (.ref (ad o) :: rest)) :=
  gw_get X hV (C := RX1) (T := TX1) (N := 7) (ci := 1) (k := 5) rfl inT_1 (by decide) q_96 rfl (iXO_4 ho) rfl d kk
theorem gpX5_249 {p : Program} {l : Launch} {e : Env} {R : Room} {s : State} {m : MethodId} {args : Array Value} {below : List Frame} {meth : Method} {c : Code} {H : Heap} {locs : List Loc} {cells slots : Nat} {Q : State → Prop} {cc : ByteArray} {pc : Nat} {ls : Array Slot} {rest : List Value} {G : gG} {ret : Option FieldType} {nL : Nat} {ad : Nat → Nat} {A : Nat → Prop} {H0 : Heap} {S : gS} {o : Nat} {v : Int32} (X : gCx p s m args meth c G cc RX5 ret nL) (hV : gV wdX G ad A H0 S H locs) (ho : kX o = 4) (d : decode cc pc = .ok (.putfield 249, 3)) (kk : ∀ S' : gS, S' = gI_up S o 5 v → ∀ (H1 : Heap) (locs1 : List Loc), gV wdX G ad A H0 S' H1 locs1 → W p l e R s m args below meth c H1 locs1 cells slots Q (F0 m (pc + 3) ls rest)) : W p l e R s m args below meth c H locs cells slots Q (F0 m pc ls (.int v :: .ref (ad o) :: rest)) :=
  gw_put X hV (C := RX1) (T := TX1) (ty0 := tyX1) (N := 7) (ci := 1) (k := 5) rfl inT_1 tyX1_ok nmX1 (by decide) q_96 rfl rfl (ty := .int) (by decide +kernel) (iXO_4 ho) (iXP_4_5 ho) rfl rfl (by show 5 < 7; decide) d kk
theorem ggX5_252 {p : Program} {l : Launch} {e : Env} {R : Room} {s : State} {m : MethodId} {args : Array Value} {below : List Frame} {meth : Method} {c : Code} {H : Heap} {locs : List Loc} {cells slots : Nat} {Q : State → Prop} {cc : ByteArray} {pc : Nat} {ls : Array Slot} {rest : List Value} {G : gG} {ret : Option FieldType} {nL : Nat} {ad : Nat → Nat} {A : Nat → Prop} {H0 : Heap} {S : gS} {o : Nat} (X : gCx p s m args meth c G cc RX5 ret nL) (hV : gV wdX G ad A H0 S H locs) (ho : kX o = 4) (d : decode cc pc = .ok (.getfield 252, 3)) (kk : W p l e R s m args below meth c H locs cells slots Q (F0 m (pc + 3) ls (.int (gI S o 6) :: rest))) : W p l e R s m args below meth c H locs cells slots Q (F0 m pc ls (.ref (ad o) :: rest)) :=
  gw_get X hV (C := RX1) (T := TX1) (N := 7) (ci := 1) (k := 6) rfl inT_1 (by decide) q_98 rfl (iXO_4 ho) rfl d kk
theorem gpX5_252 {p : Program} {l : Launch} {e : Env} {R : Room} {s : State} {m : MethodId} {args : Array Value} {below : List Frame} {meth : Method} {c : Code} {H : Heap} {locs : List Loc} {cells slots : Nat} {Q : State → Prop} {cc : ByteArray} {pc : Nat} {ls : Array Slot} {rest : List Value} {G : gG} {ret : Option FieldType} {nL : Nat} {ad : Nat → Nat} {A : Nat → Prop} {H0 : Heap} {S : gS} {o : Nat} {v : Int32} (X : gCx p s m args meth c G cc RX5 ret nL) (hV : gV wdX G ad A H0 S H locs) (ho : kX o = 4) (d : decode cc pc = .ok (.putfield 252, 3)) (kk : ∀ S' : gS, S' = gI_up S o 6 v → ∀ (H1 : Heap) (locs1 : List Loc), gV wdX G ad A H0 S' H1 locs1 → W p l e R s m args below meth c H1 locs1 cells slots Q (F0 m (pc + 3) ls rest)) : W p l e R s m args below meth c H locs cells slots Q (F0 m pc ls (.int v :: .ref (ad o) :: rest)) :=
  gw_put X hV (C := RX1) (T := TX1) (ty0 := tyX1) (N := 7) (ci := 1) (k := 6) rfl inT_1 tyX1_ok nmX1 (by decide) q_98 rfl rfl (ty := .int) (by decide +kernel) (iXO_4 ho) (iXP_4_6 ho) rfl rfl (by show 6 < 7; decide) d kk
theorem ggX5_255 {p : Program} {l : Launch} {e : Env} {R : Room} {s : State} {m : MethodId} {args : Array Value} {below : List Frame} {meth : Method} {c : Code} {H : Heap} {locs : List Loc} {cells slots : Nat} {Q : State → Prop} {cc : ByteArray} {pc : Nat} {ls : Array Slot} {rest : List Value} {G : gG} {ret : Option FieldType} {nL : Nat} {ad : Nat → Nat} {A : Nat → Prop} {H0 : Heap} {S : gS} {o : Nat} (X : gCx p s m args meth c G cc RX5 ret nL) (hV : gV wdX G ad A H0 S H locs) (ho : kX o = 0) (d : decode cc pc = .ok (.getfield 255, 3)) (kk : W p l e R s m args below meth c H locs cells slots Q (F0 m (pc + 3) ls (.int (gI S o 9) :: rest))) : W p l e R s m args below meth c H locs cells slots Q (F0 m pc ls (.ref (ad o) :: rest)) :=
  gw_get X hV (C := RX5) (T := TX5) (N := 10) (ci := 5) (k := 9) rfl inT_5 (by decide) q_188 rfl (iXO_0 ho) rfl d kk
theorem gpX5_255 {p : Program} {l : Launch} {e : Env} {R : Room} {s : State} {m : MethodId} {args : Array Value} {below : List Frame} {meth : Method} {c : Code} {H : Heap} {locs : List Loc} {cells slots : Nat} {Q : State → Prop} {cc : ByteArray} {pc : Nat} {ls : Array Slot} {rest : List Value} {G : gG} {ret : Option FieldType} {nL : Nat} {ad : Nat → Nat} {A : Nat → Prop} {H0 : Heap} {S : gS} {o : Nat} {v : Int32} (X : gCx p s m args meth c G cc RX5 ret nL) (hV : gV wdX G ad A H0 S H locs) (ho : kX o = 0) (d : decode cc pc = .ok (.putfield 255, 3)) (kk : ∀ S' : gS, S' = gI_up S o 9 v → ∀ (H1 : Heap) (locs1 : List Loc), gV wdX G ad A H0 S' H1 locs1 → W p l e R s m args below meth c H1 locs1 cells slots Q (F0 m (pc + 3) ls rest)) : W p l e R s m args below meth c H locs cells slots Q (F0 m pc ls (.int v :: .ref (ad o) :: rest)) :=
  gw_put X hV (C := RX5) (T := TX5) (ty0 := tyX5) (N := 10) (ci := 5) (k := 9) rfl inT_5 tyX5_ok nmX5 (by decide) q_188 rfl rfl (ty := .int) (by decide +kernel) (iXO_0 ho) (iXP_0_9 ho) rfl rfl (by show 9 < 10; decide) d kk
theorem ggX5_273 {p : Program} {l : Launch} {e : Env} {R : Room} {s : State} {m : MethodId} {args : Array Value} {below : List Frame} {meth : Method} {c : Code} {H : Heap} {locs : List Loc} {cells slots : Nat} {Q : State → Prop} {cc : ByteArray} {pc : Nat} {ls : Array Slot} {rest : List Value} {G : gG} {ret : Option FieldType} {nL : Nat} {ad : Nat → Nat} {A : Nat → Prop} {H0 : Heap} {S : gS} {o : Nat} (X : gCx p s m args meth c G cc RX5 ret nL) (hV : gV wdX G ad A H0 S H locs) (ho : kX o = 4) (d : decode cc pc = .ok (.getfield 273, 3)) (kk : W p l e R s m args below meth c H locs cells slots Q (F0 m (pc + 3) ls (.int (gI S o 4) :: rest))) : W p l e R s m args below meth c H locs cells slots Q (F0 m pc ls (.ref (ad o) :: rest)) :=
  gw_get X hV (C := RX1) (T := TX1) (N := 7) (ci := 1) (k := 4) rfl inT_1 (by decide) q_94 rfl (iXO_4 ho) rfl d kk
theorem gpX5_273 {p : Program} {l : Launch} {e : Env} {R : Room} {s : State} {m : MethodId} {args : Array Value} {below : List Frame} {meth : Method} {c : Code} {H : Heap} {locs : List Loc} {cells slots : Nat} {Q : State → Prop} {cc : ByteArray} {pc : Nat} {ls : Array Slot} {rest : List Value} {G : gG} {ret : Option FieldType} {nL : Nat} {ad : Nat → Nat} {A : Nat → Prop} {H0 : Heap} {S : gS} {o : Nat} {v : Int32} (X : gCx p s m args meth c G cc RX5 ret nL) (hV : gV wdX G ad A H0 S H locs) (ho : kX o = 4) (d : decode cc pc = .ok (.putfield 273, 3)) (kk : ∀ S' : gS, S' = gI_up S o 4 v → ∀ (H1 : Heap) (locs1 : List Loc), gV wdX G ad A H0 S' H1 locs1 → W p l e R s m args below meth c H1 locs1 cells slots Q (F0 m (pc + 3) ls rest)) : W p l e R s m args below meth c H locs cells slots Q (F0 m pc ls (.int v :: .ref (ad o) :: rest)) :=
  gw_put X hV (C := RX1) (T := TX1) (ty0 := tyX1) (N := 7) (ci := 1) (k := 4) rfl inT_1 tyX1_ok nmX1 (by decide) q_94 rfl rfl (ty := .int) (by decide +kernel) (iXO_4 ho) (iXP_4_4 ho) rfl rfl (by show 4 < 7; decide) d kk
theorem ggX5_276 {p : Program} {l : Launch} {e : Env} {R : Room} {s : State} {m : MethodId} {args : Array Value} {below : List Frame} {meth : Method} {c : Code} {H : Heap} {locs : List Loc} {cells slots : Nat} {Q : State → Prop} {cc : ByteArray} {pc : Nat} {ls : Array Slot} {rest : List Value} {G : gG} {ret : Option FieldType} {nL : Nat} {ad : Nat → Nat} {A : Nat → Prop} {H0 : Heap} {S : gS} {o : Nat} (X : gCx p s m args meth c G cc RX5 ret nL) (hV : gV wdX G ad A H0 S H locs) (ho : kX o = 4) (d : decode cc pc = .ok (.getfield 276, 3)) (kk : W p l e R s m args below meth c H locs cells slots Q (F0 m (pc + 3) ls (.ref (ad (o + 4)) :: rest))) : W p l e R s m args below meth c H locs cells slots Q (F0 m pc ls (.ref (ad o) :: rest)) :=
  gw_get X hV (C := RX1) (T := TX1) (N := 7) (ci := 1) (k := 3) rfl inT_1 (by decide) q_92 rfl (iXO_4 ho) rfl d kk
theorem ggX0_9 {p : Program} {l : Launch} {e : Env} {R : Room} {s : State} {m : MethodId} {args : Array Value} {below : List Frame} {meth : Method} {c : Code} {H : Heap} {locs : List Loc} {cells slots : Nat} {Q : State → Prop} {cc : ByteArray} {pc : Nat} {ls : Array Slot} {rest : List Value} {G : gG} {ret : Option FieldType} {nL : Nat} {ad : Nat → Nat} {A : Nat → Prop} {H0 : Heap} {S : gS} {o : Nat} (X : gCx p s m args meth c G cc RX0 ret nL) (hV : gV wdX G ad A H0 S H locs) (ho : kX o = 6) (d : decode cc pc = .ok (.getfield 9, 3)) (kk : W p l e R s m args below meth c H locs cells slots Q (F0 m (pc + 3) ls (.ref (ad (o + 1)) :: rest))) : W p l e R s m args below meth c H locs cells slots Q (F0 m pc ls (.ref (ad o) :: rest)) :=
  gw_get X hV (C := RX0) (T := TX0) (N := 4) (ci := 0) (k := 0) rfl inT_0 (by decide) q_120 rfl (iXO_6 ho) rfl d kk
theorem ggX0_15 {p : Program} {l : Launch} {e : Env} {R : Room} {s : State} {m : MethodId} {args : Array Value} {below : List Frame} {meth : Method} {c : Code} {H : Heap} {locs : List Loc} {cells slots : Nat} {Q : State → Prop} {cc : ByteArray} {pc : Nat} {ls : Array Slot} {rest : List Value} {G : gG} {ret : Option FieldType} {nL : Nat} {ad : Nat → Nat} {A : Nat → Prop} {H0 : Heap} {S : gS} {o : Nat} (X : gCx p s m args meth c G cc RX0 ret nL) (hV : gV wdX G ad A H0 S H locs) (ho : kX o = 6) (d : decode cc pc = .ok (.getfield 15, 3)) (kk : W p l e R s m args below meth c H locs cells slots Q (F0 m (pc + 3) ls (.ref (ad (o + 2)) :: rest))) : W p l e R s m args below meth c H locs cells slots Q (F0 m pc ls (.ref (ad o) :: rest)) :=
  gw_get X hV (C := RX0) (T := TX0) (N := 4) (ci := 0) (k := 1) rfl inT_0 (by decide) q_122 rfl (iXO_6 ho) rfl d kk
theorem ggX0_18 {p : Program} {l : Launch} {e : Env} {R : Room} {s : State} {m : MethodId} {args : Array Value} {below : List Frame} {meth : Method} {c : Code} {H : Heap} {locs : List Loc} {cells slots : Nat} {Q : State → Prop} {cc : ByteArray} {pc : Nat} {ls : Array Slot} {rest : List Value} {G : gG} {ret : Option FieldType} {nL : Nat} {ad : Nat → Nat} {A : Nat → Prop} {H0 : Heap} {S : gS} {o : Nat} (X : gCx p s m args meth c G cc RX0 ret nL) (hV : gV wdX G ad A H0 S H locs) (ho : kX o = 6) (d : decode cc pc = .ok (.getfield 18, 3)) (kk : W p l e R s m args below meth c H locs cells slots Q (F0 m (pc + 3) ls (.ref (ad (o + 3)) :: rest))) : W p l e R s m args below meth c H locs cells slots Q (F0 m pc ls (.ref (ad o) :: rest)) :=
  gw_get X hV (C := RX0) (T := TX0) (N := 4) (ci := 0) (k := 2) rfl inT_0 (by decide) q_124 rfl (iXO_6 ho) rfl d kk
theorem ggX0_21 {p : Program} {l : Launch} {e : Env} {R : Room} {s : State} {m : MethodId} {args : Array Value} {below : List Frame} {meth : Method} {c : Code} {H : Heap} {locs : List Loc} {cells slots : Nat} {Q : State → Prop} {cc : ByteArray} {pc : Nat} {ls : Array Slot} {rest : List Value} {G : gG} {ret : Option FieldType} {nL : Nat} {ad : Nat → Nat} {A : Nat → Prop} {H0 : Heap} {S : gS} {o : Nat} (X : gCx p s m args meth c G cc RX0 ret nL) (hV : gV wdX G ad A H0 S H locs) (ho : kX o = 6) (d : decode cc pc = .ok (.getfield 21, 3)) (kk : W p l e R s m args below meth c H locs cells slots Q (F0 m (pc + 3) ls (.int (gI S o 3) :: rest))) : W p l e R s m args below meth c H locs cells slots Q (F0 m pc ls (.ref (ad o) :: rest)) :=
  gw_get X hV (C := RX0) (T := TX0) (N := 4) (ci := 0) (k := 3) rfl inT_0 (by decide) q_126 rfl (iXO_6 ho) rfl d kk
theorem gpX0_21 {p : Program} {l : Launch} {e : Env} {R : Room} {s : State} {m : MethodId} {args : Array Value} {below : List Frame} {meth : Method} {c : Code} {H : Heap} {locs : List Loc} {cells slots : Nat} {Q : State → Prop} {cc : ByteArray} {pc : Nat} {ls : Array Slot} {rest : List Value} {G : gG} {ret : Option FieldType} {nL : Nat} {ad : Nat → Nat} {A : Nat → Prop} {H0 : Heap} {S : gS} {o : Nat} {v : Int32} (X : gCx p s m args meth c G cc RX0 ret nL) (hV : gV wdX G ad A H0 S H locs) (ho : kX o = 6) (d : decode cc pc = .ok (.putfield 21, 3)) (kk : ∀ S' : gS, S' = gI_up S o 3 v → ∀ (H1 : Heap) (locs1 : List Loc), gV wdX G ad A H0 S' H1 locs1 → W p l e R s m args below meth c H1 locs1 cells slots Q (F0 m (pc + 3) ls rest)) : W p l e R s m args below meth c H locs cells slots Q (F0 m pc ls (.int v :: .ref (ad o) :: rest)) :=
  gw_put X hV (C := RX0) (T := TX0) (ty0 := tyX0) (N := 4) (ci := 0) (k := 3) rfl inT_0 tyX0_ok nmX0 (by decide) q_126 rfl rfl (ty := .int) (by decide +kernel) (iXO_6 ho) (iXP_6_3 ho) rfl rfl (by show 3 < 4; decide) d kk
theorem ggX1_9 {p : Program} {l : Launch} {e : Env} {R : Room} {s : State} {m : MethodId} {args : Array Value} {below : List Frame} {meth : Method} {c : Code} {H : Heap} {locs : List Loc} {cells slots : Nat} {Q : State → Prop} {cc : ByteArray} {pc : Nat} {ls : Array Slot} {rest : List Value} {G : gG} {ret : Option FieldType} {nL : Nat} {ad : Nat → Nat} {A : Nat → Prop} {H0 : Heap} {S : gS} {o : Nat} (X : gCx p s m args meth c G cc RX1 ret nL) (hV : gV wdX G ad A H0 S H locs) (ho : kX o = 4) (d : decode cc pc = .ok (.getfield 9, 3)) (kk : W p l e R s m args below meth c H locs cells slots Q (F0 m (pc + 3) ls (.ref (ad (o + 1)) :: rest))) : W p l e R s m args below meth c H locs cells slots Q (F0 m pc ls (.ref (ad o) :: rest)) :=
  gw_get X hV (C := RX1) (T := TX1) (N := 7) (ci := 1) (k := 0) rfl inT_1 (by decide) q_85 rfl (iXO_4 ho) rfl d kk
theorem ggX1_15 {p : Program} {l : Launch} {e : Env} {R : Room} {s : State} {m : MethodId} {args : Array Value} {below : List Frame} {meth : Method} {c : Code} {H : Heap} {locs : List Loc} {cells slots : Nat} {Q : State → Prop} {cc : ByteArray} {pc : Nat} {ls : Array Slot} {rest : List Value} {G : gG} {ret : Option FieldType} {nL : Nat} {ad : Nat → Nat} {A : Nat → Prop} {H0 : Heap} {S : gS} {o : Nat} (X : gCx p s m args meth c G cc RX1 ret nL) (hV : gV wdX G ad A H0 S H locs) (ho : kX o = 4) (d : decode cc pc = .ok (.getfield 15, 3)) (kk : W p l e R s m args below meth c H locs cells slots Q (F0 m (pc + 3) ls (.ref (ad (o + 2)) :: rest))) : W p l e R s m args below meth c H locs cells slots Q (F0 m pc ls (.ref (ad o) :: rest)) :=
  gw_get X hV (C := RX1) (T := TX1) (N := 7) (ci := 1) (k := 1) rfl inT_1 (by decide) q_87 rfl (iXO_4 ho) rfl d kk
theorem ggX1_18 {p : Program} {l : Launch} {e : Env} {R : Room} {s : State} {m : MethodId} {args : Array Value} {below : List Frame} {meth : Method} {c : Code} {H : Heap} {locs : List Loc} {cells slots : Nat} {Q : State → Prop} {cc : ByteArray} {pc : Nat} {ls : Array Slot} {rest : List Value} {G : gG} {ret : Option FieldType} {nL : Nat} {ad : Nat → Nat} {A : Nat → Prop} {H0 : Heap} {S : gS} {o : Nat} (X : gCx p s m args meth c G cc RX1 ret nL) (hV : gV wdX G ad A H0 S H locs) (ho : kX o = 4) (d : decode cc pc = .ok (.getfield 18, 3)) (kk : W p l e R s m args below meth c H locs cells slots Q (F0 m (pc + 3) ls (.ref (ad (o + 3)) :: rest))) : W p l e R s m args below meth c H locs cells slots Q (F0 m pc ls (.ref (ad o) :: rest)) :=
  gw_get X hV (C := RX1) (T := TX1) (N := 7) (ci := 1) (k := 2) rfl inT_1 (by decide) q_89 rfl (iXO_4 ho) rfl d kk
theorem ggX1_21 {p : Program} {l : Launch} {e : Env} {R : Room} {s : State} {m : MethodId} {args : Array Value} {below : List Frame} {meth : Method} {c : Code} {H : Heap} {locs : List Loc} {cells slots : Nat} {Q : State → Prop} {cc : ByteArray} {pc : Nat} {ls : Array Slot} {rest : List Value} {G : gG} {ret : Option FieldType} {nL : Nat} {ad : Nat → Nat} {A : Nat → Prop} {H0 : Heap} {S : gS} {o : Nat} (X : gCx p s m args meth c G cc RX1 ret nL) (hV : gV wdX G ad A H0 S H locs) (ho : kX o = 4) (d : decode cc pc = .ok (.getfield 21, 3)) (kk : W p l e R s m args below meth c H locs cells slots Q (F0 m (pc + 3) ls (.ref (ad (o + 4)) :: rest))) : W p l e R s m args below meth c H locs cells slots Q (F0 m pc ls (.ref (ad o) :: rest)) :=
  gw_get X hV (C := RX1) (T := TX1) (N := 7) (ci := 1) (k := 3) rfl inT_1 (by decide) q_91 rfl (iXO_4 ho) rfl d kk
theorem ggX1_24 {p : Program} {l : Launch} {e : Env} {R : Room} {s : State} {m : MethodId} {args : Array Value} {below : List Frame} {meth : Method} {c : Code} {H : Heap} {locs : List Loc} {cells slots : Nat} {Q : State → Prop} {cc : ByteArray} {pc : Nat} {ls : Array Slot} {rest : List Value} {G : gG} {ret : Option FieldType} {nL : Nat} {ad : Nat → Nat} {A : Nat → Prop} {H0 : Heap} {S : gS} {o : Nat} (X : gCx p s m args meth c G cc RX1 ret nL) (hV : gV wdX G ad A H0 S H locs) (ho : kX o = 4) (d : decode cc pc = .ok (.getfield 24, 3)) (kk : W p l e R s m args below meth c H locs cells slots Q (F0 m (pc + 3) ls (.int (gI S o 5) :: rest))) : W p l e R s m args below meth c H locs cells slots Q (F0 m pc ls (.ref (ad o) :: rest)) :=
  gw_get X hV (C := RX1) (T := TX1) (N := 7) (ci := 1) (k := 5) rfl inT_1 (by decide) q_95 rfl (iXO_4 ho) rfl d kk
theorem gpX1_24 {p : Program} {l : Launch} {e : Env} {R : Room} {s : State} {m : MethodId} {args : Array Value} {below : List Frame} {meth : Method} {c : Code} {H : Heap} {locs : List Loc} {cells slots : Nat} {Q : State → Prop} {cc : ByteArray} {pc : Nat} {ls : Array Slot} {rest : List Value} {G : gG} {ret : Option FieldType} {nL : Nat} {ad : Nat → Nat} {A : Nat → Prop} {H0 : Heap} {S : gS} {o : Nat} {v : Int32} (X : gCx p s m args meth c G cc RX1 ret nL) (hV : gV wdX G ad A H0 S H locs) (ho : kX o = 4) (d : decode cc pc = .ok (.putfield 24, 3)) (kk : ∀ S' : gS, S' = gI_up S o 5 v → ∀ (H1 : Heap) (locs1 : List Loc), gV wdX G ad A H0 S' H1 locs1 → W p l e R s m args below meth c H1 locs1 cells slots Q (F0 m (pc + 3) ls rest)) : W p l e R s m args below meth c H locs cells slots Q (F0 m pc ls (.int v :: .ref (ad o) :: rest)) :=
  gw_put X hV (C := RX1) (T := TX1) (ty0 := tyX1) (N := 7) (ci := 1) (k := 5) rfl inT_1 tyX1_ok nmX1 (by decide) q_95 rfl rfl (ty := .int) (by decide +kernel) (iXO_4 ho) (iXP_4_5 ho) rfl rfl (by show 5 < 7; decide) d kk
theorem ggX1_28 {p : Program} {l : Launch} {e : Env} {R : Room} {s : State} {m : MethodId} {args : Array Value} {below : List Frame} {meth : Method} {c : Code} {H : Heap} {locs : List Loc} {cells slots : Nat} {Q : State → Prop} {cc : ByteArray} {pc : Nat} {ls : Array Slot} {rest : List Value} {G : gG} {ret : Option FieldType} {nL : Nat} {ad : Nat → Nat} {A : Nat → Prop} {H0 : Heap} {S : gS} {o : Nat} (X : gCx p s m args meth c G cc RX1 ret nL) (hV : gV wdX G ad A H0 S H locs) (ho : kX o = 4) (d : decode cc pc = .ok (.getfield 28, 3)) (kk : W p l e R s m args below meth c H locs cells slots Q (F0 m (pc + 3) ls (.int (gI S o 6) :: rest))) : W p l e R s m args below meth c H locs cells slots Q (F0 m pc ls (.ref (ad o) :: rest)) :=
  gw_get X hV (C := RX1) (T := TX1) (N := 7) (ci := 1) (k := 6) rfl inT_1 (by decide) q_97 rfl (iXO_4 ho) rfl d kk
theorem gpX1_28 {p : Program} {l : Launch} {e : Env} {R : Room} {s : State} {m : MethodId} {args : Array Value} {below : List Frame} {meth : Method} {c : Code} {H : Heap} {locs : List Loc} {cells slots : Nat} {Q : State → Prop} {cc : ByteArray} {pc : Nat} {ls : Array Slot} {rest : List Value} {G : gG} {ret : Option FieldType} {nL : Nat} {ad : Nat → Nat} {A : Nat → Prop} {H0 : Heap} {S : gS} {o : Nat} {v : Int32} (X : gCx p s m args meth c G cc RX1 ret nL) (hV : gV wdX G ad A H0 S H locs) (ho : kX o = 4) (d : decode cc pc = .ok (.putfield 28, 3)) (kk : ∀ S' : gS, S' = gI_up S o 6 v → ∀ (H1 : Heap) (locs1 : List Loc), gV wdX G ad A H0 S' H1 locs1 → W p l e R s m args below meth c H1 locs1 cells slots Q (F0 m (pc + 3) ls rest)) : W p l e R s m args below meth c H locs cells slots Q (F0 m pc ls (.int v :: .ref (ad o) :: rest)) :=
  gw_put X hV (C := RX1) (T := TX1) (ty0 := tyX1) (N := 7) (ci := 1) (k := 6) rfl inT_1 tyX1_ok nmX1 (by decide) q_97 rfl rfl (ty := .int) (by decide +kernel) (iXO_4 ho) (iXP_4_6 ho) rfl rfl (by show 6 < 7; decide) d kk
theorem ggX1_35 {p : Program} {l : Launch} {e : Env} {R : Room} {s : State} {m : MethodId} {args : Array Value} {below : List Frame} {meth : Method} {c : Code} {H : Heap} {locs : List Loc} {cells slots : Nat} {Q : State → Prop} {cc : ByteArray} {pc : Nat} {ls : Array Slot} {rest : List Value} {G : gG} {ret : Option FieldType} {nL : Nat} {ad : Nat → Nat} {A : Nat → Prop} {H0 : Heap} {S : gS} {o : Nat} (X : gCx p s m args meth c G cc RX1 ret nL) (hV : gV wdX G ad A H0 S H locs) (ho : kX o = 4) (d : decode cc pc = .ok (.getfield 35, 3)) (kk : W p l e R s m args below meth c H locs cells slots Q (F0 m (pc + 3) ls (.int (gI S o 4) :: rest))) : W p l e R s m args below meth c H locs cells slots Q (F0 m pc ls (.ref (ad o) :: rest)) :=
  gw_get X hV (C := RX1) (T := TX1) (N := 7) (ci := 1) (k := 4) rfl inT_1 (by decide) q_93 rfl (iXO_4 ho) rfl d kk
theorem gpX1_35 {p : Program} {l : Launch} {e : Env} {R : Room} {s : State} {m : MethodId} {args : Array Value} {below : List Frame} {meth : Method} {c : Code} {H : Heap} {locs : List Loc} {cells slots : Nat} {Q : State → Prop} {cc : ByteArray} {pc : Nat} {ls : Array Slot} {rest : List Value} {G : gG} {ret : Option FieldType} {nL : Nat} {ad : Nat → Nat} {A : Nat → Prop} {H0 : Heap} {S : gS} {o : Nat} {v : Int32} (X : gCx p s m args meth c G cc RX1 ret nL) (hV : gV wdX G ad A H0 S H locs) (ho : kX o = 4) (d : decode cc pc = .ok (.putfield 35, 3)) (kk : ∀ S' : gS, S' = gI_up S o 4 v → ∀ (H1 : Heap) (locs1 : List Loc), gV wdX G ad A H0 S' H1 locs1 → W p l e R s m args below meth c H1 locs1 cells slots Q (F0 m (pc + 3) ls rest)) : W p l e R s m args below meth c H locs cells slots Q (F0 m pc ls (.int v :: .ref (ad o) :: rest)) :=
  gw_put X hV (C := RX1) (T := TX1) (ty0 := tyX1) (N := 7) (ci := 1) (k := 4) rfl inT_1 tyX1_ok nmX1 (by decide) q_93 rfl rfl (ty := .int) (by decide +kernel) (iXO_4 ho) (iXP_4_4 ho) rfl rfl (by show 4 < 7; decide) d kk
theorem ggX2_11 {p : Program} {l : Launch} {e : Env} {R : Room} {s : State} {m : MethodId} {args : Array Value} {below : List Frame} {meth : Method} {c : Code} {H : Heap} {locs : List Loc} {cells slots : Nat} {Q : State → Prop} {cc : ByteArray} {pc : Nat} {ls : Array Slot} {rest : List Value} {G : gG} {ret : Option FieldType} {nL : Nat} {ad : Nat → Nat} {A : Nat → Prop} {H0 : Heap} {S : gS} {o : Nat} (X : gCx p s m args meth c G cc RX2 ret nL) (hV : gV wdX G ad A H0 S H locs) (ho : kX o = 10) (d : decode cc pc = .ok (.getfield 11, 3)) (kk : W p l e R s m args below meth c H locs cells slots Q (F0 m (pc + 3) ls (.ref (ad (o + 1)) :: rest))) : W p l e R s m args below meth c H locs cells slots Q (F0 m pc ls (.ref (ad o) :: rest)) :=
  gw_get X hV (C := RX2) (T := TX2) (N := 3) (ci := 2) (k := 0) rfl inT_2 (by decide) q_147 rfl (iXO_10 ho) rfl d kk
theorem ggX2_18 {p : Program} {l : Launch} {e : Env} {R : Room} {s : State} {m : MethodId} {args : Array Value} {below : List Frame} {meth : Method} {c : Code} {H : Heap} {locs : List Loc} {cells slots : Nat} {Q : State → Prop} {cc : ByteArray} {pc : Nat} {ls : Array Slot} {rest : List Value} {G : gG} {ret : Option FieldType} {nL : Nat} {ad : Nat → Nat} {A : Nat → Prop} {H0 : Heap} {S : gS} {o : Nat} (X : gCx p s m args meth c G cc RX2 ret nL) (hV : gV wdX G ad A H0 S H locs) (ho : kX o = 10) (d : decode cc pc = .ok (.getfield 18, 3)) (kk : W p l e R s m args below meth c H locs cells slots Q (F0 m (pc + 3) ls (.int (gI S o 1) :: rest))) : W p l e R s m args below meth c H locs cells slots Q (F0 m pc ls (.ref (ad o) :: rest)) :=
  gw_get X hV (C := RX2) (T := TX2) (N := 3) (ci := 2) (k := 1) rfl inT_2 (by decide) q_148 rfl (iXO_10 ho) rfl d kk
theorem gpX2_18 {p : Program} {l : Launch} {e : Env} {R : Room} {s : State} {m : MethodId} {args : Array Value} {below : List Frame} {meth : Method} {c : Code} {H : Heap} {locs : List Loc} {cells slots : Nat} {Q : State → Prop} {cc : ByteArray} {pc : Nat} {ls : Array Slot} {rest : List Value} {G : gG} {ret : Option FieldType} {nL : Nat} {ad : Nat → Nat} {A : Nat → Prop} {H0 : Heap} {S : gS} {o : Nat} {v : Int32} (X : gCx p s m args meth c G cc RX2 ret nL) (hV : gV wdX G ad A H0 S H locs) (ho : kX o = 10) (d : decode cc pc = .ok (.putfield 18, 3)) (kk : ∀ S' : gS, S' = gI_up S o 1 v → ∀ (H1 : Heap) (locs1 : List Loc), gV wdX G ad A H0 S' H1 locs1 → W p l e R s m args below meth c H1 locs1 cells slots Q (F0 m (pc + 3) ls rest)) : W p l e R s m args below meth c H locs cells slots Q (F0 m pc ls (.int v :: .ref (ad o) :: rest)) :=
  gw_put X hV (C := RX2) (T := TX2) (ty0 := tyX2) (N := 3) (ci := 2) (k := 1) rfl inT_2 tyX2_ok nmX2 (by decide) q_148 rfl rfl (ty := .int) (by decide +kernel) (iXO_10 ho) (iXP_10_1 ho) rfl rfl (by show 1 < 3; decide) d kk
theorem ggX2_26 {p : Program} {l : Launch} {e : Env} {R : Room} {s : State} {m : MethodId} {args : Array Value} {below : List Frame} {meth : Method} {c : Code} {H : Heap} {locs : List Loc} {cells slots : Nat} {Q : State → Prop} {cc : ByteArray} {pc : Nat} {ls : Array Slot} {rest : List Value} {G : gG} {ret : Option FieldType} {nL : Nat} {ad : Nat → Nat} {A : Nat → Prop} {H0 : Heap} {S : gS} {o : Nat} (X : gCx p s m args meth c G cc RX2 ret nL) (hV : gV wdX G ad A H0 S H locs) (ho : kX o = 10) (d : decode cc pc = .ok (.getfield 26, 3)) (kk : W p l e R s m args below meth c H locs cells slots Q (F0 m (pc + 3) ls (.int (gI S o 2) :: rest))) : W p l e R s m args below meth c H locs cells slots Q (F0 m pc ls (.ref (ad o) :: rest)) :=
  gw_get X hV (C := RX2) (T := TX2) (N := 3) (ci := 2) (k := 2) rfl inT_2 (by decide) q_149 rfl (iXO_10 ho) rfl d kk
theorem gpX2_26 {p : Program} {l : Launch} {e : Env} {R : Room} {s : State} {m : MethodId} {args : Array Value} {below : List Frame} {meth : Method} {c : Code} {H : Heap} {locs : List Loc} {cells slots : Nat} {Q : State → Prop} {cc : ByteArray} {pc : Nat} {ls : Array Slot} {rest : List Value} {G : gG} {ret : Option FieldType} {nL : Nat} {ad : Nat → Nat} {A : Nat → Prop} {H0 : Heap} {S : gS} {o : Nat} {v : Int32} (X : gCx p s m args meth c G cc RX2 ret nL) (hV : gV wdX G ad A H0 S H locs) (ho : kX o = 10) (d : decode cc pc = .ok (.putfield 26, 3)) (kk : ∀ S' : gS, S' = gI_up S o 2 v → ∀ (H1 : Heap) (locs1 : List Loc), gV wdX G ad A H0 S' H1 locs1 → W p l e R s m args below meth c H1 locs1 cells slots Q (F0 m (pc + 3) ls rest)) : W p l e R s m args below meth c H locs cells slots Q (F0 m pc ls (.int v :: .ref (ad o) :: rest)) :=
  gw_put X hV (C := RX2) (T := TX2) (ty0 := tyX2) (N := 3) (ci := 2) (k := 2) rfl inT_2 tyX2_ok nmX2 (by decide) q_149 rfl rfl (ty := .int) (by decide +kernel) (iXO_10 ho) (iXP_10_2 ho) rfl rfl (by show 2 < 3; decide) d kk
theorem ggX3_9 {p : Program} {l : Launch} {e : Env} {R : Room} {s : State} {m : MethodId} {args : Array Value} {below : List Frame} {meth : Method} {c : Code} {H : Heap} {locs : List Loc} {cells slots : Nat} {Q : State → Prop} {cc : ByteArray} {pc : Nat} {ls : Array Slot} {rest : List Value} {G : gG} {ret : Option FieldType} {nL : Nat} {ad : Nat → Nat} {A : Nat → Prop} {H0 : Heap} {S : gS} {o : Nat} (X : gCx p s m args meth c G cc RX3 ret nL) (hV : gV wdX G ad A H0 S H locs) (ho : kX o = 13) (d : decode cc pc = .ok (.getfield 9, 3)) (kk : W p l e R s m args below meth c H locs cells slots Q (F0 m (pc + 3) ls (.ref (ad (o + 1)) :: rest))) : W p l e R s m args below meth c H locs cells slots Q (F0 m pc ls (.ref (ad o) :: rest)) :=
  gw_get X hV (C := RX3) (T := TX3) (N := 4) (ci := 3) (k := 0) rfl inT_3 (by decide) q_163 rfl (iXO_13 ho) rfl d kk
theorem ggX3_15 {p : Program} {l : Launch} {e : Env} {R : Room} {s : State} {m : MethodId} {args : Array Value} {below : List Frame} {meth : Method} {c : Code} {H : Heap} {locs : List Loc} {cells slots : Nat} {Q : State → Prop} {cc : ByteArray} {pc : Nat} {ls : Array Slot} {rest : List Value} {G : gG} {ret : Option FieldType} {nL : Nat} {ad : Nat → Nat} {A : Nat → Prop} {H0 : Heap} {S : gS} {o : Nat} (X : gCx p s m args meth c G cc RX3 ret nL) (hV : gV wdX G ad A H0 S H locs) (ho : kX o = 13) (d : decode cc pc = .ok (.getfield 15, 3)) (kk : W p l e R s m args below meth c H locs cells slots Q (F0 m (pc + 3) ls (.int (gI S o 1) :: rest))) : W p l e R s m args below meth c H locs cells slots Q (F0 m pc ls (.ref (ad o) :: rest)) :=
  gw_get X hV (C := RX3) (T := TX3) (N := 4) (ci := 3) (k := 1) rfl inT_3 (by decide) q_165 rfl (iXO_13 ho) rfl d kk
theorem gpX3_15 {p : Program} {l : Launch} {e : Env} {R : Room} {s : State} {m : MethodId} {args : Array Value} {below : List Frame} {meth : Method} {c : Code} {H : Heap} {locs : List Loc} {cells slots : Nat} {Q : State → Prop} {cc : ByteArray} {pc : Nat} {ls : Array Slot} {rest : List Value} {G : gG} {ret : Option FieldType} {nL : Nat} {ad : Nat → Nat} {A : Nat → Prop} {H0 : Heap} {S : gS} {o : Nat} {v : Int32} (X : gCx p s m args meth c G cc RX3 ret nL) (hV : gV wdX G ad A H0 S H locs) (ho : kX o = 13) (hn : decide (v = 0 ∨ v = 1) = true) (d : decode cc pc = .ok (.putfield 15, 3)) (kk : ∀ S' : gS, S' = gI_up S o 1 v → ∀ (H1 : Heap) (locs1 : List Loc), gV wdX G ad A H0 S' H1 locs1 → W p l e R s m args below meth c H1 locs1 cells slots Q (F0 m (pc + 3) ls rest)) : W p l e R s m args below meth c H locs cells slots Q (F0 m pc ls (.int v :: .ref (ad o) :: rest)) :=
  gw_put X hV (C := RX3) (T := TX3) (ty0 := tyX3) (N := 4) (ci := 3) (k := 1) rfl inT_3 tyX3_ok nmX3 (by decide) q_165 rfl rfl (ty := .boolean) (by decide +kernel) (iXO_13 ho) (iXP_13_1 ho) (g_boolv hn) (g_boolf hn) (by show 1 < 4; decide) d kk
theorem ggX3_19 {p : Program} {l : Launch} {e : Env} {R : Room} {s : State} {m : MethodId} {args : Array Value} {below : List Frame} {meth : Method} {c : Code} {H : Heap} {locs : List Loc} {cells slots : Nat} {Q : State → Prop} {cc : ByteArray} {pc : Nat} {ls : Array Slot} {rest : List Value} {G : gG} {ret : Option FieldType} {nL : Nat} {ad : Nat → Nat} {A : Nat → Prop} {H0 : Heap} {S : gS} {o : Nat} (X : gCx p s m args meth c G cc RX3 ret nL) (hV : gV wdX G ad A H0 S H locs) (ho : kX o = 13) (d : decode cc pc = .ok (.getfield 19, 3)) (kk : W p l e R s m args below meth c H locs cells slots Q (F0 m (pc + 3) ls (.int (gI S o 2) :: rest))) : W p l e R s m args below meth c H locs cells slots Q (F0 m pc ls (.ref (ad o) :: rest)) :=
  gw_get X hV (C := RX3) (T := TX3) (N := 4) (ci := 3) (k := 2) rfl inT_3 (by decide) q_167 rfl (iXO_13 ho) rfl d kk
theorem gpX3_19 {p : Program} {l : Launch} {e : Env} {R : Room} {s : State} {m : MethodId} {args : Array Value} {below : List Frame} {meth : Method} {c : Code} {H : Heap} {locs : List Loc} {cells slots : Nat} {Q : State → Prop} {cc : ByteArray} {pc : Nat} {ls : Array Slot} {rest : List Value} {G : gG} {ret : Option FieldType} {nL : Nat} {ad : Nat → Nat} {A : Nat → Prop} {H0 : Heap} {S : gS} {o : Nat} {v : Int32} (X : gCx p s m args meth c G cc RX3 ret nL) (hV : gV wdX G ad A H0 S H locs) (ho : kX o = 13) (d : decode cc pc = .ok (.putfield 19, 3)) (kk : ∀ S' : gS, S' = gI_up S o 2 v → ∀ (H1 : Heap) (locs1 : List Loc), gV wdX G ad A H0 S' H1 locs1 → W p l e R s m args below meth c H1 locs1 cells slots Q (F0 m (pc + 3) ls rest)) : W p l e R s m args below meth c H locs cells slots Q (F0 m pc ls (.int v :: .ref (ad o) :: rest)) :=
  gw_put X hV (C := RX3) (T := TX3) (ty0 := tyX3) (N := 4) (ci := 3) (k := 2) rfl inT_3 tyX3_ok nmX3 (by decide) q_167 rfl rfl (ty := .int) (by decide +kernel) (iXO_13 ho) (iXP_13_2 ho) rfl rfl (by show 2 < 4; decide) d kk
theorem ggX3_23 {p : Program} {l : Launch} {e : Env} {R : Room} {s : State} {m : MethodId} {args : Array Value} {below : List Frame} {meth : Method} {c : Code} {H : Heap} {locs : List Loc} {cells slots : Nat} {Q : State → Prop} {cc : ByteArray} {pc : Nat} {ls : Array Slot} {rest : List Value} {G : gG} {ret : Option FieldType} {nL : Nat} {ad : Nat → Nat} {A : Nat → Prop} {H0 : Heap} {S : gS} {o : Nat} (X : gCx p s m args meth c G cc RX3 ret nL) (hV : gV wdX G ad A H0 S H locs) (ho : kX o = 13) (d : decode cc pc = .ok (.getfield 23, 3)) (kk : W p l e R s m args below meth c H locs cells slots Q (F0 m (pc + 3) ls (.int (gI S o 3) :: rest))) : W p l e R s m args below meth c H locs cells slots Q (F0 m pc ls (.ref (ad o) :: rest)) :=
  gw_get X hV (C := RX3) (T := TX3) (N := 4) (ci := 3) (k := 3) rfl inT_3 (by decide) q_169 rfl (iXO_13 ho) rfl d kk
theorem gpX3_23 {p : Program} {l : Launch} {e : Env} {R : Room} {s : State} {m : MethodId} {args : Array Value} {below : List Frame} {meth : Method} {c : Code} {H : Heap} {locs : List Loc} {cells slots : Nat} {Q : State → Prop} {cc : ByteArray} {pc : Nat} {ls : Array Slot} {rest : List Value} {G : gG} {ret : Option FieldType} {nL : Nat} {ad : Nat → Nat} {A : Nat → Prop} {H0 : Heap} {S : gS} {o : Nat} {v : Int32} (X : gCx p s m args meth c G cc RX3 ret nL) (hV : gV wdX G ad A H0 S H locs) (ho : kX o = 13) (d : decode cc pc = .ok (.putfield 23, 3)) (kk : ∀ S' : gS, S' = gI_up S o 3 v → ∀ (H1 : Heap) (locs1 : List Loc), gV wdX G ad A H0 S' H1 locs1 → W p l e R s m args below meth c H1 locs1 cells slots Q (F0 m (pc + 3) ls rest)) : W p l e R s m args below meth c H locs cells slots Q (F0 m pc ls (.int v :: .ref (ad o) :: rest)) :=
  gw_put X hV (C := RX3) (T := TX3) (ty0 := tyX3) (N := 4) (ci := 3) (k := 3) rfl inT_3 tyX3_ok nmX3 (by decide) q_169 rfl rfl (ty := .int) (by decide +kernel) (iXO_13 ho) (iXP_13_3 ho) rfl rfl (by show 3 < 4; decide) d kk
theorem ggX4_9 {p : Program} {l : Launch} {e : Env} {R : Room} {s : State} {m : MethodId} {args : Array Value} {below : List Frame} {meth : Method} {c : Code} {H : Heap} {locs : List Loc} {cells slots : Nat} {Q : State → Prop} {cc : ByteArray} {pc : Nat} {ls : Array Slot} {rest : List Value} {G : gG} {ret : Option FieldType} {nL : Nat} {ad : Nat → Nat} {A : Nat → Prop} {H0 : Heap} {S : gS} {o : Nat} (X : gCx p s m args meth c G cc RX4 ret nL) (hV : gV wdX G ad A H0 S H locs) (ho : kX o = 2) (d : decode cc pc = .ok (.getfield 9, 3)) (kk : W p l e R s m args below meth c H locs cells slots Q (F0 m (pc + 3) ls (.ref (ad (o + 1)) :: rest))) : W p l e R s m args below meth c H locs cells slots Q (F0 m pc ls (.ref (ad o) :: rest)) :=
  gw_get X hV (C := RX4) (T := TX4) (N := 4) (ci := 4) (k := 0) rfl inT_4 (by decide) q_62 rfl (iXO_2 ho) rfl d kk
theorem ggX4_15 {p : Program} {l : Launch} {e : Env} {R : Room} {s : State} {m : MethodId} {args : Array Value} {below : List Frame} {meth : Method} {c : Code} {H : Heap} {locs : List Loc} {cells slots : Nat} {Q : State → Prop} {cc : ByteArray} {pc : Nat} {ls : Array Slot} {rest : List Value} {G : gG} {ret : Option FieldType} {nL : Nat} {ad : Nat → Nat} {A : Nat → Prop} {H0 : Heap} {S : gS} {o : Nat} (X : gCx p s m args meth c G cc RX4 ret nL) (hV : gV wdX G ad A H0 S H locs) (ho : kX o = 2) (d : decode cc pc = .ok (.getfield 15, 3)) (kk : W p l e R s m args below meth c H locs cells slots Q (F0 m (pc + 3) ls (.ref (ad (o + 2)) :: rest))) : W p l e R s m args below meth c H locs cells slots Q (F0 m pc ls (.ref (ad o) :: rest)) :=
  gw_get X hV (C := RX4) (T := TX4) (N := 4) (ci := 4) (k := 1) rfl inT_4 (by decide) q_64 rfl (iXO_2 ho) rfl d kk
theorem ggX4_18 {p : Program} {l : Launch} {e : Env} {R : Room} {s : State} {m : MethodId} {args : Array Value} {below : List Frame} {meth : Method} {c : Code} {H : Heap} {locs : List Loc} {cells slots : Nat} {Q : State → Prop} {cc : ByteArray} {pc : Nat} {ls : Array Slot} {rest : List Value} {G : gG} {ret : Option FieldType} {nL : Nat} {ad : Nat → Nat} {A : Nat → Prop} {H0 : Heap} {S : gS} {o : Nat} (X : gCx p s m args meth c G cc RX4 ret nL) (hV : gV wdX G ad A H0 S H locs) (ho : kX o = 2) (d : decode cc pc = .ok (.getfield 18, 3)) (kk : W p l e R s m args below meth c H locs cells slots Q (F0 m (pc + 3) ls (.int (gI S o 3) :: rest))) : W p l e R s m args below meth c H locs cells slots Q (F0 m pc ls (.ref (ad o) :: rest)) :=
  gw_get X hV (C := RX4) (T := TX4) (N := 4) (ci := 4) (k := 3) rfl inT_4 (by decide) q_67 rfl (iXO_2 ho) rfl d kk
theorem gpX4_18 {p : Program} {l : Launch} {e : Env} {R : Room} {s : State} {m : MethodId} {args : Array Value} {below : List Frame} {meth : Method} {c : Code} {H : Heap} {locs : List Loc} {cells slots : Nat} {Q : State → Prop} {cc : ByteArray} {pc : Nat} {ls : Array Slot} {rest : List Value} {G : gG} {ret : Option FieldType} {nL : Nat} {ad : Nat → Nat} {A : Nat → Prop} {H0 : Heap} {S : gS} {o : Nat} {v : Int32} (X : gCx p s m args meth c G cc RX4 ret nL) (hV : gV wdX G ad A H0 S H locs) (ho : kX o = 2) (d : decode cc pc = .ok (.putfield 18, 3)) (kk : ∀ S' : gS, S' = gI_up S o 3 v → ∀ (H1 : Heap) (locs1 : List Loc), gV wdX G ad A H0 S' H1 locs1 → W p l e R s m args below meth c H1 locs1 cells slots Q (F0 m (pc + 3) ls rest)) : W p l e R s m args below meth c H locs cells slots Q (F0 m pc ls (.int v :: .ref (ad o) :: rest)) :=
  gw_put X hV (C := RX4) (T := TX4) (ty0 := tyX4) (N := 4) (ci := 4) (k := 3) rfl inT_4 tyX4_ok nmX4 (by decide) q_67 rfl rfl (ty := .int) (by decide +kernel) (iXO_2 ho) (iXP_2_3 ho) rfl rfl (by show 3 < 4; decide) d kk
theorem ggX6_7 {p : Program} {l : Launch} {e : Env} {R : Room} {s : State} {m : MethodId} {args : Array Value} {below : List Frame} {meth : Method} {c : Code} {H : Heap} {locs : List Loc} {cells slots : Nat} {Q : State → Prop} {cc : ByteArray} {pc : Nat} {ls : Array Slot} {rest : List Value} {G : gG} {ret : Option FieldType} {nL : Nat} {ad : Nat → Nat} {A : Nat → Prop} {H0 : Heap} {S : gS} {o : Nat} (X : gCx p s m args meth c G cc RX6 ret nL) (hV : gV wdY G ad A H0 S H locs) (ho : kY o = 0) (d : decode cc pc = .ok (.getfield 7, 3)) (kk : W p l e R s m args below meth c H locs cells slots Q (F0 m (pc + 3) ls (.ref (ad 1) :: rest))) : W p l e R s m args below meth c H locs cells slots Q (F0 m pc ls (.ref (ad o) :: rest)) :=
  gw_get X hV (C := RX6) (T := TX6) (N := 27) (ci := 6) (k := 0) rfl inT_6 (by decide) q_538 rfl (iYO_0 ho) rfl d kk
theorem ggX6_13 {p : Program} {l : Launch} {e : Env} {R : Room} {s : State} {m : MethodId} {args : Array Value} {below : List Frame} {meth : Method} {c : Code} {H : Heap} {locs : List Loc} {cells slots : Nat} {Q : State → Prop} {cc : ByteArray} {pc : Nat} {ls : Array Slot} {rest : List Value} {G : gG} {ret : Option FieldType} {nL : Nat} {ad : Nat → Nat} {A : Nat → Prop} {H0 : Heap} {S : gS} {o : Nat} (X : gCx p s m args meth c G cc RX6 ret nL) (hV : gV wdY G ad A H0 S H locs) (ho : kY o = 0) (d : decode cc pc = .ok (.getfield 13, 3)) (kk : W p l e R s m args below meth c H locs cells slots Q (F0 m (pc + 3) ls (.ref (ad 2) :: rest))) : W p l e R s m args below meth c H locs cells slots Q (F0 m pc ls (.ref (ad o) :: rest)) :=
  gw_get X hV (C := RX6) (T := TX6) (N := 27) (ci := 6) (k := 1) rfl inT_6 (by decide) q_539 rfl (iYO_0 ho) rfl d kk
theorem ggX6_16 {p : Program} {l : Launch} {e : Env} {R : Room} {s : State} {m : MethodId} {args : Array Value} {below : List Frame} {meth : Method} {c : Code} {H : Heap} {locs : List Loc} {cells slots : Nat} {Q : State → Prop} {cc : ByteArray} {pc : Nat} {ls : Array Slot} {rest : List Value} {G : gG} {ret : Option FieldType} {nL : Nat} {ad : Nat → Nat} {A : Nat → Prop} {H0 : Heap} {S : gS} {o : Nat} (X : gCx p s m args meth c G cc RX6 ret nL) (hV : gV wdY G ad A H0 S H locs) (ho : kY o = 0) (d : decode cc pc = .ok (.getfield 16, 3)) (kk : W p l e R s m args below meth c H locs cells slots Q (F0 m (pc + 3) ls (.ref (ad 3) :: rest))) : W p l e R s m args below meth c H locs cells slots Q (F0 m pc ls (.ref (ad o) :: rest)) :=
  gw_get X hV (C := RX6) (T := TX6) (N := 27) (ci := 6) (k := 2) rfl inT_6 (by decide) q_540 rfl (iYO_0 ho) rfl d kk
theorem ggX6_20 {p : Program} {l : Launch} {e : Env} {R : Room} {s : State} {m : MethodId} {args : Array Value} {below : List Frame} {meth : Method} {c : Code} {H : Heap} {locs : List Loc} {cells slots : Nat} {Q : State → Prop} {cc : ByteArray} {pc : Nat} {ls : Array Slot} {rest : List Value} {G : gG} {ret : Option FieldType} {nL : Nat} {ad : Nat → Nat} {A : Nat → Prop} {H0 : Heap} {S : gS} {o : Nat} (X : gCx p s m args meth c G cc RX6 ret nL) (hV : gV wdY G ad A H0 S H locs) (ho : kY o = 0) (d : decode cc pc = .ok (.getfield 20, 3)) (kk : W p l e R s m args below meth c H locs cells slots Q (F0 m (pc + 3) ls (.ref (ad 4) :: rest))) : W p l e R s m args below meth c H locs cells slots Q (F0 m pc ls (.ref (ad o) :: rest)) :=
  gw_get X hV (C := RX6) (T := TX6) (N := 27) (ci := 6) (k := 4) rfl inT_6 (by decide) q_542 rfl (iYO_0 ho) rfl d kk
theorem ggX6_23 {p : Program} {l : Launch} {e : Env} {R : Room} {s : State} {m : MethodId} {args : Array Value} {below : List Frame} {meth : Method} {c : Code} {H : Heap} {locs : List Loc} {cells slots : Nat} {Q : State → Prop} {cc : ByteArray} {pc : Nat} {ls : Array Slot} {rest : List Value} {G : gG} {ret : Option FieldType} {nL : Nat} {ad : Nat → Nat} {A : Nat → Prop} {H0 : Heap} {S : gS} {o : Nat} (X : gCx p s m args meth c G cc RX6 ret nL) (hV : gV wdY G ad A H0 S H locs) (ho : kY o = 0) (d : decode cc pc = .ok (.getfield 23, 3)) (kk : W p l e R s m args below meth c H locs cells slots Q (F0 m (pc + 3) ls (.ref (ad 5) :: rest))) : W p l e R s m args below meth c H locs cells slots Q (F0 m pc ls (.ref (ad o) :: rest)) :=
  gw_get X hV (C := RX6) (T := TX6) (N := 27) (ci := 6) (k := 8) rfl inT_6 (by decide) q_546 rfl (iYO_0 ho) rfl d kk
theorem ggX6_26 {p : Program} {l : Launch} {e : Env} {R : Room} {s : State} {m : MethodId} {args : Array Value} {below : List Frame} {meth : Method} {c : Code} {H : Heap} {locs : List Loc} {cells slots : Nat} {Q : State → Prop} {cc : ByteArray} {pc : Nat} {ls : Array Slot} {rest : List Value} {G : gG} {ret : Option FieldType} {nL : Nat} {ad : Nat → Nat} {A : Nat → Prop} {H0 : Heap} {S : gS} {o : Nat} (X : gCx p s m args meth c G cc RX6 ret nL) (hV : gV wdY G ad A H0 S H locs) (ho : kY o = 0) (d : decode cc pc = .ok (.getfield 26, 3)) (kk : W p l e R s m args below meth c H locs cells slots Q (F0 m (pc + 3) ls (.ref (ad 6) :: rest))) : W p l e R s m args below meth c H locs cells slots Q (F0 m pc ls (.ref (ad o) :: rest)) :=
  gw_get X hV (C := RX6) (T := TX6) (N := 27) (ci := 6) (k := 9) rfl inT_6 (by decide) q_547 rfl (iYO_0 ho) rfl d kk
theorem ggX6_29 {p : Program} {l : Launch} {e : Env} {R : Room} {s : State} {m : MethodId} {args : Array Value} {below : List Frame} {meth : Method} {c : Code} {H : Heap} {locs : List Loc} {cells slots : Nat} {Q : State → Prop} {cc : ByteArray} {pc : Nat} {ls : Array Slot} {rest : List Value} {G : gG} {ret : Option FieldType} {nL : Nat} {ad : Nat → Nat} {A : Nat → Prop} {H0 : Heap} {S : gS} {o : Nat} (X : gCx p s m args meth c G cc RX6 ret nL) (hV : gV wdY G ad A H0 S H locs) (ho : kY o = 0) (d : decode cc pc = .ok (.getfield 29, 3)) (kk : W p l e R s m args below meth c H locs cells slots Q (F0 m (pc + 3) ls (.ref (ad 7) :: rest))) : W p l e R s m args below meth c H locs cells slots Q (F0 m pc ls (.ref (ad o) :: rest)) :=
  gw_get X hV (C := RX6) (T := TX6) (N := 27) (ci := 6) (k := 10) rfl inT_6 (by decide) q_548 rfl (iYO_0 ho) rfl d kk
theorem ggX6_32 {p : Program} {l : Launch} {e : Env} {R : Room} {s : State} {m : MethodId} {args : Array Value} {below : List Frame} {meth : Method} {c : Code} {H : Heap} {locs : List Loc} {cells slots : Nat} {Q : State → Prop} {cc : ByteArray} {pc : Nat} {ls : Array Slot} {rest : List Value} {G : gG} {ret : Option FieldType} {nL : Nat} {ad : Nat → Nat} {A : Nat → Prop} {H0 : Heap} {S : gS} {o : Nat} (X : gCx p s m args meth c G cc RX6 ret nL) (hV : gV wdY G ad A H0 S H locs) (ho : kY o = 0) (d : decode cc pc = .ok (.getfield 32, 3)) (kk : W p l e R s m args below meth c H locs cells slots Q (F0 m (pc + 3) ls (.ref (ad 8) :: rest))) : W p l e R s m args below meth c H locs cells slots Q (F0 m pc ls (.ref (ad o) :: rest)) :=
  gw_get X hV (C := RX6) (T := TX6) (N := 27) (ci := 6) (k := 11) rfl inT_6 (by decide) q_549 rfl (iYO_0 ho) rfl d kk
theorem ggX6_35 {p : Program} {l : Launch} {e : Env} {R : Room} {s : State} {m : MethodId} {args : Array Value} {below : List Frame} {meth : Method} {c : Code} {H : Heap} {locs : List Loc} {cells slots : Nat} {Q : State → Prop} {cc : ByteArray} {pc : Nat} {ls : Array Slot} {rest : List Value} {G : gG} {ret : Option FieldType} {nL : Nat} {ad : Nat → Nat} {A : Nat → Prop} {H0 : Heap} {S : gS} {o : Nat} (X : gCx p s m args meth c G cc RX6 ret nL) (hV : gV wdY G ad A H0 S H locs) (ho : kY o = 0) (d : decode cc pc = .ok (.getfield 35, 3)) (kk : W p l e R s m args below meth c H locs cells slots Q (F0 m (pc + 3) ls (.ref (ad 9) :: rest))) : W p l e R s m args below meth c H locs cells slots Q (F0 m pc ls (.ref (ad o) :: rest)) :=
  gw_get X hV (C := RX6) (T := TX6) (N := 27) (ci := 6) (k := 12) rfl inT_6 (by decide) q_550 rfl (iYO_0 ho) rfl d kk
theorem ggX6_38 {p : Program} {l : Launch} {e : Env} {R : Room} {s : State} {m : MethodId} {args : Array Value} {below : List Frame} {meth : Method} {c : Code} {H : Heap} {locs : List Loc} {cells slots : Nat} {Q : State → Prop} {cc : ByteArray} {pc : Nat} {ls : Array Slot} {rest : List Value} {G : gG} {ret : Option FieldType} {nL : Nat} {ad : Nat → Nat} {A : Nat → Prop} {H0 : Heap} {S : gS} {o : Nat} (X : gCx p s m args meth c G cc RX6 ret nL) (hV : gV wdY G ad A H0 S H locs) (ho : kY o = 0) (d : decode cc pc = .ok (.getfield 38, 3)) (kk : W p l e R s m args below meth c H locs cells slots Q (F0 m (pc + 3) ls (.ref (ad 10) :: rest))) : W p l e R s m args below meth c H locs cells slots Q (F0 m pc ls (.ref (ad o) :: rest)) :=
  gw_get X hV (C := RX6) (T := TX6) (N := 27) (ci := 6) (k := 13) rfl inT_6 (by decide) q_551 rfl (iYO_0 ho) rfl d kk
theorem ggX6_41 {p : Program} {l : Launch} {e : Env} {R : Room} {s : State} {m : MethodId} {args : Array Value} {below : List Frame} {meth : Method} {c : Code} {H : Heap} {locs : List Loc} {cells slots : Nat} {Q : State → Prop} {cc : ByteArray} {pc : Nat} {ls : Array Slot} {rest : List Value} {G : gG} {ret : Option FieldType} {nL : Nat} {ad : Nat → Nat} {A : Nat → Prop} {H0 : Heap} {S : gS} {o : Nat} (X : gCx p s m args meth c G cc RX6 ret nL) (hV : gV wdY G ad A H0 S H locs) (ho : kY o = 0) (d : decode cc pc = .ok (.getfield 41, 3)) (kk : W p l e R s m args below meth c H locs cells slots Q (F0 m (pc + 3) ls (.ref (ad 11) :: rest))) : W p l e R s m args below meth c H locs cells slots Q (F0 m pc ls (.ref (ad o) :: rest)) :=
  gw_get X hV (C := RX6) (T := TX6) (N := 27) (ci := 6) (k := 14) rfl inT_6 (by decide) q_552 rfl (iYO_0 ho) rfl d kk
theorem ggX6_44 {p : Program} {l : Launch} {e : Env} {R : Room} {s : State} {m : MethodId} {args : Array Value} {below : List Frame} {meth : Method} {c : Code} {H : Heap} {locs : List Loc} {cells slots : Nat} {Q : State → Prop} {cc : ByteArray} {pc : Nat} {ls : Array Slot} {rest : List Value} {G : gG} {ret : Option FieldType} {nL : Nat} {ad : Nat → Nat} {A : Nat → Prop} {H0 : Heap} {S : gS} {o : Nat} (X : gCx p s m args meth c G cc RX6 ret nL) (hV : gV wdY G ad A H0 S H locs) (ho : kY o = 0) (d : decode cc pc = .ok (.getfield 44, 3)) (kk : W p l e R s m args below meth c H locs cells slots Q (F0 m (pc + 3) ls (.int (gI S o 16) :: rest))) : W p l e R s m args below meth c H locs cells slots Q (F0 m pc ls (.ref (ad o) :: rest)) :=
  gw_get X hV (C := RX6) (T := TX6) (N := 27) (ci := 6) (k := 16) rfl inT_6 (by decide) q_554 rfl (iYO_0 ho) rfl d kk
theorem gpX6_44 {p : Program} {l : Launch} {e : Env} {R : Room} {s : State} {m : MethodId} {args : Array Value} {below : List Frame} {meth : Method} {c : Code} {H : Heap} {locs : List Loc} {cells slots : Nat} {Q : State → Prop} {cc : ByteArray} {pc : Nat} {ls : Array Slot} {rest : List Value} {G : gG} {ret : Option FieldType} {nL : Nat} {ad : Nat → Nat} {A : Nat → Prop} {H0 : Heap} {S : gS} {o : Nat} {v : Int32} (X : gCx p s m args meth c G cc RX6 ret nL) (hV : gV wdY G ad A H0 S H locs) (ho : kY o = 0) (d : decode cc pc = .ok (.putfield 44, 3)) (kk : ∀ S' : gS, S' = gI_up S o 16 v → ∀ (H1 : Heap) (locs1 : List Loc), gV wdY G ad A H0 S' H1 locs1 → W p l e R s m args below meth c H1 locs1 cells slots Q (F0 m (pc + 3) ls rest)) : W p l e R s m args below meth c H locs cells slots Q (F0 m pc ls (.int v :: .ref (ad o) :: rest)) :=
  gw_put X hV (C := RX6) (T := TX6) (ty0 := tyX6) (N := 27) (ci := 6) (k := 16) rfl inT_6 tyX6_ok nmX6 (by decide) q_554 rfl rfl (ty := .int) (by decide +kernel) (iYO_0 ho) (iYP_0_16 ho) rfl rfl (by show 16 < 27; decide) d kk
theorem ggX6_48 {p : Program} {l : Launch} {e : Env} {R : Room} {s : State} {m : MethodId} {args : Array Value} {below : List Frame} {meth : Method} {c : Code} {H : Heap} {locs : List Loc} {cells slots : Nat} {Q : State → Prop} {cc : ByteArray} {pc : Nat} {ls : Array Slot} {rest : List Value} {G : gG} {ret : Option FieldType} {nL : Nat} {ad : Nat → Nat} {A : Nat → Prop} {H0 : Heap} {S : gS} {o : Nat} (X : gCx p s m args meth c G cc RX6 ret nL) (hV : gV wdY G ad A H0 S H locs) (ho : kY o = 0) (d : decode cc pc = .ok (.getfield 48, 3)) (kk : W p l e R s m args below meth c H locs cells slots Q (F0 m (pc + 3) ls (.ref (ad 12) :: rest))) : W p l e R s m args below meth c H locs cells slots Q (F0 m pc ls (.ref (ad o) :: rest)) :=
  gw_get X hV (C := RX6) (T := TX6) (N := 27) (ci := 6) (k := 19) rfl inT_6 (by decide) q_557 rfl (iYO_0 ho) rfl d kk
theorem ggX6_51 {p : Program} {l : Launch} {e : Env} {R : Room} {s : State} {m : MethodId} {args : Array Value} {below : List Frame} {meth : Method} {c : Code} {H : Heap} {locs : List Loc} {cells slots : Nat} {Q : State → Prop} {cc : ByteArray} {pc : Nat} {ls : Array Slot} {rest : List Value} {G : gG} {ret : Option FieldType} {nL : Nat} {ad : Nat → Nat} {A : Nat → Prop} {H0 : Heap} {S : gS} {o : Nat} (X : gCx p s m args meth c G cc RX6 ret nL) (hV : gV wdY G ad A H0 S H locs) (ho : kY o = 0) (d : decode cc pc = .ok (.getfield 51, 3)) (kk : W p l e R s m args below meth c H locs cells slots Q (F0 m (pc + 3) ls (.ref (ad 13) :: rest))) : W p l e R s m args below meth c H locs cells slots Q (F0 m pc ls (.ref (ad o) :: rest)) :=
  gw_get X hV (C := RX6) (T := TX6) (N := 27) (ci := 6) (k := 20) rfl inT_6 (by decide) q_558 rfl (iYO_0 ho) rfl d kk
theorem ggX6_54 {p : Program} {l : Launch} {e : Env} {R : Room} {s : State} {m : MethodId} {args : Array Value} {below : List Frame} {meth : Method} {c : Code} {H : Heap} {locs : List Loc} {cells slots : Nat} {Q : State → Prop} {cc : ByteArray} {pc : Nat} {ls : Array Slot} {rest : List Value} {G : gG} {ret : Option FieldType} {nL : Nat} {ad : Nat → Nat} {A : Nat → Prop} {H0 : Heap} {S : gS} {o : Nat} (X : gCx p s m args meth c G cc RX6 ret nL) (hV : gV wdY G ad A H0 S H locs) (ho : kY o = 0) (d : decode cc pc = .ok (.getfield 54, 3)) (kk : W p l e R s m args below meth c H locs cells slots Q (F0 m (pc + 3) ls (.ref (ad 14) :: rest))) : W p l e R s m args below meth c H locs cells slots Q (F0 m pc ls (.ref (ad o) :: rest)) :=
  gw_get X hV (C := RX6) (T := TX6) (N := 27) (ci := 6) (k := 21) rfl inT_6 (by decide) q_559 rfl (iYO_0 ho) rfl d kk
theorem ggX6_57 {p : Program} {l : Launch} {e : Env} {R : Room} {s : State} {m : MethodId} {args : Array Value} {below : List Frame} {meth : Method} {c : Code} {H : Heap} {locs : List Loc} {cells slots : Nat} {Q : State → Prop} {cc : ByteArray} {pc : Nat} {ls : Array Slot} {rest : List Value} {G : gG} {ret : Option FieldType} {nL : Nat} {ad : Nat → Nat} {A : Nat → Prop} {H0 : Heap} {S : gS} {o : Nat} (X : gCx p s m args meth c G cc RX6 ret nL) (hV : gV wdY G ad A H0 S H locs) (ho : kY o = 0) (d : decode cc pc = .ok (.getfield 57, 3)) (kk : W p l e R s m args below meth c H locs cells slots Q (F0 m (pc + 3) ls (.ref (ad 15) :: rest))) : W p l e R s m args below meth c H locs cells slots Q (F0 m pc ls (.ref (ad o) :: rest)) :=
  gw_get X hV (C := RX6) (T := TX6) (N := 27) (ci := 6) (k := 22) rfl inT_6 (by decide) q_560 rfl (iYO_0 ho) rfl d kk
theorem ggX6_60 {p : Program} {l : Launch} {e : Env} {R : Room} {s : State} {m : MethodId} {args : Array Value} {below : List Frame} {meth : Method} {c : Code} {H : Heap} {locs : List Loc} {cells slots : Nat} {Q : State → Prop} {cc : ByteArray} {pc : Nat} {ls : Array Slot} {rest : List Value} {G : gG} {ret : Option FieldType} {nL : Nat} {ad : Nat → Nat} {A : Nat → Prop} {H0 : Heap} {S : gS} {o : Nat} (X : gCx p s m args meth c G cc RX6 ret nL) (hV : gV wdY G ad A H0 S H locs) (ho : kY o = 0) (d : decode cc pc = .ok (.getfield 60, 3)) (kk : W p l e R s m args below meth c H locs cells slots Q (F0 m (pc + 3) ls (.ref (ad 16) :: rest))) : W p l e R s m args below meth c H locs cells slots Q (F0 m pc ls (.ref (ad o) :: rest)) :=
  gw_get X hV (C := RX6) (T := TX6) (N := 27) (ci := 6) (k := 23) rfl inT_6 (by decide) q_561 rfl (iYO_0 ho) rfl d kk
theorem ggX6_63 {p : Program} {l : Launch} {e : Env} {R : Room} {s : State} {m : MethodId} {args : Array Value} {below : List Frame} {meth : Method} {c : Code} {H : Heap} {locs : List Loc} {cells slots : Nat} {Q : State → Prop} {cc : ByteArray} {pc : Nat} {ls : Array Slot} {rest : List Value} {G : gG} {ret : Option FieldType} {nL : Nat} {ad : Nat → Nat} {A : Nat → Prop} {H0 : Heap} {S : gS} {o : Nat} (X : gCx p s m args meth c G cc RX6 ret nL) (hV : gV wdY G ad A H0 S H locs) (ho : kY o = 0) (d : decode cc pc = .ok (.getfield 63, 3)) (kk : W p l e R s m args below meth c H locs cells slots Q (F0 m (pc + 3) ls (.ref (ad 17) :: rest))) : W p l e R s m args below meth c H locs cells slots Q (F0 m pc ls (.ref (ad o) :: rest)) :=
  gw_get X hV (C := RX6) (T := TX6) (N := 27) (ci := 6) (k := 24) rfl inT_6 (by decide) q_562 rfl (iYO_0 ho) rfl d kk
theorem ggX6_66 {p : Program} {l : Launch} {e : Env} {R : Room} {s : State} {m : MethodId} {args : Array Value} {below : List Frame} {meth : Method} {c : Code} {H : Heap} {locs : List Loc} {cells slots : Nat} {Q : State → Prop} {cc : ByteArray} {pc : Nat} {ls : Array Slot} {rest : List Value} {G : gG} {ret : Option FieldType} {nL : Nat} {ad : Nat → Nat} {A : Nat → Prop} {H0 : Heap} {S : gS} {o : Nat} (X : gCx p s m args meth c G cc RX6 ret nL) (hV : gV wdY G ad A H0 S H locs) (ho : kY o = 0) (d : decode cc pc = .ok (.getfield 66, 3)) (kk : W p l e R s m args below meth c H locs cells slots Q (F0 m (pc + 3) ls (.ref (ad 18) :: rest))) : W p l e R s m args below meth c H locs cells slots Q (F0 m pc ls (.ref (ad o) :: rest)) :=
  gw_get X hV (C := RX6) (T := TX6) (N := 27) (ci := 6) (k := 25) rfl inT_6 (by decide) q_563 rfl (iYO_0 ho) rfl d kk
theorem ggX6_69 {p : Program} {l : Launch} {e : Env} {R : Room} {s : State} {m : MethodId} {args : Array Value} {below : List Frame} {meth : Method} {c : Code} {H : Heap} {locs : List Loc} {cells slots : Nat} {Q : State → Prop} {cc : ByteArray} {pc : Nat} {ls : Array Slot} {rest : List Value} {G : gG} {ret : Option FieldType} {nL : Nat} {ad : Nat → Nat} {A : Nat → Prop} {H0 : Heap} {S : gS} {o : Nat} (X : gCx p s m args meth c G cc RX6 ret nL) (hV : gV wdY G ad A H0 S H locs) (ho : kY o = 0) (d : decode cc pc = .ok (.getfield 69, 3)) (kk : W p l e R s m args below meth c H locs cells slots Q (F0 m (pc + 3) ls (.ref (ad 19) :: rest))) : W p l e R s m args below meth c H locs cells slots Q (F0 m pc ls (.ref (ad o) :: rest)) :=
  gw_get X hV (C := RX6) (T := TX6) (N := 27) (ci := 6) (k := 26) rfl inT_6 (by decide) q_564 rfl (iYO_0 ho) rfl d kk
theorem ggX6_72 {p : Program} {l : Launch} {e : Env} {R : Room} {s : State} {m : MethodId} {args : Array Value} {below : List Frame} {meth : Method} {c : Code} {H : Heap} {locs : List Loc} {cells slots : Nat} {Q : State → Prop} {cc : ByteArray} {pc : Nat} {ls : Array Slot} {rest : List Value} {G : gG} {ret : Option FieldType} {nL : Nat} {ad : Nat → Nat} {A : Nat → Prop} {H0 : Heap} {S : gS} {o : Nat} (X : gCx p s m args meth c G cc RX6 ret nL) (hV : gV wdY G ad A H0 S H locs) (ho : kY o = 0) (d : decode cc pc = .ok (.getfield 72, 3)) (kk : W p l e R s m args below meth c H locs cells slots Q (F0 m (pc + 3) ls (.int (gI S o 3) :: rest))) : W p l e R s m args below meth c H locs cells slots Q (F0 m pc ls (.ref (ad o) :: rest)) :=
  gw_get X hV (C := RX6) (T := TX6) (N := 27) (ci := 6) (k := 3) rfl inT_6 (by decide) q_541 rfl (iYO_0 ho) rfl d kk
theorem gpX6_72 {p : Program} {l : Launch} {e : Env} {R : Room} {s : State} {m : MethodId} {args : Array Value} {below : List Frame} {meth : Method} {c : Code} {H : Heap} {locs : List Loc} {cells slots : Nat} {Q : State → Prop} {cc : ByteArray} {pc : Nat} {ls : Array Slot} {rest : List Value} {G : gG} {ret : Option FieldType} {nL : Nat} {ad : Nat → Nat} {A : Nat → Prop} {H0 : Heap} {S : gS} {o : Nat} {v : Int32} (X : gCx p s m args meth c G cc RX6 ret nL) (hV : gV wdY G ad A H0 S H locs) (ho : kY o = 0) (d : decode cc pc = .ok (.putfield 72, 3)) (kk : ∀ S' : gS, S' = gI_up S o 3 v → ∀ (H1 : Heap) (locs1 : List Loc), gV wdY G ad A H0 S' H1 locs1 → W p l e R s m args below meth c H1 locs1 cells slots Q (F0 m (pc + 3) ls rest)) : W p l e R s m args below meth c H locs cells slots Q (F0 m pc ls (.int v :: .ref (ad o) :: rest)) :=
  gw_put X hV (C := RX6) (T := TX6) (ty0 := tyX6) (N := 27) (ci := 6) (k := 3) rfl inT_6 tyX6_ok nmX6 (by decide) q_541 rfl rfl (ty := .int) (by decide +kernel) (iYO_0 ho) (iYP_0_3 ho) rfl rfl (by show 3 < 27; decide) d kk
theorem ggX6_99 {p : Program} {l : Launch} {e : Env} {R : Room} {s : State} {m : MethodId} {args : Array Value} {below : List Frame} {meth : Method} {c : Code} {H : Heap} {locs : List Loc} {cells slots : Nat} {Q : State → Prop} {cc : ByteArray} {pc : Nat} {ls : Array Slot} {rest : List Value} {G : gG} {ret : Option FieldType} {nL : Nat} {ad : Nat → Nat} {A : Nat → Prop} {H0 : Heap} {S : gS} {o : Nat} (X : gCx p s m args meth c G cc RX6 ret nL) (hV : gV wdY G ad A H0 S H locs) (ho : kY o = 0) (d : decode cc pc = .ok (.getfield 99, 3)) (kk : W p l e R s m args below meth c H locs cells slots Q (F0 m (pc + 3) ls (.int (gI S o 5) :: rest))) : W p l e R s m args below meth c H locs cells slots Q (F0 m pc ls (.ref (ad o) :: rest)) :=
  gw_get X hV (C := RX6) (T := TX6) (N := 27) (ci := 6) (k := 5) rfl inT_6 (by decide) q_543 rfl (iYO_0 ho) rfl d kk
theorem gpX6_99 {p : Program} {l : Launch} {e : Env} {R : Room} {s : State} {m : MethodId} {args : Array Value} {below : List Frame} {meth : Method} {c : Code} {H : Heap} {locs : List Loc} {cells slots : Nat} {Q : State → Prop} {cc : ByteArray} {pc : Nat} {ls : Array Slot} {rest : List Value} {G : gG} {ret : Option FieldType} {nL : Nat} {ad : Nat → Nat} {A : Nat → Prop} {H0 : Heap} {S : gS} {o : Nat} {v : Int32} (X : gCx p s m args meth c G cc RX6 ret nL) (hV : gV wdY G ad A H0 S H locs) (ho : kY o = 0) (d : decode cc pc = .ok (.putfield 99, 3)) (kk : ∀ S' : gS, S' = gI_up S o 5 v → ∀ (H1 : Heap) (locs1 : List Loc), gV wdY G ad A H0 S' H1 locs1 → W p l e R s m args below meth c H1 locs1 cells slots Q (F0 m (pc + 3) ls rest)) : W p l e R s m args below meth c H locs cells slots Q (F0 m pc ls (.int v :: .ref (ad o) :: rest)) :=
  gw_put X hV (C := RX6) (T := TX6) (ty0 := tyX6) (N := 27) (ci := 6) (k := 5) rfl inT_6 tyX6_ok nmX6 (by decide) q_543 rfl rfl (ty := .int) (by decide +kernel) (iYO_0 ho) (iYP_0_5 ho) rfl rfl (by show 5 < 27; decide) d kk
theorem ggX6_102 {p : Program} {l : Launch} {e : Env} {R : Room} {s : State} {m : MethodId} {args : Array Value} {below : List Frame} {meth : Method} {c : Code} {H : Heap} {locs : List Loc} {cells slots : Nat} {Q : State → Prop} {cc : ByteArray} {pc : Nat} {ls : Array Slot} {rest : List Value} {G : gG} {ret : Option FieldType} {nL : Nat} {ad : Nat → Nat} {A : Nat → Prop} {H0 : Heap} {S : gS} {o : Nat} (X : gCx p s m args meth c G cc RX6 ret nL) (hV : gV wdY G ad A H0 S H locs) (ho : kY o = 0) (d : decode cc pc = .ok (.getfield 102, 3)) (kk : W p l e R s m args below meth c H locs cells slots Q (F0 m (pc + 3) ls (.int (gI S o 6) :: rest))) : W p l e R s m args below meth c H locs cells slots Q (F0 m pc ls (.ref (ad o) :: rest)) :=
  gw_get X hV (C := RX6) (T := TX6) (N := 27) (ci := 6) (k := 6) rfl inT_6 (by decide) q_544 rfl (iYO_0 ho) rfl d kk
theorem gpX6_102 {p : Program} {l : Launch} {e : Env} {R : Room} {s : State} {m : MethodId} {args : Array Value} {below : List Frame} {meth : Method} {c : Code} {H : Heap} {locs : List Loc} {cells slots : Nat} {Q : State → Prop} {cc : ByteArray} {pc : Nat} {ls : Array Slot} {rest : List Value} {G : gG} {ret : Option FieldType} {nL : Nat} {ad : Nat → Nat} {A : Nat → Prop} {H0 : Heap} {S : gS} {o : Nat} {v : Int32} (X : gCx p s m args meth c G cc RX6 ret nL) (hV : gV wdY G ad A H0 S H locs) (ho : kY o = 0) (d : decode cc pc = .ok (.putfield 102, 3)) (kk : ∀ S' : gS, S' = gI_up S o 6 v → ∀ (H1 : Heap) (locs1 : List Loc), gV wdY G ad A H0 S' H1 locs1 → W p l e R s m args below meth c H1 locs1 cells slots Q (F0 m (pc + 3) ls rest)) : W p l e R s m args below meth c H locs cells slots Q (F0 m pc ls (.int v :: .ref (ad o) :: rest)) :=
  gw_put X hV (C := RX6) (T := TX6) (ty0 := tyX6) (N := 27) (ci := 6) (k := 6) rfl inT_6 tyX6_ok nmX6 (by decide) q_544 rfl rfl (ty := .int) (by decide +kernel) (iYO_0 ho) (iYP_0_6 ho) rfl rfl (by show 6 < 27; decide) d kk
theorem ggX6_107 {p : Program} {l : Launch} {e : Env} {R : Room} {s : State} {m : MethodId} {args : Array Value} {below : List Frame} {meth : Method} {c : Code} {H : Heap} {locs : List Loc} {cells slots : Nat} {Q : State → Prop} {cc : ByteArray} {pc : Nat} {ls : Array Slot} {rest : List Value} {G : gG} {ret : Option FieldType} {nL : Nat} {ad : Nat → Nat} {A : Nat → Prop} {H0 : Heap} {S : gS} {o : Nat} (X : gCx p s m args meth c G cc RX6 ret nL) (hV : gV wdY G ad A H0 S H locs) (ho : kY o = 0) (d : decode cc pc = .ok (.getfield 107, 3)) (kk : W p l e R s m args below meth c H locs cells slots Q (F0 m (pc + 3) ls (.int (gI S o 7) :: rest))) : W p l e R s m args below meth c H locs cells slots Q (F0 m pc ls (.ref (ad o) :: rest)) :=
  gw_get X hV (C := RX6) (T := TX6) (N := 27) (ci := 6) (k := 7) rfl inT_6 (by decide) q_545 rfl (iYO_0 ho) rfl d kk
theorem gpX6_107 {p : Program} {l : Launch} {e : Env} {R : Room} {s : State} {m : MethodId} {args : Array Value} {below : List Frame} {meth : Method} {c : Code} {H : Heap} {locs : List Loc} {cells slots : Nat} {Q : State → Prop} {cc : ByteArray} {pc : Nat} {ls : Array Slot} {rest : List Value} {G : gG} {ret : Option FieldType} {nL : Nat} {ad : Nat → Nat} {A : Nat → Prop} {H0 : Heap} {S : gS} {o : Nat} {v : Int32} (X : gCx p s m args meth c G cc RX6 ret nL) (hV : gV wdY G ad A H0 S H locs) (ho : kY o = 0) (d : decode cc pc = .ok (.putfield 107, 3)) (kk : ∀ S' : gS, S' = gI_up S o 7 v → ∀ (H1 : Heap) (locs1 : List Loc), gV wdY G ad A H0 S' H1 locs1 → W p l e R s m args below meth c H1 locs1 cells slots Q (F0 m (pc + 3) ls rest)) : W p l e R s m args below meth c H locs cells slots Q (F0 m pc ls (.int v :: .ref (ad o) :: rest)) :=
  gw_put X hV (C := RX6) (T := TX6) (ty0 := tyX6) (N := 27) (ci := 6) (k := 7) rfl inT_6 tyX6_ok nmX6 (by decide) q_545 rfl rfl (ty := .int) (by decide +kernel) (iYO_0 ho) (iYP_0_7 ho) rfl rfl (by show 7 < 27; decide) d kk
theorem ggX6_110 {p : Program} {l : Launch} {e : Env} {R : Room} {s : State} {m : MethodId} {args : Array Value} {below : List Frame} {meth : Method} {c : Code} {H : Heap} {locs : List Loc} {cells slots : Nat} {Q : State → Prop} {cc : ByteArray} {pc : Nat} {ls : Array Slot} {rest : List Value} {G : gG} {ret : Option FieldType} {nL : Nat} {ad : Nat → Nat} {A : Nat → Prop} {H0 : Heap} {S : gS} {o : Nat} (X : gCx p s m args meth c G cc RX6 ret nL) (hV : gV wdY G ad A H0 S H locs) (ho : kY o = 0) (d : decode cc pc = .ok (.getfield 110, 3)) (kk : W p l e R s m args below meth c H locs cells slots Q (F0 m (pc + 3) ls (.int (gI S o 17) :: rest))) : W p l e R s m args below meth c H locs cells slots Q (F0 m pc ls (.ref (ad o) :: rest)) :=
  gw_get X hV (C := RX6) (T := TX6) (N := 27) (ci := 6) (k := 17) rfl inT_6 (by decide) q_555 rfl (iYO_0 ho) rfl d kk
theorem gpX6_110 {p : Program} {l : Launch} {e : Env} {R : Room} {s : State} {m : MethodId} {args : Array Value} {below : List Frame} {meth : Method} {c : Code} {H : Heap} {locs : List Loc} {cells slots : Nat} {Q : State → Prop} {cc : ByteArray} {pc : Nat} {ls : Array Slot} {rest : List Value} {G : gG} {ret : Option FieldType} {nL : Nat} {ad : Nat → Nat} {A : Nat → Prop} {H0 : Heap} {S : gS} {o : Nat} {v : Int32} (X : gCx p s m args meth c G cc RX6 ret nL) (hV : gV wdY G ad A H0 S H locs) (ho : kY o = 0) (d : decode cc pc = .ok (.putfield 110, 3)) (kk : ∀ S' : gS, S' = gI_up S o 17 v → ∀ (H1 : Heap) (locs1 : List Loc), gV wdY G ad A H0 S' H1 locs1 → W p l e R s m args below meth c H1 locs1 cells slots Q (F0 m (pc + 3) ls rest)) : W p l e R s m args below meth c H locs cells slots Q (F0 m pc ls (.int v :: .ref (ad o) :: rest)) :=
  gw_put X hV (C := RX6) (T := TX6) (ty0 := tyX6) (N := 27) (ci := 6) (k := 17) rfl inT_6 tyX6_ok nmX6 (by decide) q_555 rfl rfl (ty := .int) (by decide +kernel) (iYO_0 ho) (iYP_0_17 ho) rfl rfl (by show 17 < 27; decide) d kk
theorem ggX6_131 {p : Program} {l : Launch} {e : Env} {R : Room} {s : State} {m : MethodId} {args : Array Value} {below : List Frame} {meth : Method} {c : Code} {H : Heap} {locs : List Loc} {cells slots : Nat} {Q : State → Prop} {cc : ByteArray} {pc : Nat} {ls : Array Slot} {rest : List Value} {G : gG} {ret : Option FieldType} {nL : Nat} {ad : Nat → Nat} {A : Nat → Prop} {H0 : Heap} {S : gS} {o : Nat} (X : gCx p s m args meth c G cc RX6 ret nL) (hV : gV wdY G ad A H0 S H locs) (ho : kY o = 0) (d : decode cc pc = .ok (.getfield 131, 3)) (kk : W p l e R s m args below meth c H locs cells slots Q (F0 m (pc + 3) ls (.int (gI S o 15) :: rest))) : W p l e R s m args below meth c H locs cells slots Q (F0 m pc ls (.ref (ad o) :: rest)) :=
  gw_get X hV (C := RX6) (T := TX6) (N := 27) (ci := 6) (k := 15) rfl inT_6 (by decide) q_553 rfl (iYO_0 ho) rfl d kk
theorem gpX6_131 {p : Program} {l : Launch} {e : Env} {R : Room} {s : State} {m : MethodId} {args : Array Value} {below : List Frame} {meth : Method} {c : Code} {H : Heap} {locs : List Loc} {cells slots : Nat} {Q : State → Prop} {cc : ByteArray} {pc : Nat} {ls : Array Slot} {rest : List Value} {G : gG} {ret : Option FieldType} {nL : Nat} {ad : Nat → Nat} {A : Nat → Prop} {H0 : Heap} {S : gS} {o : Nat} {v : Int32} (X : gCx p s m args meth c G cc RX6 ret nL) (hV : gV wdY G ad A H0 S H locs) (ho : kY o = 0) (d : decode cc pc = .ok (.putfield 131, 3)) (kk : ∀ S' : gS, S' = gI_up S o 15 v → ∀ (H1 : Heap) (locs1 : List Loc), gV wdY G ad A H0 S' H1 locs1 → W p l e R s m args below meth c H1 locs1 cells slots Q (F0 m (pc + 3) ls rest)) : W p l e R s m args below meth c H locs cells slots Q (F0 m pc ls (.int v :: .ref (ad o) :: rest)) :=
  gw_put X hV (C := RX6) (T := TX6) (ty0 := tyX6) (N := 27) (ci := 6) (k := 15) rfl inT_6 tyX6_ok nmX6 (by decide) q_553 rfl rfl (ty := .int) (by decide +kernel) (iYO_0 ho) (iYP_0_15 ho) rfl rfl (by show 15 < 27; decide) d kk
theorem ggX6_140 {p : Program} {l : Launch} {e : Env} {R : Room} {s : State} {m : MethodId} {args : Array Value} {below : List Frame} {meth : Method} {c : Code} {H : Heap} {locs : List Loc} {cells slots : Nat} {Q : State → Prop} {cc : ByteArray} {pc : Nat} {ls : Array Slot} {rest : List Value} {G : gG} {ret : Option FieldType} {nL : Nat} {ad : Nat → Nat} {A : Nat → Prop} {H0 : Heap} {S : gS} {o : Nat} (X : gCx p s m args meth c G cc RX6 ret nL) (hV : gV wdY G ad A H0 S H locs) (ho : kY o = 0) (d : decode cc pc = .ok (.getfield 140, 3)) (kk : W p l e R s m args below meth c H locs cells slots Q (F0 m (pc + 3) ls (.int (gI S o 18) :: rest))) : W p l e R s m args below meth c H locs cells slots Q (F0 m pc ls (.ref (ad o) :: rest)) :=
  gw_get X hV (C := RX6) (T := TX6) (N := 27) (ci := 6) (k := 18) rfl inT_6 (by decide) q_556 rfl (iYO_0 ho) rfl d kk
theorem gpX6_140 {p : Program} {l : Launch} {e : Env} {R : Room} {s : State} {m : MethodId} {args : Array Value} {below : List Frame} {meth : Method} {c : Code} {H : Heap} {locs : List Loc} {cells slots : Nat} {Q : State → Prop} {cc : ByteArray} {pc : Nat} {ls : Array Slot} {rest : List Value} {G : gG} {ret : Option FieldType} {nL : Nat} {ad : Nat → Nat} {A : Nat → Prop} {H0 : Heap} {S : gS} {o : Nat} {v : Int32} (X : gCx p s m args meth c G cc RX6 ret nL) (hV : gV wdY G ad A H0 S H locs) (ho : kY o = 0) (d : decode cc pc = .ok (.putfield 140, 3)) (kk : ∀ S' : gS, S' = gI_up S o 18 v → ∀ (H1 : Heap) (locs1 : List Loc), gV wdY G ad A H0 S' H1 locs1 → W p l e R s m args below meth c H1 locs1 cells slots Q (F0 m (pc + 3) ls rest)) : W p l e R s m args below meth c H locs cells slots Q (F0 m pc ls (.int v :: .ref (ad o) :: rest)) :=
  gw_put X hV (C := RX6) (T := TX6) (ty0 := tyX6) (N := 27) (ci := 6) (k := 18) rfl inT_6 tyX6_ok nmX6 (by decide) q_556 rfl rfl (ty := .int) (by decide +kernel) (iYO_0 ho) (iYP_0_18 ho) rfl rfl (by show 18 < 27; decide) d kk
end

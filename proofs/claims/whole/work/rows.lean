section
-- ===== PART A: goes FIRST, ahead of the names: the tables' words, and 'selects' of the private methods out of them =====
/-- a private method of a class that the tables say can be made, by its rows of tables_1 -/
def lw_okq (q : MethodName × Nat) : Prop := (q.1.cls ≠ "java/lang/invoke/MethodHandle" ∧ q.1.cls ≠ "java/lang/invoke/VarHandle") ∧ Cond.instantiable q.1.cls q.2 ∈ tables_1 ∧ Cond.privateMethod q.1 ∈ tables_1 ∧ Cond.instanceMethod q.1 ∈ tables_1
theorem lw_p0 : lw_okq (⟨"BeliefWeb", "carryOut", "(IIIII)V"⟩, 7) := ⟨⟨by decide +kernel, by decide +kernel⟩, List.mem_of_getElem? (i := 9) (by decide +kernel), List.mem_of_getElem? (i := 239) (by decide +kernel), List.mem_of_getElem? (i := 240) (by decide +kernel)⟩
theorem lw_p1 : lw_okq (⟨"BeliefWeb$History", "repeat", "(ILBeliefWeb$Web;)V"⟩, 4) := ⟨⟨by decide +kernel, by decide +kernel⟩, List.mem_of_getElem? (i := 73) (by decide +kernel), List.mem_of_getElem? (i := 247) (by decide +kernel), List.mem_of_getElem? (i := 248) (by decide +kernel)⟩
theorem lw_p2 : lw_okq (⟨"BeliefWeb$History", "placeOf", "(I)I"⟩, 4) := ⟨⟨by decide +kernel, by decide +kernel⟩, List.mem_of_getElem? (i := 73) (by decide +kernel), List.mem_of_getElem? (i := 251) (by decide +kernel), List.mem_of_getElem? (i := 252) (by decide +kernel)⟩
theorem lw_p3 : lw_okq (⟨"BeliefWeb$Survey", "start", "(LBeliefWeb$Web;)V"⟩, 11) := ⟨⟨by decide +kernel, by decide +kernel⟩, List.mem_of_getElem? (i := 95) (by decide +kernel), List.mem_of_getElem? (i := 347) (by decide +kernel), List.mem_of_getElem? (i := 348) (by decide +kernel)⟩
theorem lw_p4 : lw_okq (⟨"BeliefWeb$Survey", "putParentsFirst", "(LBeliefWeb$Web;)V"⟩, 11) := ⟨⟨by decide +kernel, by decide +kernel⟩, List.mem_of_getElem? (i := 95) (by decide +kernel), List.mem_of_getElem? (i := 351) (by decide +kernel), List.mem_of_getElem? (i := 352) (by decide +kernel)⟩
theorem lw_p5 : lw_okq (⟨"BeliefWeb$Survey", "meet", "(LBeliefWeb$Web;J)V"⟩, 11) := ⟨⟨by decide +kernel, by decide +kernel⟩, List.mem_of_getElem? (i := 95) (by decide +kernel), List.mem_of_getElem? (i := 360) (by decide +kernel), List.mem_of_getElem? (i := 361) (by decide +kernel)⟩
theorem lw_p6 : lw_okq (⟨"BeliefWeb$Survey", "wholeChosen", "(LBeliefWeb$Web;)I"⟩, 11) := ⟨⟨by decide +kernel, by decide +kernel⟩, List.mem_of_getElem? (i := 95) (by decide +kernel), List.mem_of_getElem? (i := 364) (by decide +kernel), List.mem_of_getElem? (i := 365) (by decide +kernel)⟩
theorem lw_p7 : lw_okq (⟨"BeliefWeb$Survey", "isBefore", "(JII)Z"⟩, 11) := ⟨⟨by decide +kernel, by decide +kernel⟩, List.mem_of_getElem? (i := 95) (by decide +kernel), List.mem_of_getElem? (i := 368) (by decide +kernel), List.mem_of_getElem? (i := 369) (by decide +kernel)⟩
theorem lw_p8 : lw_okq (⟨"BeliefWeb", "tell", "(JJ)V"⟩, 7) := ⟨⟨by decide +kernel, by decide +kernel⟩, List.mem_of_getElem? (i := 9) (by decide +kernel), List.mem_of_getElem? (i := 381) (by decide +kernel), List.mem_of_getElem? (i := 382) (by decide +kernel)⟩
theorem lw_p9 : lw_okq (⟨"BeliefWeb", "trouble", "()I"⟩, 7) := ⟨⟨by decide +kernel, by decide +kernel⟩, List.mem_of_getElem? (i := 9) (by decide +kernel), List.mem_of_getElem? (i := 395) (by decide +kernel), List.mem_of_getElem? (i := 396) (by decide +kernel)⟩
theorem lw_p10 : lw_okq (⟨"BeliefWeb", "show", "(I)V"⟩, 7) := ⟨⟨by decide +kernel, by decide +kernel⟩, List.mem_of_getElem? (i := 9) (by decide +kernel), List.mem_of_getElem? (i := 428) (by decide +kernel), List.mem_of_getElem? (i := 429) (by decide +kernel)⟩
theorem lw_p11 : lw_okq (⟨"BeliefWeb", "gainSum", "(IJ)J"⟩, 7) := ⟨⟨by decide +kernel, by decide +kernel⟩, List.mem_of_getElem? (i := 9) (by decide +kernel), List.mem_of_getElem? (i := 501) (by decide +kernel), List.mem_of_getElem? (i := 502) (by decide +kernel)⟩
theorem lw_p12 : lw_okq (⟨"BeliefWebModel", "plainTable", "(I)V"⟩, 31) := ⟨⟨by decide +kernel, by decide +kernel⟩, List.mem_of_getElem? (i := 525) (by decide +kernel), List.mem_of_getElem? (i := 631) (by decide +kernel), List.mem_of_getElem? (i := 632) (by decide +kernel)⟩
theorem lw_p13 : lw_okq (⟨"BeliefWebModel", "isThing", "(I)Z"⟩, 31) := ⟨⟨by decide +kernel, by decide +kernel⟩, List.mem_of_getElem? (i := 525) (by decide +kernel), List.mem_of_getElem? (i := 639) (by decide +kernel), List.mem_of_getElem? (i := 640) (by decide +kernel)⟩
theorem lw_p14 : lw_okq (⟨"BeliefWebModel", "isParent", "(II)Z"⟩, 31) := ⟨⟨by decide +kernel, by decide +kernel⟩, List.mem_of_getElem? (i := 525) (by decide +kernel), List.mem_of_getElem? (i := 643) (by decide +kernel), List.mem_of_getElem? (i := 644) (by decide +kernel)⟩
theorem lw_p15 : lw_okq (⟨"BeliefWebModel", "reach", "(IZ)V"⟩, 31) := ⟨⟨by decide +kernel, by decide +kernel⟩, List.mem_of_getElem? (i := 525) (by decide +kernel), List.mem_of_getElem? (i := 647) (by decide +kernel), List.mem_of_getElem? (i := 648) (by decide +kernel)⟩
def lw_privs_1 : List (MethodName × Nat) := [(⟨"BeliefWeb", "carryOut", "(IIIII)V"⟩, 7), (⟨"BeliefWeb$History", "repeat", "(ILBeliefWeb$Web;)V"⟩, 4), (⟨"BeliefWeb$History", "placeOf", "(I)I"⟩, 4), (⟨"BeliefWeb$Survey", "start", "(LBeliefWeb$Web;)V"⟩, 11), (⟨"BeliefWeb$Survey", "putParentsFirst", "(LBeliefWeb$Web;)V"⟩, 11), (⟨"BeliefWeb$Survey", "meet", "(LBeliefWeb$Web;J)V"⟩, 11), (⟨"BeliefWeb$Survey", "wholeChosen", "(LBeliefWeb$Web;)I"⟩, 11), (⟨"BeliefWeb$Survey", "isBefore", "(JII)Z"⟩, 11), (⟨"BeliefWeb", "tell", "(JJ)V"⟩, 7), (⟨"BeliefWeb", "trouble", "()I"⟩, 7), (⟨"BeliefWeb", "show", "(I)V"⟩, 7), (⟨"BeliefWeb", "gainSum", "(IJ)J"⟩, 7), (⟨"BeliefWebModel", "plainTable", "(I)V"⟩, 31), (⟨"BeliefWebModel", "isThing", "(I)Z"⟩, 31), (⟨"BeliefWebModel", "isParent", "(II)Z"⟩, 31), (⟨"BeliefWebModel", "reach", "(IZ)V"⟩, 31)]
theorem lw_r1 : ∀ q ∈ lw_privs_1, lw_okq q := List.forall_mem_cons.mpr ⟨lw_p0, List.forall_mem_cons.mpr ⟨lw_p1, List.forall_mem_cons.mpr ⟨lw_p2, List.forall_mem_cons.mpr ⟨lw_p3, List.forall_mem_cons.mpr ⟨lw_p4, List.forall_mem_cons.mpr ⟨lw_p5, List.forall_mem_cons.mpr ⟨lw_p6, List.forall_mem_cons.mpr ⟨lw_p7, List.forall_mem_cons.mpr ⟨lw_p8, List.forall_mem_cons.mpr ⟨lw_p9, List.forall_mem_cons.mpr ⟨lw_p10, List.forall_mem_cons.mpr ⟨lw_p11, List.forall_mem_cons.mpr ⟨lw_p12, List.forall_mem_cons.mpr ⟨lw_p13, List.forall_mem_cons.mpr ⟨lw_p14, List.forall_mem_cons.mpr ⟨lw_p15, fun _ h => absurd h List.not_mem_nil⟩⟩⟩⟩⟩⟩⟩⟩⟩⟩⟩⟩⟩⟩⟩⟩
theorem lw_p16 : lw_okq (⟨"BeliefWebModel", "note", "(II)V"⟩, 31) := ⟨⟨by decide +kernel, by decide +kernel⟩, List.mem_of_getElem? (i := 525) (by decide +kernel), List.mem_of_getElem? (i := 651) (by decide +kernel), List.mem_of_getElem? (i := 652) (by decide +kernel)⟩
theorem lw_p17 : lw_okq (⟨"BeliefWebModel", "isWeight", "(III)Z"⟩, 31) := ⟨⟨by decide +kernel, by decide +kernel⟩, List.mem_of_getElem? (i := 525) (by decide +kernel), List.mem_of_getElem? (i := 663) (by decide +kernel), List.mem_of_getElem? (i := 664) (by decide +kernel)⟩
theorem lw_p18 : lw_okq (⟨"BeliefWebModel", "isValue", "(II)Z"⟩, 31) := ⟨⟨by decide +kernel, by decide +kernel⟩, List.mem_of_getElem? (i := 525) (by decide +kernel), List.mem_of_getElem? (i := 667) (by decide +kernel), List.mem_of_getElem? (i := 668) (by decide +kernel)⟩
theorem lw_p19 : lw_okq (⟨"BeliefWebModel", "rows", "(I)I"⟩, 31) := ⟨⟨by decide +kernel, by decide +kernel⟩, List.mem_of_getElem? (i := 525) (by decide +kernel), List.mem_of_getElem? (i := 671) (by decide +kernel), List.mem_of_getElem? (i := 672) (by decide +kernel)⟩
theorem lw_p20 : lw_okq (⟨"BeliefWebModel", "isSound", "(I)Z"⟩, 31) := ⟨⟨by decide +kernel, by decide +kernel⟩, List.mem_of_getElem? (i := 525) (by decide +kernel), List.mem_of_getElem? (i := 683) (by decide +kernel), List.mem_of_getElem? (i := 684) (by decide +kernel)⟩
theorem lw_p21 : lw_okq (⟨"BeliefWebModel", "isRough", "()Z"⟩, 31) := ⟨⟨by decide +kernel, by decide +kernel⟩, List.mem_of_getElem? (i := 525) (by decide +kernel), List.mem_of_getElem? (i := 695) (by decide +kernel), List.mem_of_getElem? (i := 696) (by decide +kernel)⟩
theorem lw_p22 : lw_okq (⟨"BeliefWebModel", "mayBe", "(II)Z"⟩, 31) := ⟨⟨by decide +kernel, by decide +kernel⟩, List.mem_of_getElem? (i := 525) (by decide +kernel), List.mem_of_getElem? (i := 703) (by decide +kernel), List.mem_of_getElem? (i := 704) (by decide +kernel)⟩
theorem lw_p23 : lw_okq (⟨"BeliefWebModel", "becomes", "(III)I"⟩, 31) := ⟨⟨by decide +kernel, by decide +kernel⟩, List.mem_of_getElem? (i := 525) (by decide +kernel), List.mem_of_getElem? (i := 707) (by decide +kernel), List.mem_of_getElem? (i := 708) (by decide +kernel)⟩
theorem lw_p24 : lw_okq (⟨"BeliefWebModel", "all", "()J"⟩, 31) := ⟨⟨by decide +kernel, by decide +kernel⟩, List.mem_of_getElem? (i := 525) (by decide +kernel), List.mem_of_getElem? (i := 731) (by decide +kernel), List.mem_of_getElem? (i := 732) (by decide +kernel)⟩
theorem lw_p25 : lw_okq (⟨"BeliefWebModel", "sum", "(IIII)J"⟩, 31) := ⟨⟨by decide +kernel, by decide +kernel⟩, List.mem_of_getElem? (i := 525) (by decide +kernel), List.mem_of_getElem? (i := 735) (by decide +kernel), List.mem_of_getElem? (i := 736) (by decide +kernel)⟩
theorem lw_p26 : lw_okq (⟨"BeliefWebModel", "firstWhole", "()V"⟩, 31) := ⟨⟨by decide +kernel, by decide +kernel⟩, List.mem_of_getElem? (i := 525) (by decide +kernel), List.mem_of_getElem? (i := 739) (by decide +kernel), List.mem_of_getElem? (i := 740) (by decide +kernel)⟩
theorem lw_p27 : lw_okq (⟨"BeliefWebModel", "weigh", "()V"⟩, 31) := ⟨⟨by decide +kernel, by decide +kernel⟩, List.mem_of_getElem? (i := 525) (by decide +kernel), List.mem_of_getElem? (i := 743) (by decide +kernel), List.mem_of_getElem? (i := 744) (by decide +kernel)⟩
theorem lw_p28 : lw_okq (⟨"BeliefWebModel", "nextWhole", "()Z"⟩, 31) := ⟨⟨by decide +kernel, by decide +kernel⟩, List.mem_of_getElem? (i := 525) (by decide +kernel), List.mem_of_getElem? (i := 747) (by decide +kernel), List.mem_of_getElem? (i := 748) (by decide +kernel)⟩
theorem lw_p29 : lw_okq (⟨"BeliefWebModel", "tell", "(JJ)I"⟩, 31) := ⟨⟨by decide +kernel, by decide +kernel⟩, List.mem_of_getElem? (i := 525) (by decide +kernel), List.mem_of_getElem? (i := 751) (by decide +kernel), List.mem_of_getElem? (i := 752) (by decide +kernel)⟩
theorem lw_p30 : lw_okq (⟨"BeliefWebModel", "refused", "()I"⟩, 31) := ⟨⟨by decide +kernel, by decide +kernel⟩, List.mem_of_getElem? (i := 525) (by decide +kernel), List.mem_of_getElem? (i := 762) (by decide +kernel), List.mem_of_getElem? (i := 763) (by decide +kernel)⟩
theorem lw_p31 : lw_okq (⟨"BeliefWebModel", "insert", "(II)I"⟩, 31) := ⟨⟨by decide +kernel, by decide +kernel⟩, List.mem_of_getElem? (i := 525) (by decide +kernel), List.mem_of_getElem? (i := 778) (by decide +kernel), List.mem_of_getElem? (i := 779) (by decide +kernel)⟩
def lw_privs_2 : List (MethodName × Nat) := [(⟨"BeliefWebModel", "note", "(II)V"⟩, 31), (⟨"BeliefWebModel", "isWeight", "(III)Z"⟩, 31), (⟨"BeliefWebModel", "isValue", "(II)Z"⟩, 31), (⟨"BeliefWebModel", "rows", "(I)I"⟩, 31), (⟨"BeliefWebModel", "isSound", "(I)Z"⟩, 31), (⟨"BeliefWebModel", "isRough", "()Z"⟩, 31), (⟨"BeliefWebModel", "mayBe", "(II)Z"⟩, 31), (⟨"BeliefWebModel", "becomes", "(III)I"⟩, 31), (⟨"BeliefWebModel", "all", "()J"⟩, 31), (⟨"BeliefWebModel", "sum", "(IIII)J"⟩, 31), (⟨"BeliefWebModel", "firstWhole", "()V"⟩, 31), (⟨"BeliefWebModel", "weigh", "()V"⟩, 31), (⟨"BeliefWebModel", "nextWhole", "()Z"⟩, 31), (⟨"BeliefWebModel", "tell", "(JJ)I"⟩, 31), (⟨"BeliefWebModel", "refused", "()I"⟩, 31), (⟨"BeliefWebModel", "insert", "(II)I"⟩, 31)]
theorem lw_r2 : ∀ q ∈ lw_privs_2, lw_okq q := List.forall_mem_cons.mpr ⟨lw_p16, List.forall_mem_cons.mpr ⟨lw_p17, List.forall_mem_cons.mpr ⟨lw_p18, List.forall_mem_cons.mpr ⟨lw_p19, List.forall_mem_cons.mpr ⟨lw_p20, List.forall_mem_cons.mpr ⟨lw_p21, List.forall_mem_cons.mpr ⟨lw_p22, List.forall_mem_cons.mpr ⟨lw_p23, List.forall_mem_cons.mpr ⟨lw_p24, List.forall_mem_cons.mpr ⟨lw_p25, List.forall_mem_cons.mpr ⟨lw_p26, List.forall_mem_cons.mpr ⟨lw_p27, List.forall_mem_cons.mpr ⟨lw_p28, List.forall_mem_cons.mpr ⟨lw_p29, List.forall_mem_cons.mpr ⟨lw_p30, List.forall_mem_cons.mpr ⟨lw_p31, fun _ h => absurd h List.not_mem_nil⟩⟩⟩⟩⟩⟩⟩⟩⟩⟩⟩⟩⟩⟩⟩⟩
theorem lw_p32 : lw_okq (⟨"BeliefWebModel", "leads", "(II)Z"⟩, 31) := ⟨⟨by decide +kernel, by decide +kernel⟩, List.mem_of_getElem? (i := 525) (by decide +kernel), List.mem_of_getElem? (i := 794) (by decide +kernel), List.mem_of_getElem? (i := 795) (by decide +kernel)⟩
theorem lw_p33 : lw_okq (⟨"BeliefWebModel", "passes", "(III)Z"⟩, 31) := ⟨⟨by decide +kernel, by decide +kernel⟩, List.mem_of_getElem? (i := 525) (by decide +kernel), List.mem_of_getElem? (i := 798) (by decide +kernel), List.mem_of_getElem? (i := 799) (by decide +kernel)⟩
theorem lw_p34 : lw_okq (⟨"BeliefWebModel", "isOption", "(I)Z"⟩, 31) := ⟨⟨by decide +kernel, by decide +kernel⟩, List.mem_of_getElem? (i := 525) (by decide +kernel), List.mem_of_getElem? (i := 810) (by decide +kernel), List.mem_of_getElem? (i := 811) (by decide +kernel)⟩
theorem lw_p35 : lw_okq (⟨"BeliefWebModel", "worthOf", "(III)J"⟩, 31) := ⟨⟨by decide +kernel, by decide +kernel⟩, List.mem_of_getElem? (i := 525) (by decide +kernel), List.mem_of_getElem? (i := 818) (by decide +kernel), List.mem_of_getElem? (i := 819) (by decide +kernel)⟩
theorem lw_p36 : lw_okq (⟨"BeliefWebModel", "greatest", "(II)J"⟩, 31) := ⟨⟨by decide +kernel, by decide +kernel⟩, List.mem_of_getElem? (i := 525) (by decide +kernel), List.mem_of_getElem? (i := 826) (by decide +kernel), List.mem_of_getElem? (i := 827) (by decide +kernel)⟩
theorem lw_p37 : lw_okq (⟨"BeliefWebModel", "gainOf", "(I)J"⟩, 31) := ⟨⟨by decide +kernel, by decide +kernel⟩, List.mem_of_getElem? (i := 525) (by decide +kernel), List.mem_of_getElem? (i := 834) (by decide +kernel), List.mem_of_getElem? (i := 835) (by decide +kernel)⟩
theorem lw_p38 : lw_okq (⟨"BeliefWebModel", "isKnown", "(I)Z"⟩, 31) := ⟨⟨by decide +kernel, by decide +kernel⟩, List.mem_of_getElem? (i := 525) (by decide +kernel), List.mem_of_getElem? (i := 838) (by decide +kernel), List.mem_of_getElem? (i := 839) (by decide +kernel)⟩
def lw_privs_3 : List (MethodName × Nat) := [(⟨"BeliefWebModel", "leads", "(II)Z"⟩, 31), (⟨"BeliefWebModel", "passes", "(III)Z"⟩, 31), (⟨"BeliefWebModel", "isOption", "(I)Z"⟩, 31), (⟨"BeliefWebModel", "worthOf", "(III)J"⟩, 31), (⟨"BeliefWebModel", "greatest", "(II)J"⟩, 31), (⟨"BeliefWebModel", "gainOf", "(I)J"⟩, 31), (⟨"BeliefWebModel", "isKnown", "(I)Z"⟩, 31)]
theorem lw_r3 : ∀ q ∈ lw_privs_3, lw_okq q := List.forall_mem_cons.mpr ⟨lw_p32, List.forall_mem_cons.mpr ⟨lw_p33, List.forall_mem_cons.mpr ⟨lw_p34, List.forall_mem_cons.mpr ⟨lw_p35, List.forall_mem_cons.mpr ⟨lw_p36, List.forall_mem_cons.mpr ⟨lw_p37, List.forall_mem_cons.mpr ⟨lw_p38, fun _ h => absurd h List.not_mem_nil⟩⟩⟩⟩⟩⟩⟩
def lw_privs : List (MethodName × Nat) := lw_privs_1 ++ (lw_privs_2 ++ (lw_privs_3))
def lw_tbl : List Cond := k2_sels lw_privs ++ tables_1
theorem lw_privs_ok : ∀ q ∈ lw_privs, lw_okq q := by
  show ∀ q ∈ lw_privs_1 ++ (lw_privs_2 ++ (lw_privs_3)), lw_okq q
  exact List.forall_mem_append.mpr ⟨lw_r1, List.forall_mem_append.mpr ⟨lw_r2, lw_r3⟩⟩
def RX0 : String := "BeliefWeb$History"
def TX0 : u_T := fun k => match k with
  | 0 => ("BeliefWeb$History", "start", "LBeliefWeb$Web;", true)
  | 1 => ("BeliefWeb$History", "acts", "[I", true)
  | 2 => ("BeliefWeb$History", "first", "I", false)
  | _ => ("BeliefWeb$History", "size", "I", false)
def tyX0 : Nat → FieldType := fun k => match k with
  | 0 => .object "BeliefWeb$Web"
  | 1 => .array .int
  | 2 => .int
  | _ => .int
abbrev wsX00 : List Cond := u_ws RX0 TX0 4
theorem nmX0 : ∀ a, a < 4 → ∀ b, b < 4 → a ≠ b → (TX0 a).2.1 ≠ (TX0 b).2.1 := by decide +kernel
theorem tyX0_ok : ∀ k, k < 4 → parseFieldDescriptor (TX0 k).2.2.1 = some (tyX0 k) := by decide +kernel
abbrev cX0_init : ByteArray := prog_2_method_1_code
def yX0_init : MethodName := ⟨RX0, "<init>", "()V"⟩
abbrev cX0_startFrom : ByteArray := prog_2_method_2_code
def yX0_startFrom : MethodName := ⟨RX0, "startFrom", "(LBeliefWeb$Web;)V"⟩
abbrev cX0_add : ByteArray := prog_2_method_3_code
def yX0_add : MethodName := ⟨RX0, "add", "(IIIII)V"⟩
abbrev cX0_takeBackLatest : ByteArray := prog_2_method_4_code
def yX0_takeBackLatest : MethodName := ⟨RX0, "takeBackLatest", "(LBeliefWeb$Web;)V"⟩
abbrev cX0_repeat : ByteArray := prog_2_method_5_code
def yX0_repeat : MethodName := ⟨RX0, "repeat", "(ILBeliefWeb$Web;)V"⟩
abbrev cX0_placeOf : ByteArray := prog_2_method_6_code
def yX0_placeOf : MethodName := ⟨RX0, "placeOf", "(I)I"⟩
def RX1 : String := "BeliefWeb$Survey"
def TX1 : u_T := fun k => match k with
  | 0 => ("BeliefWeb$Survey", "order", "[I", true)
  | 1 => ("BeliefWeb$Survey", "chosen", "[I", true)
  | 2 => ("BeliefWeb$Survey", "shares", "[J", true)
  | 3 => ("BeliefWeb$Survey", "rankedLikelihoods", "[J", true)
  | 4 => ("BeliefWeb$Survey", "rankedWholes", "[I", true)
  | 5 => ("BeliefWeb$Survey", "ranked", "I", false)
  | 6 => ("BeliefWeb$Survey", "wanted", "I", false)
  | 7 => ("BeliefWeb$Survey", "heldThing", "I", false)
  | 8 => ("BeliefWeb$Survey", "heldValue", "I", false)
  | 9 => ("BeliefWeb$Survey", "wholesMet", "I", false)
  | _ => ("BeliefWeb$Survey", "sum", "J", false)
def tyX1 : Nat → FieldType := fun k => match k with
  | 0 => .array .int
  | 1 => .array .int
  | 2 => .array .long
  | 3 => .array .long
  | 4 => .array .int
  | 5 => .int
  | 6 => .int
  | 7 => .int
  | 8 => .int
  | 9 => .int
  | _ => .long
abbrev wsX10 : List Cond := u_ws RX1 TX1 11
theorem nmX1 : ∀ a, a < 11 → ∀ b, b < 11 → a ≠ b → (TX1 a).2.1 ≠ (TX1 b).2.1 := by decide +kernel
theorem tyX1_ok : ∀ k, k < 11 → parseFieldDescriptor (TX1 k).2.2.1 = some (tyX1 k) := by decide +kernel
abbrev cX1_init : ByteArray := prog_3_method_1_code
def yX1_init : MethodName := ⟨RX1, "<init>", "()V"⟩
abbrev cX1_goOver : ByteArray := prog_3_method_2_code
def yX1_goOver : MethodName := ⟨RX1, "goOver", "(LBeliefWeb$Web;)V"⟩
abbrev cX1_goOverThoseWith : ByteArray := prog_3_method_3_code
def yX1_goOverThoseWith : MethodName := ⟨RX1, "goOverThoseWith", "(LBeliefWeb$Web;II)V"⟩
abbrev cX1_rank : ByteArray := prog_3_method_4_code
def yX1_rank : MethodName := ⟨RX1, "rank", "(LBeliefWeb$Web;I)V"⟩
abbrev cX1_start : ByteArray := prog_3_method_5_code
def yX1_start : MethodName := ⟨RX1, "start", "(LBeliefWeb$Web;)V"⟩
abbrev cX1_putParentsFirst : ByteArray := prog_3_method_6_code
def yX1_putParentsFirst : MethodName := ⟨RX1, "putParentsFirst", "(LBeliefWeb$Web;)V"⟩
abbrev cX1_spread : ByteArray := prog_3_method_7_code
def yX1_spread : MethodName := ⟨RX1, "spread", "(LBeliefWeb$Web;LBeliefWeb$Survey;IJ)J"⟩
abbrev cX1_meet : ByteArray := prog_3_method_8_code
def yX1_meet : MethodName := ⟨RX1, "meet", "(LBeliefWeb$Web;J)V"⟩
abbrev cX1_isBefore : ByteArray := prog_3_method_9_code
def yX1_isBefore : MethodName := ⟨RX1, "isBefore", "(JII)Z"⟩
abbrev cX1_wholeChosen : ByteArray := prog_3_method_10_code
def yX1_wholeChosen : MethodName := ⟨RX1, "wholeChosen", "(LBeliefWeb$Web;)I"⟩
abbrev cX1_worthSum : ByteArray := prog_3_method_11_code
def yX1_worthSum : MethodName := ⟨RX1, "worthSum", "(LBeliefWeb$Web;I)J"⟩
abbrev cX1_bestOption : ByteArray := prog_3_method_12_code
def yX1_bestOption : MethodName := ⟨RX1, "bestOption", "(LBeliefWeb$Web;)I"⟩
abbrev cX1_greatestWorthSum : ByteArray := prog_3_method_13_code
def yX1_greatestWorthSum : MethodName := ⟨RX1, "greatestWorthSum", "(LBeliefWeb$Web;)J"⟩
def RX2 : String := "BeliefWeb$Web"
def TX2 : u_T := fun k => match k with
  | 0 => ("BeliefWeb$Web", "things", "I", false)
  | 1 => ("BeliefWeb$Web", "options", "I", false)
  | 2 => ("BeliefWeb$Web", "values", "[I", true)
  | 3 => ("BeliefWeb$Web", "totals", "[I", true)
  | 4 => ("BeliefWeb$Web", "parentCounts", "[I", true)
  | 5 => ("BeliefWeb$Web", "parents", "[I", true)
  | 6 => ("BeliefWeb$Web", "weights", "[I", true)
  | 7 => ("BeliefWeb$Web", "seen", "[I", true)
  | 8 => ("BeliefWeb$Web", "done", "[I", true)
  | 9 => ("BeliefWeb$Web", "forces", "[I", true)
  | _ => ("BeliefWeb$Web", "worths", "[I", true)
def tyX2 : Nat → FieldType := fun k => match k with
  | 0 => .int
  | 1 => .int
  | 2 => .array .int
  | 3 => .array .int
  | 4 => .array .int
  | 5 => .array .int
  | 6 => .array .int
  | 7 => .array .int
  | 8 => .array .int
  | 9 => .array .int
  | _ => .array .int
abbrev wsX20 : List Cond := u_ws RX2 TX2 11
theorem nmX2 : ∀ a, a < 11 → ∀ b, b < 11 → a ≠ b → (TX2 a).2.1 ≠ (TX2 b).2.1 := by decide +kernel
theorem tyX2_ok : ∀ k, k < 11 → parseFieldDescriptor (TX2 k).2.2.1 = some (tyX2 k) := by decide +kernel
abbrev cX2_init : ByteArray := prog_4_method_1_code
def yX2_init : MethodName := ⟨RX2, "<init>", "()V"⟩
abbrev cX2_hasThing : ByteArray := prog_4_method_2_code
def yX2_hasThing : MethodName := ⟨RX2, "hasThing", "(I)Z"⟩
abbrev cX2_hasValue : ByteArray := prog_4_method_3_code
def yX2_hasValue : MethodName := ⟨RX2, "hasValue", "(II)Z"⟩
abbrev cX2_mayBeKnownAs : ByteArray := prog_4_method_4_code
def yX2_mayBeKnownAs : MethodName := ⟨RX2, "mayBeKnownAs", "(II)Z"⟩
abbrev cX2_hasWeight : ByteArray := prog_4_method_5_code
def yX2_hasWeight : MethodName := ⟨RX2, "hasWeight", "(III)Z"⟩
abbrev cX2_hasOption : ByteArray := prog_4_method_6_code
def yX2_hasOption : MethodName := ⟨RX2, "hasOption", "(I)Z"⟩
abbrev cX2_isFree : ByteArray := prog_4_method_7_code
def yX2_isFree : MethodName := ⟨RX2, "isFree", "(I)Z"⟩
abbrev cX2_allWholes : ByteArray := prog_4_method_8_code
def yX2_allWholes : MethodName := ⟨RX2, "allWholes", "()I"⟩
abbrev cX2_allTotals : ByteArray := prog_4_method_9_code
def yX2_allTotals : MethodName := ⟨RX2, "allTotals", "()J"⟩
abbrev cX2_arrows : ByteArray := prog_4_method_10_code
def yX2_arrows : MethodName := ⟨RX2, "arrows", "()I"⟩
abbrev cX2_rows : ByteArray := prog_4_method_11_code
def yX2_rows : MethodName := ⟨RX2, "rows", "(I)I"⟩
abbrev cX2_rowAt : ByteArray := prog_4_method_12_code
def yX2_rowAt : MethodName := ⟨RX2, "rowAt", "(I[I)I"⟩
abbrev cX2_isSound : ByteArray := prog_4_method_13_code
def yX2_isSound : MethodName := ⟨RX2, "isSound", "()Z"⟩
abbrev cX2_hasSoundTable : ByteArray := prog_4_method_14_code
def yX2_hasSoundTable : MethodName := ⟨RX2, "hasSoundTable", "(I)Z"⟩
abbrev cX2_factor : ByteArray := prog_4_method_15_code
def yX2_factor : MethodName := ⟨RX2, "factor", "(III)I"⟩
abbrev cX2_parentPlace : ByteArray := prog_4_method_16_code
def yX2_parentPlace : MethodName := ⟨RX2, "parentPlace", "(II)I"⟩
abbrev cX2_parentSet : ByteArray := prog_4_method_17_code
def yX2_parentSet : MethodName := ⟨RX2, "parentSet", "(I)I"⟩
abbrev cX2_ancestorsAnd : ByteArray := prog_4_method_18_code
def yX2_ancestorsAnd : MethodName := ⟨RX2, "ancestorsAnd", "(I)I"⟩
abbrev cX2_parentSetNow : ByteArray := prog_4_method_19_code
def yX2_parentSetNow : MethodName := ⟨RX2, "parentSetNow", "(I)I"⟩
abbrev cX2_childSetNow : ByteArray := prog_4_method_20_code
def yX2_childSetNow : MethodName := ⟨RX2, "childSetNow", "(I)I"⟩
abbrev cX2_hasOpenRoad : ByteArray := prog_4_method_21_code
def yX2_hasOpenRoad : MethodName := ⟨RX2, "hasOpenRoad", "(II)Z"⟩
abbrev cX2_addThing : ByteArray := prog_4_method_22_code
def yX2_addThing : MethodName := ⟨RX2, "addThing", "(II)V"⟩
abbrev cX2_carryOut : ByteArray := prog_4_method_23_code
def yX2_carryOut : MethodName := ⟨RX2, "carryOut", "(IIIII)V"⟩
abbrev cX2_addParent : ByteArray := prog_4_method_24_code
def yX2_addParent : MethodName := ⟨RX2, "addParent", "(II)V"⟩
abbrev cX2_dropParent : ByteArray := prog_4_method_25_code
def yX2_dropParent : MethodName := ⟨RX2, "dropParent", "(II)V"⟩
abbrev cX2_resetTable : ByteArray := prog_4_method_26_code
def yX2_resetTable : MethodName := ⟨RX2, "resetTable", "(I)V"⟩
abbrev cX2_setOptions : ByteArray := prog_4_method_27_code
def yX2_setOptions : MethodName := ⟨RX2, "setOptions", "(I)V"⟩
abbrev cX2_copyFrom : ByteArray := prog_4_method_28_code
def yX2_copyFrom : MethodName := ⟨RX2, "copyFrom", "(LBeliefWeb$Web;)V"⟩
abbrev cX2_copyAll : ByteArray := prog_4_method_29_code
def yX2_copyAll : MethodName := ⟨RX2, "copyAll", "([I[I)V"⟩
def RX3 : String := "BeliefWeb"
def TX3 : u_T := fun k => match k with
  | 0 => ("BeliefWeb", "web", "LBeliefWeb$Web;", true)
  | 1 => ("BeliefWeb", "history", "LBeliefWeb$History;", true)
  | 2 => ("BeliefWeb", "survey", "LBeliefWeb$Survey;", true)
  | 3 => ("BeliefWeb", "shown", "[I", true)
  | 4 => ("BeliefWeb", "shownThings", "I", false)
  | 5 => ("BeliefWeb", "tellUp", "J", false)
  | _ => ("BeliefWeb", "tellDown", "J", false)
def tyX3 : Nat → FieldType := fun k => match k with
  | 0 => .object "BeliefWeb$Web"
  | 1 => .object "BeliefWeb$History"
  | 2 => .object "BeliefWeb$Survey"
  | 3 => .array .int
  | 4 => .int
  | 5 => .long
  | _ => .long
abbrev wsX30 : List Cond := u_ws RX3 TX3 7
theorem nmX3 : ∀ a, a < 7 → ∀ b, b < 7 → a ≠ b → (TX3 a).2.1 ≠ (TX3 b).2.1 := by decide +kernel
theorem tyX3_ok : ∀ k, k < 7 → parseFieldDescriptor (TX3 k).2.2.1 = some (tyX3 k) := by decide +kernel
abbrev cX3_init : ByteArray := prog_1_method_1_code
def yX3_init : MethodName := ⟨RX3, "<init>", "()V"⟩
abbrev cX3_thing : ByteArray := prog_1_method_2_code
def yX3_thing : MethodName := ⟨RX3, "thing", "(II)I"⟩
abbrev cX3_arrow : ByteArray := prog_1_method_3_code
def yX3_arrow : MethodName := ⟨RX3, "arrow", "(II)I"⟩
abbrev cX3_cut : ByteArray := prog_1_method_4_code
def yX3_cut : MethodName := ⟨RX3, "cut", "(II)I"⟩
abbrev cX3_weight : ByteArray := prog_1_method_5_code
def yX3_weight : MethodName := ⟨RX3, "weight", "(IIII)I"⟩
abbrev cX3_told : ByteArray := prog_1_method_6_code
def yX3_told : MethodName := ⟨RX3, "told", "(III)I"⟩
abbrev cX3_about : ByteArray := prog_1_method_7_code
def yX3_about : MethodName := ⟨RX3, "about", "(II)I"⟩
abbrev cX3_parent : ByteArray := prog_1_method_8_code
def yX3_parent : MethodName := ⟨RX3, "parent", "(II)I"⟩
abbrev cX3_sound : ByteArray := prog_1_method_9_code
def yX3_sound : MethodName := ⟨RX3, "sound", "()I"⟩
abbrev cX3_see : ByteArray := prog_1_method_10_code
def yX3_see : MethodName := ⟨RX3, "see", "(II)I"⟩
abbrev cX3_act : ByteArray := prog_1_method_11_code
def yX3_act : MethodName := ⟨RX3, "act", "(II)I"⟩
abbrev cX3_force : ByteArray := prog_1_method_12_code
def yX3_force : MethodName := ⟨RX3, "force", "(III)I"⟩
abbrev cX3_chance : ByteArray := prog_1_method_13_code
def yX3_chance : MethodName := ⟨RX3, "chance", "()I"⟩
abbrev cX3_ask : ByteArray := prog_1_method_14_code
def yX3_ask : MethodName := ⟨RX3, "ask", "(II)I"⟩
abbrev cX3_both : ByteArray := prog_1_method_15_code
def yX3_both : MethodName := ⟨RX3, "both", "(IIII)I"⟩
abbrev cX3_up : ByteArray := prog_1_method_16_code
def yX3_up : MethodName := ⟨RX3, "up", "()J"⟩
abbrev cX3_down : ByteArray := prog_1_method_17_code
def yX3_down : MethodName := ⟨RX3, "down", "()J"⟩
abbrev cX3_most : ByteArray := prog_1_method_18_code
def yX3_most : MethodName := ⟨RX3, "most", "(I)I"⟩
abbrev cX3_likeliest : ByteArray := prog_1_method_19_code
def yX3_likeliest : MethodName := ⟨RX3, "likeliest", "(I)I"⟩
abbrev cX3_at : ByteArray := prog_1_method_20_code
def yX3_at : MethodName := ⟨RX3, "at", "(I)I"⟩
abbrev cX3_wholes : ByteArray := prog_1_method_21_code
def yX3_wholes : MethodName := ⟨RX3, "wholes", "()I"⟩
abbrev cX3_apart : ByteArray := prog_1_method_22_code
def yX3_apart : MethodName := ⟨RX3, "apart", "(II)I"⟩
abbrev cX3_options : ByteArray := prog_1_method_23_code
def yX3_options : MethodName := ⟨RX3, "options", "(I)I"⟩
abbrev cX3_worth : ByteArray := prog_1_method_24_code
def yX3_worth : MethodName := ⟨RX3, "worth", "(IIII)I"⟩
abbrev cX3_expected : ByteArray := prog_1_method_25_code
def yX3_expected : MethodName := ⟨RX3, "expected", "(I)I"⟩
abbrev cX3_best : ByteArray := prog_1_method_26_code
def yX3_best : MethodName := ⟨RX3, "best", "()I"⟩
abbrev cX3_gain : ByteArray := prog_1_method_27_code
def yX3_gain : MethodName := ⟨RX3, "gain", "(I)I"⟩
abbrev cX3_next : ByteArray := prog_1_method_28_code
def yX3_next : MethodName := ⟨RX3, "next", "()I"⟩
abbrev cX3_undo : ByteArray := prog_1_method_29_code
def yX3_undo : MethodName := ⟨RX3, "undo", "()I"⟩
abbrev cX3_count : ByteArray := prog_1_method_30_code
def yX3_count : MethodName := ⟨RX3, "count", "(I)I"⟩
abbrev cX3_carryOut : ByteArray := prog_1_method_31_code
def yX3_carryOut : MethodName := ⟨RX3, "carryOut", "(IIIII)V"⟩
abbrev cX3_trouble : ByteArray := prog_1_method_32_code
def yX3_trouble : MethodName := ⟨RX3, "trouble", "()I"⟩
abbrev cX3_tell : ByteArray := prog_1_method_33_code
def yX3_tell : MethodName := ⟨RX3, "tell", "(JJ)V"⟩
abbrev cX3_commonDivisor : ByteArray := prog_1_method_34_code
def yX3_commonDivisor : MethodName := ⟨RX3, "commonDivisor", "(JJ)J"⟩
abbrev cX3_show : ByteArray := prog_1_method_35_code
def yX3_show : MethodName := ⟨RX3, "show", "(I)V"⟩
abbrev cX3_gainSum : ByteArray := prog_1_method_36_code
def yX3_gainSum : MethodName := ⟨RX3, "gainSum", "(IJ)J"⟩
abbrev cX3_slot : ByteArray := prog_1_method_37_code
def yX3_slot : MethodName := ⟨RX3, "slot", "(II)I"⟩
abbrev cX3_weightSlot : ByteArray := prog_1_method_38_code
def yX3_weightSlot : MethodName := ⟨RX3, "weightSlot", "(III)I"⟩
abbrev cX3_worthSlot : ByteArray := prog_1_method_39_code
def yX3_worthSlot : MethodName := ⟨RX3, "worthSlot", "(III)I"⟩
abbrev cX3_parentSlot : ByteArray := prog_1_method_40_code
def yX3_parentSlot : MethodName := ⟨RX3, "parentSlot", "(II)I"⟩
abbrev cX3_isIn : ByteArray := prog_1_method_41_code
def yX3_isIn : MethodName := ⟨RX3, "isIn", "(II)Z"⟩
def RX4 : String := "BeliefWebModel"
def TX4 : u_T := fun k => match k with
  | 0 => ("BeliefWebModel", "code", "I", false)
  | 1 => ("BeliefWebModel", "things", "I", false)
  | 2 => ("BeliefWebModel", "values", "[I", true)
  | 3 => ("BeliefWebModel", "totals", "[I", true)
  | 4 => ("BeliefWebModel", "parents", "[I", true)
  | 5 => ("BeliefWebModel", "parent", "[I", true)
  | 6 => ("BeliefWebModel", "tables", "[I", true)
  | 7 => ("BeliefWebModel", "seen", "[I", true)
  | 8 => ("BeliefWebModel", "done", "[I", true)
  | 9 => ("BeliefWebModel", "forces", "[I", true)
  | 10 => ("BeliefWebModel", "options", "I", false)
  | 11 => ("BeliefWebModel", "worths", "[I", true)
  | 12 => ("BeliefWebModel", "reached", "[Z", true)
  | 13 => ("BeliefWebModel", "whole", "[I", true)
  | 14 => ("BeliefWebModel", "likelihood", "J", false)
  | 15 => ("BeliefWebModel", "up", "J", false)
  | 16 => ("BeliefWebModel", "down", "J", false)
  | 17 => ("BeliefWebModel", "shown", "[I", true)
  | 18 => ("BeliefWebModel", "shownMany", "I", false)
  | 19 => ("BeliefWebModel", "bestLikelihood", "[J", true)
  | 20 => ("BeliefWebModel", "bestWhole", "[I", true)
  | 21 => ("BeliefWebModel", "road", "[I", true)
  | 22 => ("BeliefWebModel", "tried", "[I", true)
  | 23 => ("BeliefWebModel", "on", "[Z", true)
  | 24 => ("BeliefWebModel", "bestOption", "I", false)
  | 25 => ("BeliefWebModel", "acts", "I", false)
  | 26 => ("BeliefWebModel", "actKind", "[I", true)
  | 27 => ("BeliefWebModel", "actWhich", "[I", true)
  | 28 => ("BeliefWebModel", "actA", "[I", true)
  | 29 => ("BeliefWebModel", "actB", "[I", true)
  | _ => ("BeliefWebModel", "actRow", "[I", true)
def tyX4 : Nat → FieldType := fun k => match k with
  | 0 => .int
  | 1 => .int
  | 2 => .array .int
  | 3 => .array .int
  | 4 => .array .int
  | 5 => .array .int
  | 6 => .array .int
  | 7 => .array .int
  | 8 => .array .int
  | 9 => .array .int
  | 10 => .int
  | 11 => .array .int
  | 12 => .array .boolean
  | 13 => .array .int
  | 14 => .long
  | 15 => .long
  | 16 => .long
  | 17 => .array .int
  | 18 => .int
  | 19 => .array .long
  | 20 => .array .int
  | 21 => .array .int
  | 22 => .array .int
  | 23 => .array .boolean
  | 24 => .int
  | 25 => .int
  | 26 => .array .int
  | 27 => .array .int
  | 28 => .array .int
  | 29 => .array .int
  | _ => .array .int
abbrev wsX40 : List Cond := u_ws RX4 TX4 31
theorem nmX4 : ∀ a, a < 31 → ∀ b, b < 31 → a ≠ b → (TX4 a).2.1 ≠ (TX4 b).2.1 := by decide +kernel
theorem tyX4_ok : ∀ k, k < 31 → parseFieldDescriptor (TX4 k).2.2.1 = some (tyX4 k) := by decide +kernel
abbrev cX4_init : ByteArray := prog_6_method_1_code
def yX4_init : MethodName := ⟨RX4, "<init>", "()V"⟩
abbrev cX4_isThing : ByteArray := prog_6_method_3_code
def yX4_isThing : MethodName := ⟨RX4, "isThing", "(I)Z"⟩
abbrev cX4_isValue : ByteArray := prog_6_method_4_code
def yX4_isValue : MethodName := ⟨RX4, "isValue", "(II)Z"⟩
abbrev cX4_rows : ByteArray := prog_6_method_5_code
def yX4_rows : MethodName := ⟨RX4, "rows", "(I)I"⟩
abbrev cX4_thing : ByteArray := prog_6_method_6_code
def yX4_thing : MethodName := ⟨RX4, "thing", "(II)I"⟩
abbrev cX4_plainTable : ByteArray := prog_6_method_7_code
def yX4_plainTable : MethodName := ⟨RX4, "plainTable", "(I)V"⟩
abbrev cX4_isParent : ByteArray := prog_6_method_8_code
def yX4_isParent : MethodName := ⟨RX4, "isParent", "(II)Z"⟩
abbrev cX4_reach : ByteArray := prog_6_method_9_code
def yX4_reach : MethodName := ⟨RX4, "reach", "(IZ)V"⟩
abbrev cX4_arrow : ByteArray := prog_6_method_10_code
def yX4_arrow : MethodName := ⟨RX4, "arrow", "(II)I"⟩
abbrev cX4_cut : ByteArray := prog_6_method_11_code
def yX4_cut : MethodName := ⟨RX4, "cut", "(II)I"⟩
abbrev cX4_isWeight : ByteArray := prog_6_method_12_code
def yX4_isWeight : MethodName := ⟨RX4, "isWeight", "(III)Z"⟩
abbrev cX4_weight : ByteArray := prog_6_method_13_code
def yX4_weight : MethodName := ⟨RX4, "weight", "(IIII)I"⟩
abbrev cX4_told : ByteArray := prog_6_method_14_code
def yX4_told : MethodName := ⟨RX4, "told", "(III)I"⟩
abbrev cX4_isSound : ByteArray := prog_6_method_15_code
def yX4_isSound : MethodName := ⟨RX4, "isSound", "(I)Z"⟩
abbrev cX4_about : ByteArray := prog_6_method_16_code
def yX4_about : MethodName := ⟨RX4, "about", "(II)I"⟩
abbrev cX4_parent : ByteArray := prog_6_method_17_code
def yX4_parent : MethodName := ⟨RX4, "parent", "(II)I"⟩
abbrev cX4_isRough : ByteArray := prog_6_method_18_code
def yX4_isRough : MethodName := ⟨RX4, "isRough", "()Z"⟩
abbrev cX4_sound : ByteArray := prog_6_method_19_code
def yX4_sound : MethodName := ⟨RX4, "sound", "()I"⟩
abbrev cX4_mayBe : ByteArray := prog_6_method_20_code
def yX4_mayBe : MethodName := ⟨RX4, "mayBe", "(II)Z"⟩
abbrev cX4_becomes : ByteArray := prog_6_method_21_code
def yX4_becomes : MethodName := ⟨RX4, "becomes", "(III)I"⟩
abbrev cX4_see : ByteArray := prog_6_method_22_code
def yX4_see : MethodName := ⟨RX4, "see", "(II)I"⟩
abbrev cX4_act : ByteArray := prog_6_method_23_code
def yX4_act : MethodName := ⟨RX4, "act", "(II)I"⟩
abbrev cX4_force : ByteArray := prog_6_method_24_code
def yX4_force : MethodName := ⟨RX4, "force", "(III)I"⟩
abbrev cX4_firstWhole : ByteArray := prog_6_method_25_code
def yX4_firstWhole : MethodName := ⟨RX4, "firstWhole", "()V"⟩
abbrev cX4_nextWhole : ByteArray := prog_6_method_26_code
def yX4_nextWhole : MethodName := ⟨RX4, "nextWhole", "()Z"⟩
abbrev cX4_weigh : ByteArray := prog_6_method_27_code
def yX4_weigh : MethodName := ⟨RX4, "weigh", "()V"⟩
abbrev cX4_sum : ByteArray := prog_6_method_28_code
def yX4_sum : MethodName := ⟨RX4, "sum", "(IIII)J"⟩
abbrev cX4_all : ByteArray := prog_6_method_29_code
def yX4_all : MethodName := ⟨RX4, "all", "()J"⟩
abbrev cX4_common : ByteArray := prog_6_method_30_code
def yX4_common : MethodName := ⟨RX4, "common", "(JJ)J"⟩
abbrev cX4_tell : ByteArray := prog_6_method_31_code
def yX4_tell : MethodName := ⟨RX4, "tell", "(JJ)I"⟩
abbrev cX4_up : ByteArray := prog_6_method_32_code
def yX4_up : MethodName := ⟨RX4, "up", "()J"⟩
abbrev cX4_down : ByteArray := prog_6_method_33_code
def yX4_down : MethodName := ⟨RX4, "down", "()J"⟩
abbrev cX4_chance : ByteArray := prog_6_method_34_code
def yX4_chance : MethodName := ⟨RX4, "chance", "()I"⟩
abbrev cX4_refused : ByteArray := prog_6_method_35_code
def yX4_refused : MethodName := ⟨RX4, "refused", "()I"⟩
abbrev cX4_ask : ByteArray := prog_6_method_36_code
def yX4_ask : MethodName := ⟨RX4, "ask", "(II)I"⟩
abbrev cX4_both : ByteArray := prog_6_method_37_code
def yX4_both : MethodName := ⟨RX4, "both", "(IIII)I"⟩
abbrev cX4_most : ByteArray := prog_6_method_38_code
def yX4_most : MethodName := ⟨RX4, "most", "(I)I"⟩
abbrev cX4_likeliest : ByteArray := prog_6_method_39_code
def yX4_likeliest : MethodName := ⟨RX4, "likeliest", "(I)I"⟩
abbrev cX4_insert : ByteArray := prog_6_method_40_code
def yX4_insert : MethodName := ⟨RX4, "insert", "(II)I"⟩
abbrev cX4_at : ByteArray := prog_6_method_41_code
def yX4_at : MethodName := ⟨RX4, "at", "(I)I"⟩
abbrev cX4_wholes : ByteArray := prog_6_method_42_code
def yX4_wholes : MethodName := ⟨RX4, "wholes", "()I"⟩
abbrev cX4_leads : ByteArray := prog_6_method_43_code
def yX4_leads : MethodName := ⟨RX4, "leads", "(II)Z"⟩
abbrev cX4_passes : ByteArray := prog_6_method_44_code
def yX4_passes : MethodName := ⟨RX4, "passes", "(III)Z"⟩
abbrev cX4_apart : ByteArray := prog_6_method_45_code
def yX4_apart : MethodName := ⟨RX4, "apart", "(II)I"⟩
abbrev cX4_options : ByteArray := prog_6_method_46_code
def yX4_options : MethodName := ⟨RX4, "options", "(I)I"⟩
abbrev cX4_isOption : ByteArray := prog_6_method_47_code
def yX4_isOption : MethodName := ⟨RX4, "isOption", "(I)Z"⟩
abbrev cX4_worth : ByteArray := prog_6_method_48_code
def yX4_worth : MethodName := ⟨RX4, "worth", "(IIII)I"⟩
abbrev cX4_worthOf : ByteArray := prog_6_method_49_code
def yX4_worthOf : MethodName := ⟨RX4, "worthOf", "(III)J"⟩
abbrev cX4_greatest : ByteArray := prog_6_method_50_code
def yX4_greatest : MethodName := ⟨RX4, "greatest", "(II)J"⟩
abbrev cX4_expected : ByteArray := prog_6_method_51_code
def yX4_expected : MethodName := ⟨RX4, "expected", "(I)I"⟩
abbrev cX4_best : ByteArray := prog_6_method_52_code
def yX4_best : MethodName := ⟨RX4, "best", "()I"⟩
abbrev cX4_isKnown : ByteArray := prog_6_method_53_code
def yX4_isKnown : MethodName := ⟨RX4, "isKnown", "(I)Z"⟩
abbrev cX4_gainOf : ByteArray := prog_6_method_54_code
def yX4_gainOf : MethodName := ⟨RX4, "gainOf", "(I)J"⟩
abbrev cX4_gain : ByteArray := prog_6_method_55_code
def yX4_gain : MethodName := ⟨RX4, "gain", "(I)I"⟩
abbrev cX4_next : ByteArray := prog_6_method_56_code
def yX4_next : MethodName := ⟨RX4, "next", "()I"⟩
abbrev cX4_note : ByteArray := prog_6_method_57_code
def yX4_note : MethodName := ⟨RX4, "note", "(II)V"⟩
abbrev cX4_undo : ByteArray := prog_6_method_58_code
def yX4_undo : MethodName := ⟨RX4, "undo", "()I"⟩
abbrev cX4_count : ByteArray := prog_6_method_59_code
def yX4_count : MethodName := ⟨RX4, "count", "(I)I"⟩
def RJ9 : String := "java/lang/Math"
def TJ9 : u_T := fun k => match k with
  | _ => ("", "", "", false)
def tyJ9 : Nat → FieldType := fun k => match k with
  | _ => .int
abbrev wsJ90 : List Cond := u_ws RJ9 TJ9 0
theorem nmJ9 : ∀ a, a < 0 → ∀ b, b < 0 → a ≠ b → (TJ9 a).2.1 ≠ (TJ9 b).2.1 := by decide +kernel
theorem tyJ9_ok : ∀ k, k < 0 → parseFieldDescriptor (TJ9 k).2.2.1 = some (tyJ9 k) := by decide +kernel
abbrev cJ9_abs_067f4 : ByteArray := prog_7_method_61_code
def yJ9_abs_067f4 : MethodName := ⟨RJ9, "abs", "(J)J"⟩
abbrev cJ9_min_7cf53 : ByteArray := prog_7_method_69_code
def yJ9_min_7cf53 : MethodName := ⟨RJ9, "min", "(II)I"⟩
def RJ10 : String := "java/lang/System"
def TJ10 : u_T := fun k => match k with
  | _ => ("", "", "", false)
def tyJ10 : Nat → FieldType := fun k => match k with
  | _ => .int
abbrev wsJ100 : List Cond := u_ws RJ10 TJ10 0
theorem nmJ10 : ∀ a, a < 0 → ∀ b, b < 0 → a ≠ b → (TJ10 a).2.1 ≠ (TJ10 b).2.1 := by decide +kernel
theorem tyJ10_ok : ∀ k, k < 0 → parseFieldDescriptor (TJ10 k).2.2.1 = some (tyJ10 k) := by decide +kernel
def RL : String := "BeliefWebLaw"
abbrev cL_law : ByteArray := code
def yL_law : MethodName := ⟨RL, "law", "([I)Z"⟩
abbrev vwCl : List vw_C := [(RX0, TX0, 4), (RX1, TX1, 11), (RX2, TX2, 11), (RX3, TX3, 7), (RX4, TX4, 31)]
theorem inX0 : ∀ w ∈ wsX00, w ∈ lw_tbl := by
  intro w h
  rw [show wsX00 = [124, 126, 128, 130].filterMap (fun i => lw_tbl[i]?) from by decide +kernel] at h
  obtain ⟨i, -, hi⟩ := List.mem_filterMap.mp h
  exact List.mem_of_getElem? hi
theorem inX1 : ∀ w ∈ wsX10, w ∈ lw_tbl := by
  intro w h
  rw [show wsX10 = [156, 158, 160, 162, 164, 166, 168, 170, 172, 174, 176].filterMap (fun i => lw_tbl[i]?) from by decide +kernel] at h
  obtain ⟨i, -, hi⟩ := List.mem_filterMap.mp h
  exact List.mem_of_getElem? hi
theorem inX2 : ∀ w ∈ wsX20, w ∈ lw_tbl := by
  intro w h
  rw [show wsX20 = [87, 89, 91, 93, 95, 97, 99, 101, 103, 105, 107].filterMap (fun i => lw_tbl[i]?) from by decide +kernel] at h
  obtain ⟨i, -, hi⟩ := List.mem_filterMap.mp h
  exact List.mem_of_getElem? hi
theorem inX3 : ∀ w ∈ wsX30, w ∈ lw_tbl := by
  intro w h
  rw [show wsX30 = [187, 189, 191, 193, 195, 197, 199].filterMap (fun i => lw_tbl[i]?) from by decide +kernel] at h
  obtain ⟨i, -, hi⟩ := List.mem_filterMap.mp h
  exact List.mem_of_getElem? hi
theorem inX4 : ∀ w ∈ wsX40, w ∈ lw_tbl := by
  intro w h
  rw [show wsX40 = [599, 601, 603, 605, 607, 609, 611, 613, 615, 617, 619, 621, 623, 625, 627, 629, 631, 633, 635, 637, 639, 641, 643, 645, 647, 649, 651, 653, 655, 657, 659].filterMap (fun i => lw_tbl[i]?) from by decide +kernel] at h
  obtain ⟨i, -, hi⟩ := List.mem_filterMap.mp h
  exact List.mem_of_getElem? hi
end
section
/-! THE ABSTRACT MACHINE: values, memory by cell number and place, one step of the bytecode in continuation form, runs, calls by depth. Nothing of the class stands here but the shapes bw_kd, bw_len, bw_cls, bw_rf, bw_ft. -/
abbrev bwV : Type := Int32 ⊕ (Int64 ⊕ Nat)
abbrev bwM : Type := (Nat → Nat → Int32) × (Nat → Nat → Int64)
abbrev bwR : Type := Option bwV × bwM
/-- an instruction's row: pc, instruction, length, an int constant, two numbers, the slots that are forgotten on arrival, a switch's targets -/
abbrev bwE : Type := Nat × Instr × Nat × Int32 × Nat × Nat × List Nat × List (Int32 × Nat)
def bw_si (μ : bwM) (o j : Nat) (x : Int32) : bwM := (fun o' j' => if o' = o ∧ j' = j then x else μ.1 o' j', μ.2)
def bw_sl (μ : bwM) (o j : Nat) (x : Int64) : bwM := (μ.1, fun o' j' => if o' = o ∧ j' = j then x else μ.2 o' j')
def bw_cp (μ : bwM) (o1 o2 sp dp n : Nat) : bwM := (fun o' j' => if o' = o2 ∧ (dp ≤ j' ∧ j' < dp + n) then μ.1 o1 (sp + (j' - dp)) else μ.1 o' j', μ.2)
abbrev bw_in (i : Int32) (n : Nat) : Prop := 0 ≤ i ∧ i.toNatClampNeg < n
def bw_gI {β : Type} (v : bwV) (f : β) (k : Int32 → β) : β := match v with
  | .inl x => k x
  | _ => f
def bw_gL {β : Type} (v : bwV) (f : β) (k : Int64 → β) : β := match v with
  | .inr (.inl x) => k x
  | _ => f
def bw_gR {β : Type} (v : bwV) (f : β) (k : Nat → β) : β := match v with
  | .inr (.inr x) => k x
  | _ => f
def bw_pp {β : Type} (st : List bwV) (f : β) (k : bwV → List bwV → β) : β := match st with
  | v :: r => k v r
  | [] => f
def bw_lk {β : Type} (o : Option (Option bwV)) (f : β) (k : bwV → β) : β := match o with
  | some (some v) => k v
  | _ => f
def bw_nl {β : Type} (st : List bwV) (f : β) (k : β) : β := match st with
  | [] => k
  | _ => f
def bw_bI {β : Type} (r : Option bwR) (f : β) (k : Int32 → bwM → β) : β := match r with
  | some (some (.inl x), μ) => k x μ
  | _ => f
def bw_bL {β : Type} (r : Option bwR) (f : β) (k : Int64 → bwM → β) : β := match r with
  | some (some (.inr (.inl x)), μ) => k x μ
  | _ => f
def bw_bV {β : Type} (r : Option bwR) (f : β) (k : bwM → β) : β := match r with
  | some (none, μ) => k μ
  | _ => f
def bw_sw {β : Type} (x : Int32) (l : List (Int32 × Nat)) (d : β) (k : Nat → β) : β := match l with
  | [] => d
  | q :: r => if x = q.1 then k q.2 else bw_sw x r d k
/-- n arguments off the stack, the first one first -/
def bw_ar {β : Type} (n : Nat) (st acc : List bwV) (f : β) (k : List bwV → List bwV → β) : β := match n with
  | 0 => k acc st
  | n + 1 => match st with
    | v :: r => bw_ar n r (v :: acc) f k
    | [] => f
def bw_rc {β : Type} (as : List bwV) (c : Nat) (cls : Nat → Nat) (f k : β) : β := match as with
  | .inr (.inr o) :: _ => bif Nat.beq (cls o) c then k else f
  | _ => f
def bw_isL (v : bwV) : Bool := match v with
  | .inr (.inl _) => true
  | _ => false
def bw_wd (st : List bwV) : Nat := match st with
  | [] => 0
  | v :: r => (match v with
    | .inr (.inl _) => 2
    | _ => 1) + bw_wd r
def bw_set (ls : List (Option bwV)) (i : Nat) (v : Option bwV) : List (Option bwV) := match ls, i with
  | [], _ => []
  | _ :: r, 0 => v :: r
  | a :: r, i + 1 => a :: bw_set r i v
def bw_get (ls : List (Option bwV)) (i : Nat) : Option (Option bwV) := match ls, i with
  | [], _ => none
  | a :: _, 0 => some a
  | _ :: r, i + 1 => bw_get r i
def bw_forget (ks : List Nat) (ls : List (Option bwV)) : List (Option bwV) := match ks with
  | [] => ls
  | k :: r => bw_forget r (bw_set ls k none)
/-- a long that begins one slot ahead goes -/
def bw_clr (ls : List (Option bwV)) (i : Nat) : List (Option bwV) := match i with
  | 0 => ls
  | j + 1 => match bw_get ls j with
    | some (some (.inr (.inl _))) => bw_set ls j none
    | _ => ls
def bw_put (ls : List (Option bwV)) (i : Nat) (v : bwV) : List (Option bwV) := bw_set (bw_clr ls i) i (some v)
def bw_putL (ls : List (Option bwV)) (i : Nat) (v : Int64) : List (Option bwV) := bw_set (bw_set (bw_clr ls i) i (some (.inr (.inl v)))) (i + 1) none
def bw_loc (args : List bwV) (n : Nat) : List (Option bwV) := match n with
  | 0 => []
  | n + 1 => match args with
    | [] => none :: bw_loc [] n
    | .inr (.inl y) :: r => match n with
      | 0 => [some (.inr (.inl y))]
      | n + 1 => some (.inr (.inl y)) :: none :: bw_loc r n
    | v :: r => some v :: bw_loc r n
-- the shapes: 0 .. 29 the class's cells, 30 .. 52 the reference's, 60 the script
def bw_kd (o : Nat) : Nat := match o with
  | 0 => 0 | 2 => 0 | 12 => 0 | 22 => 0 | 24 => 0 | 30 => 0
  | 27 => 2 | 28 => 2 | 43 => 2
  | 40 => 3 | 47 => 3
  | _ => 1
def bw_cls (o : Nat) : Nat := match o with
  | 0 => 3 | 2 => 2 | 12 => 2 | 22 => 0 | 24 => 1 | 30 => 4
  | _ => 9
def bw_len (o : Nat) : Nat := match o with
  | 6 => 36 | 7 => 3072 | 10 => 48 | 11 => 288
  | 16 => 36 | 17 => 3072 | 20 => 48 | 21 => 288
  | 23 => 500 | 27 => 48 | 28 => 10 | 29 => 10
  | 34 => 36 | 35 => 3072 | 38 => 48 | 39 => 288
  | 43 => 10 | 44 => 120 | 45 => 13 | 46 => 13
  | 48 => 100 | 49 => 100 | 50 => 100 | 51 => 100 | 52 => 30000
  | _ => 12
def bw_rf (o a : Nat) : Nat := match o, a with
  | 0, 0 => 2 | 0, 1 => 22 | 0, 2 => 24 | 0, 3 => 1
  | 2, a => a + 1
  | 12, a => a + 11
  | 22, 0 => 12 | 22, 1 => 23
  | 24, a => a + 25
  | 30, 2 => 31 | 30, 3 => 32 | 30, 4 => 33 | 30, 5 => 34 | 30, 6 => 35 | 30, 7 => 36 | 30, 8 => 37 | 30, 9 => 38
  | 30, 11 => 39 | 30, 12 => 40 | 30, 13 => 41 | 30, 17 => 42 | 30, 19 => 43 | 30, 20 => 44
  | 30, 21 => 45 | 30, 22 => 46 | 30, 23 => 47 | 30, 26 => 48 | 30, 27 => 49 | 30, 28 => 50 | 30, 29 => 51 | 30, 30 => 52
  | _, _ => 0
/-- a class's field: 0 int, 1 long, 2 a reference -/
def bw_ft (c a : Nat) : Nat := match c, a with
  | 0, 2 => 0 | 0, 3 => 0
  | 1, 5 => 0 | 1, 6 => 0 | 1, 7 => 0 | 1, 8 => 0 | 1, 9 => 0 | 1, 10 => 1
  | 2, 0 => 0 | 2, 1 => 0
  | 3, 4 => 0 | 3, 5 => 1 | 3, 6 => 1
  | 4, 0 => 0 | 4, 1 => 0 | 4, 10 => 0 | 4, 14 => 1 | 4, 15 => 1 | 4, 16 => 1 | 4, 18 => 0 | 4, 24 => 0 | 4, 25 => 0
  | _, _ => 2
def bw_nf (c : Nat) : Nat := match c with
  | 0 => 4 | 1 => 11 | 2 => 11 | 3 => 7 | 4 => 31
  | _ => 0
def bw_i2 {β : Type} (st : List bwV) (f : β) (k : Int32 → Int32 → List bwV → β) : β := bw_pp st f fun v1 r1 => bw_pp r1 f fun v2 r2 => bw_gI v1 f fun y => bw_gI v2 f fun x => k x y r2
def bw_l2 {β : Type} (st : List bwV) (f : β) (k : Int64 → Int64 → List bwV → β) : β := bw_pp st f fun v1 r1 => bw_pp r1 f fun v2 r2 => bw_gL v1 f fun y => bw_gL v2 f fun x => k x y r2
def bw_i1 {β : Type} (st : List bwV) (f : β) (k : Int32 → List bwV → β) : β := bw_pp st f fun v1 r1 => bw_gI v1 f fun x => k x r1
def bw_l1 {β : Type} (st : List bwV) (f : β) (k : Int64 → List bwV → β) : β := bw_pp st f fun v1 r1 => bw_gL v1 f fun x => k x r1
def bw_r1 {β : Type} (st : List bwV) (f : β) (k : Nat → List bwV → β) : β := bw_pp st f fun v1 r1 => bw_gR v1 f fun x => k x r1
/-- one step: 'call' what a callee gives; sl, sx the script; rt what the method returns (0 nothing, 1 int, 2 long, 3 boolean); ret, f, k: what comes behind a return, a fault, a step -/
def bw_step {β : Type} (call : Nat → List bwV → bwM → Option bwR) (sl : Nat) (sx : Nat → Int32) (rt : Nat) (ins : Instr) (len : Nat) (v : Int32) (a b : Nat) (sw : List (Int32 × Nat)) (pc : Nat) (ls : List (Option bwV)) (st : List bwV) (μ : bwM) (ret : bwR → β) (f : β) (k : Nat → List (Option bwV) → List bwV → bwM → β) : β :=
  match ins with
  | .iconst _ => k (pc + len) ls (.inl v :: st) μ
  | .bipush _ => k (pc + len) ls (.inl v :: st) μ
  | .sipush _ => k (pc + len) ls (.inl v :: st) μ
  | .lconst _ => k (pc + len) ls (.inr (.inl (Int64.ofNat a)) :: st) μ
  | .ldc2_w _ => k (pc + len) ls (.inr (.inl (Int64.ofNat a)) :: st) μ
  | .iload_n _ => bw_lk (bw_get ls a) f fun x => bw_gI x f fun x => k (pc + len) ls (.inl x :: st) μ
  | .iload _ => bw_lk (bw_get ls a) f fun x => bw_gI x f fun x => k (pc + len) ls (.inl x :: st) μ
  | .lload_n _ => bw_lk (bw_get ls a) f fun x => bw_gL x f fun x => k (pc + len) ls (.inr (.inl x) :: st) μ
  | .lload _ => bw_lk (bw_get ls a) f fun x => bw_gL x f fun x => k (pc + len) ls (.inr (.inl x) :: st) μ
  | .aload_n _ => bw_lk (bw_get ls a) f fun x => bw_gR x f fun x => k (pc + len) ls (.inr (.inr x) :: st) μ
  | .aload _ => bw_lk (bw_get ls a) f fun x => bw_gR x f fun x => k (pc + len) ls (.inr (.inr x) :: st) μ
  | .istore_n _ => bw_i1 st f fun x r => k (pc + len) (bw_put ls a (.inl x)) r μ
  | .istore _ => bw_i1 st f fun x r => k (pc + len) (bw_put ls a (.inl x)) r μ
  | .lstore_n _ => bw_l1 st f fun x r => k (pc + len) (bw_putL ls a x) r μ
  | .lstore _ => bw_l1 st f fun x r => k (pc + len) (bw_putL ls a x) r μ
  | .iinc _ _ => bw_lk (bw_get ls a) f fun x => bw_gI x f fun x => k (pc + len) (bw_put ls a (.inl (x + v))) st μ
  | .iadd => bw_i2 st f fun x y r => k (pc + len) ls (.inl (x + y) :: r) μ
  | .isub => bw_i2 st f fun x y r => k (pc + len) ls (.inl (x - y) :: r) μ
  | .imul => bw_i2 st f fun x y r => k (pc + len) ls (.inl (x * y) :: r) μ
  | .irem => bw_i2 st f fun x y r => if y = 0 then f else k (pc + len) ls (.inl (x - x / y * y) :: r) μ
  | .ior => bw_i2 st f fun x y r => k (pc + len) ls (.inl (x ||| y) :: r) μ
  | .iand => bw_i2 st f fun x y r => k (pc + len) ls (.inl (x &&& y) :: r) μ
  | .ixor => bw_i2 st f fun x y r => k (pc + len) ls (.inl (x ^^^ y) :: r) μ
  | .ishl => bw_i2 st f fun x y r => k (pc + len) ls (.inl (x <<< (y &&& 31)) :: r) μ
  | .ishr => bw_i2 st f fun x y r => k (pc + len) ls (.inl (x >>> (y &&& 31)) :: r) μ
  | .ladd => bw_l2 st f fun x y r => k (pc + len) ls (.inr (.inl (x + y)) :: r) μ
  | .lsub => bw_l2 st f fun x y r => k (pc + len) ls (.inr (.inl (x - y)) :: r) μ
  | .lmul => bw_l2 st f fun x y r => k (pc + len) ls (.inr (.inl (x * y)) :: r) μ
  | .ldiv => bw_l2 st f fun x y r => if y = 0 then f else k (pc + len) ls (.inr (.inl (x / y)) :: r) μ
  | .lrem => bw_l2 st f fun x y r => if y = 0 then f else k (pc + len) ls (.inr (.inl (x - x / y * y)) :: r) μ
  | .lneg => bw_l1 st f fun x r => k (pc + len) ls (.inr (.inl (-x)) :: r) μ
  | .i2l => bw_i1 st f fun x r => k (pc + len) ls (.inr (.inl x.toInt64) :: r) μ
  | .lcmp => bw_l2 st f fun x y r => k (pc + len) ls (.inl (lg_cmp x y) :: r) μ
  | .dup => bw_pp st f fun x r => bif bw_isL x then f else k (pc + len) ls (x :: x :: r) μ
  | .dup2 => bw_pp st f fun x r => bw_pp r f fun y r => bif bw_isL x || bw_isL y then f else k (pc + len) ls (x :: y :: x :: y :: r) μ
  | .goto _ => k a ls st μ
  | .ifCond c _ => match c with
    | .eq => bw_i1 st f fun x r => if x = 0 then k a ls r μ else k (pc + len) ls r μ
    | .ne => bw_i1 st f fun x r => if x = 0 then k (pc + len) ls r μ else k a ls r μ
    | .lt => bw_i1 st f fun x r => if x < 0 then k a ls r μ else k (pc + len) ls r μ
    | .ge => bw_i1 st f fun x r => if 0 ≤ x then k a ls r μ else k (pc + len) ls r μ
    | .gt => bw_i1 st f fun x r => if 0 < x then k a ls r μ else k (pc + len) ls r μ
    | .le => bw_i1 st f fun x r => if x ≤ 0 then k a ls r μ else k (pc + len) ls r μ
  | .if_icmp c _ => match c with
    | .eq => bw_i2 st f fun x y r => if x = y then k a ls r μ else k (pc + len) ls r μ
    | .ne => bw_i2 st f fun x y r => if x = y then k (pc + len) ls r μ else k a ls r μ
    | .lt => bw_i2 st f fun x y r => if x < y then k a ls r μ else k (pc + len) ls r μ
    | .ge => bw_i2 st f fun x y r => if y ≤ x then k a ls r μ else k (pc + len) ls r μ
    | .gt => bw_i2 st f fun x y r => if y < x then k a ls r μ else k (pc + len) ls r μ
    | .le => bw_i2 st f fun x y r => if x ≤ y then k a ls r μ else k (pc + len) ls r μ
  | .tableswitch _ _ _ _ => bw_i1 st f fun x r => bw_sw x sw (k a ls r μ) fun t => k t ls r μ
  | .getfield _ => bw_r1 st f fun o r => bif Nat.beq (bw_cls o) b then (match bw_ft b a with
      | 0 => k (pc + len) ls (.inl (μ.1 o a) :: r) μ
      | 1 => k (pc + len) ls (.inr (.inl (μ.2 o a)) :: r) μ
      | _ => k (pc + len) ls (.inr (.inr (bw_rf o a)) :: r) μ) else f
  | .putfield _ => bw_pp st f fun x r => bw_r1 r f fun o r => bif Nat.beq (bw_cls o) b then (match bw_ft b a with
      | 0 => bw_gI x f fun x => k (pc + len) ls r (bw_si μ o a x)
      | 1 => bw_gL x f fun x => k (pc + len) ls r (bw_sl μ o a x)
      | _ => f) else f
  | .iaload => bw_i1 st f fun i r => bw_r1 r f fun o r => bif Nat.beq o 60 then (if bw_in i sl then k (pc + len) ls (.inl (sx i.toNatClampNeg) :: r) μ else f) else bif Nat.blt o 53 && Nat.beq (bw_kd o) 1 then (if bw_in i (bw_len o) then k (pc + len) ls (.inl (μ.1 o i.toNatClampNeg) :: r) μ else f) else f
  | .laload => bw_i1 st f fun i r => bw_r1 r f fun o r => bif Nat.blt o 53 && Nat.beq (bw_kd o) 2 then (if bw_in i (bw_len o) then k (pc + len) ls (.inr (.inl (μ.2 o i.toNatClampNeg)) :: r) μ else f) else f
  | .baload => bw_i1 st f fun i r => bw_r1 r f fun o r => bif Nat.blt o 53 && Nat.beq (bw_kd o) 3 then (if bw_in i (bw_len o) then k (pc + len) ls (.inl (μ.1 o i.toNatClampNeg) :: r) μ else f) else f
  | .iastore => bw_i1 st f fun x r => bw_i1 r f fun i r => bw_r1 r f fun o r => bif Nat.blt o 53 && Nat.beq (bw_kd o) 1 then (if bw_in i (bw_len o) then k (pc + len) ls r (bw_si μ o i.toNatClampNeg x) else f) else f
  | .lastore => bw_l1 st f fun x r => bw_i1 r f fun i r => bw_r1 r f fun o r => bif Nat.blt o 53 && Nat.beq (bw_kd o) 2 then (if bw_in i (bw_len o) then k (pc + len) ls r (bw_sl μ o i.toNatClampNeg x) else f) else f
  | .bastore => bw_i1 st f fun x r => bw_i1 r f fun i r => bw_r1 r f fun o r => bif Nat.blt o 53 && Nat.beq (bw_kd o) 3 then (if bw_in i (bw_len o) then k (pc + len) ls r (bw_si μ o i.toNatClampNeg (vp_nar .boolean x)) else f) else f
  | .arraylength => bw_r1 st f fun o r => bif Nat.beq o 60 then k (pc + len) ls (.inl (Int32.ofNat sl) :: r) μ else bif Nat.blt o 53 && Nat.beq (bw_kd o) 1 then k (pc + len) ls (.inl (Int32.ofNat (bw_len o)) :: r) μ else f
  | .invokevirtual _ => bw_ar (b / 10 % 100) st [] f fun as r => bw_rc as (b / 1000) bw_cls f (bif Nat.ble (bw_wd r) 8 then (match b % 10 with
      | 0 => bw_bV (call a as μ) f fun μ => k (pc + len) ls r μ
      | 2 => bw_bL (call a as μ) f fun x μ => k (pc + len) ls (.inr (.inl x) :: r) μ
      | _ => bw_bI (call a as μ) f fun x μ => k (pc + len) ls (.inl x :: r) μ) else f)
  | .invokestatic _ => bif Nat.beq b 998 then (bw_i2 st f fun x y r => bif Nat.ble (bw_wd r) 8 then k (pc + len) ls (.inl (if y < x then y else x) :: r) μ else f) else bif Nat.beq b 997 then (bw_l1 st f fun x r => bif Nat.ble (bw_wd r) 8 then k (pc + len) ls (.inr (.inl (if 0 < x then x else -x)) :: r) μ else f) else bif Nat.beq b 999 then (bw_i1 st f fun n r => bw_i1 r f fun dp r => bw_r1 r f fun o2 r => bw_i1 r f fun sp r => bw_r1 r f fun o1 r => bw_nl r f (bif (Nat.blt o1 53 && Nat.beq (bw_kd o1) 1) && (Nat.blt o2 53 && Nat.beq (bw_kd o2) 1) then (if (0 ≤ sp ∧ 0 ≤ dp) ∧ (0 ≤ n ∧ sp.toNatClampNeg + n.toNatClampNeg ≤ bw_len o1 ∧ dp.toNatClampNeg + n.toNatClampNeg ≤ bw_len o2) then k (pc + len) ls [] (bw_cp μ o1 o2 sp.toNatClampNeg dp.toNatClampNeg n.toNatClampNeg) else f) else f)) else
      bw_ar (b / 10 % 100) st [] f fun as r => bif Nat.ble (bw_wd r) 8 then (match b % 10 with
      | 0 => bw_bV (call a as μ) f fun μ => k (pc + len) ls r μ
      | 2 => bw_bL (call a as μ) f fun x μ => k (pc + len) ls (.inr (.inl x) :: r) μ
      | _ => bw_bI (call a as μ) f fun x μ => k (pc + len) ls (.inl x :: r) μ) else f
  | .ireturn => bw_i1 st f fun x r => bw_nl r f (match rt with
      | 1 => ret (some (.inl x), μ)
      | 3 => if x = 0 ∨ x = 1 then ret (some (.inl x), μ) else f
      | _ => f)
  | .lreturn => bw_l1 st f fun x r => bw_nl r f (match rt with
      | 2 => ret (some (.inr (.inl x)), μ)
      | _ => f)
  | .return_ => bw_nl st f (match rt with
      | 0 => ret (none, μ)
      | _ => f)
  | _ => f
def bw_find (t : List bwE) (pc : Nat) : Option bwE := match t with
  | [] => none
  | e :: r => bif Nat.beq e.1 pc then some e else bw_find r pc
def bw_run (call : Nat → List bwV → bwM → Option bwR) (sl : Nat) (sx : Nat → Int32) (rt : Nat) (t : List bwE) : Nat → Nat → List (Option bwV) → List bwV → bwM → Option bwR
  | 0, _, _, _, _ => none
  | n + 1, pc, ls, st, μ => match bw_find t pc with
    | some (_, ins, len, v, a, b, fg, sw) => bw_step call sl sx rt ins len v a b sw pc (bw_forget fg ls) st μ some none (bw_run call sl sx rt t n)
    | none => none
noncomputable def bw_ex (call : Nat → List bwV → bwM → Option bwR) (sl : Nat) (sx : Nat → Int32) (rt : Nat) (t : List bwE) (pc : Nat) (ls : List (Option bwV)) (st : List bwV) (μ : bwM) : Option bwR :=
  @dite _ (∃ r : bwR, ∃ n : Nat, bw_run call sl sx rt t n pc ls st μ = some r) (Classical.propDecidable _) (fun h => some (Classical.choose h)) (fun _ => none)
/-- at most one of: a return, a fault, one step -/
def bw_lin (F : (β : Type) → (bwR → β) → β → (Nat → List (Option bwV) → List bwV → bwM → β) → β) : Prop :=
  (∃ c : bwR, ∀ (β : Type) (r : bwR → β) (f : β) (k : Nat → List (Option bwV) → List bwV → bwM → β), F β r f k = r c) ∨ (∀ (β : Type) (r : bwR → β) (f : β) (k : Nat → List (Option bwV) → List bwV → bwM → β), F β r f k = f) ∨ (∃ (pc : Nat) (ls : List (Option bwV)) (st : List bwV) (μ : bwM), ∀ (β : Type) (r : bwR → β) (f : β) (k : Nat → List (Option bwV) → List bwV → bwM → β), F β r f k = k pc ls st μ)
theorem bw_linR (c : bwR) : bw_lin (fun β r f k => r c) := Or.inl ⟨c, fun _ _ _ _ => rfl⟩
theorem bw_linF : bw_lin (fun β r f k => f) := Or.inr (Or.inl fun _ _ _ _ => rfl)
theorem bw_linK (pc : Nat) (ls : List (Option bwV)) (st : List bwV) (μ : bwM) : bw_lin (fun β r f k => k pc ls st μ) := Or.inr (Or.inr ⟨pc, ls, st, μ, fun _ _ _ _ => rfl⟩)
section LIN
variable {F G : (β : Type) → (bwR → β) → β → (Nat → List (Option bwV) → List bwV → bwM → β) → β}
theorem bw_linIte {c : Prop} [d : Decidable c] (hF : bw_lin F) (hG : bw_lin G) : bw_lin (fun β r f k => if c then F β r f k else G β r f k) := by
  by_cases h : c
  · simp only [h, if_true]; exact hF
  · simp only [h, if_false]; exact hG
theorem bw_linB {c : Bool} (hF : bw_lin F) (hG : bw_lin G) : bw_lin (fun β r f k => bif c then F β r f k else G β r f k) := by
  cases c
  · exact hG
  · exact hF
theorem bw_linGI {v : bwV} {F : Int32 → (β : Type) → (bwR → β) → β → (Nat → List (Option bwV) → List bwV → bwM → β) → β} (h : ∀ x, bw_lin (F x)) : bw_lin (fun β r f k => bw_gI v f fun x => F x β r f k) := by
  rcases v with x | x | x
  · exact h x
  · exact bw_linF
  · exact bw_linF
theorem bw_linGL {v : bwV} {F : Int64 → (β : Type) → (bwR → β) → β → (Nat → List (Option bwV) → List bwV → bwM → β) → β} (h : ∀ x, bw_lin (F x)) : bw_lin (fun β r f k => bw_gL v f fun x => F x β r f k) := by
  rcases v with x | x | x
  · exact bw_linF
  · exact h x
  · exact bw_linF
theorem bw_linGR {v : bwV} {F : Nat → (β : Type) → (bwR → β) → β → (Nat → List (Option bwV) → List bwV → bwM → β) → β} (h : ∀ x, bw_lin (F x)) : bw_lin (fun β r f k => bw_gR v f fun x => F x β r f k) := by
  rcases v with x | x | x
  · exact bw_linF
  · exact bw_linF
  · exact h x
theorem bw_linPP {st : List bwV} {F : bwV → List bwV → (β : Type) → (bwR → β) → β → (Nat → List (Option bwV) → List bwV → bwM → β) → β} (h : ∀ v q, bw_lin (F v q)) : bw_lin (fun β r f k => bw_pp st f fun v q => F v q β r f k) := by
  rcases st with _ | ⟨v, q⟩
  · exact bw_linF
  · exact h v q
theorem bw_linLk {o : Option (Option bwV)} {F : bwV → (β : Type) → (bwR → β) → β → (Nat → List (Option bwV) → List bwV → bwM → β) → β} (h : ∀ v, bw_lin (F v)) : bw_lin (fun β r f k => bw_lk o f fun v => F v β r f k) := by
  rcases o with _ | _ | v
  · exact bw_linF
  · exact bw_linF
  · exact h v
theorem bw_linNl {st : List bwV} (h : bw_lin F) : bw_lin (fun β r f k => bw_nl st f (F β r f k)) := by
  rcases st with _ | ⟨v, q⟩
  · exact h
  · exact bw_linF
theorem bw_linBI {o : Option bwR} {F : Int32 → bwM → (β : Type) → (bwR → β) → β → (Nat → List (Option bwV) → List bwV → bwM → β) → β} (h : ∀ x μ, bw_lin (F x μ)) : bw_lin (fun β r f k => bw_bI o f fun x μ => F x μ β r f k) := by
  rcases o with _ | ⟨_ | x | x | x, μ⟩
  · exact bw_linF
  · exact bw_linF
  · exact h x μ
  · exact bw_linF
  · exact bw_linF
theorem bw_linBL {o : Option bwR} {F : Int64 → bwM → (β : Type) → (bwR → β) → β → (Nat → List (Option bwV) → List bwV → bwM → β) → β} (h : ∀ x μ, bw_lin (F x μ)) : bw_lin (fun β r f k => bw_bL o f fun x μ => F x μ β r f k) := by
  rcases o with _ | ⟨_ | x | x | x, μ⟩
  · exact bw_linF
  · exact bw_linF
  · exact bw_linF
  · exact h x μ
  · exact bw_linF
theorem bw_linBV {o : Option bwR} {F : bwM → (β : Type) → (bwR → β) → β → (Nat → List (Option bwV) → List bwV → bwM → β) → β} (h : ∀ μ, bw_lin (F μ)) : bw_lin (fun β r f k => bw_bV o f fun μ => F μ β r f k) := by
  rcases o with _ | ⟨_ | x, μ⟩
  · exact bw_linF
  · exact h μ
  · exact bw_linF
theorem bw_linRc {as : List bwV} {c : Nat} {cls : Nat → Nat} (h : bw_lin F) : bw_lin (fun β r f k => bw_rc as c cls f (F β r f k)) := by
  rcases as with _ | ⟨x | x | x, q⟩
  · exact bw_linF
  · exact bw_linF
  · exact bw_linF
  · exact bw_linB h bw_linF
theorem bw_linSw {x : Int32} {l : List (Int32 × Nat)} {F : Nat → (β : Type) → (bwR → β) → β → (Nat → List (Option bwV) → List bwV → bwM → β) → β} (hG : bw_lin G) (h : ∀ t, bw_lin (F t)) : bw_lin (fun β r f k => bw_sw x l (G β r f k) fun t => F t β r f k) := by
  induction l with
  | nil => exact hG
  | cons q l ih => exact bw_linIte (h q.2) ih
theorem bw_linAr {n : Nat} {F : List bwV → List bwV → (β : Type) → (bwR → β) → β → (Nat → List (Option bwV) → List bwV → bwM → β) → β} (h : ∀ as q, bw_lin (F as q)) : ∀ st acc : List bwV, bw_lin (fun β r f k => bw_ar n st acc f fun as q => F as q β r f k) := by
  induction n with
  | zero => intro st acc; exact h acc st
  | succ n ih =>
    intro st acc
    rcases st with _ | ⟨v, q⟩
    · exact bw_linF
    · exact ih q (v :: acc)
theorem bw_linI1 {st : List bwV} {F : Int32 → List bwV → (β : Type) → (bwR → β) → β → (Nat → List (Option bwV) → List bwV → bwM → β) → β} (h : ∀ x q, bw_lin (F x q)) : bw_lin (fun β r f k => bw_i1 st f fun x q => F x q β r f k) := bw_linPP fun _ q => bw_linGI fun x => h x q
theorem bw_linL1 {st : List bwV} {F : Int64 → List bwV → (β : Type) → (bwR → β) → β → (Nat → List (Option bwV) → List bwV → bwM → β) → β} (h : ∀ x q, bw_lin (F x q)) : bw_lin (fun β r f k => bw_l1 st f fun x q => F x q β r f k) := bw_linPP fun _ q => bw_linGL fun x => h x q
theorem bw_linR1 {st : List bwV} {F : Nat → List bwV → (β : Type) → (bwR → β) → β → (Nat → List (Option bwV) → List bwV → bwM → β) → β} (h : ∀ x q, bw_lin (F x q)) : bw_lin (fun β r f k => bw_r1 st f fun x q => F x q β r f k) := bw_linPP fun _ q => bw_linGR fun x => h x q
theorem bw_linI2 {st : List bwV} {F : Int32 → Int32 → List bwV → (β : Type) → (bwR → β) → β → (Nat → List (Option bwV) → List bwV → bwM → β) → β} (h : ∀ x y q, bw_lin (F x y q)) : bw_lin (fun β r f k => bw_i2 st f fun x y q => F x y q β r f k) := bw_linPP fun _ _ => bw_linPP fun _ q => bw_linGI fun y => bw_linGI fun x => h x y q
theorem bw_linL2 {st : List bwV} {F : Int64 → Int64 → List bwV → (β : Type) → (bwR → β) → β → (Nat → List (Option bwV) → List bwV → bwM → β) → β} (h : ∀ x y q, bw_lin (F x y q)) : bw_lin (fun β r f k => bw_l2 st f fun x y q => F x y q β r f k) := bw_linPP fun _ _ => bw_linPP fun _ q => bw_linGL fun y => bw_linGL fun x => h x y q
end LIN
theorem bw_linCall (call : Nat → List bwV → bwM → Option bwR) (len a b : Nat) (pc : Nat) (ls : List (Option bwV)) (st : List bwV) (μ : bwM) : bw_lin (fun β r f k => bw_ar (b / 10 % 100) st [] f fun as q => bif Nat.ble (bw_wd q) 8 then (match b % 10 with
      | 0 => bw_bV (call a as μ) f fun μ => k (pc + len) ls q μ
      | 2 => bw_bL (call a as μ) f fun x μ => k (pc + len) ls (.inr (.inl x) :: q) μ
      | _ => bw_bI (call a as μ) f fun x μ => k (pc + len) ls (.inl x :: q) μ) else f) := by
  refine bw_linAr (fun as q => bw_linB ?_ bw_linF) st []
  split
  · exact bw_linBV fun μ => bw_linK _ _ _ _
  · exact bw_linBL fun x μ => bw_linK _ _ _ _
  · exact bw_linBI fun x μ => bw_linK _ _ _ _
set_option maxHeartbeats 4000000 in
theorem bw_shape (call : Nat → List bwV → bwM → Option bwR) (sl : Nat) (sx : Nat → Int32) (rt : Nat) (ins : Instr) (len : Nat) (v : Int32) (a b : Nat) (sw : List (Int32 × Nat)) (pc : Nat) (ls : List (Option bwV)) (st : List bwV) (μ : bwM) : bw_lin (fun β r f k => bw_step (β := β) call sl sx rt ins len v a b sw pc ls st μ r f k) := by
  unfold bw_step
  split
  iterate 5 exact bw_linK _ _ _ _
  iterate 2 exact bw_linLk fun x => bw_linGI fun x => bw_linK _ _ _ _
  iterate 2 exact bw_linLk fun x => bw_linGL fun x => bw_linK _ _ _ _
  iterate 2 exact bw_linLk fun x => bw_linGR fun x => bw_linK _ _ _ _
  iterate 2 exact bw_linI1 fun x q => bw_linK _ _ _ _
  iterate 2 exact bw_linL1 fun x q => bw_linK _ _ _ _
  · exact bw_linLk fun x => bw_linGI fun x => bw_linK _ _ _ _
  iterate 3 exact bw_linI2 fun x y q => bw_linK _ _ _ _
  · exact bw_linI2 fun x y q => bw_linIte bw_linF (bw_linK _ _ _ _)
  iterate 5 exact bw_linI2 fun x y q => bw_linK _ _ _ _
  iterate 3 exact bw_linL2 fun x y q => bw_linK _ _ _ _
  iterate 2 exact bw_linL2 fun x y q => bw_linIte bw_linF (bw_linK _ _ _ _)
  · exact bw_linL1 fun x q => bw_linK _ _ _ _
  · exact bw_linI1 fun x q => bw_linK _ _ _ _
  · exact bw_linL2 fun x y q => bw_linK _ _ _ _
  · exact bw_linPP fun x q => bw_linB bw_linF (bw_linK _ _ _ _)
  · exact bw_linPP fun x q => bw_linPP fun y q => bw_linB bw_linF (bw_linK _ _ _ _)
  · exact bw_linK _ _ _ _
  · split
    all_goals exact bw_linI1 fun x q => bw_linIte (bw_linK _ _ _ _) (bw_linK _ _ _ _)
  · split
    all_goals exact bw_linI2 fun x y q => bw_linIte (bw_linK _ _ _ _) (bw_linK _ _ _ _)
  · exact bw_linI1 fun x q => bw_linSw (bw_linK _ _ _ _) fun t => bw_linK _ _ _ _
  · refine bw_linR1 fun o q => bw_linB ?_ bw_linF
    split
    all_goals exact bw_linK _ _ _ _
  · refine bw_linPP fun x q => bw_linR1 fun o q => bw_linB ?_ bw_linF
    split
    · exact bw_linGI fun x => bw_linK _ _ _ _
    · exact bw_linGL fun x => bw_linK _ _ _ _
    · exact bw_linF
  · exact bw_linI1 fun i q => bw_linR1 fun o q => bw_linB (bw_linIte (bw_linK _ _ _ _) bw_linF) (bw_linB (bw_linIte (bw_linK _ _ _ _) bw_linF) bw_linF)
  iterate 2 exact bw_linI1 fun i q => bw_linR1 fun o q => bw_linB (bw_linIte (bw_linK _ _ _ _) bw_linF) bw_linF
  · exact bw_linI1 fun x q => bw_linI1 fun i q => bw_linR1 fun o q => bw_linB (bw_linIte (bw_linK _ _ _ _) bw_linF) bw_linF
  · exact bw_linL1 fun x q => bw_linI1 fun i q => bw_linR1 fun o q => bw_linB (bw_linIte (bw_linK _ _ _ _) bw_linF) bw_linF
  · exact bw_linI1 fun x q => bw_linI1 fun i q => bw_linR1 fun o q => bw_linB (bw_linIte (bw_linK _ _ _ _) bw_linF) bw_linF
  · exact bw_linR1 fun o q => bw_linB (bw_linK _ _ _ _) (bw_linB (bw_linK _ _ _ _) bw_linF)
  · refine bw_linAr (fun as q => bw_linRc (bw_linB ?_ bw_linF)) st []
    split
    · exact bw_linBV fun μ => bw_linK _ _ _ _
    · exact bw_linBL fun x μ => bw_linK _ _ _ _
    · exact bw_linBI fun x μ => bw_linK _ _ _ _
  · refine bw_linB (bw_linI2 fun x y q => bw_linB (bw_linK _ _ _ _) bw_linF) (bw_linB (bw_linL1 fun x q => bw_linB (bw_linK _ _ _ _) bw_linF) ?_)
    exact bw_linB (bw_linI1 fun n q => bw_linI1 fun dp q => bw_linR1 fun o2 q => bw_linI1 fun sp q => bw_linR1 fun o1 q => bw_linNl (bw_linB (bw_linIte (bw_linK _ _ _ _) bw_linF) bw_linF)) (bw_linCall call len a b pc ls st μ)
  · refine bw_linI1 fun x q => bw_linNl ?_
    split
    · exact bw_linR _
    · exact bw_linIte (bw_linR _) bw_linF
    · exact bw_linF
  · refine bw_linL1 fun x q => bw_linNl ?_
    split
    · exact bw_linR _
    · exact bw_linF
  · refine bw_linNl ?_
    split
    · exact bw_linR _
    · exact bw_linF
  · exact bw_linF
section RUN
variable {call : Nat → List bwV → bwM → Option bwR} {sl : Nat} {sx : Nat → Int32} {rt : Nat} {t : List bwE}
theorem bw_run_up : ∀ (n pc : Nat) (ls : List (Option bwV)) (st : List bwV) (μ : bwM) (r : bwR), bw_run call sl sx rt t n pc ls st μ = some r → bw_run call sl sx rt t (n + 1) pc ls st μ = some r := by
  intro n
  induction n with
  | zero => intro pc ls st μ r h; cases h
  | succ n ih =>
    intro pc ls st μ r h
    unfold bw_run at h ⊢
    cases hf : bw_find t pc with
    | none => rw [hf] at h; cases h
    | some q =>
      obtain ⟨p0, ins, len, v, a, b, fg, sw⟩ := q
      rw [hf] at h
      dsimp only at h ⊢
      rcases bw_shape call sl sx rt ins len v a b sw pc (bw_forget fg ls) st μ with ⟨c, hc⟩ | hc | ⟨pc', ls', st', μ', hc⟩ <;> dsimp only at hc
      · rw [hc] at h ⊢; exact h
      · rw [hc] at h; cases h
      · rw [hc] at h ⊢; exact ih _ _ _ _ _ h
theorem bw_run_mono {n m pc : Nat} {ls : List (Option bwV)} {st : List bwV} {μ : bwM} {r : bwR} (hnm : n ≤ m) (h : bw_run call sl sx rt t n pc ls st μ = some r) : bw_run call sl sx rt t m pc ls st μ = some r := by
  induction hnm with
  | refl => exact h
  | step _ ih => exact bw_run_up _ _ _ _ _ _ ih
theorem bw_ex_iff {pc : Nat} {ls : List (Option bwV)} {st : List bwV} {μ : bwM} {r : bwR} : bw_ex call sl sx rt t pc ls st μ = some r ↔ ∃ n, bw_run call sl sx rt t n pc ls st μ = some r := by
  unfold bw_ex
  by_cases h : ∃ r : bwR, ∃ n : Nat, bw_run call sl sx rt t n pc ls st μ = some r
  · rw [dif_pos h]
    obtain ⟨n, hn⟩ := Classical.choose_spec h
    constructor
    · intro e; cases e; exact ⟨n, hn⟩
    · rintro ⟨m, hm⟩
      have h1 := bw_run_mono (Nat.le_max_left n m) hn
      have h2 := bw_run_mono (Nat.le_max_right n m) hm
      rw [h1] at h2
      exact h2
  · rw [dif_neg h]
    constructor
    · intro e; cases e
    · rintro ⟨m, hm⟩; exact absurd ⟨r, m, hm⟩ h
theorem bw_ex_step (pc : Nat) (ls : List (Option bwV)) (st : List bwV) (μ : bwM) : bw_ex call sl sx rt t pc ls st μ = (match bw_find t pc with
    | some (_, ins, len, v, a, b, fg, sw) => bw_step call sl sx rt ins len v a b sw pc (bw_forget fg ls) st μ some none (bw_ex call sl sx rt t)
    | none => none) := by
  apply Option.ext
  intro r
  rw [bw_ex_iff]
  cases hf : bw_find t pc with
  | none =>
    constructor
    · rintro ⟨n, hn⟩
      cases n with
      | zero => cases hn
      | succ n => unfold bw_run at hn; rw [hf] at hn; cases hn
    · intro h; cases h
  | some q =>
    obtain ⟨p0, ins, len, v, a, b, fg, sw⟩ := q
    dsimp only
    rcases bw_shape call sl sx rt ins len v a b sw pc (bw_forget fg ls) st μ with ⟨c, hc⟩ | hc | ⟨pc', ls', st', μ', hc⟩ <;> dsimp only at hc
    · rw [hc]
      constructor
      · rintro ⟨n, hn⟩
        cases n with
        | zero => cases hn
        | succ n => unfold bw_run at hn; rw [hf] at hn; dsimp only at hn; rw [hc] at hn; exact hn
      · intro h; exact ⟨1, by unfold bw_run; rw [hf]; dsimp only; rw [hc]; exact h⟩
    · rw [hc]
      constructor
      · rintro ⟨n, hn⟩
        cases n with
        | zero => cases hn
        | succ n => unfold bw_run at hn; rw [hf] at hn; dsimp only at hn; rw [hc] at hn; exact hn
      · intro h; cases h
    · rw [hc, bw_ex_iff]
      constructor
      · rintro ⟨n, hn⟩
        cases n with
        | zero => cases hn
        | succ n => unfold bw_run at hn; rw [hf] at hn; dsimp only at hn; rw [hc] at hn; exact ⟨n, hn⟩
      · rintro ⟨n, hn⟩; exact ⟨n + 1, by unfold bw_run; rw [hf]; dsimp only; rw [hc]; exact hn⟩
end RUN
/-- some steps at once, up to the pcs of 'cuts' -/
def bw_go (call : Nat → List bwV → bwM → Option bwR) (sl : Nat) (sx : Nat → Int32) (rt : Nat) (t : List bwE) (K : Nat → List (Option bwV) → List bwV → bwM → Option bwR) (cuts : List Nat) : Nat → Nat → List (Option bwV) → List bwV → bwM → Option bwR
  | 0, pc, ls, st, μ => K pc ls st μ
  | n + 1, pc, ls, st, μ => match bw_find t pc with
    | some (_, ins, len, v, a, b, fg, sw) => bw_step call sl sx rt ins len v a b sw pc (bw_forget fg ls) st μ some none (fun pc' ls' st' μ' => bif cuts.any (Nat.beq pc') then K pc' ls' st' μ' else bw_go call sl sx rt t K cuts n pc' ls' st' μ')
    | none => none
theorem bw_ex_go {call : Nat → List bwV → bwM → Option bwR} {sl : Nat} {sx : Nat → Int32} {rt : Nat} {t : List bwE} (cuts : List Nat) : ∀ (n pc : Nat) (ls : List (Option bwV)) (st : List bwV) (μ : bwM), bw_ex call sl sx rt t pc ls st μ = bw_go call sl sx rt t (bw_ex call sl sx rt t) cuts n pc ls st μ := by
  intro n
  induction n with
  | zero => intro pc ls st μ; rfl
  | succ n ih =>
    intro pc ls st μ
    rw [bw_ex_step]
    unfold bw_go
    cases hf : bw_find t pc with
    | none => rfl
    | some q =>
      obtain ⟨p0, ins, len, v, a, b, fg, sw⟩ := q
      dsimp only
      congr 1
      funext pc' ls' st' μ'
      cases cuts.any (Nat.beq pc') with
      | true => rfl
      | false => exact ih _ _ _ _
end
section
def bw_own (n : Nat) : String := match n with
  | 0 => RX0 | 1 => RX1 | 2 => RX2 | 3 => RX3 | 4 => RX4 | 5 => RL | 6 => RJ9
  | _ => RJ10
/-- field links: own class, pool number, class, slot, place among the words -/
def bw_fl : List (Nat × Nat × Nat × Nat × Nat) := [(2, 39, 2, 0, 61), (3, 34, 2, 0, 62), (1, 65, 2, 0, 63), (2, 55, 2, 1, 64), (1, 110, 2, 1, 65), (3, 184, 2, 1, 66), (2, 9, 2, 2, 67), (1, 86, 2, 2, 68), (3, 93, 2, 2, 69), (2, 15, 2, 3, 70), (3, 83, 2, 3, 71), (2, 18, 2, 4, 72), (3, 72, 2, 4, 73), (2, 21, 2, 5, 74), (3, 108, 2, 5, 75), (2, 24, 2, 6, 76), (3, 86, 2, 6, 77), (2, 27, 2, 7, 78), (3, 102, 2, 7, 79), (2, 30, 2, 8, 80), (3, 105, 2, 8, 81), (2, 33, 2, 9, 82), (3, 124, 2, 9, 83), (2, 36, 2, 10, 84), (1, 104, 2, 10, 85), (3, 190, 2, 10, 86), (0, 12, 0, 0, 119), (0, 18, 0, 1, 120), (0, 26, 0, 2, 121), (0, 30, 0, 3, 122), (3, 215, 0, 3, 123), (1, 9, 1, 0, 139), (1, 15, 1, 1, 140), (1, 18, 1, 2, 141), (3, 144, 1, 2, 142), (1, 22, 1, 3, 143), (3, 172, 1, 3, 144), (1, 25, 1, 4, 145), (3, 165, 1, 4, 146), (1, 48, 1, 5, 147), (3, 162, 1, 5, 148), (1, 32, 1, 6, 149), (1, 28, 1, 7, 150), (1, 39, 1, 8, 151), (1, 51, 1, 9, 152), (3, 178, 1, 9, 153), (1, 61, 1, 10, 154), (3, 133, 1, 10, 155), (3, 12, 3, 0, 180), (3, 19, 3, 1, 181), (3, 26, 3, 2, 182), (3, 30, 3, 3, 183), (3, 175, 3, 4, 184), (3, 152, 3, 5, 185), (3, 155, 3, 6, 186), (4, 82, 4, 1, 569), (4, 7, 4, 2, 570), (4, 13, 4, 3, 571), (4, 16, 4, 4, 572), (4, 19, 4, 5, 573), (4, 22, 4, 6, 574), (4, 25, 4, 7, 575), (4, 28, 4, 8, 576), (4, 31, 4, 9, 577), (4, 189, 4, 10, 578), (4, 34, 4, 11, 579), (4, 37, 4, 12, 580), (4, 41, 4, 13, 581), (4, 137, 4, 14, 582), (4, 158, 4, 15, 583), (4, 161, 4, 16, 584), (4, 44, 4, 17, 585), (4, 180, 4, 18, 586), (4, 47, 4, 19, 587), (4, 51, 4, 20, 588), (4, 54, 4, 21, 589), (4, 57, 4, 22, 590), (4, 60, 4, 23, 591), (4, 195, 4, 24, 592), (4, 97, 4, 25, 593), (4, 63, 4, 26, 594), (4, 66, 4, 27, 595), (4, 69, 4, 28, 596), (4, 72, 4, 29, 597), (4, 75, 4, 30, 598)]
/-- method links: own class, pool number, method, 0 or 1 (of a nest mate), place among the words -/
def bw_ml : List (Nat × Nat × Nat × Nat × Nat) := [(5, 13, 45, 0, 202), (3, 38, 23, 0, 206), (3, 42, 24, 0, 210), (3, 48, 37, 0, 215), (2, 69, 80, 1, 219), (2, 87, 41, 0, 222), (2, 51, 26, 0, 226), (2, 58, 83, 1, 230), (2, 65, 81, 1, 233), (3, 52, 0, 0, 236), (0, 22, 43, 0, 240), (2, 107, 44, 0, 244), (5, 18, 46, 0, 253), (3, 56, 17, 0, 257), (3, 60, 31, 0, 261), (3, 64, 33, 0, 265), (2, 72, 84, 1, 269), (2, 75, 32, 0, 272), (3, 68, 84, 0, 276), (3, 75, 74, 0, 277), (3, 224, 1, 0, 281), (0, 33, 3, 0, 285), (0, 37, 4, 0, 289), (0, 41, 38, 0, 293), (2, 91, 39, 0, 297), (2, 95, 31, 0, 301), (2, 98, 40, 0, 302), (2, 101, 42, 0, 306), (2, 104, 82, 1, 310), (3, 127, 80, 0, 313), (3, 227, 38, 0, 314), (5, 22, 47, 0, 315), (5, 26, 48, 0, 319), (3, 79, 20, 0, 323), (2, 47, 18, 0, 327), (2, 43, 17, 0, 331), (3, 89, 81, 0, 332), (5, 31, 49, 0, 333), (5, 36, 50, 0, 337), (3, 96, 26, 0, 341), (3, 99, 29, 0, 342), (5, 40, 51, 0, 346), (3, 111, 83, 0, 350), (5, 44, 52, 0, 351), (3, 114, 28, 0, 355), (2, 62, 29, 0, 359), (5, 49, 53, 0, 360), (3, 118, 19, 0, 364), (5, 53, 54, 0, 368), (5, 57, 55, 0, 372), (3, 121, 18, 0, 376), (5, 61, 56, 0, 377), (3, 130, 5, 0, 381), (1, 35, 8, 0, 385), (1, 54, 9, 0, 389), (1, 70, 84, 1, 393), (1, 74, 32, 0, 394), (1, 57, 10, 0, 395), (1, 78, 11, 0, 398), (1, 96, 13, 0, 402), (1, 100, 12, 0, 406), (1, 82, 27, 0, 410), (1, 89, 30, 0, 414), (1, 93, 80, 1, 418), (3, 137, 76, 0, 419), (3, 234, 77, 0, 426), (5, 65, 57, 0, 429), (3, 141, 75, 0, 433), (5, 69, 58, 0, 437), (3, 148, 6, 0, 441), (5, 73, 59, 0, 445), (5, 78, 60, 0, 449), (5, 82, 61, 0, 453), (5, 87, 62, 0, 457), (3, 158, 7, 0, 461), (3, 168, 78, 0, 466), (5, 91, 63, 0, 470), (5, 95, 64, 0, 474), (5, 99, 65, 0, 478), (3, 181, 36, 0, 482), (2, 81, 35, 0, 486), (2, 78, 34, 0, 490), (2, 84, 22, 0, 494), (5, 103, 66, 0, 498), (5, 107, 67, 0, 502), (3, 187, 21, 0, 506), (3, 193, 82, 0, 510), (5, 111, 68, 0, 511), (3, 196, 14, 0, 515), (1, 107, 82, 1, 519), (5, 115, 69, 0, 520), (3, 200, 15, 0, 524), (1, 113, 14, 0, 528), (5, 119, 70, 0, 529), (3, 204, 16, 0, 533), (1, 117, 15, 0, 537), (3, 208, 22, 0, 538), (3, 211, 79, 0, 539), (5, 123, 71, 0, 543), (5, 127, 72, 0, 547), (3, 218, 2, 0, 551), (5, 131, 73, 0, 555), (3, 221, 25, 0, 559), (5, 17, 88, 0, 663), (4, 93, 89, 0, 669), (5, 21, 92, 0, 673), (4, 85, 85, 0, 677), (4, 100, 90, 0, 681), (4, 104, 91, 0, 685), (4, 108, 139, 0, 689), (5, 25, 93, 0, 693), (5, 30, 95, 0, 697), (4, 119, 94, 0, 701), (4, 112, 86, 0, 705), (4, 115, 87, 0, 709), (5, 35, 96, 0, 713), (5, 39, 98, 0, 717), (4, 123, 97, 0, 721), (5, 43, 99, 0, 725), (5, 48, 101, 0, 729), (4, 126, 100, 0, 733), (5, 52, 104, 0, 737), (4, 130, 102, 0, 741), (4, 133, 103, 0, 745), (5, 56, 105, 0, 749), (5, 60, 106, 0, 753), (5, 77, 114, 0, 757), (5, 81, 115, 0, 761), (5, 64, 116, 0, 765), (4, 164, 111, 0, 769), (4, 150, 110, 0, 773), (4, 141, 107, 0, 777), (4, 144, 109, 0, 781), (4, 147, 108, 0, 785), (4, 168, 113, 0, 789), (4, 154, 112, 0, 793), (5, 68, 118, 0, 796), (4, 172, 117, 0, 800), (5, 72, 119, 0, 804), (5, 86, 120, 0, 808), (5, 90, 121, 0, 812), (4, 176, 122, 0, 816), (5, 94, 123, 0, 820), (5, 98, 124, 0, 824), (5, 102, 127, 0, 828), (4, 183, 125, 0, 832), (4, 186, 126, 0, 836), (5, 106, 128, 0, 840), (5, 110, 130, 0, 844), (4, 192, 129, 0, 848), (5, 114, 133, 0, 852), (4, 198, 131, 0, 856), (5, 118, 134, 0, 860), (4, 202, 132, 0, 864), (5, 122, 137, 0, 868), (4, 209, 136, 0, 872), (4, 206, 135, 0, 876), (5, 126, 138, 0, 880), (5, 130, 140, 0, 884), (5, 134, 141, 0, 888)]
def bw_cl : List (Nat × Nat × Nat × Nat) := [(3, 46, 1000000000, 214), (4, 89, 20000, 667), (4, 91, 1000000000, 668)]
def bw_sl3 : List (Nat × Nat × Nat × Nat) := [(2, 111, 998, 247), (2, 116, 999, 250), (3, 228, 997, 423), (1, 42, 998, 465)]
def bw_sysp : List Nat := [248, 45, 249, 424, 425, 252, 251, 46, 110, 179, 662]
abbrev bwG : Type := Nat × MethodName × ByteArray × Nat × Nat × Nat × Nat
/-- the methods: class, name, code, locals, what it returns, static, parameters -/
def bw_sg : List bwG := [
  (0, yX0_startFrom, cX0_startFrom, 2, 0, 0, 1),
  (0, yX0_add, cX0_add, 7, 0, 0, 5),
  (0, yX0_takeBackLatest, cX0_takeBackLatest, 3, 0, 0, 1),
  (0, yX0_repeat, cX0_repeat, 4, 0, 0, 2),
  (0, yX0_placeOf, cX0_placeOf, 2, 1, 0, 1),
  (1, yX1_goOver, cX1_goOver, 2, 0, 0, 1),
  (1, yX1_goOverThoseWith, cX1_goOverThoseWith, 4, 0, 0, 3),
  (1, yX1_rank, cX1_rank, 3, 0, 0, 2),
  (1, yX1_start, cX1_start, 3, 0, 0, 1),
  (1, yX1_putParentsFirst, cX1_putParentsFirst, 6, 0, 0, 1),
  (1, yX1_spread, cX1_spread, 14, 2, 1, 4),
  (1, yX1_meet, cX1_meet, 6, 0, 0, 2),
  (1, yX1_isBefore, cX1_isBefore, 7, 3, 0, 3),
  (1, yX1_wholeChosen, cX1_wholeChosen, 4, 1, 0, 1),
  (1, yX1_worthSum, cX1_worthSum, 7, 2, 0, 2),
  (1, yX1_bestOption, cX1_bestOption, 4, 1, 0, 1),
  (1, yX1_greatestWorthSum, cX1_greatestWorthSum, 2, 2, 0, 1),
  (2, yX2_hasThing, cX2_hasThing, 2, 3, 0, 1),
  (2, yX2_hasValue, cX2_hasValue, 3, 3, 0, 2),
  (2, yX2_mayBeKnownAs, cX2_mayBeKnownAs, 3, 3, 0, 2),
  (2, yX2_hasWeight, cX2_hasWeight, 4, 3, 0, 3),
  (2, yX2_hasOption, cX2_hasOption, 2, 3, 0, 1),
  (2, yX2_isFree, cX2_isFree, 2, 3, 0, 1),
  (2, yX2_allWholes, cX2_allWholes, 3, 1, 0, 0),
  (2, yX2_allTotals, cX2_allTotals, 4, 2, 0, 0),
  (2, yX2_arrows, cX2_arrows, 3, 1, 0, 0),
  (2, yX2_rows, cX2_rows, 4, 1, 0, 1),
  (2, yX2_rowAt, cX2_rowAt, 6, 1, 0, 2),
  (2, yX2_isSound, cX2_isSound, 2, 3, 0, 0),
  (2, yX2_hasSoundTable, cX2_hasSoundTable, 6, 3, 0, 1),
  (2, yX2_factor, cX2_factor, 5, 1, 0, 3),
  (2, yX2_parentPlace, cX2_parentPlace, 4, 1, 0, 2),
  (2, yX2_parentSet, cX2_parentSet, 4, 1, 0, 1),
  (2, yX2_ancestorsAnd, cX2_ancestorsAnd, 5, 1, 0, 1),
  (2, yX2_parentSetNow, cX2_parentSetNow, 2, 1, 0, 1),
  (2, yX2_childSetNow, cX2_childSetNow, 4, 1, 0, 1),
  (2, yX2_hasOpenRoad, cX2_hasOpenRoad, 9, 3, 0, 2),
  (2, yX2_addThing, cX2_addThing, 5, 0, 0, 2),
  (2, yX2_carryOut, cX2_carryOut, 6, 0, 0, 5),
  (2, yX2_addParent, cX2_addParent, 3, 0, 0, 2),
  (2, yX2_dropParent, cX2_dropParent, 4, 0, 0, 2),
  (2, yX2_resetTable, cX2_resetTable, 5, 0, 0, 1),
  (2, yX2_setOptions, cX2_setOptions, 3, 0, 0, 1),
  (2, yX2_copyFrom, cX2_copyFrom, 2, 0, 0, 1),
  (2, yX2_copyAll, cX2_copyAll, 2, 0, 1, 2),
  (3, yX3_thing, cX3_thing, 4, 1, 0, 2),
  (3, yX3_arrow, cX3_arrow, 3, 1, 0, 2),
  (3, yX3_cut, cX3_cut, 3, 1, 0, 2),
  (3, yX3_weight, cX3_weight, 6, 1, 0, 4),
  (3, yX3_told, cX3_told, 4, 1, 0, 3),
  (3, yX3_about, cX3_about, 3, 1, 0, 2),
  (3, yX3_parent, cX3_parent, 3, 1, 0, 2),
  (3, yX3_sound, cX3_sound, 1, 1, 0, 0),
  (3, yX3_see, cX3_see, 3, 1, 0, 2),
  (3, yX3_act, cX3_act, 3, 1, 0, 2),
  (3, yX3_force, cX3_force, 5, 1, 0, 3),
  (3, yX3_chance, cX3_chance, 1, 1, 0, 0),
  (3, yX3_ask, cX3_ask, 4, 1, 0, 2),
  (3, yX3_both, cX3_both, 8, 1, 0, 4),
  (3, yX3_up, cX3_up, 1, 2, 0, 0),
  (3, yX3_down, cX3_down, 1, 2, 0, 0),
  (3, yX3_most, cX3_most, 5, 1, 0, 1),
  (3, yX3_likeliest, cX3_likeliest, 2, 1, 0, 1),
  (3, yX3_at, cX3_at, 2, 1, 0, 1),
  (3, yX3_wholes, cX3_wholes, 1, 1, 0, 0),
  (3, yX3_apart, cX3_apart, 3, 1, 0, 2),
  (3, yX3_options, cX3_options, 3, 1, 0, 1),
  (3, yX3_worth, cX3_worth, 6, 1, 0, 4),
  (3, yX3_expected, cX3_expected, 3, 1, 0, 1),
  (3, yX3_best, cX3_best, 3, 1, 0, 0),
  (3, yX3_gain, cX3_gain, 7, 1, 0, 1),
  (3, yX3_next, cX3_next, 12, 1, 0, 0),
  (3, yX3_undo, cX3_undo, 1, 1, 0, 0),
  (3, yX3_count, cX3_count, 2, 1, 0, 1),
  (3, yX3_carryOut, cX3_carryOut, 6, 0, 0, 5),
  (3, yX3_trouble, cX3_trouble, 1, 1, 0, 0),
  (3, yX3_tell, cX3_tell, 7, 0, 0, 2),
  (3, yX3_commonDivisor, cX3_commonDivisor, 11, 2, 1, 2),
  (3, yX3_show, cX3_show, 4, 0, 0, 1),
  (3, yX3_gainSum, cX3_gainSum, 7, 2, 0, 2),
  (3, yX3_slot, cX3_slot, 2, 1, 1, 2),
  (3, yX3_weightSlot, cX3_weightSlot, 3, 1, 1, 3),
  (3, yX3_worthSlot, cX3_worthSlot, 3, 1, 1, 3),
  (3, yX3_parentSlot, cX3_parentSlot, 2, 1, 1, 2),
  (3, yX3_isIn, cX3_isIn, 2, 3, 1, 2),
  (4, yX4_isThing, cX4_isThing, 2, 3, 0, 1),
  (4, yX4_isValue, cX4_isValue, 3, 3, 0, 2),
  (4, yX4_rows, cX4_rows, 4, 1, 0, 1),
  (4, yX4_thing, cX4_thing, 10, 1, 0, 2),
  (4, yX4_plainTable, cX4_plainTable, 4, 0, 0, 1),
  (4, yX4_isParent, cX4_isParent, 4, 3, 0, 2),
  (4, yX4_reach, cX4_reach, 6, 0, 0, 2),
  (4, yX4_arrow, cX4_arrow, 3, 1, 0, 2),
  (4, yX4_cut, cX4_cut, 5, 1, 0, 2),
  (4, yX4_isWeight, cX4_isWeight, 4, 3, 0, 3),
  (4, yX4_weight, cX4_weight, 7, 1, 0, 4),
  (4, yX4_told, cX4_told, 4, 1, 0, 3),
  (4, yX4_isSound, cX4_isSound, 5, 3, 0, 1),
  (4, yX4_about, cX4_about, 3, 1, 0, 2),
  (4, yX4_parent, cX4_parent, 3, 1, 0, 2),
  (4, yX4_isRough, cX4_isRough, 2, 3, 0, 0),
  (4, yX4_sound, cX4_sound, 1, 1, 0, 0),
  (4, yX4_mayBe, cX4_mayBe, 3, 3, 0, 2),
  (4, yX4_becomes, cX4_becomes, 4, 1, 0, 3),
  (4, yX4_see, cX4_see, 3, 1, 0, 2),
  (4, yX4_act, cX4_act, 3, 1, 0, 2),
  (4, yX4_force, cX4_force, 5, 1, 0, 3),
  (4, yX4_firstWhole, cX4_firstWhole, 2, 0, 0, 0),
  (4, yX4_nextWhole, cX4_nextWhole, 2, 3, 0, 0),
  (4, yX4_weigh, cX4_weigh, 5, 0, 0, 0),
  (4, yX4_sum, cX4_sum, 8, 2, 0, 4),
  (4, yX4_all, cX4_all, 1, 2, 0, 0),
  (4, yX4_common, cX4_common, 10, 2, 1, 2),
  (4, yX4_tell, cX4_tell, 7, 1, 0, 2),
  (4, yX4_up, cX4_up, 1, 2, 0, 0),
  (4, yX4_down, cX4_down, 1, 2, 0, 0),
  (4, yX4_chance, cX4_chance, 4, 1, 0, 0),
  (4, yX4_refused, cX4_refused, 1, 1, 0, 0),
  (4, yX4_ask, cX4_ask, 4, 1, 0, 2),
  (4, yX4_both, cX4_both, 6, 1, 0, 4),
  (4, yX4_most, cX4_most, 9, 1, 0, 1),
  (4, yX4_likeliest, cX4_likeliest, 5, 1, 0, 1),
  (4, yX4_insert, cX4_insert, 5, 1, 0, 2),
  (4, yX4_at, cX4_at, 2, 1, 0, 1),
  (4, yX4_wholes, cX4_wholes, 3, 1, 0, 0),
  (4, yX4_leads, cX4_leads, 3, 3, 0, 2),
  (4, yX4_passes, cX4_passes, 5, 3, 0, 3),
  (4, yX4_apart, cX4_apart, 6, 1, 0, 2),
  (4, yX4_options, cX4_options, 5, 1, 0, 1),
  (4, yX4_isOption, cX4_isOption, 2, 3, 0, 1),
  (4, yX4_worth, cX4_worth, 7, 1, 0, 4),
  (4, yX4_worthOf, cX4_worthOf, 10, 2, 0, 3),
  (4, yX4_greatest, cX4_greatest, 8, 2, 0, 2),
  (4, yX4_expected, cX4_expected, 3, 1, 0, 1),
  (4, yX4_best, cX4_best, 6, 1, 0, 0),
  (4, yX4_isKnown, cX4_isKnown, 2, 3, 0, 1),
  (4, yX4_gainOf, cX4_gainOf, 5, 2, 0, 1),
  (4, yX4_gain, cX4_gain, 3, 1, 0, 1),
  (4, yX4_next, cX4_next, 8, 1, 0, 0),
  (4, yX4_note, cX4_note, 5, 0, 0, 2),
  (4, yX4_undo, cX4_undo, 4, 1, 0, 0),
  (4, yX4_count, cX4_count, 4, 1, 0, 1)]
/-- the places of their words: code, initialized, static or instanceMethod, selects -/
def bw_sp : List (Nat × Nat × Nat × Nat) := [(239, 42, 237, 238), (284, 42, 282, 283), (554, 42, 552, 553), (288, 42, 287, 1), (292, 42, 291, 2), (384, 43, 382, 383), (444, 43, 442, 443), (464, 43, 462, 463), (388, 43, 387, 3), (392, 43, 391, 4), (397, 43, 396, 0), (401, 43, 400, 5), (409, 43, 408, 7), (405, 43, 404, 6), (518, 43, 516, 517), (527, 43, 525, 526), (536, 43, 534, 535), (260, 41, 258, 259), (330, 41, 328, 329), (367, 41, 365, 366), (326, 41, 324, 325), (509, 41, 507, 508), (497, 41, 495, 496), (209, 41, 207, 208), (213, 41, 211, 212), (562, 41, 560, 561), (229, 41, 227, 228), (413, 41, 411, 412), (358, 41, 356, 357), (345, 41, 343, 344), (417, 41, 415, 416), (264, 41, 262, 263), (275, 41, 273, 274), (268, 41, 266, 267), (493, 41, 491, 492), (489, 41, 487, 488), (485, 41, 483, 484), (218, 41, 216, 217), (296, 41, 294, 295), (300, 41, 298, 299), (305, 41, 303, 304), (225, 41, 223, 224), (309, 41, 307, 308), (243, 41, 241, 242), (246, 41, 245, 0), (205, 40, 203, 204), (256, 40, 254, 255), (318, 40, 316, 317), (322, 40, 320, 321), (336, 40, 334, 335), (340, 40, 338, 339), (349, 40, 347, 348), (354, 40, 352, 353), (363, 40, 361, 362), (371, 40, 369, 370), (375, 40, 373, 374), (380, 40, 378, 379), (432, 40, 430, 431), (440, 40, 438, 439), (448, 40, 446, 447), (452, 40, 450, 451), (456, 40, 454, 455), (460, 40, 458, 459), (473, 40, 471, 472), (477, 40, 475, 476), (481, 40, 479, 480), (501, 40, 499, 500), (505, 40, 503, 504), (514, 40, 512, 513), (523, 40, 521, 522), (532, 40, 530, 531), (546, 40, 544, 545), (550, 40, 548, 549), (558, 40, 556, 557), (280, 40, 279, 0), (436, 40, 435, 9), (422, 40, 421, 8), (428, 40, 427, 0), (469, 40, 468, 10), (542, 40, 541, 11), (221, 40, 220, 0), (235, 40, 234, 0), (312, 40, 311, 0), (232, 40, 231, 0), (271, 40, 270, 0), (680, 44, 679, 13), (708, 44, 707, 18), (712, 44, 711, 19), (666, 44, 664, 665), (672, 44, 671, 12), (684, 44, 683, 14), (688, 44, 687, 15), (676, 44, 674, 675), (696, 44, 694, 695), (704, 44, 703, 17), (700, 44, 698, 699), (716, 44, 714, 715), (724, 44, 723, 20), (720, 44, 718, 719), (728, 44, 726, 727), (736, 44, 735, 21), (732, 44, 730, 731), (744, 44, 743, 22), (748, 44, 747, 23), (740, 44, 738, 739), (752, 44, 750, 751), (756, 44, 754, 755), (780, 44, 779, 26), (788, 44, 787, 28), (784, 44, 783, 27), (776, 44, 775, 25), (772, 44, 771, 24), (795, 44, 794, 0), (792, 44, 791, 29), (760, 44, 758, 759), (764, 44, 762, 763), (768, 44, 766, 767), (803, 44, 802, 30), (799, 44, 797, 798), (807, 44, 805, 806), (811, 44, 809, 810), (815, 44, 813, 814), (819, 44, 818, 31), (823, 44, 821, 822), (827, 44, 825, 826), (835, 44, 834, 32), (839, 44, 838, 33), (831, 44, 829, 830), (843, 44, 841, 842), (851, 44, 850, 34), (847, 44, 845, 846), (859, 44, 858, 35), (867, 44, 866, 36), (855, 44, 853, 854), (863, 44, 861, 862), (879, 44, 878, 38), (875, 44, 874, 37), (871, 44, 869, 870), (883, 44, 881, 882), (692, 44, 691, 16), (887, 44, 885, 886), (891, 44, 889, 890)]
def bw_nth {α : Type} (l : List α) (n : Nat) : Option α := match l, n with
  | [], _ => none
  | a :: _, 0 => some a
  | _ :: r, n + 1 => bw_nth r n
def bw_ret (rt : Nat) : Option FieldType := match rt with
  | 0 => none | 1 => some .int | 2 => some .long
  | _ => some .boolean
theorem bw_fl_tbl : (bw_fl.all fun q => match vwCl[q.2.2.1]? with
    | some r => Nat.blt q.2.2.2.1 r.2.2 && decide (lw_tbl[q.2.2.2.2]? = some (Cond.fieldLink (bw_own q.1) q.2.1 (r.2.1 q.2.2.2.1).1 (r.2.1 q.2.2.2.1).2.1 (r.2.1 q.2.2.2.1).2.2.1))
    | none => false) = true := by decide +kernel
theorem bw_ml_tbl : (bw_ml.all fun q => match bw_nth bw_sg q.2.2.1 with
    | some g => decide (lw_tbl[q.2.2.2.2]? = some (match q.2.2.2.1 with
      | 0 => Cond.methodLink (bw_own q.1) q.2.1 g.2.1
      | _ => Cond.methodLinkNest (bw_own q.1) q.2.1 g.2.1 "BeliefWeb"))
    | none => false) = true := by decide +kernel
theorem bw_cl_tbl : (bw_cl.all fun q => decide (lw_tbl[q.2.2.2]? = some (Cond.constantLong (bw_own q.1) q.2.1 (Int64.ofNat q.2.2.1)))) = true := by decide +kernel
def bw_sy (k : Nat) : MethodName := match k with
  | 997 => Lib.MathLoose.abs_long.x | 998 => Lib.Math.min.name
  | _ => arraycopyName
theorem bw_sl3_tbl : (bw_sl3.all fun q => Nat.ble 997 q.2.2.1 && Nat.ble q.2.2.1 999 && decide (lw_tbl[q.2.2.2]? = some (Cond.methodLink (bw_own q.1) q.2.1 (bw_sy q.2.2.1)))) = true := by decide +kernel
def bw_sys : List Cond := [.static Lib.Math.min.name, .initialized "java/lang/Math", .code Lib.Math.min.name Lib.Math.min.code 2 (some .int), .static Lib.MathLoose.abs_long.x, .code Lib.MathLoose.abs_long.x Lib.MathLoose.abs_long.code 2 (some .long), .native arraycopyName, .static arraycopyName, .initialized "java/lang/System", .arrayClass .int, .arrayClass .long, .arrayClass .boolean]
set_option maxRecDepth 100000 in
set_option maxHeartbeats 4000000 in
theorem bw_sys_in : ∀ w ∈ bw_sys, w ∈ lw_tbl := by
  rw [show bw_sys = bw_sysp.filterMap (fun i => lw_tbl[i]?) from rfl]
  intro w h
  obtain ⟨i, -, hi⟩ := List.mem_filterMap.mp h
  exact List.mem_of_getElem? hi
/-- a method's own words -/
def bw_okG (g : bwG) (q : Nat × Nat × Nat × Nat) : Bool := decide (g.2.1.cls = bw_own g.1) && plainName g.2.1.cls && decide (g.2.1.cls ≠ "java/lang/invoke/MethodHandle" ∧ g.2.1.cls ≠ "java/lang/invoke/VarHandle" ∧ (parseMethodDescriptor g.2.1.desc).map (fun d => d.parameters.length) = some g.2.2.2.2.2.2)
  && decide (lw_tbl[q.2.1]? = some (Cond.initialized g.2.1.cls)) && Nat.ble g.2.2.2.1 40
  && (match g.2.2.2.2.2.1 with
    | 0 => decide (lw_tbl[q.2.2.1]? = some (Cond.instanceMethod g.2.1)) && decide (lw_tbl[q.2.2.2]? = some (Cond.selects g.2.1.cls g.2.1 g.2.1))
    | _ => decide (lw_tbl[q.2.2.1]? = some (Cond.static g.2.1)))
def bw_okGs (gs : List bwG) (ps : List (Nat × Nat × Nat × Nat)) : Bool := match gs, ps with
  | [], [] => true
  | g :: gs, p :: ps => bw_okG g p && bw_okGs gs ps
  | _, _ => false
def bw_cw (g : bwG) : Cond := Cond.code g.2.1 g.2.2.1 g.2.2.2.1 (bw_ret g.2.2.2.2.1)
set_option maxRecDepth 100000 in
set_option maxHeartbeats 4000000 in
theorem bw_cw_in : ∀ w ∈ bw_sg.map bw_cw, w ∈ lw_tbl := by
  rw [show bw_sg.map bw_cw = (bw_sp.map (fun q => q.1)).filterMap (fun i => lw_tbl[i]?) from rfl]
  intro w h
  obtain ⟨i, -, hi⟩ := List.mem_filterMap.mp h
  exact List.mem_of_getElem? hi
theorem bw_sg_ok : bw_okGs bw_sg bw_sp = true := by decide +kernel
def bw_swok (pc : Nat) (lo : Int) (offs : List Int) (sw : List (Int32 × Nat)) : Bool := match offs, sw with
  | [], [] => true
  | o :: offs, q :: sw => decide (q.1.toInt = lo) && decide ((pc : Int) + o = (q.2 : Int)) && bw_swok pc (lo + 1) offs sw
  | _, _ => false
/-- an instruction's row says what the instruction does -/
def bw_okI (own nL pc : Nat) (ins : Instr) (len : Nat) (v : Int32) (a b : Nat) (sw : List (Int32 × Nat)) : Bool := match ins with
  | .iconst n => decide (Int32.ofInt n = v) && Nat.beq len 1
  | .bipush n => decide ((Int8.ofInt n).toInt32 = v) && Nat.beq len 2
  | .sipush n => decide ((Int16.ofInt n).toInt32 = v) && Nat.beq len 3
  | .lconst n => Nat.beq a n.val && Nat.beq len 1
  | .ldc2_w i => Nat.beq len 3 && bw_cl.any fun q => Nat.beq q.1 own && Nat.beq q.2.1 i && Nat.beq q.2.2.1 a
  | .iload_n k => Nat.beq a k.val && Nat.beq len 1
  | .lload_n k => Nat.beq a k.val && Nat.beq len 1
  | .aload_n k => Nat.beq a k.val && Nat.beq len 1
  | .iload k => Nat.beq a k && Nat.beq len 2
  | .lload k => Nat.beq a k && Nat.beq len 2
  | .aload k => Nat.beq a k && Nat.beq len 2
  | .istore_n k => Nat.beq a k.val && Nat.beq len 1 && Nat.blt a nL
  | .istore k => Nat.beq a k && Nat.beq len 2 && Nat.blt a nL
  | .lstore_n k => Nat.beq a k.val && Nat.beq len 1 && Nat.blt (a + 1) nL
  | .lstore k => Nat.beq a k && Nat.beq len 2 && Nat.blt (a + 1) nL
  | .iinc k n => Nat.beq a k && decide (Int32.ofInt n = v) && Nat.beq len 3 && Nat.blt a nL
  | .goto off => decide ((pc : Int) + off = (a : Int))
  | .ifCond _ off => decide ((pc : Int) + off = (a : Int)) && Nat.beq len 3
  | .if_icmp _ off => decide ((pc : Int) + off = (a : Int)) && Nat.beq len 3
  | .tableswitch d lo hi offs => decide ((pc : Int) + d = (a : Int)) && bw_swok pc lo offs.toList sw && decide (lo + (offs.toList.length : Int) = hi + 1)
  | .getfield i => Nat.beq len 3 && bw_fl.any fun q => Nat.beq q.1 own && Nat.beq q.2.1 i && Nat.beq q.2.2.1 b && Nat.beq q.2.2.2.1 a
  | .putfield i => Nat.beq len 3 && bw_fl.any fun q => Nat.beq q.1 own && Nat.beq q.2.1 i && Nat.beq q.2.2.1 b && Nat.beq q.2.2.2.1 a
  | .invokevirtual i => Nat.beq len 3 && (bw_ml.any fun q => Nat.beq q.1 own && Nat.beq q.2.1 i && Nat.beq q.2.2.1 a && Nat.beq q.2.2.2.1 0) && (match bw_nth bw_sg a with
    | some (cn, _, _, _, rt, sc, na) => Nat.beq sc 0 && Nat.blt cn 5 && Nat.beq b (cn * 1000 + (na + 1) * 10 + rt) && Nat.blt rt 4 && Nat.blt na 10
    | none => false)
  | .invokestatic i => Nat.beq len 3 && (bif Nat.ble 997 b then (bw_sl3.any fun q => Nat.beq q.1 own && Nat.beq q.2.1 i && Nat.beq q.2.2.1 b) else (bw_ml.any fun q => Nat.beq q.1 own && Nat.beq q.2.1 i && Nat.beq q.2.2.1 a) && (match bw_nth bw_sg a with
    | some (_, _, _, _, rt, sc, na) => Nat.beq sc 1 && Nat.beq b (na * 10 + rt) && Nat.blt rt 4 && Nat.blt na 10
    | none => false))
  | _ => Nat.beq len 1
def bw_okT (own : Nat) (cc : ByteArray) (nL : Nat) (t : List bwE) : Bool := t.all fun e => decide (decode cc e.1 = .ok (e.2.1, e.2.2.1)) && bw_okI own nL e.1 e.2.1 e.2.2.1 e.2.2.2.1 e.2.2.2.2.1 e.2.2.2.2.2.1 e.2.2.2.2.2.2.2
def bw_okA (gs : List bwG) (ts : List (List bwE)) : Prop := match gs, ts with
  | [], [] => True
  | g :: gs, t :: ts => bw_okT g.1 g.2.2.1 g.2.2.2.1 t = true ∧ bw_okA gs ts
  | _, _ => False
end

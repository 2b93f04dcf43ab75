section
-- ===== PART A: goes FIRST, ahead of the names: the tables' words, and 'selects' of the private methods out of them =====
/-- a private method of a class that the tables say can be made, by its rows of tables_1 -/
def lw_okq (q : MethodName × Nat) : Prop := (q.1.cls ≠ "java/lang/invoke/MethodHandle" ∧ q.1.cls ≠ "java/lang/invoke/VarHandle") ∧ Cond.instantiable q.1.cls q.2 ∈ tables_1 ∧ Cond.privateMethod q.1 ∈ tables_1 ∧ Cond.instanceMethod q.1 ∈ tables_1
theorem lw_p0 : lw_okq (⟨"BeliefWeb", "carryOut", "(IIIII)V"⟩, 7) := ⟨⟨by decide +kernel, by decide +kernel⟩, List.mem_of_getElem? (i := 9) (by decide +kernel), List.mem_of_getElem? (i := 239) (by decide +kernel), List.mem_of_getElem? (i := 240) (by decide +kernel)⟩
theorem lw_p1 : lw_okq (⟨"BeliefWeb$History", "repeat", "(ILBeliefWeb$Web;)V"⟩, 4) := ⟨⟨by decide +kernel, by decide +kernel⟩, List.mem_of_getElem? (i := 73) (by decide +kernel), List.mem_of_getElem? (i := 247) (by decide +kernel), List.mem_of_getElem? (i := 248) (by decide +kernel)⟩
theorem lw_p2 : lw_okq (⟨"BeliefWeb$History", "placeOf", "(I)I"⟩, 4) := ⟨⟨by decide +kernel, by decide +kernel⟩, List.mem_of_getElem? (i := 73) (by decide +kernel), List.mem_of_getElem? (i := 251) (by decide +kernel), List.mem_of_getElem? (i := 252) (by decide +kernel)⟩
theorem lw_p3 : lw_okq (⟨"BeliefWeb$Survey", "start", "(LBeliefWeb$Web;)V"⟩, 11) := ⟨⟨by decide +kernel, by decide +kernel⟩, List.mem_of_getElem? (i := 95) (by decide +kernel), List.mem_of_getElem? (i := 347) (by decide +kernel), List.mem_of_getElem? (i := 348) (by decide +kernel)⟩
theorem lw_p4 : lw_okq (⟨"BeliefWeb$Survey", "putParentsFirst", "(LBeliefWeb$Web;)V"⟩, 11) := ⟨⟨by decide +kernel, by decide +kernel⟩, List.mem_of_getElem? (i := 95) (by decide +kernel), List.mem_of_getElem? (i := 351) (by decide +kernel), List.mem_of_getElem? (i := 352) (by decide +kernel)⟩
theorem lw_p5 : lw_okq (⟨"BeliefWeb$Survey", "meet", "(LBeliefWeb$Web;J)V"⟩, 11) := ⟨⟨by decide +kernel, by decide +kernel⟩, List.mem_of_getElem? (i := 95) (by decide +kernel), List.mem_of_getElem? (i := 360) (by decide +kernel), List.mem_of_getElem? (i := 361) (by decide +kernel)⟩
theorem lw_p6 : lw_okq (⟨"BeliefWeb$Survey", "wholeChosen", "(LBeliefWeb$Web;)I"⟩, 11) := ⟨⟨by decide +kernel, by decide +kernel⟩, List.mem_of_getElem? (i := 95) (by decide +kernel), List.mem_of_getElem? (i := 364) (by decide +kernel), List.mem_of_getElem? (i := 365) (by decide +kernel)⟩
theorem lw_p7 : lw_okq (⟨"BeliefWeb$Survey", "isBefore", "(JII)Z"⟩, 11) := ⟨⟨by decide +kernel, by decide +kernel⟩, List.mem_of_getElem? (i := 95) (by decide +kernel), List.mem_of_getElem? (i := 368) (by decide +kernel), List.mem_of_getElem? (i := 369) (by decide +kernel)⟩
theorem lw_p8 : lw_okq (⟨"BeliefWeb", "tell", "(JJ)V"⟩, 7) := ⟨⟨by decide +kernel, by decide +kernel⟩, List.mem_of_getElem? (i := 9) (by decide +kernel), List.mem_of_getElem? (i := 381) (by decide +kernel), List.mem_of_getElem? (i := 382) (by decide +kernel)⟩
theorem lw_p9 : lw_okq (⟨"BeliefWeb", "trouble", "()I"⟩, 7) := ⟨⟨by decide +kernel, by decide +kernel⟩, List.mem_of_getElem? (i := 9) (by decide +kernel), List.mem_of_getElem? (i := 395) (by decide +kernel), List.mem_of_getElem? (i := 396) (by decide +kernel)⟩
theorem lw_p10 : lw_okq (⟨"BeliefWeb", "show", "(I)V"⟩, 7) := ⟨⟨by decide +kernel, by decide +kernel⟩, List.mem_of_getElem? (i := 9) (by decide +kernel), List.mem_of_getElem? (i := 428) (by decide +kernel), List.mem_of_getElem? (i := 429) (by decide +kernel)⟩
theorem lw_p11 : lw_okq (⟨"BeliefWeb", "gainSum", "(IJ)J"⟩, 7) := ⟨⟨by decide +kernel, by decide +kernel⟩, List.mem_of_getElem? (i := 9) (by decide +kernel), List.mem_of_getElem? (i := 501) (by decide +kernel), List.mem_of_getElem? (i := 502) (by decide +kernel)⟩
theorem lw_p12 : lw_okq (⟨"BeliefWebModel", "plainTable", "(I)V"⟩, 31) := ⟨⟨by decide +kernel, by decide +kernel⟩, List.mem_of_getElem? (i := 525) (by decide +kernel), List.mem_of_getElem? (i := 631) (by decide +kernel), List.mem_of_getElem? (i := 632) (by decide +kernel)⟩
theorem lw_p13 : lw_okq (⟨"BeliefWebModel", "isThing", "(I)Z"⟩, 31) := ⟨⟨by decide +kernel, by decide +kernel⟩, List.mem_of_getElem? (i := 525) (by decide +kernel), List.mem_of_getElem? (i := 639) (by decide +kernel), List.mem_of_getElem? (i := 640) (by decide +kernel)⟩
theorem lw_p14 : lw_okq (⟨"BeliefWebModel", "isParent", "(II)Z"⟩, 31) := ⟨⟨by decide +kernel, by decide +kernel⟩, List.mem_of_getElem? (i := 525) (by decide +kernel), List.mem_of_getElem? (i := 643) (by decide +kernel), List.mem_of_getElem? (i := 644) (by decide +kernel)⟩
theorem lw_p15 : lw_okq (⟨"BeliefWebModel", "reach", "(IZ)V"⟩, 31) := ⟨⟨by decide +kernel, by decide +kernel⟩, List.mem_of_getElem? (i := 525) (by decide +kernel), List.mem_of_getElem? (i := 647) (by decide +kernel), List.mem_of_getElem? (i := 648) (by decide +kernel)⟩
def lw_privs_1 : List (MethodName × Nat) := [(⟨"BeliefWeb", "carryOut", "(IIIII)V"⟩, 7), (⟨"BeliefWeb$History", "repeat", "(ILBeliefWeb$Web;)V"⟩, 4), (⟨"BeliefWeb$History", "placeOf", "(I)I"⟩, 4), (⟨"BeliefWeb$Survey", "start", "(LBeliefWeb$Web;)V"⟩, 11), (⟨"BeliefWeb$Survey", "putParentsFirst", "(LBeliefWeb$Web;)V"⟩, 11), (⟨"BeliefWeb$Survey", "meet", "(LBeliefWeb$Web;J)V"⟩, 11), (⟨"BeliefWeb$Survey", "wholeChosen", "(LBeliefWeb$Web;)I"⟩, 11), (⟨"BeliefWeb$Survey", "isBefore", "(JII)Z"⟩, 11), (⟨"BeliefWeb", "tell", "(JJ)V"⟩, 7), (⟨"BeliefWeb", "trouble", "()I"⟩, 7), (⟨"BeliefWeb", "show", "(I)V"⟩, 7), (⟨"BeliefWeb", "gainSum", "(IJ)J"⟩, 7), (⟨"BeliefWebModel", "plainTable", "(I)V"⟩, 31), (⟨"BeliefWebModel", "isThing", "(I)Z"⟩, 31), (⟨"BeliefWebModel", "isParent", "(II)Z"⟩, 31), (⟨"BeliefWebModel", "reach", "(IZ)V"⟩, 31)]
theorem lw_r1 : ∀ q ∈ lw_privs_1, lw_okq q := List.forall_mem_cons.mpr ⟨lw_p0, List.forall_mem_cons.mpr ⟨lw_p1, List.forall_mem_cons.mpr ⟨lw_p2, List.forall_mem_cons.mpr ⟨lw_p3, List.forall_mem_cons.mpr ⟨lw_p4, List.forall_mem_cons.mpr ⟨lw_p5, List.forall_mem_cons.mpr ⟨lw_p6, List.forall_mem_cons.mpr ⟨lw_p7, List.forall_mem_cons.mpr ⟨lw_p8, List.forall_mem_cons.mpr ⟨lw_p9, List.forall_mem_cons.mpr ⟨lw_p10, List.forall_mem_cons.mpr ⟨lw_p11, List.forall_mem_cons.mpr ⟨lw_p12, List.forall_mem_cons.mpr ⟨lw_p13, List.forall_mem_cons.mpr ⟨lw_p14, List.forall_mem_cons.mpr ⟨lw_p15, fun _ h => absurd h List.not_mem_nil⟩⟩⟩⟩⟩⟩⟩⟩⟩⟩⟩⟩⟩⟩⟩⟩
theorem lw_p16 : lw_okq (⟨"BeliefWebModel", "note", "(II)V"⟩, 31) := ⟨⟨by decide +kernel, by decide +kernel⟩, List.mem_of_getElem? (i := 525) (by decide +kernel), List.mem_of_getElem? (i := 651) (by decide +kernel), List.mem_of_getElem? (i := 652) (by decide +kernel)⟩
theorem lw_p17 : lw_okq (⟨"BeliefWebModel", "isWeight", "(III)Z"⟩, 31) := ⟨⟨by decide +kernel, by decide +kernel⟩, List.mem_of_getElem? (i := 525) (by decide +kernel), List.mem_of_getElem? (i := 663) (by decide +kernel), List.mem_of_getElem? (i := 664) (by decide +kernel)⟩
theorem lw_p18 : lw_okq (⟨"BeliefWebModel", "isValue", "(II)Z"⟩, 31) := ⟨⟨by decide +kernel, by decide +kernel⟩, List.mem_of_getElem? (i := 525) (by decide +kernel), List.mem_of_getElem? (i := 667) (by decide +kernel), List.mem_of_getElem? (i := 668) (by decide +kernel)⟩
theorem lw_p19 : lw_okq (⟨"BeliefWebModel", "rows", "(I)I"⟩, 31) := ⟨⟨by decide +kernel, by decide +kernel⟩, List.mem_of_getElem? (i := 525) (by decide +kernel), List.mem_of_getElem? (i := 671) (by decide +kernel), List.mem_of_getElem? (i := 672) (by decide +kernel)⟩
theorem lw_p20 : lw_okq (⟨"BeliefWebModel", "isSound", "(I)Z"⟩, 31) := ⟨⟨by decide +kernel, by decide +kernel⟩, List.mem_of_getElem? (i := 525) (by decide +kernel), List.mem_of_getElem? (i := 683) (by decide +kernel), List.mem_of_getElem? (i := 684) (by decide +kernel)⟩
theorem lw_p21 : lw_okq (⟨"BeliefWebModel", "isRough", "()Z"⟩, 31) := ⟨⟨by decide +kernel, by decide +kernel⟩, List.mem_of_getElem? (i := 525) (by decide +kernel), List.mem_of_getElem? (i := 695) (by decide +kernel), List.mem_of_getElem? (i := 696) (by decide +kernel)⟩
theorem lw_p22 : lw_okq (⟨"BeliefWebModel", "mayBe", "(II)Z"⟩, 31) := ⟨⟨by decide +kernel, by decide +kernel⟩, List.mem_of_getElem? (i := 525) (by decide +kernel), List.mem_of_getElem? (i := 703) (by decide +kernel), List.mem_of_getElem? (i := 704) (by decide +kernel)⟩
theorem lw_p23 : lw_okq (⟨"BeliefWebModel", "becomes", "(III)I"⟩, 31) := ⟨⟨by decide +kernel, by decide +kernel⟩, List.mem_of_getElem? (i := 525) (by decide +kernel), List.mem_of_getElem? (i := 707) (by decide +kernel), List.mem_of_getElem? (i := 708) (by decide +kernel)⟩
theorem lw_p24 : lw_okq (⟨"BeliefWebModel", "all", "()J"⟩, 31) := ⟨⟨by decide +kernel, by decide +kernel⟩, List.mem_of_getElem? (i := 525) (by decide +kernel), List.mem_of_getElem? (i := 731) (by decide +kernel), List.mem_of_getElem? (i := 732) (by decide +kernel)⟩
theorem lw_p25 : lw_okq (⟨"BeliefWebModel", "sum", "(IIII)J"⟩, 31) := ⟨⟨by decide +kernel, by decide +kernel⟩, List.mem_of_getElem? (i := 525) (by decide +kernel), List.mem_of_getElem? (i := 735) (by decide +kernel), List.mem_of_getElem? (i := 736) (by decide +kernel)⟩
theorem lw_p26 : lw_okq (⟨"BeliefWebModel", "firstWhole", "()V"⟩, 31) := ⟨⟨by decide +kernel, by decide +kernel⟩, List.mem_of_getElem? (i := 525) (by decide +kernel), List.mem_of_getElem? (i := 739) (by decide +kernel), List.mem_of_getElem? (i := 740) (by decide +kernel)⟩
theorem lw_p27 : lw_okq (⟨"BeliefWebModel", "weigh", "()V"⟩, 31) := ⟨⟨by decide +kernel, by decide +kernel⟩, List.mem_of_getElem? (i := 525) (by decide +kernel), List.mem_of_getElem? (i := 743) (by decide +kernel), List.mem_of_getElem? (i := 744) (by decide +kernel)⟩
theorem lw_p28 : lw_okq (⟨"BeliefWebModel", "nextWhole", "()Z"⟩, 31) := ⟨⟨by decide +kernel, by decide +kernel⟩, List.mem_of_getElem? (i := 525) (by decide +kernel), List.mem_of_getElem? (i := 747) (by decide +kernel), List.mem_of_getElem? (i := 748) (by decide +kernel)⟩
theorem lw_p29 : lw_okq (⟨"BeliefWebModel", "tell", "(JJ)I"⟩, 31) := ⟨⟨by decide +kernel, by decide +kernel⟩, List.mem_of_getElem? (i := 525) (by decide +kernel), List.mem_of_getElem? (i := 751) (by decide +kernel), List.mem_of_getElem? (i := 752) (by decide +kernel)⟩
theorem lw_p30 : lw_okq (⟨"BeliefWebModel", "refused", "()I"⟩, 31) := ⟨⟨by decide +kernel, by decide +kernel⟩, List.mem_of_getElem? (i := 525) (by decide +kernel), List.mem_of_getElem? (i := 762) (by decide +kernel), List.mem_of_getElem? (i := 763) (by decide +kernel)⟩
theorem lw_p31 : lw_okq (⟨"BeliefWebModel", "insert", "(II)I"⟩, 31) := ⟨⟨by decide +kernel, by decide +kernel⟩, List.mem_of_getElem? (i := 525) (by decide +kernel), List.mem_of_getElem? (i := 778) (by decide +kernel), List.mem_of_getElem? (i := 779) (by decide +kernel)⟩
def lw_privs_2 : List (MethodName × Nat) := [(⟨"BeliefWebModel", "note", "(II)V"⟩, 31), (⟨"BeliefWebModel", "isWeight", "(III)Z"⟩, 31), (⟨"BeliefWebModel", "isValue", "(II)Z"⟩, 31), (⟨"BeliefWebModel", "rows", "(I)I"⟩, 31), (⟨"BeliefWebModel", "isSound", "(I)Z"⟩, 31), (⟨"BeliefWebModel", "isRough", "()Z"⟩, 31), (⟨"BeliefWebModel", "mayBe", "(II)Z"⟩, 31), (⟨"BeliefWebModel", "becomes", "(III)I"⟩, 31), (⟨"BeliefWebModel", "all", "()J"⟩, 31), (⟨"BeliefWebModel", "sum", "(IIII)J"⟩, 31), (⟨"BeliefWebModel", "firstWhole", "()V"⟩, 31), (⟨"BeliefWebModel", "weigh", "()V"⟩, 31), (⟨"BeliefWebModel", "nextWhole", "()Z"⟩, 31), (⟨"BeliefWebModel", "tell", "(JJ)I"⟩, 31), (⟨"BeliefWebModel", "refused", "()I"⟩, 31), (⟨"BeliefWebModel", "insert", "(II)I"⟩, 31)]
theorem lw_r2 : ∀ q ∈ lw_privs_2, lw_okq q := List.forall_mem_cons.mpr ⟨lw_p16, List.forall_mem_cons.mpr ⟨lw_p17, List.forall_mem_cons.mpr ⟨lw_p18, List.forall_mem_cons.mpr ⟨lw_p19, List.forall_mem_cons.mpr ⟨lw_p20, List.forall_mem_cons.mpr ⟨lw_p21, List.forall_mem_cons.mpr ⟨lw_p22, List.forall_mem_cons.mpr ⟨lw_p23, List.forall_mem_cons.mpr ⟨lw_p24, List.forall_mem_cons.mpr ⟨lw_p25, List.forall_mem_cons.mpr ⟨lw_p26, List.forall_mem_cons.mpr ⟨lw_p27, List.forall_mem_cons.mpr ⟨lw_p28, List.forall_mem_cons.mpr ⟨lw_p29, List.forall_mem_cons.mpr ⟨lw_p30, List.forall_mem_cons.mpr ⟨lw_p31, fun _ h => absurd h List.not_mem_nil⟩⟩⟩⟩⟩⟩⟩⟩⟩⟩⟩⟩⟩⟩⟩⟩
theorem lw_p32 : lw_okq (⟨"BeliefWebModel", "leads", "(II)Z"⟩, 31) := ⟨⟨by decide +kernel, by decide +kernel⟩, List.mem_of_getElem? (i := 525) (by decide +kernel), List.mem_of_getElem? (i := 794) (by decide +kernel), List.mem_of_getElem? (i := 795) (by decide +kernel)⟩
theorem lw_p33 : lw_okq (⟨"BeliefWebModel", "passes", "(III)Z"⟩, 31) := ⟨⟨by decide +kernel, by decide +kernel⟩, List.mem_of_getElem? (i := 525) (by decide +kernel), List.mem_of_getElem? (i := 798) (by decide +kernel), List.mem_of_getElem? (i := 799) (by decide +kernel)⟩
theorem lw_p34 : lw_okq (⟨"BeliefWebModel", "isOption", "(I)Z"⟩, 31) := ⟨⟨by decide +kernel, by decide +kernel⟩, List.mem_of_getElem? (i := 525) (by decide +kernel), List.mem_of_getElem? (i := 810) (by decide +kernel), List.mem_of_getElem? (i := 811) (by decide +kernel)⟩
theorem lw_p35 : lw_okq (⟨"BeliefWebModel", "worthOf", "(III)J"⟩, 31) := ⟨⟨by decide +kernel, by decide +kernel⟩, List.mem_of_getElem? (i := 525) (by decide +kernel), List.mem_of_getElem? (i := 818) (by decide +kernel), List.mem_of_getElem? (i := 819) (by decide +kernel)⟩
theorem lw_p36 : lw_okq (⟨"BeliefWebModel", "greatest", "(II)J"⟩, 31) := ⟨⟨by decide +kernel, by decide +kernel⟩, List.mem_of_getElem? (i := 525) (by decide +kernel), List.mem_of_getElem? (i := 826) (by decide +kernel), List.mem_of_getElem? (i := 827) (by decide +kernel)⟩
theorem lw_p37 : lw_okq (⟨"BeliefWebModel", "gainOf", "(I)J"⟩, 31) := ⟨⟨by decide +kernel, by decide +kernel⟩, List.mem_of_getElem? (i := 525) (by decide +kernel), List.mem_of_getElem? (i := 834) (by decide +kernel), List.mem_of_getElem? (i := 835) (by decide +kernel)⟩
theorem lw_p38 : lw_okq (⟨"BeliefWebModel", "isKnown", "(I)Z"⟩, 31) := ⟨⟨by decide +kernel, by decide +kernel⟩, List.mem_of_getElem? (i := 525) (by decide +kernel), List.mem_of_getElem? (i := 838) (by decide +kernel), List.mem_of_getElem? (i := 839) (by decide +kernel)⟩
def lw_privs_3 : List (MethodName × Nat) := [(⟨"BeliefWebModel", "leads", "(II)Z"⟩, 31), (⟨"BeliefWebModel", "passes", "(III)Z"⟩, 31), (⟨"BeliefWebModel", "isOption", "(I)Z"⟩, 31), (⟨"BeliefWebModel", "worthOf", "(III)J"⟩, 31), (⟨"BeliefWebModel", "greatest", "(II)J"⟩, 31), (⟨"BeliefWebModel", "gainOf", "(I)J"⟩, 31), (⟨"BeliefWebModel", "isKnown", "(I)Z"⟩, 31)]
theorem lw_r3 : ∀ q ∈ lw_privs_3, lw_okq q := List.forall_mem_cons.mpr ⟨lw_p32, List.forall_mem_cons.mpr ⟨lw_p33, List.forall_mem_cons.mpr ⟨lw_p34, List.forall_mem_cons.mpr ⟨lw_p35, List.forall_mem_cons.mpr ⟨lw_p36, List.forall_mem_cons.mpr ⟨lw_p37, List.forall_mem_cons.mpr ⟨lw_p38, fun _ h => absurd h List.not_mem_nil⟩⟩⟩⟩⟩⟩⟩
def lw_privs : List (MethodName × Nat) := lw_privs_1 ++ (lw_privs_2 ++ (lw_privs_3))
def lw_tbl : List Cond := k2_sels lw_privs ++ tables_1
theorem lw_privs_ok : ∀ q ∈ lw_privs, lw_okq q := by
  show ∀ q ∈ lw_privs_1 ++ (lw_privs_2 ++ (lw_privs_3)), lw_okq q
  exact List.forall_mem_append.mpr ⟨lw_r1, List.forall_mem_append.mpr ⟨lw_r2, lw_r3⟩⟩
def RX0 : String := "BeliefWeb$History"
def TX0 : u_T := fun k => match k with
  | 0 => ("BeliefWeb$History", "start", "LBeliefWeb$Web;", true)
  | 1 => ("BeliefWeb$History", "acts", "[I", true)
  | 2 => ("BeliefWeb$History", "first", "I", false)
  | _ => ("BeliefWeb$History", "size", "I", false)
def tyX0 : Nat → FieldType := fun k => match k with
  | 0 => .object "BeliefWeb$Web"
  | 1 => .array .int
  | 2 => .int
  | _ => .int
abbrev wsX00 : List Cond := u_ws RX0 TX0 4
theorem nmX0 : ∀ a, a < 4 → ∀ b, b < 4 → a ≠ b → (TX0 a).2.1 ≠ (TX0 b).2.1 := by decide +kernel
theorem tyX0_ok : ∀ k, k < 4 → parseFieldDescriptor (TX0 k).2.2.1 = some (tyX0 k) := by decide +kernel
abbrev cX0_init : ByteArray := prog_2_method_1_code
def yX0_init : MethodName := ⟨RX0, "<init>", "()V"⟩
abbrev cX0_startFrom : ByteArray := prog_2_method_2_code
def yX0_startFrom : MethodName := ⟨RX0, "startFrom", "(LBeliefWeb$Web;)V"⟩
abbrev cX0_add : ByteArray := prog_2_method_3_code
def yX0_add : MethodName := ⟨RX0, "add", "(IIIII)V"⟩
abbrev cX0_takeBackLatest : ByteArray := prog_2_method_4_code
def yX0_takeBackLatest : MethodName := ⟨RX0, "takeBackLatest", "(LBeliefWeb$Web;)V"⟩
abbrev cX0_repeat : ByteArray := prog_2_method_5_code
def yX0_repeat : MethodName := ⟨RX0, "repeat", "(ILBeliefWeb$Web;)V"⟩
abbrev cX0_placeOf : ByteArray := prog_2_method_6_code
def yX0_placeOf : MethodName := ⟨RX0, "placeOf", "(I)I"⟩
def RX1 : String := "BeliefWeb$Survey"
def TX1 : u_T := fun k => match k with
  | 0 => ("BeliefWeb$Survey", "order", "[I", true)
  | 1 => ("BeliefWeb$Survey", "chosen", "[I", true)
  | 2 => ("BeliefWeb$Survey", "shares", "[J", true)
  | 3 => ("BeliefWeb$Survey", "rankedLikelihoods", "[J", true)
  | 4 => ("BeliefWeb$Survey", "rankedWholes", "[I", true)
  | 5 => ("BeliefWeb$Survey", "ranked", "I", false)
  | 6 => ("BeliefWeb$Survey", "wanted", "I", false)
  | 7 => ("BeliefWeb$Survey", "heldThing", "I", false)
  | 8 => ("BeliefWeb$Survey", "heldValue", "I", false)
  | 9 => ("BeliefWeb$Survey", "wholesMet", "I", false)
  | _ => ("BeliefWeb$Survey", "sum", "J", false)
def tyX1 : Nat → FieldType := fun k => match k with
  | 0 => .array .int
  | 1 => .array .int
  | 2 => .array .long
  | 3 => .array .long
  | 4 => .array .int
  | 5 => .int
  | 6 => .int
  | 7 => .int
  | 8 => .int
  | 9 => .int
  | _ => .long
abbrev wsX10 : List Cond := u_ws RX1 TX1 11
theorem nmX1 : ∀ a, a < 11 → ∀ b, b < 11 → a ≠ b → (TX1 a).2.1 ≠ (TX1 b).2.1 := by decide +kernel
theorem tyX1_ok : ∀ k, k < 11 → parseFieldDescriptor (TX1 k).2.2.1 = some (tyX1 k) := by decide +kernel
abbrev cX1_init : ByteArray := prog_3_method_1_code
def yX1_init : MethodName := ⟨RX1, "<init>", "()V"⟩
abbrev cX1_goOver : ByteArray := prog_3_method_2_code
def yX1_goOver : MethodName := ⟨RX1, "goOver", "(LBeliefWeb$Web;)V"⟩
abbrev cX1_goOverThoseWith : ByteArray := prog_3_method_3_code
def yX1_goOverThoseWith : MethodName := ⟨RX1, "goOverThoseWith", "(LBeliefWeb$Web;II)V"⟩
abbrev cX1_rank : ByteArray := prog_3_method_4_code
def yX1_rank : MethodName := ⟨RX1, "rank", "(LBeliefWeb$Web;I)V"⟩
abbrev cX1_start : ByteArray := prog_3_method_5_code
def yX1_start : MethodName := ⟨RX1, "start", "(LBeliefWeb$Web;)V"⟩
abbrev cX1_putParentsFirst : ByteArray := prog_3_method_6_code
def yX1_putParentsFirst : MethodName := ⟨RX1, "putParentsFirst", "(LBeliefWeb$Web;)V"⟩
abbrev cX1_spread : ByteArray := prog_3_method_7_code
def yX1_spread : MethodName := ⟨RX1, "spread", "(LBeliefWeb$Web;LBeliefWeb$Survey;IJ)J"⟩
abbrev cX1_meet : ByteArray := prog_3_method_8_code
def yX1_meet : MethodName := ⟨RX1, "meet", "(LBeliefWeb$Web;J)V"⟩
abbrev cX1_isBefore : ByteArray := prog_3_method_9_code
def yX1_isBefore : MethodName := ⟨RX1, "isBefore", "(JII)Z"⟩
abbrev cX1_wholeChosen : ByteArray := prog_3_method_10_code
def yX1_wholeChosen : MethodName := ⟨RX1, "wholeChosen", "(LBeliefWeb$Web;)I"⟩
abbrev cX1_worthSum : ByteArray := prog_3_method_11_code
def yX1_worthSum : MethodName := ⟨RX1, "worthSum", "(LBeliefWeb$Web;I)J"⟩
abbrev cX1_bestOption : ByteArray := prog_3_method_12_code
def yX1_bestOption : MethodName := ⟨RX1, "bestOption", "(LBeliefWeb$Web;)I"⟩
abbrev cX1_greatestWorthSum : ByteArray := prog_3_method_13_code
def yX1_greatestWorthSum : MethodName := ⟨RX1, "greatestWorthSum", "(LBeliefWeb$Web;)J"⟩
def RX2 : String := "BeliefWeb$Web"
def TX2 : u_T := fun k => match k with
  | 0 => ("BeliefWeb$Web", "things", "I", false)
  | 1 => ("BeliefWeb$Web", "options", "I", false)
  | 2 => ("BeliefWeb$Web", "values", "[I", true)
  | 3 => ("BeliefWeb$Web", "totals", "[I", true)
  | 4 => ("BeliefWeb$Web", "parentCounts", "[I", true)
  | 5 => ("BeliefWeb$Web", "parents", "[I", true)
  | 6 => ("BeliefWeb$Web", "weights", "[I", true)
  | 7 => ("BeliefWeb$Web", "seen", "[I", true)
  | 8 => ("BeliefWeb$Web", "done", "[I", true)
  | 9 => ("BeliefWeb$Web", "forces", "[I", true)
  | _ => ("BeliefWeb$Web", "worths", "[I", true)
def tyX2 : Nat → FieldType := fun k => match k with
  | 0 => .int
  | 1 => .int
  | 2 => .array .int
  | 3 => .array .int
  | 4 => .array .int
  | 5 => .array .int
  | 6 => .array .int
  | 7 => .array .int
  | 8 => .array .int
  | 9 => .array .int
  | _ => .array .int
abbrev wsX20 : List Cond := u_ws RX2 TX2 11
theorem nmX2 : ∀ a, a < 11 → ∀ b, b < 11 → a ≠ b → (TX2 a).2.1 ≠ (TX2 b).2.1 := by decide +kernel
theorem tyX2_ok : ∀ k, k < 11 → parseFieldDescriptor (TX2 k).2.2.1 = some (tyX2 k) := by decide +kernel
abbrev cX2_init : ByteArray := prog_4_method_1_code
def yX2_init : MethodName := ⟨RX2, "<init>", "()V"⟩
abbrev cX2_hasThing : ByteArray := prog_4_method_2_code
def yX2_hasThing : MethodName := ⟨RX2, "hasThing", "(I)Z"⟩
abbrev cX2_hasValue : ByteArray := prog_4_method_3_code
def yX2_hasValue : MethodName := ⟨RX2, "hasValue", "(II)Z"⟩
abbrev cX2_mayBeKnownAs : ByteArray := prog_4_method_4_code
def yX2_mayBeKnownAs : MethodName := ⟨RX2, "mayBeKnownAs", "(II)Z"⟩
abbrev cX2_hasWeight : ByteArray := prog_4_method_5_code
def yX2_hasWeight : MethodName := ⟨RX2, "hasWeight", "(III)Z"⟩
abbrev cX2_hasOption : ByteArray := prog_4_method_6_code
def yX2_hasOption : MethodName := ⟨RX2, "hasOption", "(I)Z"⟩
abbrev cX2_isFree : ByteArray := prog_4_method_7_code
def yX2_isFree : MethodName := ⟨RX2, "isFree", "(I)Z"⟩
abbrev cX2_allWholes : ByteArray := prog_4_method_8_code
def yX2_allWholes : MethodName := ⟨RX2, "allWholes", "()I"⟩
abbrev cX2_allTotals : ByteArray := prog_4_method_9_code
def yX2_allTotals : MethodName := ⟨RX2, "allTotals", "()J"⟩
abbrev cX2_arrows : ByteArray := prog_4_method_10_code
def yX2_arrows : MethodName := ⟨RX2, "arrows", "()I"⟩
abbrev cX2_rows : ByteArray := prog_4_method_11_code
def yX2_rows : MethodName := ⟨RX2, "rows", "(I)I"⟩
abbrev cX2_rowAt : ByteArray := prog_4_method_12_code
def yX2_rowAt : MethodName := ⟨RX2, "rowAt", "(I[I)I"⟩
abbrev cX2_isSound : ByteArray := prog_4_method_13_code
def yX2_isSound : MethodName := ⟨RX2, "isSound", "()Z"⟩
abbrev cX2_hasSoundTable : ByteArray := prog_4_method_14_code
def yX2_hasSoundTable : MethodName := ⟨RX2, "hasSoundTable", "(I)Z"⟩
abbrev cX2_factor : ByteArray := prog_4_method_15_code
def yX2_factor : MethodName := ⟨RX2, "factor", "(III)I"⟩
abbrev cX2_parentPlace : ByteArray := prog_4_method_16_code
def yX2_parentPlace : MethodName := ⟨RX2, "parentPlace", "(II)I"⟩
abbrev cX2_parentSet : ByteArray := prog_4_method_17_code
def yX2_parentSet : MethodName := ⟨RX2, "parentSet", "(I)I"⟩
abbrev cX2_ancestorsAnd : ByteArray := prog_4_method_18_code
def yX2_ancestorsAnd : MethodName := ⟨RX2, "ancestorsAnd", "(I)I"⟩
abbrev cX2_parentSetNow : ByteArray := prog_4_method_19_code
def yX2_parentSetNow : MethodName := ⟨RX2, "parentSetNow", "(I)I"⟩
abbrev cX2_childSetNow : ByteArray := prog_4_method_20_code
def yX2_childSetNow : MethodName := ⟨RX2, "childSetNow", "(I)I"⟩
abbrev cX2_hasOpenRoad : ByteArray := prog_4_method_21_code
def yX2_hasOpenRoad : MethodName := ⟨RX2, "hasOpenRoad", "(II)Z"⟩
abbrev cX2_addThing : ByteArray := prog_4_method_22_code
def yX2_addThing : MethodName := ⟨RX2, "addThing", "(II)V"⟩
abbrev cX2_carryOut : ByteArray := prog_4_method_23_code
def yX2_carryOut : MethodName := ⟨RX2, "carryOut", "(IIIII)V"⟩
abbrev cX2_addParent : ByteArray := prog_4_method_24_code
def yX2_addParent : MethodName := ⟨RX2, "addParent", "(II)V"⟩
abbrev cX2_dropParent : ByteArray := prog_4_method_25_code
def yX2_dropParent : MethodName := ⟨RX2, "dropParent", "(II)V"⟩
abbrev cX2_resetTable : ByteArray := prog_4_method_26_code
def yX2_resetTable : MethodName := ⟨RX2, "resetTable", "(I)V"⟩
abbrev cX2_setOptions : ByteArray := prog_4_method_27_code
def yX2_setOptions : MethodName := ⟨RX2, "setOptions", "(I)V"⟩
abbrev cX2_copyFrom : ByteArray := prog_4_method_28_code
def yX2_copyFrom : MethodName := ⟨RX2, "copyFrom", "(LBeliefWeb$Web;)V"⟩
abbrev cX2_copyAll : ByteArray := prog_4_method_29_code
def yX2_copyAll : MethodName := ⟨RX2, "copyAll", "([I[I)V"⟩
def RX3 : String := "BeliefWeb"
def TX3 : u_T := fun k => match k with
  | 0 => ("BeliefWeb", "web", "LBeliefWeb$Web;", true)
  | 1 => ("BeliefWeb", "history", "LBeliefWeb$History;", true)
  | 2 => ("BeliefWeb", "survey", "LBeliefWeb$Survey;", true)
  | 3 => ("BeliefWeb", "shown", "[I", true)
  | 4 => ("BeliefWeb", "shownThings", "I", false)
  | 5 => ("BeliefWeb", "tellUp", "J", false)
  | _ => ("BeliefWeb", "tellDown", "J", false)
def tyX3 : Nat → FieldType := fun k => match k with
  | 0 => .object "BeliefWeb$Web"
  | 1 => .object "BeliefWeb$History"
  | 2 => .object "BeliefWeb$Survey"
  | 3 => .array .int
  | 4 => .int
  | 5 => .long
  | _ => .long
abbrev wsX30 : List Cond := u_ws RX3 TX3 7
theorem nmX3 : ∀ a, a < 7 → ∀ b, b < 7 → a ≠ b → (TX3 a).2.1 ≠ (TX3 b).2.1 := by decide +kernel
theorem tyX3_ok : ∀ k, k < 7 → parseFieldDescriptor (TX3 k).2.2.1 = some (tyX3 k) := by decide +kernel
abbrev cX3_init : ByteArray := prog_1_method_1_code
def yX3_init : MethodName := ⟨RX3, "<init>", "()V"⟩
abbrev cX3_thing : ByteArray := prog_1_method_2_code
def yX3_thing : MethodName := ⟨RX3, "thing", "(II)I"⟩
abbrev cX3_arrow : ByteArray := prog_1_method_3_code
def yX3_arrow : MethodName := ⟨RX3, "arrow", "(II)I"⟩
abbrev cX3_cut : ByteArray := prog_1_method_4_code
def yX3_cut : MethodName := ⟨RX3, "cut", "(II)I"⟩
abbrev cX3_weight : ByteArray := prog_1_method_5_code
def yX3_weight : MethodName := ⟨RX3, "weight", "(IIII)I"⟩
abbrev cX3_told : ByteArray := prog_1_method_6_code
def yX3_told : MethodName := ⟨RX3, "told", "(III)I"⟩
abbrev cX3_about : ByteArray := prog_1_method_7_code
def yX3_about : MethodName := ⟨RX3, "about", "(II)I"⟩
abbrev cX3_parent : ByteArray := prog_1_method_8_code
def yX3_parent : MethodName := ⟨RX3, "parent", "(II)I"⟩
abbrev cX3_sound : ByteArray := prog_1_method_9_code
def yX3_sound : MethodName := ⟨RX3, "sound", "()I"⟩
abbrev cX3_see : ByteArray := prog_1_method_10_code
def yX3_see : MethodName := ⟨RX3, "see", "(II)I"⟩
abbrev cX3_act : ByteArray := prog_1_method_11_code
def yX3_act : MethodName := ⟨RX3, "act", "(II)I"⟩
abbrev cX3_force : ByteArray := prog_1_method_12_code
def yX3_force : MethodName := ⟨RX3, "force", "(III)I"⟩
abbrev cX3_chance : ByteArray := prog_1_method_13_code
def yX3_chance : MethodName := ⟨RX3, "chance", "()I"⟩
abbrev cX3_ask : ByteArray := prog_1_method_14_code
def yX3_ask : MethodName := ⟨RX3, "ask", "(II)I"⟩
abbrev cX3_both : ByteArray := prog_1_method_15_code
def yX3_both : MethodName := ⟨RX3, "both", "(IIII)I"⟩
abbrev cX3_up : ByteArray := prog_1_method_16_code
def yX3_up : MethodName := ⟨RX3, "up", "()J"⟩
abbrev cX3_down : ByteArray := prog_1_method_17_code
def yX3_down : MethodName := ⟨RX3, "down", "()J"⟩
abbrev cX3_most : ByteArray := prog_1_method_18_code
def yX3_most : MethodName := ⟨RX3, "most", "(I)I"⟩
abbrev cX3_likeliest : ByteArray := prog_1_method_19_code
def yX3_likeliest : MethodName := ⟨RX3, "likeliest", "(I)I"⟩
abbrev cX3_at : ByteArray := prog_1_method_20_code
def yX3_at : MethodName := ⟨RX3, "at", "(I)I"⟩
abbrev cX3_wholes : ByteArray := prog_1_method_21_code
def yX3_wholes : MethodName := ⟨RX3, "wholes", "()I"⟩
abbrev cX3_apart : ByteArray := prog_1_method_22_code
def yX3_apart : MethodName := ⟨RX3, "apart", "(II)I"⟩
abbrev cX3_options : ByteArray := prog_1_method_23_code
def yX3_options : MethodName := ⟨RX3, "options", "(I)I"⟩
abbrev cX3_worth : ByteArray := prog_1_method_24_code
def yX3_worth : MethodName := ⟨RX3, "worth", "(IIII)I"⟩
abbrev cX3_expected : ByteArray := prog_1_method_25_code
def yX3_expected : MethodName := ⟨RX3, "expected", "(I)I"⟩
abbrev cX3_best : ByteArray := prog_1_method_26_code
def yX3_best : MethodName := ⟨RX3, "best", "()I"⟩
abbrev cX3_gain : ByteArray := prog_1_method_27_code
def yX3_gain : MethodName := ⟨RX3, "gain", "(I)I"⟩
abbrev cX3_next : ByteArray := prog_1_method_28_code
def yX3_next : MethodName := ⟨RX3, "next", "()I"⟩
abbrev cX3_undo : ByteArray := prog_1_method_29_code
def yX3_undo : MethodName := ⟨RX3, "undo", "()I"⟩
abbrev cX3_count : ByteArray := prog_1_method_30_code
def yX3_count : MethodName := ⟨RX3, "count", "(I)I"⟩
abbrev cX3_carryOut : ByteArray := prog_1_method_31_code
def yX3_carryOut : MethodName := ⟨RX3, "carryOut", "(IIIII)V"⟩
abbrev cX3_trouble : ByteArray := prog_1_method_32_code
def yX3_trouble : MethodName := ⟨RX3, "trouble", "()I"⟩
abbrev cX3_tell : ByteArray := prog_1_method_33_code
def yX3_tell : MethodName := ⟨RX3, "tell", "(JJ)V"⟩
abbrev cX3_commonDivisor : ByteArray := prog_1_method_34_code
def yX3_commonDivisor : MethodName := ⟨RX3, "commonDivisor", "(JJ)J"⟩
abbrev cX3_show : ByteArray := prog_1_method_35_code
def yX3_show : MethodName := ⟨RX3, "show", "(I)V"⟩
abbrev cX3_gainSum : ByteArray := prog_1_method_36_code
def yX3_gainSum : MethodName := ⟨RX3, "gainSum", "(IJ)J"⟩
abbrev cX3_slot : ByteArray := prog_1_method_37_code
def yX3_slot : MethodName := ⟨RX3, "slot", "(II)I"⟩
abbrev cX3_weightSlot : ByteArray := prog_1_method_38_code
def yX3_weightSlot : MethodName := ⟨RX3, "weightSlot", "(III)I"⟩
abbrev cX3_worthSlot : ByteArray := prog_1_method_39_code
def yX3_worthSlot : MethodName := ⟨RX3, "worthSlot", "(III)I"⟩
abbrev cX3_parentSlot : ByteArray := prog_1_method_40_code
def yX3_parentSlot : MethodName := ⟨RX3, "parentSlot", "(II)I"⟩
abbrev cX3_isIn : ByteArray := prog_1_method_41_code
def yX3_isIn : MethodName := ⟨RX3, "isIn", "(II)Z"⟩
def RX4 : String := "BeliefWebModel"
def TX4 : u_T := fun k => match k with
  | 0 => ("BeliefWebModel", "code", "I", false)
  | 1 => ("BeliefWebModel", "things", "I", false)
  | 2 => ("BeliefWebModel", "values", "[I", true)
  | 3 => ("BeliefWebModel", "totals", "[I", true)
  | 4 => ("BeliefWebModel", "parents", "[I", true)
  | 5 => ("BeliefWebModel", "parent", "[I", true)
  | 6 => ("BeliefWebModel", "tables", "[I", true)
  | 7 => ("BeliefWebModel", "seen", "[I", true)
  | 8 => ("BeliefWebModel", "done", "[I", true)
  | 9 => ("BeliefWebModel", "forces", "[I", true)
  | 10 => ("BeliefWebModel", "options", "I", false)
  | 11 => ("BeliefWebModel", "worths", "[I", true)
  | 12 => ("BeliefWebModel", "reached", "[Z", true)
  | 13 => ("BeliefWebModel", "whole", "[I", true)
  | 14 => ("BeliefWebModel", "likelihood", "J", false)
  | 15 => ("BeliefWebModel", "up", "J", false)
  | 16 => ("BeliefWebModel", "down", "J", false)
  | 17 => ("BeliefWebModel", "shown", "[I", true)
  | 18 => ("BeliefWebModel", "shownMany", "I", false)
  | 19 => ("BeliefWebModel", "bestLikelihood", "[J", true)
  | 20 => ("BeliefWebModel", "bestWhole", "[I", true)
  | 21 => ("BeliefWebModel", "road", "[I", true)
  | 22 => ("BeliefWebModel", "tried", "[I", true)
  | 23 => ("BeliefWebModel", "on", "[Z", true)
  | 24 => ("BeliefWebModel", "bestOption", "I", false)
  | 25 => ("BeliefWebModel", "acts", "I", false)
  | 26 => ("BeliefWebModel", "actKind", "[I", true)
  | 27 => ("BeliefWebModel", "actWhich", "[I", true)
  | 28 => ("BeliefWebModel", "actA", "[I", true)
  | 29 => ("BeliefWebModel", "actB", "[I", true)
  | _ => ("BeliefWebModel", "actRow", "[I", true)
def tyX4 : Nat → FieldType := fun k => match k with
  | 0 => .int
  | 1 => .int
  | 2 => .array .int
  | 3 => .array .int
  | 4 => .array .int
  | 5 => .array .int
  | 6 => .array .int
  | 7 => .array .int
  | 8 => .array .int
  | 9 => .array .int
  | 10 => .int
  | 11 => .array .int
  | 12 => .array .boolean
  | 13 => .array .int
  | 14 => .long
  | 15 => .long
  | 16 => .long
  | 17 => .array .int
  | 18 => .int
  | 19 => .array .long
  | 20 => .array .int
  | 21 => .array .int
  | 22 => .array .int
  | 23 => .array .boolean
  | 24 => .int
  | 25 => .int
  | 26 => .array .int
  | 27 => .array .int
  | 28 => .array .int
  | 29 => .array .int
  | _ => .array .int
abbrev wsX40 : List Cond := u_ws RX4 TX4 31
theorem nmX4 : ∀ a, a < 31 → ∀ b, b < 31 → a ≠ b → (TX4 a).2.1 ≠ (TX4 b).2.1 := by decide +kernel
theorem tyX4_ok : ∀ k, k < 31 → parseFieldDescriptor (TX4 k).2.2.1 = some (tyX4 k) := by decide +kernel
abbrev cX4_init : ByteArray := prog_6_method_1_code
def yX4_init : MethodName := ⟨RX4, "<init>", "()V"⟩
abbrev cX4_isThing : ByteArray := prog_6_method_3_code
def yX4_isThing : MethodName := ⟨RX4, "isThing", "(I)Z"⟩
abbrev cX4_isValue : ByteArray := prog_6_method_4_code
def yX4_isValue : MethodName := ⟨RX4, "isValue", "(II)Z"⟩
abbrev cX4_rows : ByteArray := prog_6_method_5_code
def yX4_rows : MethodName := ⟨RX4, "rows", "(I)I"⟩
abbrev cX4_thing : ByteArray := prog_6_method_6_code
def yX4_thing : MethodName := ⟨RX4, "thing", "(II)I"⟩
abbrev cX4_plainTable : ByteArray := prog_6_method_7_code
def yX4_plainTable : MethodName := ⟨RX4, "plainTable", "(I)V"⟩
abbrev cX4_isParent : ByteArray := prog_6_method_8_code
def yX4_isParent : MethodName := ⟨RX4, "isParent", "(II)Z"⟩
abbrev cX4_reach : ByteArray := prog_6_method_9_code
def yX4_reach : MethodName := ⟨RX4, "reach", "(IZ)V"⟩
abbrev cX4_arrow : ByteArray := prog_6_method_10_code
def yX4_arrow : MethodName := ⟨RX4, "arrow", "(II)I"⟩
abbrev cX4_cut : ByteArray := prog_6_method_11_code
def yX4_cut : MethodName := ⟨RX4, "cut", "(II)I"⟩
abbrev cX4_isWeight : ByteArray := prog_6_method_12_code
def yX4_isWeight : MethodName := ⟨RX4, "isWeight", "(III)Z"⟩
abbrev cX4_weight : ByteArray := prog_6_method_13_code
def yX4_weight : MethodName := ⟨RX4, "weight", "(IIII)I"⟩
abbrev cX4_told : ByteArray := prog_6_method_14_code
def yX4_told : MethodName := ⟨RX4, "told", "(III)I"⟩
abbrev cX4_isSound : ByteArray := prog_6_method_15_code
def yX4_isSound : MethodName := ⟨RX4, "isSound", "(I)Z"⟩
abbrev cX4_about : ByteArray := prog_6_method_16_code
def yX4_about : MethodName := ⟨RX4, "about", "(II)I"⟩
abbrev cX4_parent : ByteArray := prog_6_method_17_code
def yX4_parent : MethodName := ⟨RX4, "parent", "(II)I"⟩
abbrev cX4_isRough : ByteArray := prog_6_method_18_code
def yX4_isRough : MethodName := ⟨RX4, "isRough", "()Z"⟩
abbrev cX4_sound : ByteArray := prog_6_method_19_code
def yX4_sound : MethodName := ⟨RX4, "sound", "()I"⟩
abbrev cX4_mayBe : ByteArray := prog_6_method_20_code
def yX4_mayBe : MethodName := ⟨RX4, "mayBe", "(II)Z"⟩
abbrev cX4_becomes : ByteArray := prog_6_method_21_code
def yX4_becomes : MethodName := ⟨RX4, "becomes", "(III)I"⟩
abbrev cX4_see : ByteArray := prog_6_method_22_code
def yX4_see : MethodName := ⟨RX4, "see", "(II)I"⟩
abbrev cX4_act : ByteArray := prog_6_method_23_code
def yX4_act : MethodName := ⟨RX4, "act", "(II)I"⟩
abbrev cX4_force : ByteArray := prog_6_method_24_code
def yX4_force : MethodName := ⟨RX4, "force", "(III)I"⟩
abbrev cX4_firstWhole : ByteArray := prog_6_method_25_code
def yX4_firstWhole : MethodName := ⟨RX4, "firstWhole", "()V"⟩
abbrev cX4_nextWhole : ByteArray := prog_6_method_26_code
def yX4_nextWhole : MethodName := ⟨RX4, "nextWhole", "()Z"⟩
abbrev cX4_weigh : ByteArray := prog_6_method_27_code
def yX4_weigh : MethodName := ⟨RX4, "weigh", "()V"⟩
abbrev cX4_sum : ByteArray := prog_6_method_28_code
def yX4_sum : MethodName := ⟨RX4, "sum", "(IIII)J"⟩
abbrev cX4_all : ByteArray := prog_6_method_29_code
def yX4_all : MethodName := ⟨RX4, "all", "()J"⟩
abbrev cX4_common : ByteArray := prog_6_method_30_code
def yX4_common : MethodName := ⟨RX4, "common", "(JJ)J"⟩
abbrev cX4_tell : ByteArray := prog_6_method_31_code
def yX4_tell : MethodName := ⟨RX4, "tell", "(JJ)I"⟩
abbrev cX4_up : ByteArray := prog_6_method_32_code
def yX4_up : MethodName := ⟨RX4, "up", "()J"⟩
abbrev cX4_down : ByteArray := prog_6_method_33_code
def yX4_down : MethodName := ⟨RX4, "down", "()J"⟩
abbrev cX4_chance : ByteArray := prog_6_method_34_code
def yX4_chance : MethodName := ⟨RX4, "chance", "()I"⟩
abbrev cX4_refused : ByteArray := prog_6_method_35_code
def yX4_refused : MethodName := ⟨RX4, "refused", "()I"⟩
abbrev cX4_ask : ByteArray := prog_6_method_36_code
def yX4_ask : MethodName := ⟨RX4, "ask", "(II)I"⟩
abbrev cX4_both : ByteArray := prog_6_method_37_code
def yX4_both : MethodName := ⟨RX4, "both", "(IIII)I"⟩
abbrev cX4_most : ByteArray := prog_6_method_38_code
def yX4_most : MethodName := ⟨RX4, "most", "(I)I"⟩
abbrev cX4_likeliest : ByteArray := prog_6_method_39_code
def yX4_likeliest : MethodName := ⟨RX4, "likeliest", "(I)I"⟩
abbrev cX4_insert : ByteArray := prog_6_method_40_code
def yX4_insert : MethodName := ⟨RX4, "insert", "(II)I"⟩
abbrev cX4_at : ByteArray := prog_6_method_41_code
def yX4_at : MethodName := ⟨RX4, "at", "(I)I"⟩
abbrev cX4_wholes : ByteArray := prog_6_method_42_code
def yX4_wholes : MethodName := ⟨RX4, "wholes", "()I"⟩
abbrev cX4_leads : ByteArray := prog_6_method_43_code
def yX4_leads : MethodName := ⟨RX4, "leads", "(II)Z"⟩
abbrev cX4_passes : ByteArray := prog_6_method_44_code
def yX4_passes : MethodName := ⟨RX4, "passes", "(III)Z"⟩
abbrev cX4_apart : ByteArray := prog_6_method_45_code
def yX4_apart : MethodName := ⟨RX4, "apart", "(II)I"⟩
abbrev cX4_options : ByteArray := prog_6_method_46_code
def yX4_options : MethodName := ⟨RX4, "options", "(I)I"⟩
abbrev cX4_isOption : ByteArray := prog_6_method_47_code
def yX4_isOption : MethodName := ⟨RX4, "isOption", "(I)Z"⟩
abbrev cX4_worth : ByteArray := prog_6_method_48_code
def yX4_worth : MethodName := ⟨RX4, "worth", "(IIII)I"⟩
abbrev cX4_worthOf : ByteArray := prog_6_method_49_code
def yX4_worthOf : MethodName := ⟨RX4, "worthOf", "(III)J"⟩
abbrev cX4_greatest : ByteArray := prog_6_method_50_code
def yX4_greatest : MethodName := ⟨RX4, "greatest", "(II)J"⟩
abbrev cX4_expected : ByteArray := prog_6_method_51_code
def yX4_expected : MethodName := ⟨RX4, "expected", "(I)I"⟩
abbrev cX4_best : ByteArray := prog_6_method_52_code
def yX4_best : MethodName := ⟨RX4, "best", "()I"⟩
abbrev cX4_isKnown : ByteArray := prog_6_method_53_code
def yX4_isKnown : MethodName := ⟨RX4, "isKnown", "(I)Z"⟩
abbrev cX4_gainOf : ByteArray := prog_6_method_54_code
def yX4_gainOf : MethodName := ⟨RX4, "gainOf", "(I)J"⟩
abbrev cX4_gain : ByteArray := prog_6_method_55_code
def yX4_gain : MethodName := ⟨RX4, "gain", "(I)I"⟩
abbrev cX4_next : ByteArray := prog_6_method_56_code
def yX4_next : MethodName := ⟨RX4, "next", "()I"⟩
abbrev cX4_note : ByteArray := prog_6_method_57_code
def yX4_note : MethodName := ⟨RX4, "note", "(II)V"⟩
abbrev cX4_undo : ByteArray := prog_6_method_58_code
def yX4_undo : MethodName := ⟨RX4, "undo", "()I"⟩
abbrev cX4_count : ByteArray := prog_6_method_59_code
def yX4_count : MethodName := ⟨RX4, "count", "(I)I"⟩
def RJ9 : String := "java/lang/Math"
def TJ9 : u_T := fun k => match k with
  | _ => ("", "", "", false)
def tyJ9 : Nat → FieldType := fun k => match k with
  | _ => .int
abbrev wsJ90 : List Cond := u_ws RJ9 TJ9 0
theorem nmJ9 : ∀ a, a < 0 → ∀ b, b < 0 → a ≠ b → (TJ9 a).2.1 ≠ (TJ9 b).2.1 := by decide +kernel
theorem tyJ9_ok : ∀ k, k < 0 → parseFieldDescriptor (TJ9 k).2.2.1 = some (tyJ9 k) := by decide +kernel
abbrev cJ9_abs_067f4 : ByteArray := prog_7_method_61_code
def yJ9_abs_067f4 : MethodName := ⟨RJ9, "abs", "(J)J"⟩
abbrev cJ9_min_7cf53 : ByteArray := prog_7_method_69_code
def yJ9_min_7cf53 : MethodName := ⟨RJ9, "min", "(II)I"⟩
def RJ10 : String := "java/lang/System"
def TJ10 : u_T := fun k => match k with
  | _ => ("", "", "", false)
def tyJ10 : Nat → FieldType := fun k => match k with
  | _ => .int
abbrev wsJ100 : List Cond := u_ws RJ10 TJ10 0
theorem nmJ10 : ∀ a, a < 0 → ∀ b, b < 0 → a ≠ b → (TJ10 a).2.1 ≠ (TJ10 b).2.1 := by decide +kernel
theorem tyJ10_ok : ∀ k, k < 0 → parseFieldDescriptor (TJ10 k).2.2.1 = some (tyJ10 k) := by decide +kernel
def RL : String := "BeliefWebLaw"
abbrev cL_law : ByteArray := code
def yL_law : MethodName := ⟨RL, "law", "([I)Z"⟩
abbrev vwCl : List vw_C := [(RX0, TX0, 4), (RX1, TX1, 11), (RX2, TX2, 11), (RX3, TX3, 7), (RX4, TX4, 31)]
theorem inX0 : ∀ w ∈ wsX00, w ∈ lw_tbl := by
  intro w h
  rw [show wsX00 = [124, 126, 128, 130].filterMap (fun i => lw_tbl[i]?) from by decide +kernel] at h
  obtain ⟨i, -, hi⟩ := List.mem_filterMap.mp h
  exact List.mem_of_getElem? hi
theorem inX1 : ∀ w ∈ wsX10, w ∈ lw_tbl := by
  intro w h
  rw [show wsX10 = [156, 158, 160, 162, 164, 166, 168, 170, 172, 174, 176].filterMap (fun i => lw_tbl[i]?) from by decide +kernel] at h
  obtain ⟨i, -, hi⟩ := List.mem_filterMap.mp h
  exact List.mem_of_getElem? hi
theorem inX2 : ∀ w ∈ wsX20, w ∈ lw_tbl := by
  intro w h
  rw [show wsX20 = [87, 89, 91, 93, 95, 97, 99, 101, 103, 105, 107].filterMap (fun i => lw_tbl[i]?) from by decide +kernel] at h
  obtain ⟨i, -, hi⟩ := List.mem_filterMap.mp h
  exact List.mem_of_getElem? hi
theorem inX3 : ∀ w ∈ wsX30, w ∈ lw_tbl := by
  intro w h
  rw [show wsX30 = [187, 189, 191, 193, 195, 197, 199].filterMap (fun i => lw_tbl[i]?) from by decide +kernel] at h
  obtain ⟨i, -, hi⟩ := List.mem_filterMap.mp h
  exact List.mem_of_getElem? hi
theorem inX4 : ∀ w ∈ wsX40, w ∈ lw_tbl := by
  intro w h
  rw [show wsX40 = [599, 601, 603, 605, 607, 609, 611, 613, 615, 617, 619, 621, 623, 625, 627, 629, 631, 633, 635, 637, 639, 641, 643, 645, 647, 649, 651, 653, 655, 657, 659].filterMap (fun i => lw_tbl[i]?) from by decide +kernel] at h
  obtain ⟨i, -, hi⟩ := List.mem_filterMap.mp h
  exact List.mem_of_getElem? hi
end
section
/-! THE ABSTRACT MACHINE: values, memory by cell number and place, one step of the bytecode in continuation form, runs, calls by depth. Nothing of the class stands here but the shapes bw_kd, bw_len, bw_cls, bw_rf, bw_ft. -/
abbrev bwV : Type := Int32 ⊕ (Int64 ⊕ Nat)
abbrev bwM : Type := (Nat → Nat → Int32) × (Nat → Nat → Int64)
abbrev bwR : Type := Option bwV × bwM
/-- an instruction's row: pc, instruction, length, an int constant, two numbers, the slots that are forgotten on arrival, a switch's targets -/
abbrev bwE : Type := Nat × Instr × Nat × Int32 × Nat × Nat × List Nat × List (Int32 × Nat)
def bw_si (μ : bwM) (o j : Nat) (x : Int32) : bwM := (fun o' j' => if o' = o ∧ j' = j then x else μ.1 o' j', μ.2)
def bw_sl (μ : bwM) (o j : Nat) (x : Int64) : bwM := (μ.1, fun o' j' => if o' = o ∧ j' = j then x else μ.2 o' j')
def bw_cp (μ : bwM) (o1 o2 sp dp n : Nat) : bwM := (fun o' j' => if o' = o2 ∧ (dp ≤ j' ∧ j' < dp + n) then μ.1 o1 (sp + (j' - dp)) else μ.1 o' j', μ.2)
abbrev bw_in (i : Int32) (n : Nat) : Prop := 0 ≤ i ∧ i.toNatClampNeg < n
def bw_gI {β : Type} (v : bwV) (f : β) (k : Int32 → β) : β := match v with
  | .inl x => k x
  | _ => f
def bw_gL {β : Type} (v : bwV) (f : β) (k : Int64 → β) : β := match v with
  | .inr (.inl x) => k x
  | _ => f
def bw_gR {β : Type} (v : bwV) (f : β) (k : Nat → β) : β := match v with
  | .inr (.inr x) => k x
  | _ => f
def bw_pp {β : Type} (st : List bwV) (f : β) (k : bwV → List bwV → β) : β := match st with
  | v :: r => k v r
  | [] => f
def bw_lk {β : Type} (o : Option (Option bwV)) (f : β) (k : bwV → β) : β := match o with
  | some (some v) => k v
  | _ => f
def bw_nl {β : Type} (st : List bwV) (f : β) (k : β) : β := match st with
  | [] => k
  | _ => f
def bw_bI {β : Type} (r : Option bwR) (f : β) (k : Int32 → bwM → β) : β := match r with
  | some (some (.inl x), μ) => k x μ
  | _ => f
def bw_bL {β : Type} (r : Option bwR) (f : β) (k : Int64 → bwM → β) : β := match r with
  | some (some (.inr (.inl x)), μ) => k x μ
  | _ => f
def bw_bV {β : Type} (r : Option bwR) (f : β) (k : bwM → β) : β := match r with
  | some (none, μ) => k μ
  | _ => f
def bw_sw {β : Type} (x : Int32) (l : List (Int32 × Nat)) (d : β) (k : Nat → β) : β := match l with
  | [] => d
  | q :: r => if x = q.1 then k q.2 else bw_sw x r d k
/-- n arguments off the stack, the first one first -/
def bw_ar {β : Type} (n : Nat) (st acc : List bwV) (f : β) (k : List bwV → List bwV → β) : β := match n with
  | 0 => k acc st
  | n + 1 => match st with
    | v :: r => bw_ar n r (v :: acc) f k
    | [] => f
def bw_rc {β : Type} (as : List bwV) (c : Nat) (cls : Nat → Nat) (f k : β) : β := match as with
  | .inr (.inr o) :: _ => bif Nat.beq (cls o) c then k else f
  | _ => f
def bw_isL (v : bwV) : Bool := match v with
  | .inr (.inl _) => true
  | _ => false
def bw_wd (st : List bwV) : Nat := match st with
  | [] => 0
  | v :: r => (match v with
    | .inr (.inl _) => 2
    | _ => 1) + bw_wd r
def bw_set (ls : List (Option bwV)) (i : Nat) (v : Option bwV) : List (Option bwV) := match ls, i with
  | [], _ => []
  | _ :: r, 0 => v :: r
  | a :: r, i + 1 => a :: bw_set r i v
def bw_get (ls : List (Option bwV)) (i : Nat) : Option (Option bwV) := match ls, i with
  | [], _ => none
  | a :: _, 0 => some a
  | _ :: r, i + 1 => bw_get r i
def bw_forget (ks : List Nat) (ls : List (Option bwV)) : List (Option bwV) := match ks with
  | [] => ls
  | k :: r => bw_forget r (bw_set ls k none)
/-- a long that begins one slot ahead goes -/
def bw_clr (ls : List (Option bwV)) (i : Nat) : List (Option bwV) := match i with
  | 0 => ls
  | j + 1 => match bw_get ls j with
    | some (some (.inr (.inl _))) => bw_set ls j none
    | _ => ls
def bw_put (ls : List (Option bwV)) (i : Nat) (v : bwV) : List (Option bwV) := bw_set (bw_clr ls i) i (some v)
def bw_putL (ls : List (Option bwV)) (i : Nat) (v : Int64) : List (Option bwV) := bw_set (bw_set (bw_clr ls i) i (some (.inr (.inl v)))) (i + 1) none
def bw_loc (args : List bwV) (n : Nat) : List (Option bwV) := match n with
  | 0 => []
  | n + 1 => match args with
    | [] => none :: bw_loc [] n
    | .inr (.inl y) :: r => match n with
      | 0 => [some (.inr (.inl y))]
      | n + 1 => some (.inr (.inl y)) :: none :: bw_loc r n
    | v :: r => some v :: bw_loc r n
-- the shapes: 0 .. 29 the class's cells, 30 .. 52 the reference's, 60 the script
def bw_kd (o : Nat) : Nat := match o with
  | 0 => 0 | 2 => 0 | 12 => 0 | 22 => 0 | 24 => 0 | 30 => 0
  | 27 => 2 | 28 => 2 | 43 => 2
  | 40 => 3 | 47 => 3
  | _ => 1
def bw_cls (o : Nat) : Nat := match o with
  | 0 => 3 | 2 => 2 | 12 => 2 | 22 => 0 | 24 => 1 | 30 => 4
  | _ => 9
def bw_len (o : Nat) : Nat := match o with
  | 6 => 36 | 7 => 3072 | 10 => 48 | 11 => 288
  | 16 => 36 | 17 => 3072 | 20 => 48 | 21 => 288
  | 23 => 500 | 27 => 48 | 28 => 10 | 29 => 10
  | 34 => 36 | 35 => 3072 | 38 => 48 | 39 => 288
  | 43 => 10 | 44 => 120 | 45 => 13 | 46 => 13
  | 48 => 100 | 49 => 100 | 50 => 100 | 51 => 100 | 52 => 30000
  | _ => 12
def bw_rf (o a : Nat) : Nat := match o, a with
  | 0, 0 => 2 | 0, 1 => 22 | 0, 2 => 24 | 0, 3 => 1
  | 2, a => a + 1
  | 12, a => a + 11
  | 22, 0 => 12 | 22, 1 => 23
  | 24, a => a + 25
  | 30, 2 => 31 | 30, 3 => 32 | 30, 4 => 33 | 30, 5 => 34 | 30, 6 => 35 | 30, 7 => 36 | 30, 8 => 37 | 30, 9 => 38
  | 30, 11 => 39 | 30, 12 => 40 | 30, 13 => 41 | 30, 17 => 42 | 30, 19 => 43 | 30, 20 => 44
  | 30, 21 => 45 | 30, 22 => 46 | 30, 23 => 47 | 30, 26 => 48 | 30, 27 => 49 | 30, 28 => 50 | 30, 29 => 51 | 30, 30 => 52
  | _, _ => 0
/-- a class's field: 0 int, 1 long, 2 a reference -/
def bw_ft (c a : Nat) : Nat := match c, a with
  | 0, 2 => 0 | 0, 3 => 0
  | 1, 5 => 0 | 1, 6 => 0 | 1, 7 => 0 | 1, 8 => 0 | 1, 9 => 0 | 1, 10 => 1
  | 2, 0 => 0 | 2, 1 => 0
  | 3, 4 => 0 | 3, 5 => 1 | 3, 6 => 1
  | 4, 0 => 0 | 4, 1 => 0 | 4, 10 => 0 | 4, 14 => 1 | 4, 15 => 1 | 4, 16 => 1 | 4, 18 => 0 | 4, 24 => 0 | 4, 25 => 0
  | _, _ => 2
def bw_nf (c : Nat) : Nat := match c with
  | 0 => 4 | 1 => 11 | 2 => 11 | 3 => 7 | 4 => 31
  | _ => 0
def bw_i2 {β : Type} (st : List bwV) (f : β) (k : Int32 → Int32 → List bwV → β) : β := bw_pp st f fun v1 r1 => bw_pp r1 f fun v2 r2 => bw_gI v1 f fun y => bw_gI v2 f fun x => k x y r2
def bw_l2 {β : Type} (st : List bwV) (f : β) (k : Int64 → Int64 → List bwV → β) : β := bw_pp st f fun v1 r1 => bw_pp r1 f fun v2 r2 => bw_gL v1 f fun y => bw_gL v2 f fun x => k x y r2
def bw_i1 {β : Type} (st : List bwV) (f : β) (k : Int32 → List bwV → β) : β := bw_pp st f fun v1 r1 => bw_gI v1 f fun x => k x r1
def bw_l1 {β : Type} (st : List bwV) (f : β) (k : Int64 → List bwV → β) : β := bw_pp st f fun v1 r1 => bw_gL v1 f fun x => k x r1
def bw_r1 {β : Type} (st : List bwV) (f : β) (k : Nat → List bwV → β) : β := bw_pp st f fun v1 r1 => bw_gR v1 f fun x => k x r1
/-- one step: 'call' what a callee gives; sl, sx the script (its length and one, or 0: none); rt what the method returns (0 nothing, 1 int, 2 long, 3 boolean); ret, f, k: what comes behind a return, a fault, a step -/
def bw_step {β : Type} (call : Nat → List bwV → bwM → Option bwR) (sl : Nat) (sx : Nat → Int32) (rt : Nat) (ins : Instr) (len : Nat) (v : Int32) (a b : Nat) (sw : List (Int32 × Nat)) (pc : Nat) (ls : List (Option bwV)) (st : List bwV) (μ : bwM) (ret : bwR → β) (f : β) (k : Nat → List (Option bwV) → List bwV → bwM → β) : β :=
  match ins with
  | .iconst _ => k (pc + len) ls (.inl v :: st) μ
  | .bipush _ => k (pc + len) ls (.inl v :: st) μ
  | .sipush _ => k (pc + len) ls (.inl v :: st) μ
  | .lconst _ => k (pc + len) ls (.inr (.inl (Int64.ofNat a)) :: st) μ
  | .ldc2_w _ => k (pc + len) ls (.inr (.inl (Int64.ofNat a)) :: st) μ
  | .iload_n _ => bw_lk (bw_get ls a) f fun x => bw_gI x f fun x => k (pc + len) ls (.inl x :: st) μ
  | .iload _ => bw_lk (bw_get ls a) f fun x => bw_gI x f fun x => k (pc + len) ls (.inl x :: st) μ
  | .lload_n _ => bw_lk (bw_get ls a) f fun x => bw_gL x f fun x => k (pc + len) ls (.inr (.inl x) :: st) μ
  | .lload _ => bw_lk (bw_get ls a) f fun x => bw_gL x f fun x => k (pc + len) ls (.inr (.inl x) :: st) μ
  | .aload_n _ => bw_lk (bw_get ls a) f fun x => bw_gR x f fun x => k (pc + len) ls (.inr (.inr x) :: st) μ
  | .aload _ => bw_lk (bw_get ls a) f fun x => bw_gR x f fun x => k (pc + len) ls (.inr (.inr x) :: st) μ
  | .istore_n _ => bw_i1 st f fun x r => k (pc + len) (bw_put ls a (.inl x)) r μ
  | .istore _ => bw_i1 st f fun x r => k (pc + len) (bw_put ls a (.inl x)) r μ
  | .lstore_n _ => bw_l1 st f fun x r => k (pc + len) (bw_putL ls a x) r μ
  | .lstore _ => bw_l1 st f fun x r => k (pc + len) (bw_putL ls a x) r μ
  | .iinc _ _ => bw_lk (bw_get ls a) f fun x => bw_gI x f fun x => k (pc + len) (bw_put ls a (.inl (x + v))) st μ
  | .iadd => bw_i2 st f fun x y r => k (pc + len) ls (.inl (x + y) :: r) μ
  | .isub => bw_i2 st f fun x y r => k (pc + len) ls (.inl (x - y) :: r) μ
  | .imul => bw_i2 st f fun x y r => k (pc + len) ls (.inl (x * y) :: r) μ
  | .irem => bw_i2 st f fun x y r => if y = 0 then f else k (pc + len) ls (.inl (x - x / y * y) :: r) μ
  | .ior => bw_i2 st f fun x y r => k (pc + len) ls (.inl (x ||| y) :: r) μ
  | .iand => bw_i2 st f fun x y r => k (pc + len) ls (.inl (x &&& y) :: r) μ
  | .ixor => bw_i2 st f fun x y r => k (pc + len) ls (.inl (x ^^^ y) :: r) μ
  | .ishl => bw_i2 st f fun x y r => k (pc + len) ls (.inl (x <<< (y &&& 31)) :: r) μ
  | .ishr => bw_i2 st f fun x y r => k (pc + len) ls (.inl (x >>> (y &&& 31)) :: r) μ
  | .ladd => bw_l2 st f fun x y r => k (pc + len) ls (.inr (.inl (x + y)) :: r) μ
  | .lsub => bw_l2 st f fun x y r => k (pc + len) ls (.inr (.inl (x - y)) :: r) μ
  | .lmul => bw_l2 st f fun x y r => k (pc + len) ls (.inr (.inl (x * y)) :: r) μ
  | .ldiv => bw_l2 st f fun x y r => if y = 0 then f else k (pc + len) ls (.inr (.inl (x / y)) :: r) μ
  | .lrem => bw_l2 st f fun x y r => if y = 0 then f else k (pc + len) ls (.inr (.inl (x - x / y * y)) :: r) μ
  | .lneg => bw_l1 st f fun x r => k (pc + len) ls (.inr (.inl (-x)) :: r) μ
  | .i2l => bw_i1 st f fun x r => k (pc + len) ls (.inr (.inl x.toInt64) :: r) μ
  | .lcmp => bw_l2 st f fun x y r => k (pc + len) ls (.inl (lg_cmp x y) :: r) μ
  | .dup => bw_pp st f fun x r => bif bw_isL x then f else k (pc + len) ls (x :: x :: r) μ
  | .dup2 => bw_pp st f fun x r => bw_pp r f fun y r => bif bw_isL x || bw_isL y then f else k (pc + len) ls (x :: y :: x :: y :: r) μ
  | .goto _ => k a ls st μ
  | .ifCond c _ => match c with
    | .eq => bw_i1 st f fun x r => if x = 0 then k a ls r μ else k (pc + len) ls r μ
    | .ne => bw_i1 st f fun x r => if x = 0 then k (pc + len) ls r μ else k a ls r μ
    | .lt => bw_i1 st f fun x r => if x < 0 then k a ls r μ else k (pc + len) ls r μ
    | .ge => bw_i1 st f fun x r => if 0 ≤ x then k a ls r μ else k (pc + len) ls r μ
    | .gt => bw_i1 st f fun x r => if 0 < x then k a ls r μ else k (pc + len) ls r μ
    | .le => bw_i1 st f fun x r => if x ≤ 0 then k a ls r μ else k (pc + len) ls r μ
  | .if_icmp c _ => match c with
    | .eq => bw_i2 st f fun x y r => if x = y then k a ls r μ else k (pc + len) ls r μ
    | .ne => bw_i2 st f fun x y r => if x = y then k (pc + len) ls r μ else k a ls r μ
    | .lt => bw_i2 st f fun x y r => if x < y then k a ls r μ else k (pc + len) ls r μ
    | .ge => bw_i2 st f fun x y r => if y ≤ x then k a ls r μ else k (pc + len) ls r μ
    | .gt => bw_i2 st f fun x y r => if y < x then k a ls r μ else k (pc + len) ls r μ
    | .le => bw_i2 st f fun x y r => if x ≤ y then k a ls r μ else k (pc + len) ls r μ
  | .tableswitch _ _ _ _ => bw_i1 st f fun x r => bw_sw x sw (k a ls r μ) fun t => k t ls r μ
  | .getfield _ => bw_r1 st f fun o r => bif Nat.beq (bw_cls o) b then (match bw_ft b a with
      | 0 => k (pc + len) ls (.inl (μ.1 o a) :: r) μ
      | 1 => k (pc + len) ls (.inr (.inl (μ.2 o a)) :: r) μ
      | _ => k (pc + len) ls (.inr (.inr (bw_rf o a)) :: r) μ) else f
  | .putfield _ => bw_pp st f fun x r => bw_r1 r f fun o r => bif Nat.beq (bw_cls o) b then (match bw_ft b a with
      | 0 => bw_gI x f fun x => k (pc + len) ls r (bw_si μ o a x)
      | 1 => bw_gL x f fun x => k (pc + len) ls r (bw_sl μ o a x)
      | _ => f) else f
  | .iaload => bw_i1 st f fun i r => bw_r1 r f fun o r => bif Nat.beq o 60 then (if bw_in i (sl - 1) then k (pc + len) ls (.inl (sx i.toNatClampNeg) :: r) μ else f) else bif Nat.blt o 53 && Nat.beq (bw_kd o) 1 then (if bw_in i (bw_len o) then k (pc + len) ls (.inl (μ.1 o i.toNatClampNeg) :: r) μ else f) else f
  | .laload => bw_i1 st f fun i r => bw_r1 r f fun o r => bif Nat.blt o 53 && Nat.beq (bw_kd o) 2 then (if bw_in i (bw_len o) then k (pc + len) ls (.inr (.inl (μ.2 o i.toNatClampNeg)) :: r) μ else f) else f
  | .baload => bw_i1 st f fun i r => bw_r1 r f fun o r => bif Nat.blt o 53 && Nat.beq (bw_kd o) 3 then (if bw_in i (bw_len o) then k (pc + len) ls (.inl (μ.1 o i.toNatClampNeg) :: r) μ else f) else f
  | .iastore => bw_i1 st f fun x r => bw_i1 r f fun i r => bw_r1 r f fun o r => bif Nat.blt o 53 && Nat.beq (bw_kd o) 1 then (if bw_in i (bw_len o) then k (pc + len) ls r (bw_si μ o i.toNatClampNeg x) else f) else f
  | .lastore => bw_l1 st f fun x r => bw_i1 r f fun i r => bw_r1 r f fun o r => bif Nat.blt o 53 && Nat.beq (bw_kd o) 2 then (if bw_in i (bw_len o) then k (pc + len) ls r (bw_sl μ o i.toNatClampNeg x) else f) else f
  | .bastore => bw_i1 st f fun x r => bw_i1 r f fun i r => bw_r1 r f fun o r => bif Nat.blt o 53 && Nat.beq (bw_kd o) 3 then (if bw_in i (bw_len o) then k (pc + len) ls r (bw_si μ o i.toNatClampNeg (vp_nar .boolean x)) else f) else f
  | .arraylength => bw_r1 st f fun o r => bif Nat.beq o 60 then (bif Nat.beq sl 0 then f else k (pc + len) ls (.inl (Int32.ofNat (sl - 1)) :: r) μ) else bif Nat.blt o 53 && Nat.beq (bw_kd o) 1 then k (pc + len) ls (.inl (Int32.ofNat (bw_len o)) :: r) μ else f
  | .invokevirtual _ => bw_ar (b / 10 % 100) st [] f fun as r => bw_rc as (b / 1000) bw_cls f (bif Nat.ble (bw_wd r) 8 then (match b % 10 with
      | 0 => bw_bV (call a as μ) f fun μ => k (pc + len) ls r μ
      | 2 => bw_bL (call a as μ) f fun x μ => k (pc + len) ls (.inr (.inl x) :: r) μ
      | _ => bw_bI (call a as μ) f fun x μ => k (pc + len) ls (.inl x :: r) μ) else f)
  | .invokestatic _ => bif Nat.beq b 998 then (bw_i2 st f fun x y r => bif Nat.ble (bw_wd r) 8 then k (pc + len) ls (.inl (if y < x then y else x) :: r) μ else f) else bif Nat.beq b 997 then (bw_l1 st f fun x r => bif Nat.ble (bw_wd r) 8 then k (pc + len) ls (.inr (.inl (if 0 < x then x else -x)) :: r) μ else f) else bif Nat.beq b 999 then (bw_i1 st f fun n r => bw_i1 r f fun dp r => bw_r1 r f fun o2 r => bw_i1 r f fun sp r => bw_r1 r f fun o1 r => bw_nl r f (bif (Nat.blt o1 53 && Nat.beq (bw_kd o1) 1) && (Nat.blt o2 53 && Nat.beq (bw_kd o2) 1) then (if (0 ≤ sp ∧ 0 ≤ dp) ∧ (0 ≤ n ∧ sp.toNatClampNeg + n.toNatClampNeg ≤ bw_len o1 ∧ dp.toNatClampNeg + n.toNatClampNeg ≤ bw_len o2) then k (pc + len) ls [] (bw_cp μ o1 o2 sp.toNatClampNeg dp.toNatClampNeg n.toNatClampNeg) else f) else f)) else
      bw_ar (b / 10 % 100) st [] f fun as r => bif Nat.ble (bw_wd r) 8 then (match b % 10 with
      | 0 => bw_bV (call a as μ) f fun μ => k (pc + len) ls r μ
      | 2 => bw_bL (call a as μ) f fun x μ => k (pc + len) ls (.inr (.inl x) :: r) μ
      | _ => bw_bI (call a as μ) f fun x μ => k (pc + len) ls (.inl x :: r) μ) else f
  | .ireturn => bw_i1 st f fun x r => bw_nl r f (match rt with
      | 1 => ret (some (.inl x), μ)
      | 3 => if x = 0 ∨ x = 1 then ret (some (.inl x), μ) else f
      | _ => f)
  | .lreturn => bw_l1 st f fun x r => bw_nl r f (match rt with
      | 2 => ret (some (.inr (.inl x)), μ)
      | _ => f)
  | .return_ => bw_nl st f (match rt with
      | 0 => ret (none, μ)
      | _ => f)
  | _ => f
def bw_find (t : List bwE) (pc : Nat) : Option bwE := match t with
  | [] => none
  | e :: r => bif Nat.beq e.1 pc then some e else bw_find r pc
def bw_run (call : Nat → List bwV → bwM → Option bwR) (sl : Nat) (sx : Nat → Int32) (rt : Nat) (t : List bwE) : Nat → Nat → List (Option bwV) → List bwV → bwM → Option bwR
  | 0, _, _, _, _ => none
  | n + 1, pc, ls, st, μ => match bw_find t pc with
    | some (_, ins, len, v, a, b, fg, sw) => bw_step call sl sx rt ins len v a b sw pc (bw_forget fg ls) st μ some none (bw_run call sl sx rt t n)
    | none => none
noncomputable def bw_ex (call : Nat → List bwV → bwM → Option bwR) (sl : Nat) (sx : Nat → Int32) (rt : Nat) (t : List bwE) (pc : Nat) (ls : List (Option bwV)) (st : List bwV) (μ : bwM) : Option bwR :=
  @dite _ (∃ r : bwR, ∃ n : Nat, bw_run call sl sx rt t n pc ls st μ = some r) (Classical.propDecidable _) (fun h => some (Classical.choose h)) (fun _ => none)
/-- at most one of: a return, a fault, one step -/
def bw_lin (F : (β : Type) → (bwR → β) → β → (Nat → List (Option bwV) → List bwV → bwM → β) → β) : Prop :=
  (∃ c : bwR, ∀ (β : Type) (r : bwR → β) (f : β) (k : Nat → List (Option bwV) → List bwV → bwM → β), F β r f k = r c) ∨ (∀ (β : Type) (r : bwR → β) (f : β) (k : Nat → List (Option bwV) → List bwV → bwM → β), F β r f k = f) ∨ (∃ (pc : Nat) (ls : List (Option bwV)) (st : List bwV) (μ : bwM), ∀ (β : Type) (r : bwR → β) (f : β) (k : Nat → List (Option bwV) → List bwV → bwM → β), F β r f k = k pc ls st μ)
theorem bw_linR (c : bwR) : bw_lin (fun β r f k => r c) := Or.inl ⟨c, fun _ _ _ _ => rfl⟩
theorem bw_linF : bw_lin (fun β r f k => f) := Or.inr (Or.inl fun _ _ _ _ => rfl)
theorem bw_linK (pc : Nat) (ls : List (Option bwV)) (st : List bwV) (μ : bwM) : bw_lin (fun β r f k => k pc ls st μ) := Or.inr (Or.inr ⟨pc, ls, st, μ, fun _ _ _ _ => rfl⟩)
section LIN
variable {F G : (β : Type) → (bwR → β) → β → (Nat → List (Option bwV) → List bwV → bwM → β) → β}
theorem bw_linIte {c : Prop} [d : Decidable c] (hF : bw_lin F) (hG : bw_lin G) : bw_lin (fun β r f k => if c then F β r f k else G β r f k) := by
  by_cases h : c
  · simp only [h, if_true]; exact hF
  · simp only [h, if_false]; exact hG
theorem bw_linB {c : Bool} (hF : bw_lin F) (hG : bw_lin G) : bw_lin (fun β r f k => bif c then F β r f k else G β r f k) := by
  cases c
  · exact hG
  · exact hF
theorem bw_linGI {v : bwV} {F : Int32 → (β : Type) → (bwR → β) → β → (Nat → List (Option bwV) → List bwV → bwM → β) → β} (h : ∀ x, bw_lin (F x)) : bw_lin (fun β r f k => bw_gI v f fun x => F x β r f k) := by
  rcases v with x | x | x
  · exact h x
  · exact bw_linF
  · exact bw_linF
theorem bw_linGL {v : bwV} {F : Int64 → (β : Type) → (bwR → β) → β → (Nat → List (Option bwV) → List bwV → bwM → β) → β} (h : ∀ x, bw_lin (F x)) : bw_lin (fun β r f k => bw_gL v f fun x => F x β r f k) := by
  rcases v with x | x | x
  · exact bw_linF
  · exact h x
  · exact bw_linF
theorem bw_linGR {v : bwV} {F : Nat → (β : Type) → (bwR → β) → β → (Nat → List (Option bwV) → List bwV → bwM → β) → β} (h : ∀ x, bw_lin (F x)) : bw_lin (fun β r f k => bw_gR v f fun x => F x β r f k) := by
  rcases v with x | x | x
  · exact bw_linF
  · exact bw_linF
  · exact h x
theorem bw_linPP {st : List bwV} {F : bwV → List bwV → (β : Type) → (bwR → β) → β → (Nat → List (Option bwV) → List bwV → bwM → β) → β} (h : ∀ v q, bw_lin (F v q)) : bw_lin (fun β r f k => bw_pp st f fun v q => F v q β r f k) := by
  rcases st with _ | ⟨v, q⟩
  · exact bw_linF
  · exact h v q
theorem bw_linLk {o : Option (Option bwV)} {F : bwV → (β : Type) → (bwR → β) → β → (Nat → List (Option bwV) → List bwV → bwM → β) → β} (h : ∀ v, bw_lin (F v)) : bw_lin (fun β r f k => bw_lk o f fun v => F v β r f k) := by
  rcases o with _ | _ | v
  · exact bw_linF
  · exact bw_linF
  · exact h v
theorem bw_linNl {st : List bwV} (h : bw_lin F) : bw_lin (fun β r f k => bw_nl st f (F β r f k)) := by
  rcases st with _ | ⟨v, q⟩
  · exact h
  · exact bw_linF
theorem bw_linBI {o : Option bwR} {F : Int32 → bwM → (β : Type) → (bwR → β) → β → (Nat → List (Option bwV) → List bwV → bwM → β) → β} (h : ∀ x μ, bw_lin (F x μ)) : bw_lin (fun β r f k => bw_bI o f fun x μ => F x μ β r f k) := by
  rcases o with _ | ⟨_ | x | x | x, μ⟩
  · exact bw_linF
  · exact bw_linF
  · exact h x μ
  · exact bw_linF
  · exact bw_linF
theorem bw_linBL {o : Option bwR} {F : Int64 → bwM → (β : Type) → (bwR → β) → β → (Nat → List (Option bwV) → List bwV → bwM → β) → β} (h : ∀ x μ, bw_lin (F x μ)) : bw_lin (fun β r f k => bw_bL o f fun x μ => F x μ β r f k) := by
  rcases o with _ | ⟨_ | x | x | x, μ⟩
  · exact bw_linF
  · exact bw_linF
  · exact bw_linF
  · exact h x μ
  · exact bw_linF
theorem bw_linBV {o : Option bwR} {F : bwM → (β : Type) → (bwR → β) → β → (Nat → List (Option bwV) → List bwV → bwM → β) → β} (h : ∀ μ, bw_lin (F μ)) : bw_lin (fun β r f k => bw_bV o f fun μ => F μ β r f k) := by
  rcases o with _ | ⟨_ | x, μ⟩
  · exact bw_linF
  · exact h μ
  · exact bw_linF
theorem bw_linRc {as : List bwV} {c : Nat} {cls : Nat → Nat} (h : bw_lin F) : bw_lin (fun β r f k => bw_rc as c cls f (F β r f k)) := by
  rcases as with _ | ⟨x | x | x, q⟩
  · exact bw_linF
  · exact bw_linF
  · exact bw_linF
  · exact bw_linB h bw_linF
theorem bw_linSw {x : Int32} {l : List (Int32 × Nat)} {F : Nat → (β : Type) → (bwR → β) → β → (Nat → List (Option bwV) → List bwV → bwM → β) → β} (hG : bw_lin G) (h : ∀ t, bw_lin (F t)) : bw_lin (fun β r f k => bw_sw x l (G β r f k) fun t => F t β r f k) := by
  induction l with
  | nil => exact hG
  | cons q l ih => exact bw_linIte (h q.2) ih
theorem bw_linAr {n : Nat} {F : List bwV → List bwV → (β : Type) → (bwR → β) → β → (Nat → List (Option bwV) → List bwV → bwM → β) → β} (h : ∀ as q, bw_lin (F as q)) : ∀ st acc : List bwV, bw_lin (fun β r f k => bw_ar n st acc f fun as q => F as q β r f k) := by
  induction n with
  | zero => intro st acc; exact h acc st
  | succ n ih =>
    intro st acc
    rcases st with _ | ⟨v, q⟩
    · exact bw_linF
    · exact ih q (v :: acc)
theorem bw_linI1 {st : List bwV} {F : Int32 → List bwV → (β : Type) → (bwR → β) → β → (Nat → List (Option bwV) → List bwV → bwM → β) → β} (h : ∀ x q, bw_lin (F x q)) : bw_lin (fun β r f k => bw_i1 st f fun x q => F x q β r f k) := bw_linPP fun _ q => bw_linGI fun x => h x q
theorem bw_linL1 {st : List bwV} {F : Int64 → List bwV → (β : Type) → (bwR → β) → β → (Nat → List (Option bwV) → List bwV → bwM → β) → β} (h : ∀ x q, bw_lin (F x q)) : bw_lin (fun β r f k => bw_l1 st f fun x q => F x q β r f k) := bw_linPP fun _ q => bw_linGL fun x => h x q
theorem bw_linR1 {st : List bwV} {F : Nat → List bwV → (β : Type) → (bwR → β) → β → (Nat → List (Option bwV) → List bwV → bwM → β) → β} (h : ∀ x q, bw_lin (F x q)) : bw_lin (fun β r f k => bw_r1 st f fun x q => F x q β r f k) := bw_linPP fun _ q => bw_linGR fun x => h x q
theorem bw_linI2 {st : List bwV} {F : Int32 → Int32 → List bwV → (β : Type) → (bwR → β) → β → (Nat → List (Option bwV) → List bwV → bwM → β) → β} (h : ∀ x y q, bw_lin (F x y q)) : bw_lin (fun β r f k => bw_i2 st f fun x y q => F x y q β r f k) := bw_linPP fun _ _ => bw_linPP fun _ q => bw_linGI fun y => bw_linGI fun x => h x y q
theorem bw_linL2 {st : List bwV} {F : Int64 → Int64 → List bwV → (β : Type) → (bwR → β) → β → (Nat → List (Option bwV) → List bwV → bwM → β) → β} (h : ∀ x y q, bw_lin (F x y q)) : bw_lin (fun β r f k => bw_l2 st f fun x y q => F x y q β r f k) := bw_linPP fun _ _ => bw_linPP fun _ q => bw_linGL fun y => bw_linGL fun x => h x y q
end LIN
theorem bw_linCall (call : Nat → List bwV → bwM → Option bwR) (len a b : Nat) (pc : Nat) (ls : List (Option bwV)) (st : List bwV) (μ : bwM) : bw_lin (fun β r f k => bw_ar (b / 10 % 100) st [] f fun as q => bif Nat.ble (bw_wd q) 8 then (match b % 10 with
      | 0 => bw_bV (call a as μ) f fun μ => k (pc + len) ls q μ
      | 2 => bw_bL (call a as μ) f fun x μ => k (pc + len) ls (.inr (.inl x) :: q) μ
      | _ => bw_bI (call a as μ) f fun x μ => k (pc + len) ls (.inl x :: q) μ) else f) := by
  refine bw_linAr (fun as q => bw_linB ?_ bw_linF) st []
  split
  · exact bw_linBV fun μ => bw_linK _ _ _ _
  · exact bw_linBL fun x μ => bw_linK _ _ _ _
  · exact bw_linBI fun x μ => bw_linK _ _ _ _
set_option maxHeartbeats 4000000 in
theorem bw_shape (call : Nat → List bwV → bwM → Option bwR) (sl : Nat) (sx : Nat → Int32) (rt : Nat) (ins : Instr) (len : Nat) (v : Int32) (a b : Nat) (sw : List (Int32 × Nat)) (pc : Nat) (ls : List (Option bwV)) (st : List bwV) (μ : bwM) : bw_lin (fun β r f k => bw_step (β := β) call sl sx rt ins len v a b sw pc ls st μ r f k) := by
  unfold bw_step
  split
  iterate 5 exact bw_linK _ _ _ _
  iterate 2 exact bw_linLk fun x => bw_linGI fun x => bw_linK _ _ _ _
  iterate 2 exact bw_linLk fun x => bw_linGL fun x => bw_linK _ _ _ _
  iterate 2 exact bw_linLk fun x => bw_linGR fun x => bw_linK _ _ _ _
  iterate 2 exact bw_linI1 fun x q => bw_linK _ _ _ _
  iterate 2 exact bw_linL1 fun x q => bw_linK _ _ _ _
  · exact bw_linLk fun x => bw_linGI fun x => bw_linK _ _ _ _
  iterate 3 exact bw_linI2 fun x y q => bw_linK _ _ _ _
  · exact bw_linI2 fun x y q => bw_linIte bw_linF (bw_linK _ _ _ _)
  iterate 5 exact bw_linI2 fun x y q => bw_linK _ _ _ _
  iterate 3 exact bw_linL2 fun x y q => bw_linK _ _ _ _
  iterate 2 exact bw_linL2 fun x y q => bw_linIte bw_linF (bw_linK _ _ _ _)
  · exact bw_linL1 fun x q => bw_linK _ _ _ _
  · exact bw_linI1 fun x q => bw_linK _ _ _ _
  · exact bw_linL2 fun x y q => bw_linK _ _ _ _
  · exact bw_linPP fun x q => bw_linB bw_linF (bw_linK _ _ _ _)
  · exact bw_linPP fun x q => bw_linPP fun y q => bw_linB bw_linF (bw_linK _ _ _ _)
  · exact bw_linK _ _ _ _
  · split
    all_goals exact bw_linI1 fun x q => bw_linIte (bw_linK _ _ _ _) (bw_linK _ _ _ _)
  · split
    all_goals exact bw_linI2 fun x y q => bw_linIte (bw_linK _ _ _ _) (bw_linK _ _ _ _)
  · exact bw_linI1 fun x q => bw_linSw (bw_linK _ _ _ _) fun t => bw_linK _ _ _ _
  · refine bw_linR1 fun o q => bw_linB ?_ bw_linF
    split
    all_goals exact bw_linK _ _ _ _
  · refine bw_linPP fun x q => bw_linR1 fun o q => bw_linB ?_ bw_linF
    split
    · exact bw_linGI fun x => bw_linK _ _ _ _
    · exact bw_linGL fun x => bw_linK _ _ _ _
    · exact bw_linF
  · exact bw_linI1 fun i q => bw_linR1 fun o q => bw_linB (bw_linIte (bw_linK _ _ _ _) bw_linF) (bw_linB (bw_linIte (bw_linK _ _ _ _) bw_linF) bw_linF)
  iterate 2 exact bw_linI1 fun i q => bw_linR1 fun o q => bw_linB (bw_linIte (bw_linK _ _ _ _) bw_linF) bw_linF
  · exact bw_linI1 fun x q => bw_linI1 fun i q => bw_linR1 fun o q => bw_linB (bw_linIte (bw_linK _ _ _ _) bw_linF) bw_linF
  · exact bw_linL1 fun x q => bw_linI1 fun i q => bw_linR1 fun o q => bw_linB (bw_linIte (bw_linK _ _ _ _) bw_linF) bw_linF
  · exact bw_linI1 fun x q => bw_linI1 fun i q => bw_linR1 fun o q => bw_linB (bw_linIte (bw_linK _ _ _ _) bw_linF) bw_linF
  · exact bw_linR1 fun o q => bw_linB (bw_linB bw_linF (bw_linK _ _ _ _)) (bw_linB (bw_linK _ _ _ _) bw_linF)
  · refine bw_linAr (fun as q => bw_linRc (bw_linB ?_ bw_linF)) st []
    split
    · exact bw_linBV fun μ => bw_linK _ _ _ _
    · exact bw_linBL fun x μ => bw_linK _ _ _ _
    · exact bw_linBI fun x μ => bw_linK _ _ _ _
  · refine bw_linB (bw_linI2 fun x y q => bw_linB (bw_linK _ _ _ _) bw_linF) (bw_linB (bw_linL1 fun x q => bw_linB (bw_linK _ _ _ _) bw_linF) ?_)
    exact bw_linB (bw_linI1 fun n q => bw_linI1 fun dp q => bw_linR1 fun o2 q => bw_linI1 fun sp q => bw_linR1 fun o1 q => bw_linNl (bw_linB (bw_linIte (bw_linK _ _ _ _) bw_linF) bw_linF)) (bw_linCall call len a b pc ls st μ)
  · refine bw_linI1 fun x q => bw_linNl ?_
    split
    · exact bw_linR _
    · exact bw_linIte (bw_linR _) bw_linF
    · exact bw_linF
  · refine bw_linL1 fun x q => bw_linNl ?_
    split
    · exact bw_linR _
    · exact bw_linF
  · refine bw_linNl ?_
    split
    · exact bw_linR _
    · exact bw_linF
  · exact bw_linF
section RUN
variable {call : Nat → List bwV → bwM → Option bwR} {sl : Nat} {sx : Nat → Int32} {rt : Nat} {t : List bwE}
theorem bw_run_up : ∀ (n pc : Nat) (ls : List (Option bwV)) (st : List bwV) (μ : bwM) (r : bwR), bw_run call sl sx rt t n pc ls st μ = some r → bw_run call sl sx rt t (n + 1) pc ls st μ = some r := by
  intro n
  induction n with
  | zero => intro pc ls st μ r h; cases h
  | succ n ih =>
    intro pc ls st μ r h
    unfold bw_run at h ⊢
    cases hf : bw_find t pc with
    | none => rw [hf] at h; cases h
    | some q =>
      obtain ⟨p0, ins, len, v, a, b, fg, sw⟩ := q
      rw [hf] at h
      dsimp only at h ⊢
      rcases bw_shape call sl sx rt ins len v a b sw pc (bw_forget fg ls) st μ with ⟨c, hc⟩ | hc | ⟨pc', ls', st', μ', hc⟩ <;> dsimp only at hc
      · rw [hc] at h ⊢; exact h
      · rw [hc] at h; cases h
      · rw [hc] at h ⊢; exact ih _ _ _ _ _ h
theorem bw_run_mono {n m pc : Nat} {ls : List (Option bwV)} {st : List bwV} {μ : bwM} {r : bwR} (hnm : n ≤ m) (h : bw_run call sl sx rt t n pc ls st μ = some r) : bw_run call sl sx rt t m pc ls st μ = some r := by
  induction hnm with
  | refl => exact h
  | step _ ih => exact bw_run_up _ _ _ _ _ _ ih
theorem bw_ex_iff {pc : Nat} {ls : List (Option bwV)} {st : List bwV} {μ : bwM} {r : bwR} : bw_ex call sl sx rt t pc ls st μ = some r ↔ ∃ n, bw_run call sl sx rt t n pc ls st μ = some r := by
  unfold bw_ex
  by_cases h : ∃ r : bwR, ∃ n : Nat, bw_run call sl sx rt t n pc ls st μ = some r
  · rw [dif_pos h]
    obtain ⟨n, hn⟩ := Classical.choose_spec h
    constructor
    · intro e; cases e; exact ⟨n, hn⟩
    · rintro ⟨m, hm⟩
      have h1 := bw_run_mono (Nat.le_max_left n m) hn
      have h2 := bw_run_mono (Nat.le_max_right n m) hm
      rw [h1] at h2
      exact h2
  · rw [dif_neg h]
    constructor
    · intro e; cases e
    · rintro ⟨m, hm⟩; exact absurd ⟨r, m, hm⟩ h
theorem bw_ex_step (pc : Nat) (ls : List (Option bwV)) (st : List bwV) (μ : bwM) : bw_ex call sl sx rt t pc ls st μ = (match bw_find t pc with
    | some (_, ins, len, v, a, b, fg, sw) => bw_step call sl sx rt ins len v a b sw pc (bw_forget fg ls) st μ some none (bw_ex call sl sx rt t)
    | none => none) := by
  apply Option.ext
  intro r
  rw [bw_ex_iff]
  cases hf : bw_find t pc with
  | none =>
    constructor
    · rintro ⟨n, hn⟩
      cases n with
      | zero => cases hn
      | succ n => unfold bw_run at hn; rw [hf] at hn; cases hn
    · intro h; cases h
  | some q =>
    obtain ⟨p0, ins, len, v, a, b, fg, sw⟩ := q
    dsimp only
    rcases bw_shape call sl sx rt ins len v a b sw pc (bw_forget fg ls) st μ with ⟨c, hc⟩ | hc | ⟨pc', ls', st', μ', hc⟩ <;> dsimp only at hc
    · rw [hc]
      constructor
      · rintro ⟨n, hn⟩
        cases n with
        | zero => cases hn
        | succ n => unfold bw_run at hn; rw [hf] at hn; dsimp only at hn; rw [hc] at hn; exact hn
      · intro h; exact ⟨1, by unfold bw_run; rw [hf]; dsimp only; rw [hc]; exact h⟩
    · rw [hc]
      constructor
      · rintro ⟨n, hn⟩
        cases n with
        | zero => cases hn
        | succ n => unfold bw_run at hn; rw [hf] at hn; dsimp only at hn; rw [hc] at hn; exact hn
      · intro h; cases h
    · rw [hc, bw_ex_iff]
      constructor
      · rintro ⟨n, hn⟩
        cases n with
        | zero => cases hn
        | succ n => unfold bw_run at hn; rw [hf] at hn; dsimp only at hn; rw [hc] at hn; exact ⟨n, hn⟩
      · rintro ⟨n, hn⟩; exact ⟨n + 1, by unfold bw_run; rw [hf]; dsimp only; rw [hc]; exact hn⟩
end RUN
/-- some steps at once, up to the pcs of 'cuts' -/
def bw_go (call : Nat → List bwV → bwM → Option bwR) (sl : Nat) (sx : Nat → Int32) (rt : Nat) (t : List bwE) (K : Nat → List (Option bwV) → List bwV → bwM → Option bwR) (cuts : List Nat) : Nat → Nat → List (Option bwV) → List bwV → bwM → Option bwR
  | 0, pc, ls, st, μ => K pc ls st μ
  | n + 1, pc, ls, st, μ => match bw_find t pc with
    | some (_, ins, len, v, a, b, fg, sw) => bw_step call sl sx rt ins len v a b sw pc (bw_forget fg ls) st μ some none (fun pc' ls' st' μ' => bif cuts.any (Nat.beq pc') then K pc' ls' st' μ' else bw_go call sl sx rt t K cuts n pc' ls' st' μ')
    | none => none
theorem bw_ex_go {call : Nat → List bwV → bwM → Option bwR} {sl : Nat} {sx : Nat → Int32} {rt : Nat} {t : List bwE} (cuts : List Nat) : ∀ (n pc : Nat) (ls : List (Option bwV)) (st : List bwV) (μ : bwM), bw_ex call sl sx rt t pc ls st μ = bw_go call sl sx rt t (bw_ex call sl sx rt t) cuts n pc ls st μ := by
  intro n
  induction n with
  | zero => intro pc ls st μ; rfl
  | succ n ih =>
    intro pc ls st μ
    rw [bw_ex_step]
    unfold bw_go
    cases hf : bw_find t pc with
    | none => rfl
    | some q =>
      obtain ⟨p0, ins, len, v, a, b, fg, sw⟩ := q
      dsimp only
      congr 1
      funext pc' ls' st' μ'
      cases cuts.any (Nat.beq pc') with
      | true => rfl
      | false => exact ih _ _ _ _
end
section
def bw_own (n : Nat) : String := match n with
  | 0 => RX0 | 1 => RX1 | 2 => RX2 | 3 => RX3 | 4 => RX4 | 5 => RL | 6 => RJ9
  | _ => RJ10
/-- field links: own class, pool number, class, slot, place among the words -/
def bw_fl : List (Nat × Nat × Nat × Nat × Nat) := [(2, 39, 2, 0, 61), (3, 34, 2, 0, 62), (1, 65, 2, 0, 63), (2, 55, 2, 1, 64), (1, 110, 2, 1, 65), (3, 184, 2, 1, 66), (2, 9, 2, 2, 67), (1, 86, 2, 2, 68), (3, 93, 2, 2, 69), (2, 15, 2, 3, 70), (3, 83, 2, 3, 71), (2, 18, 2, 4, 72), (3, 72, 2, 4, 73), (2, 21, 2, 5, 74), (3, 108, 2, 5, 75), (2, 24, 2, 6, 76), (3, 86, 2, 6, 77), (2, 27, 2, 7, 78), (3, 102, 2, 7, 79), (2, 30, 2, 8, 80), (3, 105, 2, 8, 81), (2, 33, 2, 9, 82), (3, 124, 2, 9, 83), (2, 36, 2, 10, 84), (1, 104, 2, 10, 85), (3, 190, 2, 10, 86), (0, 12, 0, 0, 119), (0, 18, 0, 1, 120), (0, 26, 0, 2, 121), (0, 30, 0, 3, 122), (3, 215, 0, 3, 123), (1, 9, 1, 0, 139), (1, 15, 1, 1, 140), (1, 18, 1, 2, 141), (3, 144, 1, 2, 142), (1, 22, 1, 3, 143), (3, 172, 1, 3, 144), (1, 25, 1, 4, 145), (3, 165, 1, 4, 146), (1, 48, 1, 5, 147), (3, 162, 1, 5, 148), (1, 32, 1, 6, 149), (1, 28, 1, 7, 150), (1, 39, 1, 8, 151), (1, 51, 1, 9, 152), (3, 178, 1, 9, 153), (1, 61, 1, 10, 154), (3, 133, 1, 10, 155), (3, 12, 3, 0, 180), (3, 19, 3, 1, 181), (3, 26, 3, 2, 182), (3, 30, 3, 3, 183), (3, 175, 3, 4, 184), (3, 152, 3, 5, 185), (3, 155, 3, 6, 186), (4, 82, 4, 1, 569), (4, 7, 4, 2, 570), (4, 13, 4, 3, 571), (4, 16, 4, 4, 572), (4, 19, 4, 5, 573), (4, 22, 4, 6, 574), (4, 25, 4, 7, 575), (4, 28, 4, 8, 576), (4, 31, 4, 9, 577), (4, 189, 4, 10, 578), (4, 34, 4, 11, 579), (4, 37, 4, 12, 580), (4, 41, 4, 13, 581), (4, 137, 4, 14, 582), (4, 158, 4, 15, 583), (4, 161, 4, 16, 584), (4, 44, 4, 17, 585), (4, 180, 4, 18, 586), (4, 47, 4, 19, 587), (4, 51, 4, 20, 588), (4, 54, 4, 21, 589), (4, 57, 4, 22, 590), (4, 60, 4, 23, 591), (4, 195, 4, 24, 592), (4, 97, 4, 25, 593), (4, 63, 4, 26, 594), (4, 66, 4, 27, 595), (4, 69, 4, 28, 596), (4, 72, 4, 29, 597), (4, 75, 4, 30, 598)]
/-- method links: own class, pool number, method, 0 or 1 (of a nest mate), place among the words -/
def bw_ml : List (Nat × Nat × Nat × Nat × Nat) := [(5, 13, 45, 0, 202), (3, 38, 23, 0, 206), (3, 42, 24, 0, 210), (3, 48, 37, 0, 215), (2, 69, 80, 1, 219), (2, 87, 41, 0, 222), (2, 51, 26, 0, 226), (2, 58, 83, 1, 230), (2, 65, 81, 1, 233), (3, 52, 0, 0, 236), (0, 22, 43, 0, 240), (2, 107, 44, 0, 244), (5, 18, 46, 0, 253), (3, 56, 17, 0, 257), (3, 60, 31, 0, 261), (3, 64, 33, 0, 265), (2, 72, 84, 1, 269), (2, 75, 32, 0, 272), (3, 68, 84, 0, 276), (3, 75, 74, 0, 277), (3, 224, 1, 0, 281), (0, 33, 3, 0, 285), (0, 37, 4, 0, 289), (0, 41, 38, 0, 293), (2, 91, 39, 0, 297), (2, 95, 31, 0, 301), (2, 98, 40, 0, 302), (2, 101, 42, 0, 306), (2, 104, 82, 1, 310), (3, 127, 80, 0, 313), (3, 227, 38, 0, 314), (5, 22, 47, 0, 315), (5, 26, 48, 0, 319), (3, 79, 20, 0, 323), (2, 47, 18, 0, 327), (2, 43, 17, 0, 331), (3, 89, 81, 0, 332), (5, 31, 49, 0, 333), (5, 36, 50, 0, 337), (3, 96, 26, 0, 341), (3, 99, 29, 0, 342), (5, 40, 51, 0, 346), (3, 111, 83, 0, 350), (5, 44, 52, 0, 351), (3, 114, 28, 0, 355), (2, 62, 29, 0, 359), (5, 49, 53, 0, 360), (3, 118, 19, 0, 364), (5, 53, 54, 0, 368), (5, 57, 55, 0, 372), (3, 121, 18, 0, 376), (5, 61, 56, 0, 377), (3, 130, 5, 0, 381), (1, 35, 8, 0, 385), (1, 54, 9, 0, 389), (1, 70, 84, 1, 393), (1, 74, 32, 0, 394), (1, 57, 10, 0, 395), (1, 78, 11, 0, 398), (1, 96, 13, 0, 402), (1, 100, 12, 0, 406), (1, 82, 27, 0, 410), (1, 89, 30, 0, 414), (1, 93, 80, 1, 418), (3, 137, 76, 0, 419), (3, 234, 77, 0, 426), (5, 65, 57, 0, 429), (3, 141, 75, 0, 433), (5, 69, 58, 0, 437), (3, 148, 6, 0, 441), (5, 73, 59, 0, 445), (5, 78, 60, 0, 449), (5, 82, 61, 0, 453), (5, 87, 62, 0, 457), (3, 158, 7, 0, 461), (3, 168, 78, 0, 466), (5, 91, 63, 0, 470), (5, 95, 64, 0, 474), (5, 99, 65, 0, 478), (3, 181, 36, 0, 482), (2, 81, 35, 0, 486), (2, 78, 34, 0, 490), (2, 84, 22, 0, 494), (5, 103, 66, 0, 498), (5, 107, 67, 0, 502), (3, 187, 21, 0, 506), (3, 193, 82, 0, 510), (5, 111, 68, 0, 511), (3, 196, 14, 0, 515), (1, 107, 82, 1, 519), (5, 115, 69, 0, 520), (3, 200, 15, 0, 524), (1, 113, 14, 0, 528), (5, 119, 70, 0, 529), (3, 204, 16, 0, 533), (1, 117, 15, 0, 537), (3, 208, 22, 0, 538), (3, 211, 79, 0, 539), (5, 123, 71, 0, 543), (5, 127, 72, 0, 547), (3, 218, 2, 0, 551), (5, 131, 73, 0, 555), (3, 221, 25, 0, 559), (5, 17, 88, 0, 663), (4, 93, 89, 0, 669), (5, 21, 92, 0, 673), (4, 85, 85, 0, 677), (4, 100, 90, 0, 681), (4, 104, 91, 0, 685), (4, 108, 139, 0, 689), (5, 25, 93, 0, 693), (5, 30, 95, 0, 697), (4, 119, 94, 0, 701), (4, 112, 86, 0, 705), (4, 115, 87, 0, 709), (5, 35, 96, 0, 713), (5, 39, 98, 0, 717), (4, 123, 97, 0, 721), (5, 43, 99, 0, 725), (5, 48, 101, 0, 729), (4, 126, 100, 0, 733), (5, 52, 104, 0, 737), (4, 130, 102, 0, 741), (4, 133, 103, 0, 745), (5, 56, 105, 0, 749), (5, 60, 106, 0, 753), (5, 77, 114, 0, 757), (5, 81, 115, 0, 761), (5, 64, 116, 0, 765), (4, 164, 111, 0, 769), (4, 150, 110, 0, 773), (4, 141, 107, 0, 777), (4, 144, 109, 0, 781), (4, 147, 108, 0, 785), (4, 168, 113, 0, 789), (4, 154, 112, 0, 793), (5, 68, 118, 0, 796), (4, 172, 117, 0, 800), (5, 72, 119, 0, 804), (5, 86, 120, 0, 808), (5, 90, 121, 0, 812), (4, 176, 122, 0, 816), (5, 94, 123, 0, 820), (5, 98, 124, 0, 824), (5, 102, 127, 0, 828), (4, 183, 125, 0, 832), (4, 186, 126, 0, 836), (5, 106, 128, 0, 840), (5, 110, 130, 0, 844), (4, 192, 129, 0, 848), (5, 114, 133, 0, 852), (4, 198, 131, 0, 856), (5, 118, 134, 0, 860), (4, 202, 132, 0, 864), (5, 122, 137, 0, 868), (4, 209, 136, 0, 872), (4, 206, 135, 0, 876), (5, 126, 138, 0, 880), (5, 130, 140, 0, 884), (5, 134, 141, 0, 888)]
def bw_cl : List (Nat × Nat × Nat × Nat) := [(3, 46, 1000000000, 214), (4, 89, 20000, 667), (4, 91, 1000000000, 668)]
def bw_sl3 : List (Nat × Nat × Nat × Nat) := [(2, 111, 998, 247), (2, 116, 999, 250), (3, 228, 997, 423), (1, 42, 998, 465)]
def bw_sysp : List Nat := [248, 45, 249, 424, 425, 252, 251, 46, 110, 179, 662]
abbrev bwG : Type := Nat × MethodName × ByteArray × Nat × Nat × Nat × Nat
/-- the methods: class, name, code, locals, what it returns, static, parameters -/
def bw_sg : List bwG := [
  (0, yX0_startFrom, cX0_startFrom, 2, 0, 0, 1),
  (0, yX0_add, cX0_add, 7, 0, 0, 5),
  (0, yX0_takeBackLatest, cX0_takeBackLatest, 3, 0, 0, 1),
  (0, yX0_repeat, cX0_repeat, 4, 0, 0, 2),
  (0, yX0_placeOf, cX0_placeOf, 2, 1, 0, 1),
  (1, yX1_goOver, cX1_goOver, 2, 0, 0, 1),
  (1, yX1_goOverThoseWith, cX1_goOverThoseWith, 4, 0, 0, 3),
  (1, yX1_rank, cX1_rank, 3, 0, 0, 2),
  (1, yX1_start, cX1_start, 3, 0, 0, 1),
  (1, yX1_putParentsFirst, cX1_putParentsFirst, 6, 0, 0, 1),
  (1, yX1_spread, cX1_spread, 14, 2, 1, 4),
  (1, yX1_meet, cX1_meet, 6, 0, 0, 2),
  (1, yX1_isBefore, cX1_isBefore, 7, 3, 0, 3),
  (1, yX1_wholeChosen, cX1_wholeChosen, 4, 1, 0, 1),
  (1, yX1_worthSum, cX1_worthSum, 7, 2, 0, 2),
  (1, yX1_bestOption, cX1_bestOption, 4, 1, 0, 1),
  (1, yX1_greatestWorthSum, cX1_greatestWorthSum, 2, 2, 0, 1),
  (2, yX2_hasThing, cX2_hasThing, 2, 3, 0, 1),
  (2, yX2_hasValue, cX2_hasValue, 3, 3, 0, 2),
  (2, yX2_mayBeKnownAs, cX2_mayBeKnownAs, 3, 3, 0, 2),
  (2, yX2_hasWeight, cX2_hasWeight, 4, 3, 0, 3),
  (2, yX2_hasOption, cX2_hasOption, 2, 3, 0, 1),
  (2, yX2_isFree, cX2_isFree, 2, 3, 0, 1),
  (2, yX2_allWholes, cX2_allWholes, 3, 1, 0, 0),
  (2, yX2_allTotals, cX2_allTotals, 4, 2, 0, 0),
  (2, yX2_arrows, cX2_arrows, 3, 1, 0, 0),
  (2, yX2_rows, cX2_rows, 4, 1, 0, 1),
  (2, yX2_rowAt, cX2_rowAt, 6, 1, 0, 2),
  (2, yX2_isSound, cX2_isSound, 2, 3, 0, 0),
  (2, yX2_hasSoundTable, cX2_hasSoundTable, 6, 3, 0, 1),
  (2, yX2_factor, cX2_factor, 5, 1, 0, 3),
  (2, yX2_parentPlace, cX2_parentPlace, 4, 1, 0, 2),
  (2, yX2_parentSet, cX2_parentSet, 4, 1, 0, 1),
  (2, yX2_ancestorsAnd, cX2_ancestorsAnd, 5, 1, 0, 1),
  (2, yX2_parentSetNow, cX2_parentSetNow, 2, 1, 0, 1),
  (2, yX2_childSetNow, cX2_childSetNow, 4, 1, 0, 1),
  (2, yX2_hasOpenRoad, cX2_hasOpenRoad, 9, 3, 0, 2),
  (2, yX2_addThing, cX2_addThing, 5, 0, 0, 2),
  (2, yX2_carryOut, cX2_carryOut, 6, 0, 0, 5),
  (2, yX2_addParent, cX2_addParent, 3, 0, 0, 2),
  (2, yX2_dropParent, cX2_dropParent, 4, 0, 0, 2),
  (2, yX2_resetTable, cX2_resetTable, 5, 0, 0, 1),
  (2, yX2_setOptions, cX2_setOptions, 3, 0, 0, 1),
  (2, yX2_copyFrom, cX2_copyFrom, 2, 0, 0, 1),
  (2, yX2_copyAll, cX2_copyAll, 2, 0, 1, 2),
  (3, yX3_thing, cX3_thing, 4, 1, 0, 2),
  (3, yX3_arrow, cX3_arrow, 3, 1, 0, 2),
  (3, yX3_cut, cX3_cut, 3, 1, 0, 2),
  (3, yX3_weight, cX3_weight, 6, 1, 0, 4),
  (3, yX3_told, cX3_told, 4, 1, 0, 3),
  (3, yX3_about, cX3_about, 3, 1, 0, 2),
  (3, yX3_parent, cX3_parent, 3, 1, 0, 2),
  (3, yX3_sound, cX3_sound, 1, 1, 0, 0),
  (3, yX3_see, cX3_see, 3, 1, 0, 2),
  (3, yX3_act, cX3_act, 3, 1, 0, 2),
  (3, yX3_force, cX3_force, 5, 1, 0, 3),
  (3, yX3_chance, cX3_chance, 1, 1, 0, 0),
  (3, yX3_ask, cX3_ask, 4, 1, 0, 2),
  (3, yX3_both, cX3_both, 8, 1, 0, 4),
  (3, yX3_up, cX3_up, 1, 2, 0, 0),
  (3, yX3_down, cX3_down, 1, 2, 0, 0),
  (3, yX3_most, cX3_most, 5, 1, 0, 1),
  (3, yX3_likeliest, cX3_likeliest, 2, 1, 0, 1),
  (3, yX3_at, cX3_at, 2, 1, 0, 1),
  (3, yX3_wholes, cX3_wholes, 1, 1, 0, 0),
  (3, yX3_apart, cX3_apart, 3, 1, 0, 2),
  (3, yX3_options, cX3_options, 3, 1, 0, 1),
  (3, yX3_worth, cX3_worth, 6, 1, 0, 4),
  (3, yX3_expected, cX3_expected, 3, 1, 0, 1),
  (3, yX3_best, cX3_best, 3, 1, 0, 0),
  (3, yX3_gain, cX3_gain, 7, 1, 0, 1),
  (3, yX3_next, cX3_next, 12, 1, 0, 0),
  (3, yX3_undo, cX3_undo, 1, 1, 0, 0),
  (3, yX3_count, cX3_count, 2, 1, 0, 1),
  (3, yX3_carryOut, cX3_carryOut, 6, 0, 0, 5),
  (3, yX3_trouble, cX3_trouble, 1, 1, 0, 0),
  (3, yX3_tell, cX3_tell, 7, 0, 0, 2),
  (3, yX3_commonDivisor, cX3_commonDivisor, 11, 2, 1, 2),
  (3, yX3_show, cX3_show, 4, 0, 0, 1),
  (3, yX3_gainSum, cX3_gainSum, 7, 2, 0, 2),
  (3, yX3_slot, cX3_slot, 2, 1, 1, 2),
  (3, yX3_weightSlot, cX3_weightSlot, 3, 1, 1, 3),
  (3, yX3_worthSlot, cX3_worthSlot, 3, 1, 1, 3),
  (3, yX3_parentSlot, cX3_parentSlot, 2, 1, 1, 2),
  (3, yX3_isIn, cX3_isIn, 2, 3, 1, 2),
  (4, yX4_isThing, cX4_isThing, 2, 3, 0, 1),
  (4, yX4_isValue, cX4_isValue, 3, 3, 0, 2),
  (4, yX4_rows, cX4_rows, 4, 1, 0, 1),
  (4, yX4_thing, cX4_thing, 10, 1, 0, 2),
  (4, yX4_plainTable, cX4_plainTable, 4, 0, 0, 1),
  (4, yX4_isParent, cX4_isParent, 4, 3, 0, 2),
  (4, yX4_reach, cX4_reach, 6, 0, 0, 2),
  (4, yX4_arrow, cX4_arrow, 3, 1, 0, 2),
  (4, yX4_cut, cX4_cut, 5, 1, 0, 2),
  (4, yX4_isWeight, cX4_isWeight, 4, 3, 0, 3),
  (4, yX4_weight, cX4_weight, 7, 1, 0, 4),
  (4, yX4_told, cX4_told, 4, 1, 0, 3),
  (4, yX4_isSound, cX4_isSound, 5, 3, 0, 1),
  (4, yX4_about, cX4_about, 3, 1, 0, 2),
  (4, yX4_parent, cX4_parent, 3, 1, 0, 2),
  (4, yX4_isRough, cX4_isRough, 2, 3, 0, 0),
  (4, yX4_sound, cX4_sound, 1, 1, 0, 0),
  (4, yX4_mayBe, cX4_mayBe, 3, 3, 0, 2),
  (4, yX4_becomes, cX4_becomes, 4, 1, 0, 3),
  (4, yX4_see, cX4_see, 3, 1, 0, 2),
  (4, yX4_act, cX4_act, 3, 1, 0, 2),
  (4, yX4_force, cX4_force, 5, 1, 0, 3),
  (4, yX4_firstWhole, cX4_firstWhole, 2, 0, 0, 0),
  (4, yX4_nextWhole, cX4_nextWhole, 2, 3, 0, 0),
  (4, yX4_weigh, cX4_weigh, 5, 0, 0, 0),
  (4, yX4_sum, cX4_sum, 8, 2, 0, 4),
  (4, yX4_all, cX4_all, 1, 2, 0, 0),
  (4, yX4_common, cX4_common, 10, 2, 1, 2),
  (4, yX4_tell, cX4_tell, 7, 1, 0, 2),
  (4, yX4_up, cX4_up, 1, 2, 0, 0),
  (4, yX4_down, cX4_down, 1, 2, 0, 0),
  (4, yX4_chance, cX4_chance, 4, 1, 0, 0),
  (4, yX4_refused, cX4_refused, 1, 1, 0, 0),
  (4, yX4_ask, cX4_ask, 4, 1, 0, 2),
  (4, yX4_both, cX4_both, 6, 1, 0, 4),
  (4, yX4_most, cX4_most, 9, 1, 0, 1),
  (4, yX4_likeliest, cX4_likeliest, 5, 1, 0, 1),
  (4, yX4_insert, cX4_insert, 5, 1, 0, 2),
  (4, yX4_at, cX4_at, 2, 1, 0, 1),
  (4, yX4_wholes, cX4_wholes, 3, 1, 0, 0),
  (4, yX4_leads, cX4_leads, 3, 3, 0, 2),
  (4, yX4_passes, cX4_passes, 5, 3, 0, 3),
  (4, yX4_apart, cX4_apart, 6, 1, 0, 2),
  (4, yX4_options, cX4_options, 5, 1, 0, 1),
  (4, yX4_isOption, cX4_isOption, 2, 3, 0, 1),
  (4, yX4_worth, cX4_worth, 7, 1, 0, 4),
  (4, yX4_worthOf, cX4_worthOf, 10, 2, 0, 3),
  (4, yX4_greatest, cX4_greatest, 8, 2, 0, 2),
  (4, yX4_expected, cX4_expected, 3, 1, 0, 1),
  (4, yX4_best, cX4_best, 6, 1, 0, 0),
  (4, yX4_isKnown, cX4_isKnown, 2, 3, 0, 1),
  (4, yX4_gainOf, cX4_gainOf, 5, 2, 0, 1),
  (4, yX4_gain, cX4_gain, 3, 1, 0, 1),
  (4, yX4_next, cX4_next, 8, 1, 0, 0),
  (4, yX4_note, cX4_note, 5, 0, 0, 2),
  (4, yX4_undo, cX4_undo, 4, 1, 0, 0),
  (4, yX4_count, cX4_count, 4, 1, 0, 1)]
/-- the places of their words: code, initialized, static or instanceMethod, selects -/
def bw_sp : List (Nat × Nat × Nat × Nat) := [(239, 42, 237, 238), (284, 42, 282, 283), (554, 42, 552, 553), (288, 42, 287, 1), (292, 42, 291, 2), (384, 43, 382, 383), (444, 43, 442, 443), (464, 43, 462, 463), (388, 43, 387, 3), (392, 43, 391, 4), (397, 43, 396, 0), (401, 43, 400, 5), (409, 43, 408, 7), (405, 43, 404, 6), (518, 43, 516, 517), (527, 43, 525, 526), (536, 43, 534, 535), (260, 41, 258, 259), (330, 41, 328, 329), (367, 41, 365, 366), (326, 41, 324, 325), (509, 41, 507, 508), (497, 41, 495, 496), (209, 41, 207, 208), (213, 41, 211, 212), (562, 41, 560, 561), (229, 41, 227, 228), (413, 41, 411, 412), (358, 41, 356, 357), (345, 41, 343, 344), (417, 41, 415, 416), (264, 41, 262, 263), (275, 41, 273, 274), (268, 41, 266, 267), (493, 41, 491, 492), (489, 41, 487, 488), (485, 41, 483, 484), (218, 41, 216, 217), (296, 41, 294, 295), (300, 41, 298, 299), (305, 41, 303, 304), (225, 41, 223, 224), (309, 41, 307, 308), (243, 41, 241, 242), (246, 41, 245, 0), (205, 40, 203, 204), (256, 40, 254, 255), (318, 40, 316, 317), (322, 40, 320, 321), (336, 40, 334, 335), (340, 40, 338, 339), (349, 40, 347, 348), (354, 40, 352, 353), (363, 40, 361, 362), (371, 40, 369, 370), (375, 40, 373, 374), (380, 40, 378, 379), (432, 40, 430, 431), (440, 40, 438, 439), (448, 40, 446, 447), (452, 40, 450, 451), (456, 40, 454, 455), (460, 40, 458, 459), (473, 40, 471, 472), (477, 40, 475, 476), (481, 40, 479, 480), (501, 40, 499, 500), (505, 40, 503, 504), (514, 40, 512, 513), (523, 40, 521, 522), (532, 40, 530, 531), (546, 40, 544, 545), (550, 40, 548, 549), (558, 40, 556, 557), (280, 40, 279, 0), (436, 40, 435, 9), (422, 40, 421, 8), (428, 40, 427, 0), (469, 40, 468, 10), (542, 40, 541, 11), (221, 40, 220, 0), (235, 40, 234, 0), (312, 40, 311, 0), (232, 40, 231, 0), (271, 40, 270, 0), (680, 44, 679, 13), (708, 44, 707, 18), (712, 44, 711, 19), (666, 44, 664, 665), (672, 44, 671, 12), (684, 44, 683, 14), (688, 44, 687, 15), (676, 44, 674, 675), (696, 44, 694, 695), (704, 44, 703, 17), (700, 44, 698, 699), (716, 44, 714, 715), (724, 44, 723, 20), (720, 44, 718, 719), (728, 44, 726, 727), (736, 44, 735, 21), (732, 44, 730, 731), (744, 44, 743, 22), (748, 44, 747, 23), (740, 44, 738, 739), (752, 44, 750, 751), (756, 44, 754, 755), (780, 44, 779, 26), (788, 44, 787, 28), (784, 44, 783, 27), (776, 44, 775, 25), (772, 44, 771, 24), (795, 44, 794, 0), (792, 44, 791, 29), (760, 44, 758, 759), (764, 44, 762, 763), (768, 44, 766, 767), (803, 44, 802, 30), (799, 44, 797, 798), (807, 44, 805, 806), (811, 44, 809, 810), (815, 44, 813, 814), (819, 44, 818, 31), (823, 44, 821, 822), (827, 44, 825, 826), (835, 44, 834, 32), (839, 44, 838, 33), (831, 44, 829, 830), (843, 44, 841, 842), (851, 44, 850, 34), (847, 44, 845, 846), (859, 44, 858, 35), (867, 44, 866, 36), (855, 44, 853, 854), (863, 44, 861, 862), (879, 44, 878, 38), (875, 44, 874, 37), (871, 44, 869, 870), (883, 44, 881, 882), (692, 44, 691, 16), (887, 44, 885, 886), (891, 44, 889, 890)]
def bw_nth {α : Type} (l : List α) (n : Nat) : Option α := match l, n with
  | [], _ => none
  | a :: _, 0 => some a
  | _ :: r, n + 1 => bw_nth r n
def bw_ret (rt : Nat) : Option FieldType := match rt with
  | 0 => none | 1 => some .int | 2 => some .long
  | _ => some .boolean
theorem bw_fl_tbl : (bw_fl.all fun q => match vwCl[q.2.2.1]? with
    | some r => Nat.blt q.2.2.2.1 r.2.2 && decide (lw_tbl[q.2.2.2.2]? = some (Cond.fieldLink (bw_own q.1) q.2.1 (r.2.1 q.2.2.2.1).1 (r.2.1 q.2.2.2.1).2.1 (r.2.1 q.2.2.2.1).2.2.1))
    | none => false) = true := by decide +kernel
theorem bw_ml_tbl : (bw_ml.all fun q => match bw_nth bw_sg q.2.2.1 with
    | some g => decide (lw_tbl[q.2.2.2.2]? = some (match q.2.2.2.1 with
      | 0 => Cond.methodLink (bw_own q.1) q.2.1 g.2.1
      | _ => Cond.methodLinkNest (bw_own q.1) q.2.1 g.2.1 "BeliefWeb"))
    | none => false) = true := by decide +kernel
theorem bw_cl_tbl : (bw_cl.all fun q => decide (lw_tbl[q.2.2.2]? = some (Cond.constantLong (bw_own q.1) q.2.1 (Int64.ofNat q.2.2.1)))) = true := by decide +kernel
def bw_sy (k : Nat) : MethodName := match k with
  | 997 => Lib.MathLoose.abs_long.x | 998 => Lib.Math.min.name
  | _ => arraycopyName
theorem bw_sl3_tbl : (bw_sl3.all fun q => Nat.ble 997 q.2.2.1 && Nat.ble q.2.2.1 999 && decide (lw_tbl[q.2.2.2]? = some (Cond.methodLink (bw_own q.1) q.2.1 (bw_sy q.2.2.1)))) = true := by decide +kernel
def bw_sys : List Cond := [.static Lib.Math.min.name, .initialized "java/lang/Math", .code Lib.Math.min.name Lib.Math.min.code 2 (some .int), .static Lib.MathLoose.abs_long.x, .code Lib.MathLoose.abs_long.x Lib.MathLoose.abs_long.code 2 (some .long), .native arraycopyName, .static arraycopyName, .initialized "java/lang/System", .arrayClass .int, .arrayClass .long, .arrayClass .boolean]
set_option maxRecDepth 100000 in
set_option maxHeartbeats 4000000 in
theorem bw_sys_in : ∀ w ∈ bw_sys, w ∈ lw_tbl := by
  rw [show bw_sys = bw_sysp.filterMap (fun i => lw_tbl[i]?) from rfl]
  intro w h
  obtain ⟨i, -, hi⟩ := List.mem_filterMap.mp h
  exact List.mem_of_getElem? hi
/-- a method's own words -/
def bw_okG (g : bwG) (q : Nat × Nat × Nat × Nat) : Bool := decide (g.2.1.cls = bw_own g.1) && plainName g.2.1.cls && decide (g.2.1.cls ≠ "java/lang/invoke/MethodHandle" ∧ g.2.1.cls ≠ "java/lang/invoke/VarHandle" ∧ (parseMethodDescriptor g.2.1.desc).map (fun d => d.parameters.length) = some g.2.2.2.2.2.2)
  && decide (lw_tbl[q.2.1]? = some (Cond.initialized g.2.1.cls)) && Nat.ble g.2.2.2.1 40
  && (match g.2.2.2.2.2.1 with
    | 0 => decide (lw_tbl[q.2.2.1]? = some (Cond.instanceMethod g.2.1)) && decide (lw_tbl[q.2.2.2]? = some (Cond.selects g.2.1.cls g.2.1 g.2.1))
    | _ => decide (lw_tbl[q.2.2.1]? = some (Cond.static g.2.1)))
def bw_okGs (gs : List bwG) (ps : List (Nat × Nat × Nat × Nat)) : Bool := match gs, ps with
  | [], [] => true
  | g :: gs, p :: ps => bw_okG g p && bw_okGs gs ps
  | _, _ => false
def bw_cw (g : bwG) : Cond := Cond.code g.2.1 g.2.2.1 g.2.2.2.1 (bw_ret g.2.2.2.2.1)
set_option maxRecDepth 100000 in
set_option maxHeartbeats 4000000 in
theorem bw_cw_in : ∀ w ∈ bw_sg.map bw_cw, w ∈ lw_tbl := by
  rw [show bw_sg.map bw_cw = (bw_sp.map (fun q => q.1)).filterMap (fun i => lw_tbl[i]?) from rfl]
  intro w h
  obtain ⟨i, -, hi⟩ := List.mem_filterMap.mp h
  exact List.mem_of_getElem? hi
theorem bw_sg_ok : bw_okGs bw_sg bw_sp = true := by decide +kernel
def bw_swok (pc : Nat) (lo : Int) (offs : List Int) (sw : List (Int32 × Nat)) : Bool := match offs, sw with
  | [], [] => true
  | o :: offs, q :: sw => decide (q.1.toInt = lo) && decide ((pc : Int) + o = (q.2 : Int)) && bw_swok pc (lo + 1) offs sw
  | _, _ => false
/-- an instruction's row says what the instruction does -/
def bw_okI (own nL pc : Nat) (ins : Instr) (len : Nat) (v : Int32) (a b : Nat) (sw : List (Int32 × Nat)) : Bool := match ins with
  | .iconst n => decide (Int32.ofInt n = v) && Nat.beq len 1
  | .bipush n => decide ((Int8.ofInt n).toInt32 = v) && Nat.beq len 2
  | .sipush n => decide ((Int16.ofInt n).toInt32 = v) && Nat.beq len 3
  | .lconst n => Nat.beq a n.val && Nat.beq len 1
  | .ldc2_w i => Nat.beq len 3 && bw_cl.any fun q => Nat.beq q.1 own && Nat.beq q.2.1 i && Nat.beq q.2.2.1 a
  | .iload_n k => Nat.beq a k.val && Nat.beq len 1
  | .lload_n k => Nat.beq a k.val && Nat.beq len 1
  | .aload_n k => Nat.beq a k.val && Nat.beq len 1
  | .iload k => Nat.beq a k && Nat.beq len 2
  | .lload k => Nat.beq a k && Nat.beq len 2
  | .aload k => Nat.beq a k && Nat.beq len 2
  | .istore_n k => Nat.beq a k.val && Nat.beq len 1 && Nat.blt a nL
  | .istore k => Nat.beq a k && Nat.beq len 2 && Nat.blt a nL
  | .lstore_n k => Nat.beq a k.val && Nat.beq len 1 && Nat.blt (a + 1) nL
  | .lstore k => Nat.beq a k && Nat.beq len 2 && Nat.blt (a + 1) nL
  | .iinc k n => Nat.beq a k && decide (Int32.ofInt n = v) && Nat.beq len 3 && Nat.blt a nL
  | .goto off => decide ((pc : Int) + off = (a : Int)) && Nat.beq len 3
  | .ifCond _ off => decide ((pc : Int) + off = (a : Int)) && Nat.beq len 3
  | .if_icmp _ off => decide ((pc : Int) + off = (a : Int)) && Nat.beq len 3
  | .tableswitch d lo hi offs => decide ((pc : Int) + d = (a : Int)) && bw_swok pc lo offs.toList sw && decide (lo + (offs.toList.length : Int) = hi + 1)
  | .getfield i => Nat.beq len 3 && bw_fl.any fun q => Nat.beq q.1 own && Nat.beq q.2.1 i && Nat.beq q.2.2.1 b && Nat.beq q.2.2.2.1 a
  | .putfield i => Nat.beq len 3 && bw_fl.any fun q => Nat.beq q.1 own && Nat.beq q.2.1 i && Nat.beq q.2.2.1 b && Nat.beq q.2.2.2.1 a
  | .invokevirtual i => Nat.beq len 3 && (bw_ml.any fun q => Nat.beq q.1 own && Nat.beq q.2.1 i && Nat.beq q.2.2.1 a && Nat.beq q.2.2.2.1 0) && (match bw_nth bw_sg a with
    | some (cn, _, _, _, rt, sc, na) => Nat.beq sc 0 && Nat.blt cn 5 && Nat.beq b (cn * 1000 + (na + 1) * 10 + rt) && Nat.blt rt 4 && Nat.blt na 10
    | none => false)
  | .invokestatic i => Nat.beq len 3 && (bif Nat.ble 997 b then (bw_sl3.any fun q => Nat.beq q.1 own && Nat.beq q.2.1 i && Nat.beq q.2.2.1 b) else (bw_ml.any fun q => Nat.beq q.1 own && Nat.beq q.2.1 i && Nat.beq q.2.2.1 a) && (match bw_nth bw_sg a with
    | some (_, _, _, _, rt, sc, na) => Nat.beq sc 1 && Nat.beq b (na * 10 + rt) && Nat.blt rt 4 && Nat.blt na 10
    | none => false))
  | _ => Nat.beq len 1
def bw_okT (own : Nat) (cc : ByteArray) (nL : Nat) (t : List bwE) : Bool := t.all fun e => decide (decode cc e.1 = .ok (e.2.1, e.2.2.1)) && bw_okI own nL e.1 e.2.1 e.2.2.1 e.2.2.2.1 e.2.2.2.2.1 e.2.2.2.2.2.1 e.2.2.2.2.2.2.2
def bw_okA (gs : List bwG) (ts : List (List bwE)) : Prop := match gs, ts with
  | [], [] => True
  | g :: gs, t :: ts => bw_okT g.1 g.2.2.1 g.2.2.2.1 t = true ∧ bw_okA gs ts
  | _, _ => False
end
section
def tX0_startFrom : List bwE := [(0, (.aload_n 0), 1, 0, 0, 0, [], []), (1, (.getfield 12), 3, 0, 0, 0, [], []), (4, (.aload_n 1), 1, 0, 1, 0, [], []), (5, (.invokevirtual 22), 3, 0, 43, 2020, [], []), (8, (.aload_n 0), 1, 0, 0, 0, [], []), (9, (.iconst 0), 1, 0, 0, 0, [], []), (10, (.putfield 26), 3, 0, 2, 0, [], []), (13, (.aload_n 0), 1, 0, 0, 0, [], []), (14, (.iconst 0), 1, 0, 0, 0, [], []), (15, (.putfield 30), 3, 0, 3, 0, [], []), (18, .return_, 1, 0, 0, 0, [], [])]
def tX0_add : List bwE := [(0, (.aload_n 0), 1, 0, 0, 0, [], []), (1, (.getfield 30), 3, 0, 3, 0, [], []), (4, (.bipush 100), 2, 100, 0, 0, [], []), (6, (.if_icmp .lt 35), 3, 0, 41, 0, [], []), (9, (.aload_n 0), 1, 0, 0, 0, [], []), (10, (.iconst 0), 1, 0, 0, 0, [], []), (11, (.aload_n 0), 1, 0, 0, 0, [], []), (12, (.getfield 12), 3, 0, 0, 0, [], []), (15, (.invokevirtual 33), 3, 0, 3, 30, [], []), (18, (.aload_n 0), 1, 0, 0, 0, [], []), (19, (.aload_n 0), 1, 0, 0, 0, [], []), (20, (.getfield 26), 3, 0, 2, 0, [], []), (23, (.iconst 1), 1, 1, 0, 0, [], []), (24, .iadd, 1, 0, 0, 0, [], []), (25, (.bipush 100), 2, 100, 0, 0, [], []), (27, .irem, 1, 0, 0, 0, [], []), (28, (.putfield 26), 3, 0, 2, 0, [], []), (31, (.aload_n 0), 1, 0, 0, 0, [], []), (32, .dup, 1, 0, 0, 0, [], []), (33, (.getfield 30), 3, 0, 3, 0, [], []), (36, (.iconst 1), 1, 1, 0, 0, [], []), (37, .isub, 1, 0, 0, 0, [], []), (38, (.putfield 30), 3, 0, 3, 0, [], []), (41, (.aload_n 0), 1, 0, 0, 0, [], []), (42, (.aload_n 0), 1, 0, 0, 0, [], []), (43, (.getfield 30), 3, 0, 3, 0, [], []), (46, (.invokevirtual 37), 3, 0, 4, 21, [], []), (49, (.istore 6), 2, 0, 6, 0, [], []), (51, (.aload_n 0), 1, 0, 0, 0, [], []), (52, (.getfield 18), 3, 0, 1, 0, [], []), (55, (.iload 6), 2, 0, 6, 0, [], []), (57, (.iload_n 1), 1, 0, 1, 0, [], []), (58, .iastore, 1, 0, 0, 0, [], []), (59, (.aload_n 0), 1, 0, 0, 0, [], []), (60, (.getfield 18), 3, 0, 1, 0, [], []), (63, (.iload 6), 2, 0, 6, 0, [], []), (65, (.iconst 1), 1, 1, 0, 0, [], []), (66, .iadd, 1, 0, 0, 0, [], []), (67, (.iload_n 2), 1, 0, 2, 0, [], []), (68, .iastore, 1, 0, 0, 0, [], []), (69, (.aload_n 0), 1, 0, 0, 0, [], []), (70, (.getfield 18), 3, 0, 1, 0, [], []), (73, (.iload 6), 2, 0, 6, 0, [], []), (75, (.iconst 2), 1, 2, 0, 0, [], []), (76, .iadd, 1, 0, 0, 0, [], []), (77, (.iload_n 3), 1, 0, 3, 0, [], []), (78, .iastore, 1, 0, 0, 0, [], []), (79, (.aload_n 0), 1, 0, 0, 0, [], []), (80, (.getfield 18), 3, 0, 1, 0, [], []), (83, (.iload 6), 2, 0, 6, 0, [], []), (85, (.iconst 3), 1, 3, 0, 0, [], []), (86, .iadd, 1, 0, 0, 0, [], []), (87, (.iload 4), 2, 0, 4, 0, [], []), (89, .iastore, 1, 0, 0, 0, [], []), (90, (.aload_n 0), 1, 0, 0, 0, [], []), (91, (.getfield 18), 3, 0, 1, 0, [], []), (94, (.iload 6), 2, 0, 6, 0, [], []), (96, (.iconst 4), 1, 4, 0, 0, [], []), (97, .iadd, 1, 0, 0, 0, [], []), (98, (.iload 5), 2, 0, 5, 0, [], []), (100, .iastore, 1, 0, 0, 0, [], []), (101, (.aload_n 0), 1, 0, 0, 0, [], []), (102, .dup, 1, 0, 0, 0, [], []), (103, (.getfield 30), 3, 0, 3, 0, [], []), (106, (.iconst 1), 1, 1, 0, 0, [], []), (107, .iadd, 1, 0, 0, 0, [], []), (108, (.putfield 30), 3, 0, 3, 0, [], []), (111, .return_, 1, 0, 0, 0, [], [])]
def tX0_takeBackLatest : List bwE := [(0, (.aload_n 0), 1, 0, 0, 0, [], []), (1, (.getfield 30), 3, 0, 3, 0, [], []), (4, (.ifCond .ne 4), 3, 0, 8, 0, [], []), (7, .return_, 1, 0, 0, 0, [], []), (8, (.aload_n 0), 1, 0, 0, 0, [], []), (9, .dup, 1, 0, 0, 0, [], []), (10, (.getfield 30), 3, 0, 3, 0, [], []), (13, (.iconst 1), 1, 1, 0, 0, [], []), (14, .isub, 1, 0, 0, 0, [], []), (15, (.putfield 30), 3, 0, 3, 0, [], []), (18, (.aload_n 1), 1, 0, 1, 0, [], []), (19, (.aload_n 0), 1, 0, 0, 0, [], []), (20, (.getfield 12), 3, 0, 0, 0, [], []), (23, (.invokevirtual 22), 3, 0, 43, 2020, [], []), (26, (.iconst 0), 1, 0, 0, 0, [], []), (27, (.istore_n 2), 1, 0, 2, 0, [], []), (28, (.iload_n 2), 1, 0, 2, 0, [], []), (29, (.aload_n 0), 1, 0, 0, 0, [], []), (30, (.getfield 30), 3, 0, 3, 0, [], []), (33, (.if_icmp .ge 15), 3, 0, 48, 0, [], []), (36, (.aload_n 0), 1, 0, 0, 0, [], []), (37, (.iload_n 2), 1, 0, 2, 0, [], []), (38, (.aload_n 1), 1, 0, 1, 0, [], []), (39, (.invokevirtual 33), 3, 0, 3, 30, [], []), (42, (.iinc 2 1), 3, 1, 2, 0, [], []), (45, (.goto (-17)), 3, 0, 28, 0, [], []), (48, .return_, 1, 0, 0, 0, [], [])]
def tX0_repeat : List bwE := [(0, (.aload_n 0), 1, 0, 0, 0, [], []), (1, (.iload_n 1), 1, 0, 1, 0, [], []), (2, (.invokevirtual 37), 3, 0, 4, 21, [], []), (5, (.istore_n 3), 1, 0, 3, 0, [], []), (6, (.aload_n 2), 1, 0, 2, 0, [], []), (7, (.aload_n 0), 1, 0, 0, 0, [], []), (8, (.getfield 18), 3, 0, 1, 0, [], []), (11, (.iload_n 3), 1, 0, 3, 0, [], []), (12, .iaload, 1, 0, 0, 0, [], []), (13, (.aload_n 0), 1, 0, 0, 0, [], []), (14, (.getfield 18), 3, 0, 1, 0, [], []), (17, (.iload_n 3), 1, 0, 3, 0, [], []), (18, (.iconst 1), 1, 1, 0, 0, [], []), (19, .iadd, 1, 0, 0, 0, [], []), (20, .iaload, 1, 0, 0, 0, [], []), (21, (.aload_n 0), 1, 0, 0, 0, [], []), (22, (.getfield 18), 3, 0, 1, 0, [], []), (25, (.iload_n 3), 1, 0, 3, 0, [], []), (26, (.iconst 2), 1, 2, 0, 0, [], []), (27, .iadd, 1, 0, 0, 0, [], []), (28, .iaload, 1, 0, 0, 0, [], []), (29, (.aload_n 0), 1, 0, 0, 0, [], []), (30, (.getfield 18), 3, 0, 1, 0, [], []), (33, (.iload_n 3), 1, 0, 3, 0, [], []), (34, (.iconst 3), 1, 3, 0, 0, [], []), (35, .iadd, 1, 0, 0, 0, [], []), (36, .iaload, 1, 0, 0, 0, [], []), (37, (.aload_n 0), 1, 0, 0, 0, [], []), (38, (.getfield 18), 3, 0, 1, 0, [], []), (41, (.iload_n 3), 1, 0, 3, 0, [], []), (42, (.iconst 4), 1, 4, 0, 0, [], []), (43, .iadd, 1, 0, 0, 0, [], []), (44, .iaload, 1, 0, 0, 0, [], []), (45, (.invokevirtual 41), 3, 0, 38, 2060, [], []), (48, .return_, 1, 0, 0, 0, [], [])]
def tX0_placeOf : List bwE := [(0, (.aload_n 0), 1, 0, 0, 0, [], []), (1, (.getfield 26), 3, 0, 2, 0, [], []), (4, (.iload_n 1), 1, 0, 1, 0, [], []), (5, .iadd, 1, 0, 0, 0, [], []), (6, (.bipush 100), 2, 100, 0, 0, [], []), (8, .irem, 1, 0, 0, 0, [], []), (9, (.iconst 5), 1, 5, 0, 0, [], []), (10, .imul, 1, 0, 0, 0, [], []), (11, .ireturn, 1, 0, 0, 0, [], [])]
def tX1_goOver : List bwE := [(0, (.aload_n 0), 1, 0, 0, 0, [], []), (1, (.iconst (-1)), 1, (-1), 0, 0, [], []), (2, (.putfield 28), 3, 0, 7, 1, [], []), (5, (.aload_n 0), 1, 0, 0, 0, [], []), (6, (.iconst 0), 1, 0, 0, 0, [], []), (7, (.putfield 32), 3, 0, 6, 1, [], []), (10, (.aload_n 0), 1, 0, 0, 0, [], []), (11, (.aload_n 1), 1, 0, 1, 0, [], []), (12, (.invokevirtual 35), 3, 0, 8, 1020, [], []), (15, .return_, 1, 0, 0, 0, [], [])]
def tX1_goOverThoseWith : List bwE := [(0, (.aload_n 0), 1, 0, 0, 0, [], []), (1, (.iload_n 2), 1, 0, 2, 0, [], []), (2, (.putfield 28), 3, 0, 7, 1, [], []), (5, (.aload_n 0), 1, 0, 0, 0, [], []), (6, (.iload_n 3), 1, 0, 3, 0, [], []), (7, (.putfield 39), 3, 0, 8, 1, [], []), (10, (.aload_n 0), 1, 0, 0, 0, [], []), (11, (.iconst 0), 1, 0, 0, 0, [], []), (12, (.putfield 32), 3, 0, 6, 1, [], []), (15, (.aload_n 0), 1, 0, 0, 0, [], []), (16, (.aload_n 1), 1, 0, 1, 0, [], []), (17, (.invokevirtual 35), 3, 0, 8, 1020, [], []), (20, .return_, 1, 0, 0, 0, [], [])]
def tX1_rank : List bwE := [(0, (.aload_n 0), 1, 0, 0, 0, [], []), (1, (.iconst (-1)), 1, (-1), 0, 0, [], []), (2, (.putfield 28), 3, 0, 7, 1, [], []), (5, (.aload_n 0), 1, 0, 0, 0, [], []), (6, (.iload_n 2), 1, 0, 2, 0, [], []), (7, (.bipush 10), 2, 10, 0, 0, [], []), (9, (.invokestatic 42), 3, 0, 0, 998, [], []), (12, (.putfield 32), 3, 0, 6, 1, [], []), (15, (.aload_n 0), 1, 0, 0, 0, [], []), (16, (.aload_n 1), 1, 0, 1, 0, [], []), (17, (.invokevirtual 35), 3, 0, 8, 1020, [], []), (20, .return_, 1, 0, 0, 0, [], [])]
def tX1_start : List bwE := [(0, (.iconst 0), 1, 0, 0, 0, [], []), (1, (.istore_n 2), 1, 0, 2, 0, [], []), (2, (.iload_n 2), 1, 0, 2, 0, [], []), (3, (.bipush 48), 2, 48, 0, 0, [], []), (5, (.if_icmp .ge 16), 3, 0, 21, 0, [], []), (8, (.aload_n 0), 1, 0, 0, 0, [], []), (9, (.getfield 18), 3, 0, 2, 1, [], []), (12, (.iload_n 2), 1, 0, 2, 0, [], []), (13, (.lconst 0), 1, 0, 0, 0, [], []), (14, .lastore, 1, 0, 0, 0, [], []), (15, (.iinc 2 1), 3, 1, 2, 0, [], []), (18, (.goto (-16)), 3, 0, 2, 0, [], []), (21, (.aload_n 0), 1, 0, 0, 0, [], []), (22, (.iconst 0), 1, 0, 0, 0, [], []), (23, (.putfield 48), 3, 0, 5, 1, [], []), (26, (.aload_n 0), 1, 0, 0, 0, [], []), (27, (.iconst 0), 1, 0, 0, 0, [], []), (28, (.putfield 51), 3, 0, 9, 1, [], []), (31, (.aload_n 0), 1, 0, 0, 0, [], []), (32, (.aload_n 1), 1, 0, 1, 0, [], []), (33, (.invokevirtual 54), 3, 0, 9, 1020, [], []), (36, (.aload_n 0), 1, 0, 0, 0, [], []), (37, (.aload_n 1), 1, 0, 1, 0, [], []), (38, (.aload_n 0), 1, 0, 0, 0, [], []), (39, (.iconst 0), 1, 0, 0, 0, [], []), (40, (.lconst 1), 1, 0, 1, 0, [], []), (41, (.invokestatic 57), 3, 0, 10, 42, [], []), (44, (.putfield 61), 3, 0, 10, 1, [], []), (47, .return_, 1, 0, 0, 0, [], [])]
def tX1_putParentsFirst : List bwE := [(0, (.iconst 0), 1, 0, 0, 0, [], []), (1, (.istore_n 2), 1, 0, 2, 0, [], []), (2, (.iconst 0), 1, 0, 0, 0, [], []), (3, (.istore_n 3), 1, 0, 3, 0, [], []), (4, (.iconst 0), 1, 0, 0, 0, [], []), (5, (.istore 4), 2, 0, 4, 0, [], []), (7, (.iload 4), 2, 0, 4, 0, [5], []), (9, (.aload_n 1), 1, 0, 1, 0, [], []), (10, (.getfield 65), 3, 0, 0, 2, [], []), (13, (.if_icmp .ge 67), 3, 0, 80, 0, [], []), (16, (.iconst 0), 1, 0, 0, 0, [], []), (17, (.istore 5), 2, 0, 5, 0, [], []), (19, (.iload 5), 2, 0, 5, 0, [], []), (21, (.aload_n 1), 1, 0, 1, 0, [], []), (22, (.getfield 65), 3, 0, 0, 2, [], []), (25, (.if_icmp .ge 49), 3, 0, 74, 0, [], []), (28, (.iload_n 2), 1, 0, 2, 0, [], []), (29, (.iload 5), 2, 0, 5, 0, [], []), (31, (.invokestatic 70), 3, 0, 84, 23, [], []), (34, (.ifCond .ne 34), 3, 0, 68, 0, [], []), (37, (.aload_n 1), 1, 0, 1, 0, [], []), (38, (.iload 5), 2, 0, 5, 0, [], []), (40, (.invokevirtual 74), 3, 0, 32, 2021, [], []), (43, (.iload_n 2), 1, 0, 2, 0, [], []), (44, (.iconst (-1)), 1, (-1), 0, 0, [], []), (45, .ixor, 1, 0, 0, 0, [], []), (46, .iand, 1, 0, 0, 0, [], []), (47, (.ifCond .ne 21), 3, 0, 68, 0, [], []), (50, (.aload_n 0), 1, 0, 0, 0, [], []), (51, (.getfield 9), 3, 0, 0, 1, [], []), (54, (.iload_n 3), 1, 0, 3, 0, [], []), (55, (.iload 5), 2, 0, 5, 0, [], []), (57, .iastore, 1, 0, 0, 0, [], []), (58, (.iinc 3 1), 3, 1, 3, 0, [], []), (61, (.iload_n 2), 1, 0, 2, 0, [], []), (62, (.iconst 1), 1, 1, 0, 0, [], []), (63, (.iload 5), 2, 0, 5, 0, [], []), (65, .ishl, 1, 0, 0, 0, [], []), (66, .ior, 1, 0, 0, 0, [], []), (67, (.istore_n 2), 1, 0, 2, 0, [], []), (68, (.iinc 5 1), 3, 1, 5, 0, [], []), (71, (.goto (-52)), 3, 0, 19, 0, [], []), (74, (.iinc 4 1), 3, 1, 4, 0, [], []), (77, (.goto (-70)), 3, 0, 7, 0, [], []), (80, .return_, 1, 0, 0, 0, [], [])]
def tX1_spread : List bwE := [(0, (.iload_n 2), 1, 0, 2, 0, [], []), (1, (.aload_n 0), 1, 0, 0, 0, [], []), (2, (.getfield 65), 3, 0, 0, 2, [], []), (5, (.if_icmp .ge 9), 3, 0, 14, 0, [], []), (8, (.iload_n 2), 1, 0, 2, 0, [], []), (9, (.bipush 12), 2, 12, 0, 0, [], []), (11, (.if_icmp .lt 11), 3, 0, 22, 0, [], []), (14, (.aload_n 1), 1, 0, 1, 0, [], []), (15, (.aload_n 0), 1, 0, 0, 0, [], []), (16, (.lload_n 3), 1, 0, 3, 0, [], []), (17, (.invokevirtual 78), 3, 0, 11, 1030, [], []), (20, (.lload_n 3), 1, 0, 3, 0, [], []), (21, .lreturn, 1, 0, 0, 0, [], []), (22, (.aload_n 1), 1, 0, 1, 0, [], []), (23, (.getfield 9), 3, 0, 0, 1, [], []), (26, (.iload_n 2), 1, 0, 2, 0, [], []), (27, .iaload, 1, 0, 0, 0, [], []), (28, (.istore 5), 2, 0, 5, 0, [], []), (30, (.aload_n 0), 1, 0, 0, 0, [], []), (31, (.iload 5), 2, 0, 5, 0, [], []), (33, (.aload_n 1), 1, 0, 1, 0, [], []), (34, (.getfield 15), 3, 0, 1, 1, [], []), (37, (.invokevirtual 82), 3, 0, 27, 2031, [], []), (40, (.istore 6), 2, 0, 6, 0, [], []), (42, (.lconst 0), 1, 0, 0, 0, [], []), (43, (.lstore 7), 2, 0, 7, 0, [], []), (45, (.iconst 0), 1, 0, 0, 0, [], []), (46, (.istore 9), 2, 0, 9, 0, [], []), (48, (.iload 9), 2, 0, 9, 0, [10], []), (50, (.aload_n 0), 1, 0, 0, 0, [], []), (51, (.getfield 86), 3, 0, 2, 2, [], []), (54, (.iload 5), 2, 0, 5, 0, [], []), (56, .iaload, 1, 0, 0, 0, [], []), (57, (.if_icmp .ge 94), 3, 0, 151, 0, [], []), (60, (.lload_n 3), 1, 0, 3, 0, [], []), (61, (.aload_n 0), 1, 0, 0, 0, [], []), (62, (.iload 5), 2, 0, 5, 0, [], []), (64, (.iload 6), 2, 0, 6, 0, [], []), (66, (.iload 9), 2, 0, 9, 0, [], []), (68, (.invokevirtual 89), 3, 0, 30, 2041, [], []), (71, .i2l, 1, 0, 0, 0, [], []), (72, .lmul, 1, 0, 0, 0, [], []), (73, (.lstore 10), 2, 0, 10, 0, [], []), (75, (.lload 10), 2, 0, 10, 0, [], []), (77, (.lconst 0), 1, 0, 0, 0, [], []), (78, .lcmp, 1, 0, 0, 0, [], []), (79, (.ifCond .le 66), 3, 0, 145, 0, [], []), (82, (.iload 5), 2, 0, 5, 0, [], []), (84, (.aload_n 1), 1, 0, 1, 0, [], []), (85, (.getfield 28), 3, 0, 7, 1, [], []), (88, (.if_icmp .ne 12), 3, 0, 100, 0, [], []), (91, (.iload 9), 2, 0, 9, 0, [], []), (93, (.aload_n 1), 1, 0, 1, 0, [], []), (94, (.getfield 39), 3, 0, 8, 1, [], []), (97, (.if_icmp .ne 48), 3, 0, 145, 0, [], []), (100, (.aload_n 1), 1, 0, 1, 0, [], []), (101, (.getfield 15), 3, 0, 1, 1, [], []), (104, (.iload 5), 2, 0, 5, 0, [], []), (106, (.iload 9), 2, 0, 9, 0, [], []), (108, .iastore, 1, 0, 0, 0, [], []), (109, (.aload_n 0), 1, 0, 0, 0, [], []), (110, (.aload_n 1), 1, 0, 1, 0, [], []), (111, (.iload_n 2), 1, 0, 2, 0, [], []), (112, (.iconst 1), 1, 1, 0, 0, [], []), (113, .iadd, 1, 0, 0, 0, [], []), (114, (.lload 10), 2, 0, 10, 0, [], []), (116, (.invokestatic 57), 3, 0, 10, 42, [], []), (119, (.lstore 12), 2, 0, 12, 0, [], []), (121, (.aload_n 1), 1, 0, 1, 0, [], []), (122, (.getfield 18), 3, 0, 2, 1, [], []), (125, (.iload 5), 2, 0, 5, 0, [], []), (127, (.iload 9), 2, 0, 9, 0, [], []), (129, (.invokestatic 93), 3, 0, 80, 21, [], []), (132, .dup2, 1, 0, 0, 0, [], []), (133, .laload, 1, 0, 0, 0, [], []), (134, (.lload 12), 2, 0, 12, 0, [], []), (136, .ladd, 1, 0, 0, 0, [], []), (137, .lastore, 1, 0, 0, 0, [], []), (138, (.lload 7), 2, 0, 7, 0, [], []), (140, (.lload 12), 2, 0, 12, 0, [], []), (142, .ladd, 1, 0, 0, 0, [], []), (143, (.lstore 7), 2, 0, 7, 0, [], []), (145, (.iinc 9 1), 3, 1, 9, 0, [12], []), (148, (.goto (-100)), 3, 0, 48, 0, [], []), (151, (.lload 7), 2, 0, 7, 0, [], []), (153, .lreturn, 1, 0, 0, 0, [], [])]
def tX1_meet : List bwE := [(0, (.aload_n 0), 1, 0, 0, 0, [], []), (1, .dup, 1, 0, 0, 0, [], []), (2, (.getfield 51), 3, 0, 9, 1, [], []), (5, (.iconst 1), 1, 1, 0, 0, [], []), (6, .iadd, 1, 0, 0, 0, [], []), (7, (.putfield 51), 3, 0, 9, 1, [], []), (10, (.aload_n 0), 1, 0, 0, 0, [], []), (11, (.getfield 32), 3, 0, 6, 1, [], []), (14, (.ifCond .ne 4), 3, 0, 18, 0, [], []), (17, .return_, 1, 0, 0, 0, [], []), (18, (.aload_n 0), 1, 0, 0, 0, [], []), (19, (.aload_n 1), 1, 0, 1, 0, [], []), (20, (.invokevirtual 96), 3, 0, 13, 1021, [], []), (23, (.istore 4), 2, 0, 4, 0, [], []), (25, (.aload_n 0), 1, 0, 0, 0, [], []), (26, (.getfield 48), 3, 0, 5, 1, [], []), (29, (.aload_n 0), 1, 0, 0, 0, [], []), (30, (.getfield 32), 3, 0, 6, 1, [], []), (33, (.if_icmp .ge 16), 3, 0, 49, 0, [], []), (36, (.aload_n 0), 1, 0, 0, 0, [], []), (37, .dup, 1, 0, 0, 0, [], []), (38, (.getfield 48), 3, 0, 5, 1, [], []), (41, (.iconst 1), 1, 1, 0, 0, [], []), (42, .iadd, 1, 0, 0, 0, [], []), (43, (.putfield 48), 3, 0, 5, 1, [], []), (46, (.goto 20), 3, 0, 66, 0, [], []), (49, (.aload_n 0), 1, 0, 0, 0, [], []), (50, (.lload_n 2), 1, 0, 2, 0, [], []), (51, (.iload 4), 2, 0, 4, 0, [], []), (53, (.aload_n 0), 1, 0, 0, 0, [], []), (54, (.getfield 48), 3, 0, 5, 1, [], []), (57, (.iconst 1), 1, 1, 0, 0, [], []), (58, .isub, 1, 0, 0, 0, [], []), (59, (.invokevirtual 100), 3, 0, 12, 1043, [], []), (62, (.ifCond .ne 4), 3, 0, 66, 0, [], []), (65, .return_, 1, 0, 0, 0, [], []), (66, (.aload_n 0), 1, 0, 0, 0, [], []), (67, (.getfield 48), 3, 0, 5, 1, [], []), (70, (.iconst 1), 1, 1, 0, 0, [], []), (71, .isub, 1, 0, 0, 0, [], []), (72, (.istore 5), 2, 0, 5, 0, [], []), (74, (.iload 5), 2, 0, 5, 0, [], []), (76, (.ifCond .le 55), 3, 0, 131, 0, [], []), (79, (.aload_n 0), 1, 0, 0, 0, [], []), (80, (.lload_n 2), 1, 0, 2, 0, [], []), (81, (.iload 4), 2, 0, 4, 0, [], []), (83, (.iload 5), 2, 0, 5, 0, [], []), (85, (.iconst 1), 1, 1, 0, 0, [], []), (86, .isub, 1, 0, 0, 0, [], []), (87, (.invokevirtual 100), 3, 0, 12, 1043, [], []), (90, (.ifCond .eq 41), 3, 0, 131, 0, [], []), (93, (.aload_n 0), 1, 0, 0, 0, [], []), (94, (.getfield 22), 3, 0, 3, 1, [], []), (97, (.iload 5), 2, 0, 5, 0, [], []), (99, (.aload_n 0), 1, 0, 0, 0, [], []), (100, (.getfield 22), 3, 0, 3, 1, [], []), (103, (.iload 5), 2, 0, 5, 0, [], []), (105, (.iconst 1), 1, 1, 0, 0, [], []), (106, .isub, 1, 0, 0, 0, [], []), (107, .laload, 1, 0, 0, 0, [], []), (108, .lastore, 1, 0, 0, 0, [], []), (109, (.aload_n 0), 1, 0, 0, 0, [], []), (110, (.getfield 25), 3, 0, 4, 1, [], []), (113, (.iload 5), 2, 0, 5, 0, [], []), (115, (.aload_n 0), 1, 0, 0, 0, [], []), (116, (.getfield 25), 3, 0, 4, 1, [], []), (119, (.iload 5), 2, 0, 5, 0, [], []), (121, (.iconst 1), 1, 1, 0, 0, [], []), (122, .isub, 1, 0, 0, 0, [], []), (123, .iaload, 1, 0, 0, 0, [], []), (124, .iastore, 1, 0, 0, 0, [], []), (125, (.iinc 5 (-1)), 3, (-1), 5, 0, [], []), (128, (.goto (-54)), 3, 0, 74, 0, [], []), (131, (.aload_n 0), 1, 0, 0, 0, [], []), (132, (.getfield 22), 3, 0, 3, 1, [], []), (135, (.iload 5), 2, 0, 5, 0, [], []), (137, (.lload_n 2), 1, 0, 2, 0, [], []), (138, .lastore, 1, 0, 0, 0, [], []), (139, (.aload_n 0), 1, 0, 0, 0, [], []), (140, (.getfield 25), 3, 0, 4, 1, [], []), (143, (.iload 5), 2, 0, 5, 0, [], []), (145, (.iload 4), 2, 0, 4, 0, [], []), (147, .iastore, 1, 0, 0, 0, [], []), (148, .return_, 1, 0, 0, 0, [], [])]
def tX1_isBefore : List bwE := [(0, (.aload_n 0), 1, 0, 0, 0, [], []), (1, (.getfield 22), 3, 0, 3, 1, [], []), (4, (.iload 4), 2, 0, 4, 0, [], []), (6, .laload, 1, 0, 0, 0, [], []), (7, (.lstore 5), 2, 0, 5, 0, [], []), (9, (.lload_n 1), 1, 0, 1, 0, [], []), (10, (.lload 5), 2, 0, 5, 0, [], []), (12, .lcmp, 1, 0, 0, 0, [], []), (13, (.ifCond .gt 21), 3, 0, 34, 0, [], []), (16, (.lload_n 1), 1, 0, 1, 0, [], []), (17, (.lload 5), 2, 0, 5, 0, [], []), (19, .lcmp, 1, 0, 0, 0, [], []), (20, (.ifCond .ne 18), 3, 0, 38, 0, [], []), (23, (.iload_n 3), 1, 0, 3, 0, [], []), (24, (.aload_n 0), 1, 0, 0, 0, [], []), (25, (.getfield 25), 3, 0, 4, 1, [], []), (28, (.iload 4), 2, 0, 4, 0, [], []), (30, .iaload, 1, 0, 0, 0, [], []), (31, (.if_icmp .ge 7), 3, 0, 38, 0, [], []), (34, (.iconst 1), 1, 1, 0, 0, [], []), (35, (.goto 4), 3, 0, 39, 0, [], []), (38, (.iconst 0), 1, 0, 0, 0, [], []), (39, .ireturn, 1, 0, 0, 0, [], [])]
def tX1_wholeChosen : List bwE := [(0, (.iconst 0), 1, 0, 0, 0, [], []), (1, (.istore_n 2), 1, 0, 2, 0, [], []), (2, (.iconst 0), 1, 0, 0, 0, [], []), (3, (.istore_n 3), 1, 0, 3, 0, [], []), (4, (.iload_n 3), 1, 0, 3, 0, [], []), (5, (.aload_n 1), 1, 0, 1, 0, [], []), (6, (.getfield 65), 3, 0, 0, 2, [], []), (9, (.if_icmp .ge 20), 3, 0, 29, 0, [], []), (12, (.iload_n 2), 1, 0, 2, 0, [], []), (13, (.iconst 2), 1, 2, 0, 0, [], []), (14, .ishl, 1, 0, 0, 0, [], []), (15, (.aload_n 0), 1, 0, 0, 0, [], []), (16, (.getfield 15), 3, 0, 1, 1, [], []), (19, (.iload_n 3), 1, 0, 3, 0, [], []), (20, .iaload, 1, 0, 0, 0, [], []), (21, .ior, 1, 0, 0, 0, [], []), (22, (.istore_n 2), 1, 0, 2, 0, [], []), (23, (.iinc 3 1), 3, 1, 3, 0, [], []), (26, (.goto (-22)), 3, 0, 4, 0, [], []), (29, (.iload_n 2), 1, 0, 2, 0, [], []), (30, .ireturn, 1, 0, 0, 0, [], [])]
def tX1_worthSum : List bwE := [(0, (.lconst 0), 1, 0, 0, 0, [], []), (1, (.lstore_n 3), 1, 0, 3, 0, [], []), (2, (.iconst 0), 1, 0, 0, 0, [], []), (3, (.istore 5), 2, 0, 5, 0, [], []), (5, (.iload 5), 2, 0, 5, 0, [6], []), (7, (.aload_n 1), 1, 0, 1, 0, [], []), (8, (.getfield 65), 3, 0, 0, 2, [], []), (11, (.if_icmp .ge 60), 3, 0, 71, 0, [], []), (14, (.iconst 0), 1, 0, 0, 0, [], []), (15, (.istore 6), 2, 0, 6, 0, [], []), (17, (.iload 6), 2, 0, 6, 0, [], []), (19, (.aload_n 1), 1, 0, 1, 0, [], []), (20, (.getfield 86), 3, 0, 2, 2, [], []), (23, (.iload 5), 2, 0, 5, 0, [], []), (25, .iaload, 1, 0, 0, 0, [], []), (26, (.if_icmp .ge 39), 3, 0, 65, 0, [], []), (29, (.lload_n 3), 1, 0, 3, 0, [], []), (30, (.aload_n 1), 1, 0, 1, 0, [], []), (31, (.getfield 104), 3, 0, 10, 2, [], []), (34, (.iload_n 2), 1, 0, 2, 0, [], []), (35, (.iload 5), 2, 0, 5, 0, [], []), (37, (.iload 6), 2, 0, 6, 0, [], []), (39, (.invokestatic 107), 3, 0, 82, 31, [], []), (42, .iaload, 1, 0, 0, 0, [], []), (43, .i2l, 1, 0, 0, 0, [], []), (44, (.aload_n 0), 1, 0, 0, 0, [], []), (45, (.getfield 18), 3, 0, 2, 1, [], []), (48, (.iload 5), 2, 0, 5, 0, [], []), (50, (.iload 6), 2, 0, 6, 0, [], []), (52, (.invokestatic 93), 3, 0, 80, 21, [], []), (55, .laload, 1, 0, 0, 0, [], []), (56, .lmul, 1, 0, 0, 0, [], []), (57, .ladd, 1, 0, 0, 0, [], []), (58, (.lstore_n 3), 1, 0, 3, 0, [], []), (59, (.iinc 6 1), 3, 1, 6, 0, [], []), (62, (.goto (-45)), 3, 0, 17, 0, [], []), (65, (.iinc 5 1), 3, 1, 5, 0, [], []), (68, (.goto (-63)), 3, 0, 5, 0, [], []), (71, (.lload_n 3), 1, 0, 3, 0, [], []), (72, .lreturn, 1, 0, 0, 0, [], [])]
def tX1_bestOption : List bwE := [(0, (.iconst 0), 1, 0, 0, 0, [], []), (1, (.istore_n 2), 1, 0, 2, 0, [], []), (2, (.iconst 1), 1, 1, 0, 0, [], []), (3, (.istore_n 3), 1, 0, 3, 0, [], []), (4, (.iload_n 3), 1, 0, 3, 0, [], []), (5, (.aload_n 1), 1, 0, 1, 0, [], []), (6, (.getfield 110), 3, 0, 1, 2, [], []), (9, (.if_icmp .ge 27), 3, 0, 36, 0, [], []), (12, (.aload_n 0), 1, 0, 0, 0, [], []), (13, (.aload_n 1), 1, 0, 1, 0, [], []), (14, (.iload_n 3), 1, 0, 3, 0, [], []), (15, (.invokevirtual 113), 3, 0, 14, 1032, [], []), (18, (.aload_n 0), 1, 0, 0, 0, [], []), (19, (.aload_n 1), 1, 0, 1, 0, [], []), (20, (.iload_n 2), 1, 0, 2, 0, [], []), (21, (.invokevirtual 113), 3, 0, 14, 1032, [], []), (24, .lcmp, 1, 0, 0, 0, [], []), (25, (.ifCond .le 5), 3, 0, 30, 0, [], []), (28, (.iload_n 3), 1, 0, 3, 0, [], []), (29, (.istore_n 2), 1, 0, 2, 0, [], []), (30, (.iinc 3 1), 3, 1, 3, 0, [], []), (33, (.goto (-29)), 3, 0, 4, 0, [], []), (36, (.iload_n 2), 1, 0, 2, 0, [], []), (37, .ireturn, 1, 0, 0, 0, [], [])]
def tX1_greatestWorthSum : List bwE := [(0, (.aload_n 0), 1, 0, 0, 0, [], []), (1, (.aload_n 1), 1, 0, 1, 0, [], []), (2, (.aload_n 0), 1, 0, 0, 0, [], []), (3, (.aload_n 1), 1, 0, 1, 0, [], []), (4, (.invokevirtual 117), 3, 0, 15, 1021, [], []), (7, (.invokevirtual 113), 3, 0, 14, 1032, [], []), (10, .lreturn, 1, 0, 0, 0, [], [])]
def tX2_hasThing : List bwE := [(0, (.iload_n 1), 1, 0, 1, 0, [], []), (1, (.ifCond .lt 15), 3, 0, 16, 0, [], []), (4, (.iload_n 1), 1, 0, 1, 0, [], []), (5, (.aload_n 0), 1, 0, 0, 0, [], []), (6, (.getfield 39), 3, 0, 0, 2, [], []), (9, (.if_icmp .ge 7), 3, 0, 16, 0, [], []), (12, (.iconst 1), 1, 1, 0, 0, [], []), (13, (.goto 4), 3, 0, 17, 0, [], []), (16, (.iconst 0), 1, 0, 0, 0, [], []), (17, .ireturn, 1, 0, 0, 0, [], [])]
def tX2_hasValue : List bwE := [(0, (.aload_n 0), 1, 0, 0, 0, [], []), (1, (.iload_n 1), 1, 0, 1, 0, [], []), (2, (.invokevirtual 43), 3, 0, 17, 2023, [], []), (5, (.ifCond .eq 21), 3, 0, 26, 0, [], []), (8, (.iload_n 2), 1, 0, 2, 0, [], []), (9, (.ifCond .lt 17), 3, 0, 26, 0, [], []), (12, (.iload_n 2), 1, 0, 2, 0, [], []), (13, (.aload_n 0), 1, 0, 0, 0, [], []), (14, (.getfield 9), 3, 0, 2, 2, [], []), (17, (.iload_n 1), 1, 0, 1, 0, [], []), (18, .iaload, 1, 0, 0, 0, [], []), (19, (.if_icmp .ge 7), 3, 0, 26, 0, [], []), (22, (.iconst 1), 1, 1, 0, 0, [], []), (23, (.goto 4), 3, 0, 27, 0, [], []), (26, (.iconst 0), 1, 0, 0, 0, [], []), (27, .ireturn, 1, 0, 0, 0, [], [])]
def tX2_mayBeKnownAs : List bwE := [(0, (.aload_n 0), 1, 0, 0, 0, [], []), (1, (.iload_n 1), 1, 0, 1, 0, [], []), (2, (.invokevirtual 43), 3, 0, 17, 2023, [], []), (5, (.ifCond .eq 21), 3, 0, 26, 0, [], []), (8, (.iload_n 2), 1, 0, 2, 0, [], []), (9, (.iconst (-1)), 1, (-1), 0, 0, [], []), (10, (.if_icmp .eq 12), 3, 0, 22, 0, [], []), (13, (.aload_n 0), 1, 0, 0, 0, [], []), (14, (.iload_n 1), 1, 0, 1, 0, [], []), (15, (.iload_n 2), 1, 0, 2, 0, [], []), (16, (.invokevirtual 47), 3, 0, 18, 2033, [], []), (19, (.ifCond .eq 7), 3, 0, 26, 0, [], []), (22, (.iconst 1), 1, 1, 0, 0, [], []), (23, (.goto 4), 3, 0, 27, 0, [], []), (26, (.iconst 0), 1, 0, 0, 0, [], []), (27, .ireturn, 1, 0, 0, 0, [], [])]
def tX2_hasWeight : List bwE := [(0, (.aload_n 0), 1, 0, 0, 0, [], []), (1, (.iload_n 1), 1, 0, 1, 0, [], []), (2, (.iload_n 3), 1, 0, 3, 0, [], []), (3, (.invokevirtual 47), 3, 0, 18, 2033, [], []), (6, (.ifCond .eq 20), 3, 0, 26, 0, [], []), (9, (.iload_n 2), 1, 0, 2, 0, [], []), (10, (.ifCond .lt 16), 3, 0, 26, 0, [], []), (13, (.iload_n 2), 1, 0, 2, 0, [], []), (14, (.aload_n 0), 1, 0, 0, 0, [], []), (15, (.iload_n 1), 1, 0, 1, 0, [], []), (16, (.invokevirtual 51), 3, 0, 26, 2021, [], []), (19, (.if_icmp .ge 7), 3, 0, 26, 0, [], []), (22, (.iconst 1), 1, 1, 0, 0, [], []), (23, (.goto 4), 3, 0, 27, 0, [], []), (26, (.iconst 0), 1, 0, 0, 0, [], []), (27, .ireturn, 1, 0, 0, 0, [], [])]
def tX2_hasOption : List bwE := [(0, (.iload_n 1), 1, 0, 1, 0, [], []), (1, (.ifCond .lt 15), 3, 0, 16, 0, [], []), (4, (.iload_n 1), 1, 0, 1, 0, [], []), (5, (.aload_n 0), 1, 0, 0, 0, [], []), (6, (.getfield 55), 3, 0, 1, 2, [], []), (9, (.if_icmp .ge 7), 3, 0, 16, 0, [], []), (12, (.iconst 1), 1, 1, 0, 0, [], []), (13, (.goto 4), 3, 0, 17, 0, [], []), (16, (.iconst 0), 1, 0, 0, 0, [], []), (17, .ireturn, 1, 0, 0, 0, [], [])]
def tX2_isFree : List bwE := [(0, (.aload_n 0), 1, 0, 0, 0, [], []), (1, (.getfield 27), 3, 0, 7, 2, [], []), (4, (.iload_n 1), 1, 0, 1, 0, [], []), (5, .iaload, 1, 0, 0, 0, [], []), (6, (.iconst (-1)), 1, (-1), 0, 0, [], []), (7, (.if_icmp .ne 17), 3, 0, 24, 0, [], []), (10, (.aload_n 0), 1, 0, 0, 0, [], []), (11, (.getfield 30), 3, 0, 8, 2, [], []), (14, (.iload_n 1), 1, 0, 1, 0, [], []), (15, .iaload, 1, 0, 0, 0, [], []), (16, (.iconst (-1)), 1, (-1), 0, 0, [], []), (17, (.if_icmp .ne 7), 3, 0, 24, 0, [], []), (20, (.iconst 1), 1, 1, 0, 0, [], []), (21, (.goto 4), 3, 0, 25, 0, [], []), (24, (.iconst 0), 1, 0, 0, 0, [], []), (25, .ireturn, 1, 0, 0, 0, [], [])]
def tX2_allWholes : List bwE := [(0, (.iconst 1), 1, 1, 0, 0, [], []), (1, (.istore_n 1), 1, 0, 1, 0, [], []), (2, (.iconst 0), 1, 0, 0, 0, [], []), (3, (.istore_n 2), 1, 0, 2, 0, [], []), (4, (.iload_n 2), 1, 0, 2, 0, [], []), (5, (.aload_n 0), 1, 0, 0, 0, [], []), (6, (.getfield 39), 3, 0, 0, 2, [], []), (9, (.if_icmp .ge 18), 3, 0, 27, 0, [], []), (12, (.iload_n 1), 1, 0, 1, 0, [], []), (13, (.aload_n 0), 1, 0, 0, 0, [], []), (14, (.getfield 9), 3, 0, 2, 2, [], []), (17, (.iload_n 2), 1, 0, 2, 0, [], []), (18, .iaload, 1, 0, 0, 0, [], []), (19, .imul, 1, 0, 0, 0, [], []), (20, (.istore_n 1), 1, 0, 1, 0, [], []), (21, (.iinc 2 1), 3, 1, 2, 0, [], []), (24, (.goto (-20)), 3, 0, 4, 0, [], []), (27, (.iload_n 1), 1, 0, 1, 0, [], []), (28, .ireturn, 1, 0, 0, 0, [], [])]
def tX2_allTotals : List bwE := [(0, (.lconst 1), 1, 0, 1, 0, [], []), (1, (.lstore_n 1), 1, 0, 1, 0, [], []), (2, (.iconst 0), 1, 0, 0, 0, [], []), (3, (.istore_n 3), 1, 0, 3, 0, [], []), (4, (.iload_n 3), 1, 0, 3, 0, [], []), (5, (.aload_n 0), 1, 0, 0, 0, [], []), (6, (.getfield 39), 3, 0, 0, 2, [], []), (9, (.if_icmp .ge 19), 3, 0, 28, 0, [], []), (12, (.lload_n 1), 1, 0, 1, 0, [], []), (13, (.aload_n 0), 1, 0, 0, 0, [], []), (14, (.getfield 15), 3, 0, 3, 2, [], []), (17, (.iload_n 3), 1, 0, 3, 0, [], []), (18, .iaload, 1, 0, 0, 0, [], []), (19, .i2l, 1, 0, 0, 0, [], []), (20, .lmul, 1, 0, 0, 0, [], []), (21, (.lstore_n 1), 1, 0, 1, 0, [], []), (22, (.iinc 3 1), 3, 1, 3, 0, [], []), (25, (.goto (-21)), 3, 0, 4, 0, [], []), (28, (.lload_n 1), 1, 0, 1, 0, [], []), (29, .lreturn, 1, 0, 0, 0, [], [])]
def tX2_arrows : List bwE := [(0, (.iconst 0), 1, 0, 0, 0, [], []), (1, (.istore_n 1), 1, 0, 1, 0, [], []), (2, (.iconst 0), 1, 0, 0, 0, [], []), (3, (.istore_n 2), 1, 0, 2, 0, [], []), (4, (.iload_n 2), 1, 0, 2, 0, [], []), (5, (.aload_n 0), 1, 0, 0, 0, [], []), (6, (.getfield 39), 3, 0, 0, 2, [], []), (9, (.if_icmp .ge 18), 3, 0, 27, 0, [], []), (12, (.iload_n 1), 1, 0, 1, 0, [], []), (13, (.aload_n 0), 1, 0, 0, 0, [], []), (14, (.getfield 18), 3, 0, 4, 2, [], []), (17, (.iload_n 2), 1, 0, 2, 0, [], []), (18, .iaload, 1, 0, 0, 0, [], []), (19, .iadd, 1, 0, 0, 0, [], []), (20, (.istore_n 1), 1, 0, 1, 0, [], []), (21, (.iinc 2 1), 3, 1, 2, 0, [], []), (24, (.goto (-20)), 3, 0, 4, 0, [], []), (27, (.iload_n 1), 1, 0, 1, 0, [], []), (28, .ireturn, 1, 0, 0, 0, [], [])]
def tX2_rows : List bwE := [(0, (.iconst 1), 1, 1, 0, 0, [], []), (1, (.istore_n 2), 1, 0, 2, 0, [], []), (2, (.iconst 0), 1, 0, 0, 0, [], []), (3, (.istore_n 3), 1, 0, 3, 0, [], []), (4, (.iload_n 3), 1, 0, 3, 0, [], []), (5, (.aload_n 0), 1, 0, 0, 0, [], []), (6, (.getfield 18), 3, 0, 4, 2, [], []), (9, (.iload_n 1), 1, 0, 1, 0, [], []), (10, .iaload, 1, 0, 0, 0, [], []), (11, (.if_icmp .ge 27), 3, 0, 38, 0, [], []), (14, (.iload_n 2), 1, 0, 2, 0, [], []), (15, (.aload_n 0), 1, 0, 0, 0, [], []), (16, (.getfield 9), 3, 0, 2, 2, [], []), (19, (.aload_n 0), 1, 0, 0, 0, [], []), (20, (.getfield 21), 3, 0, 5, 2, [], []), (23, (.iload_n 1), 1, 0, 1, 0, [], []), (24, (.iload_n 3), 1, 0, 3, 0, [], []), (25, (.invokestatic 58), 3, 0, 83, 21, [], []), (28, .iaload, 1, 0, 0, 0, [], []), (29, .iaload, 1, 0, 0, 0, [], []), (30, .imul, 1, 0, 0, 0, [], []), (31, (.istore_n 2), 1, 0, 2, 0, [], []), (32, (.iinc 3 1), 3, 1, 3, 0, [], []), (35, (.goto (-31)), 3, 0, 4, 0, [], []), (38, (.iload_n 2), 1, 0, 2, 0, [], []), (39, .ireturn, 1, 0, 0, 0, [], [])]
def tX2_rowAt : List bwE := [(0, (.iconst 0), 1, 0, 0, 0, [], []), (1, (.istore_n 3), 1, 0, 3, 0, [], []), (2, (.iconst 0), 1, 0, 0, 0, [], []), (3, (.istore 4), 2, 0, 4, 0, [], []), (5, (.iload 4), 2, 0, 4, 0, [5], []), (7, (.aload_n 0), 1, 0, 0, 0, [], []), (8, (.getfield 18), 3, 0, 4, 2, [], []), (11, (.iload_n 1), 1, 0, 1, 0, [], []), (12, .iaload, 1, 0, 0, 0, [], []), (13, (.if_icmp .ge 37), 3, 0, 50, 0, [], []), (16, (.aload_n 0), 1, 0, 0, 0, [], []), (17, (.getfield 21), 3, 0, 5, 2, [], []), (20, (.iload_n 1), 1, 0, 1, 0, [], []), (21, (.iload 4), 2, 0, 4, 0, [], []), (23, (.invokestatic 58), 3, 0, 83, 21, [], []), (26, .iaload, 1, 0, 0, 0, [], []), (27, (.istore 5), 2, 0, 5, 0, [], []), (29, (.iload_n 3), 1, 0, 3, 0, [], []), (30, (.aload_n 0), 1, 0, 0, 0, [], []), (31, (.getfield 9), 3, 0, 2, 2, [], []), (34, (.iload 5), 2, 0, 5, 0, [], []), (36, .iaload, 1, 0, 0, 0, [], []), (37, .imul, 1, 0, 0, 0, [], []), (38, (.aload_n 2), 1, 0, 2, 0, [], []), (39, (.iload 5), 2, 0, 5, 0, [], []), (41, .iaload, 1, 0, 0, 0, [], []), (42, .iadd, 1, 0, 0, 0, [], []), (43, (.istore_n 3), 1, 0, 3, 0, [], []), (44, (.iinc 4 1), 3, 1, 4, 0, [], []), (47, (.goto (-42)), 3, 0, 5, 0, [], []), (50, (.iload_n 3), 1, 0, 3, 0, [], []), (51, .ireturn, 1, 0, 0, 0, [], [])]
def tX2_isSound : List bwE := [(0, (.iconst 0), 1, 0, 0, 0, [], []), (1, (.istore_n 1), 1, 0, 1, 0, [], []), (2, (.iload_n 1), 1, 0, 1, 0, [], []), (3, (.aload_n 0), 1, 0, 0, 0, [], []), (4, (.getfield 39), 3, 0, 0, 2, [], []), (7, (.if_icmp .ge 29), 3, 0, 36, 0, [], []), (10, (.aload_n 0), 1, 0, 0, 0, [], []), (11, (.getfield 30), 3, 0, 8, 2, [], []), (14, (.iload_n 1), 1, 0, 1, 0, [], []), (15, .iaload, 1, 0, 0, 0, [], []), (16, (.iconst (-1)), 1, (-1), 0, 0, [], []), (17, (.if_icmp .ne 13), 3, 0, 30, 0, [], []), (20, (.aload_n 0), 1, 0, 0, 0, [], []), (21, (.iload_n 1), 1, 0, 1, 0, [], []), (22, (.invokevirtual 62), 3, 0, 29, 2023, [], []), (25, (.ifCond .ne 5), 3, 0, 30, 0, [], []), (28, (.iconst 0), 1, 0, 0, 0, [], []), (29, .ireturn, 1, 0, 0, 0, [], []), (30, (.iinc 1 1), 3, 1, 1, 0, [], []), (33, (.goto (-31)), 3, 0, 2, 0, [], []), (36, (.aload_n 0), 1, 0, 0, 0, [], []), (37, (.getfield 39), 3, 0, 0, 2, [], []), (40, (.ifCond .le 7), 3, 0, 47, 0, [], []), (43, (.iconst 1), 1, 1, 0, 0, [], []), (44, (.goto 4), 3, 0, 48, 0, [], []), (47, (.iconst 0), 1, 0, 0, 0, [], []), (48, .ireturn, 1, 0, 0, 0, [], [])]
def tX2_hasSoundTable : List bwE := [(0, (.aload_n 0), 1, 0, 0, 0, [], []), (1, (.iload_n 1), 1, 0, 1, 0, [], []), (2, (.invokevirtual 51), 3, 0, 26, 2021, [], []), (5, (.istore_n 2), 1, 0, 2, 0, [], []), (6, (.iconst 0), 1, 0, 0, 0, [], []), (7, (.istore_n 3), 1, 0, 3, 0, [], []), (8, (.iload_n 3), 1, 0, 3, 0, [4, 5], []), (9, (.iload_n 2), 1, 0, 2, 0, [], []), (10, (.if_icmp .ge 62), 3, 0, 72, 0, [], []), (13, (.iconst 0), 1, 0, 0, 0, [], []), (14, (.istore 4), 2, 0, 4, 0, [], []), (16, (.iconst 0), 1, 0, 0, 0, [], []), (17, (.istore 5), 2, 0, 5, 0, [], []), (19, (.iload 5), 2, 0, 5, 0, [], []), (21, (.aload_n 0), 1, 0, 0, 0, [], []), (22, (.getfield 9), 3, 0, 2, 2, [], []), (25, (.iload_n 1), 1, 0, 1, 0, [], []), (26, .iaload, 1, 0, 0, 0, [], []), (27, (.if_icmp .ge 26), 3, 0, 53, 0, [], []), (30, (.iload 4), 2, 0, 4, 0, [], []), (32, (.aload_n 0), 1, 0, 0, 0, [], []), (33, (.getfield 24), 3, 0, 6, 2, [], []), (36, (.iload_n 1), 1, 0, 1, 0, [], []), (37, (.iload_n 3), 1, 0, 3, 0, [], []), (38, (.iload 5), 2, 0, 5, 0, [], []), (40, (.invokestatic 65), 3, 0, 81, 31, [], []), (43, .iaload, 1, 0, 0, 0, [], []), (44, .iadd, 1, 0, 0, 0, [], []), (45, (.istore 4), 2, 0, 4, 0, [], []), (47, (.iinc 5 1), 3, 1, 5, 0, [], []), (50, (.goto (-31)), 3, 0, 19, 0, [], []), (53, (.iload 4), 2, 0, 4, 0, [], []), (55, (.aload_n 0), 1, 0, 0, 0, [], []), (56, (.getfield 15), 3, 0, 3, 2, [], []), (59, (.iload_n 1), 1, 0, 1, 0, [], []), (60, .iaload, 1, 0, 0, 0, [], []), (61, (.if_icmp .eq 5), 3, 0, 66, 0, [], []), (64, (.iconst 0), 1, 0, 0, 0, [], []), (65, .ireturn, 1, 0, 0, 0, [], []), (66, (.iinc 3 1), 3, 1, 3, 0, [], []), (69, (.goto (-61)), 3, 0, 8, 0, [], []), (72, (.iconst 1), 1, 1, 0, 0, [], []), (73, .ireturn, 1, 0, 0, 0, [], [])]
def tX2_factor : List bwE := [(0, (.aload_n 0), 1, 0, 0, 0, [], []), (1, (.getfield 33), 3, 0, 9, 2, [], []), (4, (.iload_n 1), 1, 0, 1, 0, [], []), (5, (.iload_n 3), 1, 0, 3, 0, [], []), (6, (.invokestatic 69), 3, 0, 80, 21, [], []), (9, .iaload, 1, 0, 0, 0, [], []), (10, (.istore 4), 2, 0, 4, 0, [], []), (12, (.aload_n 0), 1, 0, 0, 0, [], []), (13, (.getfield 30), 3, 0, 8, 2, [], []), (16, (.iload_n 1), 1, 0, 1, 0, [], []), (17, .iaload, 1, 0, 0, 0, [], []), (18, (.iconst (-1)), 1, (-1), 0, 0, [], []), (19, (.if_icmp .eq 27), 3, 0, 46, 0, [], []), (22, (.aload_n 0), 1, 0, 0, 0, [], []), (23, (.getfield 30), 3, 0, 8, 2, [], []), (26, (.iload_n 1), 1, 0, 1, 0, [], []), (27, .iaload, 1, 0, 0, 0, [], []), (28, (.iload_n 3), 1, 0, 3, 0, [], []), (29, (.if_icmp .ne 15), 3, 0, 44, 0, [], []), (32, (.iload 4), 2, 0, 4, 0, [], []), (34, (.aload_n 0), 1, 0, 0, 0, [], []), (35, (.getfield 15), 3, 0, 3, 2, [], []), (38, (.iload_n 1), 1, 0, 1, 0, [], []), (39, .iaload, 1, 0, 0, 0, [], []), (40, .imul, 1, 0, 0, 0, [], []), (41, (.goto 4), 3, 0, 45, 0, [], []), (44, (.iconst 0), 1, 0, 0, 0, [], []), (45, .ireturn, 1, 0, 0, 0, [], []), (46, (.aload_n 0), 1, 0, 0, 0, [], []), (47, (.getfield 27), 3, 0, 7, 2, [], []), (50, (.iload_n 1), 1, 0, 1, 0, [], []), (51, .iaload, 1, 0, 0, 0, [], []), (52, (.iconst (-1)), 1, (-1), 0, 0, [], []), (53, (.if_icmp .eq 15), 3, 0, 68, 0, [], []), (56, (.aload_n 0), 1, 0, 0, 0, [], []), (57, (.getfield 27), 3, 0, 7, 2, [], []), (60, (.iload_n 1), 1, 0, 1, 0, [], []), (61, .iaload, 1, 0, 0, 0, [], []), (62, (.iload_n 3), 1, 0, 3, 0, [], []), (63, (.if_icmp .eq 5), 3, 0, 68, 0, [], []), (66, (.iconst 0), 1, 0, 0, 0, [], []), (67, .ireturn, 1, 0, 0, 0, [], []), (68, (.iload 4), 2, 0, 4, 0, [], []), (70, (.aload_n 0), 1, 0, 0, 0, [], []), (71, (.getfield 24), 3, 0, 6, 2, [], []), (74, (.iload_n 1), 1, 0, 1, 0, [], []), (75, (.iload_n 2), 1, 0, 2, 0, [], []), (76, (.iload_n 3), 1, 0, 3, 0, [], []), (77, (.invokestatic 65), 3, 0, 81, 31, [], []), (80, .iaload, 1, 0, 0, 0, [], []), (81, .imul, 1, 0, 0, 0, [], []), (82, .ireturn, 1, 0, 0, 0, [], [])]
def tX2_parentPlace : List bwE := [(0, (.iconst 0), 1, 0, 0, 0, [], []), (1, (.istore_n 3), 1, 0, 3, 0, [], []), (2, (.iload_n 3), 1, 0, 3, 0, [], []), (3, (.aload_n 0), 1, 0, 0, 0, [], []), (4, (.getfield 18), 3, 0, 4, 2, [], []), (7, (.iload_n 1), 1, 0, 1, 0, [], []), (8, .iaload, 1, 0, 0, 0, [], []), (9, (.if_icmp .ge 25), 3, 0, 34, 0, [], []), (12, (.aload_n 0), 1, 0, 0, 0, [], []), (13, (.getfield 21), 3, 0, 5, 2, [], []), (16, (.iload_n 1), 1, 0, 1, 0, [], []), (17, (.iload_n 3), 1, 0, 3, 0, [], []), (18, (.invokestatic 58), 3, 0, 83, 21, [], []), (21, .iaload, 1, 0, 0, 0, [], []), (22, (.iload_n 2), 1, 0, 2, 0, [], []), (23, (.if_icmp .ne 5), 3, 0, 28, 0, [], []), (26, (.iload_n 3), 1, 0, 3, 0, [], []), (27, .ireturn, 1, 0, 0, 0, [], []), (28, (.iinc 3 1), 3, 1, 3, 0, [], []), (31, (.goto (-29)), 3, 0, 2, 0, [], []), (34, (.iconst (-1)), 1, (-1), 0, 0, [], []), (35, .ireturn, 1, 0, 0, 0, [], [])]
def tX2_parentSet : List bwE := [(0, (.iconst 0), 1, 0, 0, 0, [], []), (1, (.istore_n 2), 1, 0, 2, 0, [], []), (2, (.iconst 0), 1, 0, 0, 0, [], []), (3, (.istore_n 3), 1, 0, 3, 0, [], []), (4, (.iload_n 3), 1, 0, 3, 0, [], []), (5, (.aload_n 0), 1, 0, 0, 0, [], []), (6, (.getfield 18), 3, 0, 4, 2, [], []), (9, (.iload_n 1), 1, 0, 1, 0, [], []), (10, .iaload, 1, 0, 0, 0, [], []), (11, (.if_icmp .ge 24), 3, 0, 35, 0, [], []), (14, (.iload_n 2), 1, 0, 2, 0, [], []), (15, (.iconst 1), 1, 1, 0, 0, [], []), (16, (.aload_n 0), 1, 0, 0, 0, [], []), (17, (.getfield 21), 3, 0, 5, 2, [], []), (20, (.iload_n 1), 1, 0, 1, 0, [], []), (21, (.iload_n 3), 1, 0, 3, 0, [], []), (22, (.invokestatic 58), 3, 0, 83, 21, [], []), (25, .iaload, 1, 0, 0, 0, [], []), (26, .ishl, 1, 0, 0, 0, [], []), (27, .ior, 1, 0, 0, 0, [], []), (28, (.istore_n 2), 1, 0, 2, 0, [], []), (29, (.iinc 3 1), 3, 1, 3, 0, [], []), (32, (.goto (-28)), 3, 0, 4, 0, [], []), (35, (.iload_n 2), 1, 0, 2, 0, [], []), (36, .ireturn, 1, 0, 0, 0, [], [])]
def tX2_ancestorsAnd : List bwE := [(0, (.iconst 1), 1, 1, 0, 0, [], []), (1, (.iload_n 1), 1, 0, 1, 0, [], []), (2, .ishl, 1, 0, 0, 0, [], []), (3, (.istore_n 2), 1, 0, 2, 0, [], []), (4, (.iconst 0), 1, 0, 0, 0, [], []), (5, (.istore_n 3), 1, 0, 3, 0, [], []), (6, (.iload_n 3), 1, 0, 3, 0, [4], []), (7, (.aload_n 0), 1, 0, 0, 0, [], []), (8, (.getfield 39), 3, 0, 0, 2, [], []), (11, (.if_icmp .ge 45), 3, 0, 56, 0, [], []), (14, (.iconst 0), 1, 0, 0, 0, [], []), (15, (.istore 4), 2, 0, 4, 0, [], []), (17, (.iload 4), 2, 0, 4, 0, [], []), (19, (.aload_n 0), 1, 0, 0, 0, [], []), (20, (.getfield 39), 3, 0, 0, 2, [], []), (23, (.if_icmp .ge 27), 3, 0, 50, 0, [], []), (26, (.iload_n 2), 1, 0, 2, 0, [], []), (27, (.iload 4), 2, 0, 4, 0, [], []), (29, (.invokestatic 72), 3, 0, 84, 23, [], []), (32, (.ifCond .eq 12), 3, 0, 44, 0, [], []), (35, (.iload_n 2), 1, 0, 2, 0, [], []), (36, (.aload_n 0), 1, 0, 0, 0, [], []), (37, (.iload 4), 2, 0, 4, 0, [], []), (39, (.invokevirtual 75), 3, 0, 32, 2021, [], []), (42, .ior, 1, 0, 0, 0, [], []), (43, (.istore_n 2), 1, 0, 2, 0, [], []), (44, (.iinc 4 1), 3, 1, 4, 0, [], []), (47, (.goto (-30)), 3, 0, 17, 0, [], []), (50, (.iinc 3 1), 3, 1, 3, 0, [], []), (53, (.goto (-47)), 3, 0, 6, 0, [], []), (56, (.iload_n 2), 1, 0, 2, 0, [], []), (57, .ireturn, 1, 0, 0, 0, [], [])]
def tX2_parentSetNow : List bwE := [(0, (.aload_n 0), 1, 0, 0, 0, [], []), (1, (.getfield 30), 3, 0, 8, 2, [], []), (4, (.iload_n 1), 1, 0, 1, 0, [], []), (5, .iaload, 1, 0, 0, 0, [], []), (6, (.iconst (-1)), 1, (-1), 0, 0, [], []), (7, (.if_icmp .ne 11), 3, 0, 18, 0, [], []), (10, (.aload_n 0), 1, 0, 0, 0, [], []), (11, (.iload_n 1), 1, 0, 1, 0, [], []), (12, (.invokevirtual 75), 3, 0, 32, 2021, [], []), (15, (.goto 4), 3, 0, 19, 0, [], []), (18, (.iconst 0), 1, 0, 0, 0, [], []), (19, .ireturn, 1, 0, 0, 0, [], [])]
def tX2_childSetNow : List bwE := [(0, (.iconst 0), 1, 0, 0, 0, [], []), (1, (.istore_n 2), 1, 0, 2, 0, [], []), (2, (.iconst 0), 1, 0, 0, 0, [], []), (3, (.istore_n 3), 1, 0, 3, 0, [], []), (4, (.iload_n 3), 1, 0, 3, 0, [], []), (5, (.aload_n 0), 1, 0, 0, 0, [], []), (6, (.getfield 39), 3, 0, 0, 2, [], []), (9, (.if_icmp .ge 27), 3, 0, 36, 0, [], []), (12, (.aload_n 0), 1, 0, 0, 0, [], []), (13, (.iload_n 3), 1, 0, 3, 0, [], []), (14, (.invokevirtual 78), 3, 0, 34, 2021, [], []), (17, (.iload_n 1), 1, 0, 1, 0, [], []), (18, (.invokestatic 72), 3, 0, 84, 23, [], []), (21, (.ifCond .eq 9), 3, 0, 30, 0, [], []), (24, (.iload_n 2), 1, 0, 2, 0, [], []), (25, (.iconst 1), 1, 1, 0, 0, [], []), (26, (.iload_n 3), 1, 0, 3, 0, [], []), (27, .ishl, 1, 0, 0, 0, [], []), (28, .ior, 1, 0, 0, 0, [], []), (29, (.istore_n 2), 1, 0, 2, 0, [], []), (30, (.iinc 3 1), 3, 1, 3, 0, [], []), (33, (.goto (-29)), 3, 0, 4, 0, [], []), (36, (.iload_n 2), 1, 0, 2, 0, [], []), (37, .ireturn, 1, 0, 0, 0, [], [])]
def tX2_hasOpenRoad : List bwE := [(0, (.aload_n 0), 1, 0, 0, 0, [], []), (1, (.iload_n 1), 1, 0, 1, 0, [], []), (2, (.invokevirtual 81), 3, 0, 35, 2021, [], []), (5, (.istore_n 3), 1, 0, 3, 0, [], []), (6, (.aload_n 0), 1, 0, 0, 0, [], []), (7, (.iload_n 1), 1, 0, 1, 0, [], []), (8, (.invokevirtual 78), 3, 0, 34, 2021, [], []), (11, (.istore 4), 2, 0, 4, 0, [], []), (13, (.iconst 0), 1, 0, 0, 0, [], []), (14, (.istore 5), 2, 0, 5, 0, [], []), (16, (.iload 5), 2, 0, 5, 0, [6], []), (18, (.iconst 2), 1, 2, 0, 0, [], []), (19, (.aload_n 0), 1, 0, 0, 0, [], []), (20, (.getfield 39), 3, 0, 0, 2, [], []), (23, .imul, 1, 0, 0, 0, [], []), (24, (.if_icmp .ge 113), 3, 0, 137, 0, [], []), (27, (.iconst 0), 1, 0, 0, 0, [], []), (28, (.istore 6), 2, 0, 6, 0, [], []), (30, (.iload 6), 2, 0, 6, 0, [7, 8], []), (32, (.aload_n 0), 1, 0, 0, 0, [], []), (33, (.getfield 39), 3, 0, 0, 2, [], []), (36, (.if_icmp .ge 95), 3, 0, 131, 0, [], []), (39, (.iload_n 3), 1, 0, 3, 0, [], []), (40, (.iload 6), 2, 0, 6, 0, [], []), (42, (.invokestatic 72), 3, 0, 84, 23, [], []), (45, (.istore 7), 2, 0, 7, 0, [], []), (47, (.iload 4), 2, 0, 4, 0, [], []), (49, (.iload 6), 2, 0, 6, 0, [], []), (51, (.invokestatic 72), 3, 0, 84, 23, [], []), (54, (.istore 8), 2, 0, 8, 0, [], []), (56, (.aload_n 0), 1, 0, 0, 0, [], []), (57, (.iload 6), 2, 0, 6, 0, [], []), (59, (.invokevirtual 84), 3, 0, 22, 2023, [], []), (62, (.ifCond .eq 22), 3, 0, 84, 0, [], []), (65, (.iload 7), 2, 0, 7, 0, [], []), (67, (.ifCond .ne 8), 3, 0, 75, 0, [], []), (70, (.iload 8), 2, 0, 8, 0, [], []), (72, (.ifCond .eq 12), 3, 0, 84, 0, [], []), (75, (.iload_n 3), 1, 0, 3, 0, [], []), (76, (.aload_n 0), 1, 0, 0, 0, [], []), (77, (.iload 6), 2, 0, 6, 0, [], []), (79, (.invokevirtual 81), 3, 0, 35, 2021, [], []), (82, .ior, 1, 0, 0, 0, [], []), (83, (.istore_n 3), 1, 0, 3, 0, [], []), (84, (.aload_n 0), 1, 0, 0, 0, [], []), (85, (.iload 6), 2, 0, 6, 0, [], []), (87, (.invokevirtual 84), 3, 0, 22, 2023, [], []), (90, (.ifCond .eq 8), 3, 0, 98, 0, [], []), (93, (.iload 8), 2, 0, 8, 0, [], []), (95, (.ifCond .ne 19), 3, 0, 114, 0, [], []), (98, (.aload_n 0), 1, 0, 0, 0, [], []), (99, (.getfield 27), 3, 0, 7, 2, [], []), (102, (.iload 6), 2, 0, 6, 0, [], []), (104, .iaload, 1, 0, 0, 0, [], []), (105, (.iconst (-1)), 1, (-1), 0, 0, [], []), (106, (.if_icmp .eq 19), 3, 0, 125, 0, [], []), (109, (.iload 7), 2, 0, 7, 0, [], []), (111, (.ifCond .eq 14), 3, 0, 125, 0, [], []), (114, (.iload 4), 2, 0, 4, 0, [], []), (116, (.aload_n 0), 1, 0, 0, 0, [], []), (117, (.iload 6), 2, 0, 6, 0, [], []), (119, (.invokevirtual 78), 3, 0, 34, 2021, [], []), (122, .ior, 1, 0, 0, 0, [], []), (123, (.istore 4), 2, 0, 4, 0, [], []), (125, (.iinc 6 1), 3, 1, 6, 0, [], []), (128, (.goto (-98)), 3, 0, 30, 0, [], []), (131, (.iinc 5 1), 3, 1, 5, 0, [], []), (134, (.goto (-118)), 3, 0, 16, 0, [], []), (137, (.iload_n 3), 1, 0, 3, 0, [], []), (138, (.iload 4), 2, 0, 4, 0, [], []), (140, .ior, 1, 0, 0, 0, [], []), (141, (.iload_n 2), 1, 0, 2, 0, [], []), (142, (.invokestatic 72), 3, 0, 84, 23, [], []), (145, .ireturn, 1, 0, 0, 0, [], [])]
def tX2_addThing : List bwE := [(0, (.aload_n 0), 1, 0, 0, 0, [], []), (1, (.getfield 39), 3, 0, 0, 2, [], []), (4, (.istore_n 3), 1, 0, 3, 0, [], []), (5, (.aload_n 0), 1, 0, 0, 0, [], []), (6, .dup, 1, 0, 0, 0, [], []), (7, (.getfield 39), 3, 0, 0, 2, [], []), (10, (.iconst 1), 1, 1, 0, 0, [], []), (11, .iadd, 1, 0, 0, 0, [], []), (12, (.putfield 39), 3, 0, 0, 2, [], []), (15, (.aload_n 0), 1, 0, 0, 0, [], []), (16, (.getfield 9), 3, 0, 2, 2, [], []), (19, (.iload_n 3), 1, 0, 3, 0, [], []), (20, (.iload_n 1), 1, 0, 1, 0, [], []), (21, .iastore, 1, 0, 0, 0, [], []), (22, (.aload_n 0), 1, 0, 0, 0, [], []), (23, (.getfield 15), 3, 0, 3, 2, [], []), (26, (.iload_n 3), 1, 0, 3, 0, [], []), (27, (.iload_n 2), 1, 0, 2, 0, [], []), (28, .iastore, 1, 0, 0, 0, [], []), (29, (.aload_n 0), 1, 0, 0, 0, [], []), (30, (.getfield 27), 3, 0, 7, 2, [], []), (33, (.iload_n 3), 1, 0, 3, 0, [], []), (34, (.iconst (-1)), 1, (-1), 0, 0, [], []), (35, .iastore, 1, 0, 0, 0, [], []), (36, (.aload_n 0), 1, 0, 0, 0, [], []), (37, (.getfield 30), 3, 0, 8, 2, [], []), (40, (.iload_n 3), 1, 0, 3, 0, [], []), (41, (.iconst (-1)), 1, (-1), 0, 0, [], []), (42, .iastore, 1, 0, 0, 0, [], []), (43, (.iconst 0), 1, 0, 0, 0, [], []), (44, (.istore 4), 2, 0, 4, 0, [], []), (46, (.iload 4), 2, 0, 4, 0, [], []), (48, (.iload_n 1), 1, 0, 1, 0, [], []), (49, (.if_icmp .ge 21), 3, 0, 70, 0, [], []), (52, (.aload_n 0), 1, 0, 0, 0, [], []), (53, (.getfield 33), 3, 0, 9, 2, [], []), (56, (.iload_n 3), 1, 0, 3, 0, [], []), (57, (.iload 4), 2, 0, 4, 0, [], []), (59, (.invokestatic 69), 3, 0, 80, 21, [], []), (62, (.iconst 1), 1, 1, 0, 0, [], []), (63, .iastore, 1, 0, 0, 0, [], []), (64, (.iinc 4 1), 3, 1, 4, 0, [], []), (67, (.goto (-21)), 3, 0, 46, 0, [], []), (70, (.aload_n 0), 1, 0, 0, 0, [], []), (71, (.iload_n 3), 1, 0, 3, 0, [], []), (72, (.invokevirtual 87), 3, 0, 41, 2020, [], []), (75, .return_, 1, 0, 0, 0, [], [])]
def tX2_carryOut : List bwE := [(0, (.iload_n 1), 1, 0, 1, 0, [], []), (1, (.tableswitch 161 0 7 #[47, 56, 70, 87, 104, 121, 136, 144]), 47, 0, 162, 0, [], [(0, 48), (1, 57), (2, 71), (3, 88), (4, 105), (5, 122), (6, 137), (7, 145)]), (48, (.aload_n 0), 1, 0, 0, 0, [], []), (49, (.iload_n 3), 1, 0, 3, 0, [], []), (50, (.iload_n 2), 1, 0, 2, 0, [], []), (51, (.invokevirtual 91), 3, 0, 39, 2030, [], []), (54, (.goto 108), 3, 0, 162, 0, [], []), (57, (.aload_n 0), 1, 0, 0, 0, [], []), (58, (.iload_n 3), 1, 0, 3, 0, [], []), (59, (.aload_n 0), 1, 0, 0, 0, [], []), (60, (.iload_n 3), 1, 0, 3, 0, [], []), (61, (.iload_n 2), 1, 0, 2, 0, [], []), (62, (.invokevirtual 95), 3, 0, 31, 2031, [], []), (65, (.invokevirtual 98), 3, 0, 40, 2030, [], []), (68, (.goto 94), 3, 0, 162, 0, [], []), (71, (.aload_n 0), 1, 0, 0, 0, [], []), (72, (.getfield 24), 3, 0, 6, 2, [], []), (75, (.iload_n 2), 1, 0, 2, 0, [], []), (76, (.iload_n 3), 1, 0, 3, 0, [], []), (77, (.iload 4), 2, 0, 4, 0, [], []), (79, (.invokestatic 65), 3, 0, 81, 31, [], []), (82, (.iload 5), 2, 0, 5, 0, [], []), (84, .iastore, 1, 0, 0, 0, [], []), (85, (.goto 77), 3, 0, 162, 0, [], []), (88, (.aload_n 0), 1, 0, 0, 0, [], []), (89, (.getfield 27), 3, 0, 7, 2, [], []), (92, (.iload_n 2), 1, 0, 2, 0, [], []), (93, (.iload_n 3), 1, 0, 3, 0, [], []), (94, .iastore, 1, 0, 0, 0, [], []), (95, (.aload_n 0), 1, 0, 0, 0, [], []), (96, (.getfield 30), 3, 0, 8, 2, [], []), (99, (.iload_n 2), 1, 0, 2, 0, [], []), (100, (.iconst (-1)), 1, (-1), 0, 0, [], []), (101, .iastore, 1, 0, 0, 0, [], []), (102, (.goto 60), 3, 0, 162, 0, [], []), (105, (.aload_n 0), 1, 0, 0, 0, [], []), (106, (.getfield 30), 3, 0, 8, 2, [], []), (109, (.iload_n 2), 1, 0, 2, 0, [], []), (110, (.iload_n 3), 1, 0, 3, 0, [], []), (111, .iastore, 1, 0, 0, 0, [], []), (112, (.aload_n 0), 1, 0, 0, 0, [], []), (113, (.getfield 27), 3, 0, 7, 2, [], []), (116, (.iload_n 2), 1, 0, 2, 0, [], []), (117, (.iconst (-1)), 1, (-1), 0, 0, [], []), (118, .iastore, 1, 0, 0, 0, [], []), (119, (.goto 43), 3, 0, 162, 0, [], []), (122, (.aload_n 0), 1, 0, 0, 0, [], []), (123, (.getfield 33), 3, 0, 9, 2, [], []), (126, (.iload_n 2), 1, 0, 2, 0, [], []), (127, (.iload_n 3), 1, 0, 3, 0, [], []), (128, (.invokestatic 69), 3, 0, 80, 21, [], []), (131, (.iload 4), 2, 0, 4, 0, [], []), (133, .iastore, 1, 0, 0, 0, [], []), (134, (.goto 28), 3, 0, 162, 0, [], []), (137, (.aload_n 0), 1, 0, 0, 0, [], []), (138, (.iload_n 2), 1, 0, 2, 0, [], []), (139, (.invokevirtual 101), 3, 0, 42, 2020, [], []), (142, (.goto 20), 3, 0, 162, 0, [], []), (145, (.aload_n 0), 1, 0, 0, 0, [], []), (146, (.getfield 36), 3, 0, 10, 2, [], []), (149, (.iload_n 2), 1, 0, 2, 0, [], []), (150, (.iload_n 3), 1, 0, 3, 0, [], []), (151, (.iload 4), 2, 0, 4, 0, [], []), (153, (.invokestatic 104), 3, 0, 82, 31, [], []), (156, (.iload 5), 2, 0, 5, 0, [], []), (158, .iastore, 1, 0, 0, 0, [], []), (159, (.goto 3), 3, 0, 162, 0, [], []), (162, .return_, 1, 0, 0, 0, [], [])]
def tX2_addParent : List bwE := [(0, (.aload_n 0), 1, 0, 0, 0, [], []), (1, (.getfield 18), 3, 0, 4, 2, [], []), (4, (.iload_n 1), 1, 0, 1, 0, [], []), (5, .iaload, 1, 0, 0, 0, [], []), (6, (.iconst 3), 1, 3, 0, 0, [], []), (7, (.if_icmp .lt 4), 3, 0, 11, 0, [], []), (10, .return_, 1, 0, 0, 0, [], []), (11, (.aload_n 0), 1, 0, 0, 0, [], []), (12, (.getfield 21), 3, 0, 5, 2, [], []), (15, (.iload_n 1), 1, 0, 1, 0, [], []), (16, (.aload_n 0), 1, 0, 0, 0, [], []), (17, (.getfield 18), 3, 0, 4, 2, [], []), (20, (.iload_n 1), 1, 0, 1, 0, [], []), (21, .iaload, 1, 0, 0, 0, [], []), (22, (.invokestatic 58), 3, 0, 83, 21, [], []), (25, (.iload_n 2), 1, 0, 2, 0, [], []), (26, .iastore, 1, 0, 0, 0, [], []), (27, (.aload_n 0), 1, 0, 0, 0, [], []), (28, (.getfield 18), 3, 0, 4, 2, [], []), (31, (.iload_n 1), 1, 0, 1, 0, [], []), (32, .dup2, 1, 0, 0, 0, [], []), (33, .iaload, 1, 0, 0, 0, [], []), (34, (.iconst 1), 1, 1, 0, 0, [], []), (35, .iadd, 1, 0, 0, 0, [], []), (36, .iastore, 1, 0, 0, 0, [], []), (37, (.aload_n 0), 1, 0, 0, 0, [], []), (38, (.iload_n 1), 1, 0, 1, 0, [], []), (39, (.invokevirtual 87), 3, 0, 41, 2020, [], []), (42, .return_, 1, 0, 0, 0, [], [])]
def tX2_dropParent : List bwE := [(0, (.iload_n 2), 1, 0, 2, 0, [], []), (1, (.ifCond .lt 13), 3, 0, 14, 0, [], []), (4, (.iload_n 2), 1, 0, 2, 0, [], []), (5, (.aload_n 0), 1, 0, 0, 0, [], []), (6, (.getfield 18), 3, 0, 4, 2, [], []), (9, (.iload_n 1), 1, 0, 1, 0, [], []), (10, .iaload, 1, 0, 0, 0, [], []), (11, (.if_icmp .lt 4), 3, 0, 15, 0, [], []), (14, .return_, 1, 0, 0, 0, [], []), (15, (.aload_n 0), 1, 0, 0, 0, [], []), (16, (.getfield 18), 3, 0, 4, 2, [], []), (19, (.iload_n 1), 1, 0, 1, 0, [], []), (20, .dup2, 1, 0, 0, 0, [], []), (21, .iaload, 1, 0, 0, 0, [], []), (22, (.iconst 1), 1, 1, 0, 0, [], []), (23, .isub, 1, 0, 0, 0, [], []), (24, .iastore, 1, 0, 0, 0, [], []), (25, (.iload_n 2), 1, 0, 2, 0, [], []), (26, (.istore_n 3), 1, 0, 3, 0, [], []), (27, (.iload_n 3), 1, 0, 3, 0, [], []), (28, (.aload_n 0), 1, 0, 0, 0, [], []), (29, (.getfield 18), 3, 0, 4, 2, [], []), (32, (.iload_n 1), 1, 0, 1, 0, [], []), (33, .iaload, 1, 0, 0, 0, [], []), (34, (.if_icmp .ge 31), 3, 0, 65, 0, [], []), (37, (.aload_n 0), 1, 0, 0, 0, [], []), (38, (.getfield 21), 3, 0, 5, 2, [], []), (41, (.iload_n 1), 1, 0, 1, 0, [], []), (42, (.iload_n 3), 1, 0, 3, 0, [], []), (43, (.invokestatic 58), 3, 0, 83, 21, [], []), (46, (.aload_n 0), 1, 0, 0, 0, [], []), (47, (.getfield 21), 3, 0, 5, 2, [], []), (50, (.iload_n 1), 1, 0, 1, 0, [], []), (51, (.iload_n 3), 1, 0, 3, 0, [], []), (52, (.iconst 1), 1, 1, 0, 0, [], []), (53, .iadd, 1, 0, 0, 0, [], []), (54, (.invokestatic 58), 3, 0, 83, 21, [], []), (57, .iaload, 1, 0, 0, 0, [], []), (58, .iastore, 1, 0, 0, 0, [], []), (59, (.iinc 3 1), 3, 1, 3, 0, [], []), (62, (.goto (-35)), 3, 0, 27, 0, [], []), (65, (.aload_n 0), 1, 0, 0, 0, [], []), (66, (.iload_n 1), 1, 0, 1, 0, [], []), (67, (.invokevirtual 87), 3, 0, 41, 2020, [], []), (70, .return_, 1, 0, 0, 0, [], [])]
def tX2_resetTable : List bwE := [(0, (.aload_n 0), 1, 0, 0, 0, [], []), (1, (.iload_n 1), 1, 0, 1, 0, [], []), (2, (.invokevirtual 51), 3, 0, 26, 2021, [], []), (5, (.istore_n 2), 1, 0, 2, 0, [], []), (6, (.iconst 0), 1, 0, 0, 0, [], []), (7, (.istore_n 3), 1, 0, 3, 0, [], []), (8, (.iload_n 3), 1, 0, 3, 0, [4], []), (9, (.iload_n 2), 1, 0, 2, 0, [], []), (10, (.if_icmp .ge 56), 3, 0, 66, 0, [], []), (13, (.iconst 0), 1, 0, 0, 0, [], []), (14, (.istore 4), 2, 0, 4, 0, [], []), (16, (.iload 4), 2, 0, 4, 0, [], []), (18, (.aload_n 0), 1, 0, 0, 0, [], []), (19, (.getfield 9), 3, 0, 2, 2, [], []), (22, (.iload_n 1), 1, 0, 1, 0, [], []), (23, .iaload, 1, 0, 0, 0, [], []), (24, (.if_icmp .ge 36), 3, 0, 60, 0, [], []), (27, (.aload_n 0), 1, 0, 0, 0, [], []), (28, (.getfield 24), 3, 0, 6, 2, [], []), (31, (.iload_n 1), 1, 0, 1, 0, [], []), (32, (.iload_n 3), 1, 0, 3, 0, [], []), (33, (.iload 4), 2, 0, 4, 0, [], []), (35, (.invokestatic 65), 3, 0, 81, 31, [], []), (38, (.iload 4), 2, 0, 4, 0, [], []), (40, (.ifCond .ne 12), 3, 0, 52, 0, [], []), (43, (.aload_n 0), 1, 0, 0, 0, [], []), (44, (.getfield 15), 3, 0, 3, 2, [], []), (47, (.iload_n 1), 1, 0, 1, 0, [], []), (48, .iaload, 1, 0, 0, 0, [], []), (49, (.goto 4), 3, 0, 53, 0, [], []), (52, (.iconst 0), 1, 0, 0, 0, [], []), (53, .iastore, 1, 0, 0, 0, [], []), (54, (.iinc 4 1), 3, 1, 4, 0, [], []), (57, (.goto (-41)), 3, 0, 16, 0, [], []), (60, (.iinc 3 1), 3, 1, 3, 0, [], []), (63, (.goto (-55)), 3, 0, 8, 0, [], []), (66, .return_, 1, 0, 0, 0, [], [])]
def tX2_setOptions : List bwE := [(0, (.iload_n 1), 1, 0, 1, 0, [], []), (1, (.bipush 48), 2, 48, 0, 0, [], []), (3, .imul, 1, 0, 0, 0, [], []), (4, (.istore_n 2), 1, 0, 2, 0, [], []), (5, (.iload_n 2), 1, 0, 2, 0, [], []), (6, (.aload_n 0), 1, 0, 0, 0, [], []), (7, (.getfield 36), 3, 0, 10, 2, [], []), (10, .arraylength, 1, 0, 0, 0, [], []), (11, (.if_icmp .ge 16), 3, 0, 27, 0, [], []), (14, (.aload_n 0), 1, 0, 0, 0, [], []), (15, (.getfield 36), 3, 0, 10, 2, [], []), (18, (.iload_n 2), 1, 0, 2, 0, [], []), (19, (.iconst 0), 1, 0, 0, 0, [], []), (20, .iastore, 1, 0, 0, 0, [], []), (21, (.iinc 2 1), 3, 1, 2, 0, [], []), (24, (.goto (-19)), 3, 0, 5, 0, [], []), (27, (.aload_n 0), 1, 0, 0, 0, [], []), (28, (.iload_n 1), 1, 0, 1, 0, [], []), (29, (.putfield 55), 3, 0, 1, 2, [], []), (32, .return_, 1, 0, 0, 0, [], [])]
def tX2_copyFrom : List bwE := [(0, (.aload_n 0), 1, 0, 0, 0, [], []), (1, (.aload_n 1), 1, 0, 1, 0, [], []), (2, (.getfield 39), 3, 0, 0, 2, [], []), (5, (.putfield 39), 3, 0, 0, 2, [], []), (8, (.aload_n 0), 1, 0, 0, 0, [], []), (9, (.aload_n 1), 1, 0, 1, 0, [], []), (10, (.getfield 55), 3, 0, 1, 2, [], []), (13, (.putfield 55), 3, 0, 1, 2, [], []), (16, (.aload_n 1), 1, 0, 1, 0, [], []), (17, (.getfield 9), 3, 0, 2, 2, [], []), (20, (.aload_n 0), 1, 0, 0, 0, [], []), (21, (.getfield 9), 3, 0, 2, 2, [], []), (24, (.invokestatic 107), 3, 0, 44, 20, [], []), (27, (.aload_n 1), 1, 0, 1, 0, [], []), (28, (.getfield 15), 3, 0, 3, 2, [], []), (31, (.aload_n 0), 1, 0, 0, 0, [], []), (32, (.getfield 15), 3, 0, 3, 2, [], []), (35, (.invokestatic 107), 3, 0, 44, 20, [], []), (38, (.aload_n 1), 1, 0, 1, 0, [], []), (39, (.getfield 18), 3, 0, 4, 2, [], []), (42, (.aload_n 0), 1, 0, 0, 0, [], []), (43, (.getfield 18), 3, 0, 4, 2, [], []), (46, (.invokestatic 107), 3, 0, 44, 20, [], []), (49, (.aload_n 1), 1, 0, 1, 0, [], []), (50, (.getfield 21), 3, 0, 5, 2, [], []), (53, (.aload_n 0), 1, 0, 0, 0, [], []), (54, (.getfield 21), 3, 0, 5, 2, [], []), (57, (.invokestatic 107), 3, 0, 44, 20, [], []), (60, (.aload_n 1), 1, 0, 1, 0, [], []), (61, (.getfield 24), 3, 0, 6, 2, [], []), (64, (.aload_n 0), 1, 0, 0, 0, [], []), (65, (.getfield 24), 3, 0, 6, 2, [], []), (68, (.invokestatic 107), 3, 0, 44, 20, [], []), (71, (.aload_n 1), 1, 0, 1, 0, [], []), (72, (.getfield 27), 3, 0, 7, 2, [], []), (75, (.aload_n 0), 1, 0, 0, 0, [], []), (76, (.getfield 27), 3, 0, 7, 2, [], []), (79, (.invokestatic 107), 3, 0, 44, 20, [], []), (82, (.aload_n 1), 1, 0, 1, 0, [], []), (83, (.getfield 30), 3, 0, 8, 2, [], []), (86, (.aload_n 0), 1, 0, 0, 0, [], []), (87, (.getfield 30), 3, 0, 8, 2, [], []), (90, (.invokestatic 107), 3, 0, 44, 20, [], []), (93, (.aload_n 1), 1, 0, 1, 0, [], []), (94, (.getfield 33), 3, 0, 9, 2, [], []), (97, (.aload_n 0), 1, 0, 0, 0, [], []), (98, (.getfield 33), 3, 0, 9, 2, [], []), (101, (.invokestatic 107), 3, 0, 44, 20, [], []), (104, (.aload_n 1), 1, 0, 1, 0, [], []), (105, (.getfield 36), 3, 0, 10, 2, [], []), (108, (.aload_n 0), 1, 0, 0, 0, [], []), (109, (.getfield 36), 3, 0, 10, 2, [], []), (112, (.invokestatic 107), 3, 0, 44, 20, [], []), (115, .return_, 1, 0, 0, 0, [], [])]
def tX2_copyAll : List bwE := [(0, (.aload_n 0), 1, 0, 0, 0, [], []), (1, (.iconst 0), 1, 0, 0, 0, [], []), (2, (.aload_n 1), 1, 0, 1, 0, [], []), (3, (.iconst 0), 1, 0, 0, 0, [], []), (4, (.aload_n 0), 1, 0, 0, 0, [], []), (5, .arraylength, 1, 0, 0, 0, [], []), (6, (.aload_n 1), 1, 0, 1, 0, [], []), (7, .arraylength, 1, 0, 0, 0, [], []), (8, (.invokestatic 111), 3, 0, 0, 998, [], []), (11, (.invokestatic 116), 3, 0, 0, 999, [], []), (14, .return_, 1, 0, 0, 0, [], [])]
def tX3_thing : List bwE := [(0, (.iload_n 1), 1, 0, 1, 0, [], []), (1, (.iconst 2), 1, 2, 0, 0, [], []), (2, (.if_icmp .lt 19), 3, 0, 21, 0, [], []), (5, (.iload_n 1), 1, 0, 1, 0, [], []), (6, (.iconst 4), 1, 4, 0, 0, [], []), (7, (.if_icmp .gt 14), 3, 0, 21, 0, [], []), (10, (.iload_n 2), 1, 0, 2, 0, [], []), (11, (.iconst 1), 1, 1, 0, 0, [], []), (12, (.if_icmp .lt 9), 3, 0, 21, 0, [], []), (15, (.iload_n 2), 1, 0, 2, 0, [], []), (16, (.bipush 100), 2, 100, 0, 0, [], []), (18, (.if_icmp .le 5), 3, 0, 23, 0, [], []), (21, (.iconst (-1)), 1, (-1), 0, 0, [], []), (22, .ireturn, 1, 0, 0, 0, [], []), (23, (.aload_n 0), 1, 0, 0, 0, [], []), (24, (.getfield 12), 3, 0, 0, 3, [], []), (27, (.getfield 34), 3, 0, 0, 2, [], []), (30, (.bipush 12), 2, 12, 0, 0, [], []), (32, (.if_icmp .ge 35), 3, 0, 67, 0, [], []), (35, (.aload_n 0), 1, 0, 0, 0, [], []), (36, (.getfield 12), 3, 0, 0, 3, [], []), (39, (.invokevirtual 38), 3, 0, 23, 2011, [], []), (42, (.iload_n 1), 1, 0, 1, 0, [], []), (43, .imul, 1, 0, 0, 0, [], []), (44, (.sipush 20000), 3, 20000, 0, 0, [], []), (47, (.if_icmp .gt 20), 3, 0, 67, 0, [], []), (50, (.aload_n 0), 1, 0, 0, 0, [], []), (51, (.getfield 12), 3, 0, 0, 3, [], []), (54, (.invokevirtual 42), 3, 0, 24, 2012, [], []), (57, (.iload_n 2), 1, 0, 2, 0, [], []), (58, .i2l, 1, 0, 0, 0, [], []), (59, .lmul, 1, 0, 0, 0, [], []), (60, (.ldc2_w 46), 3, 0, 1000000000, 0, [], []), (63, .lcmp, 1, 0, 0, 0, [], []), (64, (.ifCond .le 6), 3, 0, 70, 0, [], []), (67, (.bipush (-3)), 2, (-3), 0, 0, [], []), (69, .ireturn, 1, 0, 0, 0, [], []), (70, (.aload_n 0), 1, 0, 0, 0, [], []), (71, (.getfield 12), 3, 0, 0, 3, [], []), (74, (.getfield 34), 3, 0, 0, 2, [], []), (77, (.istore_n 3), 1, 0, 3, 0, [], []), (78, (.aload_n 0), 1, 0, 0, 0, [], []), (79, (.getfield 12), 3, 0, 0, 3, [], []), (82, (.iload_n 1), 1, 0, 1, 0, [], []), (83, (.iload_n 2), 1, 0, 2, 0, [], []), (84, (.invokevirtual 48), 3, 0, 37, 2030, [], []), (87, (.aload_n 0), 1, 0, 0, 0, [], []), (88, (.getfield 19), 3, 0, 1, 3, [], []), (91, (.aload_n 0), 1, 0, 0, 0, [], []), (92, (.getfield 12), 3, 0, 0, 3, [], []), (95, (.invokevirtual 52), 3, 0, 0, 20, [], []), (98, (.iload_n 3), 1, 0, 3, 0, [], []), (99, .ireturn, 1, 0, 0, 0, [], [])]
def tX3_arrow : List bwE := [(0, (.aload_n 0), 1, 0, 0, 0, [], []), (1, (.getfield 12), 3, 0, 0, 3, [], []), (4, (.iload_n 1), 1, 0, 1, 0, [], []), (5, (.invokevirtual 56), 3, 0, 17, 2023, [], []), (8, (.ifCond .eq 32), 3, 0, 40, 0, [], []), (11, (.aload_n 0), 1, 0, 0, 0, [], []), (12, (.getfield 12), 3, 0, 0, 3, [], []), (15, (.iload_n 2), 1, 0, 2, 0, [], []), (16, (.invokevirtual 56), 3, 0, 17, 2023, [], []), (19, (.ifCond .eq 21), 3, 0, 40, 0, [], []), (22, (.iload_n 1), 1, 0, 1, 0, [], []), (23, (.iload_n 2), 1, 0, 2, 0, [], []), (24, (.if_icmp .eq 16), 3, 0, 40, 0, [], []), (27, (.aload_n 0), 1, 0, 0, 0, [], []), (28, (.getfield 12), 3, 0, 0, 3, [], []), (31, (.iload_n 2), 1, 0, 2, 0, [], []), (32, (.iload_n 1), 1, 0, 1, 0, [], []), (33, (.invokevirtual 60), 3, 0, 31, 2031, [], []), (36, (.iconst (-1)), 1, (-1), 0, 0, [], []), (37, (.if_icmp .eq 5), 3, 0, 42, 0, [], []), (40, (.iconst (-1)), 1, (-1), 0, 0, [], []), (41, .ireturn, 1, 0, 0, 0, [], []), (42, (.aload_n 0), 1, 0, 0, 0, [], []), (43, (.getfield 12), 3, 0, 0, 3, [], []), (46, (.iload_n 1), 1, 0, 1, 0, [], []), (47, (.invokevirtual 64), 3, 0, 33, 2021, [], []), (50, (.iload_n 2), 1, 0, 2, 0, [], []), (51, (.invokestatic 68), 3, 0, 84, 23, [], []), (54, (.ifCond .eq 6), 3, 0, 60, 0, [], []), (57, (.bipush (-2)), 2, (-2), 0, 0, [], []), (59, .ireturn, 1, 0, 0, 0, [], []), (60, (.aload_n 0), 1, 0, 0, 0, [], []), (61, (.getfield 12), 3, 0, 0, 3, [], []), (64, (.getfield 72), 3, 0, 4, 2, [], []), (67, (.iload_n 2), 1, 0, 2, 0, [], []), (68, .iaload, 1, 0, 0, 0, [], []), (69, (.iconst 3), 1, 3, 0, 0, [], []), (70, (.if_icmp .lt 6), 3, 0, 76, 0, [], []), (73, (.bipush (-3)), 2, (-3), 0, 0, [], []), (75, .ireturn, 1, 0, 0, 0, [], []), (76, (.aload_n 0), 1, 0, 0, 0, [], []), (77, (.iconst 0), 1, 0, 0, 0, [], []), (78, (.iload_n 1), 1, 0, 1, 0, [], []), (79, (.iload_n 2), 1, 0, 2, 0, [], []), (80, (.iconst 0), 1, 0, 0, 0, [], []), (81, (.iconst 0), 1, 0, 0, 0, [], []), (82, (.invokevirtual 75), 3, 0, 74, 3060, [], []), (85, (.aload_n 0), 1, 0, 0, 0, [], []), (86, (.getfield 12), 3, 0, 0, 3, [], []), (89, (.getfield 72), 3, 0, 4, 2, [], []), (92, (.iload_n 2), 1, 0, 2, 0, [], []), (93, .iaload, 1, 0, 0, 0, [], []), (94, .ireturn, 1, 0, 0, 0, [], [])]
def tX3_cut : List bwE := [(0, (.aload_n 0), 1, 0, 0, 0, [], []), (1, (.getfield 12), 3, 0, 0, 3, [], []), (4, (.iload_n 1), 1, 0, 1, 0, [], []), (5, (.invokevirtual 56), 3, 0, 17, 2023, [], []), (8, (.ifCond .eq 27), 3, 0, 35, 0, [], []), (11, (.aload_n 0), 1, 0, 0, 0, [], []), (12, (.getfield 12), 3, 0, 0, 3, [], []), (15, (.iload_n 2), 1, 0, 2, 0, [], []), (16, (.invokevirtual 56), 3, 0, 17, 2023, [], []), (19, (.ifCond .eq 16), 3, 0, 35, 0, [], []), (22, (.aload_n 0), 1, 0, 0, 0, [], []), (23, (.getfield 12), 3, 0, 0, 3, [], []), (26, (.iload_n 2), 1, 0, 2, 0, [], []), (27, (.iload_n 1), 1, 0, 1, 0, [], []), (28, (.invokevirtual 60), 3, 0, 31, 2031, [], []), (31, (.iconst (-1)), 1, (-1), 0, 0, [], []), (32, (.if_icmp .ne 5), 3, 0, 37, 0, [], []), (35, (.iconst (-1)), 1, (-1), 0, 0, [], []), (36, .ireturn, 1, 0, 0, 0, [], []), (37, (.aload_n 0), 1, 0, 0, 0, [], []), (38, (.iconst 1), 1, 1, 0, 0, [], []), (39, (.iload_n 1), 1, 0, 1, 0, [], []), (40, (.iload_n 2), 1, 0, 2, 0, [], []), (41, (.iconst 0), 1, 0, 0, 0, [], []), (42, (.iconst 0), 1, 0, 0, 0, [], []), (43, (.invokevirtual 75), 3, 0, 74, 3060, [], []), (46, (.aload_n 0), 1, 0, 0, 0, [], []), (47, (.getfield 12), 3, 0, 0, 3, [], []), (50, (.getfield 72), 3, 0, 4, 2, [], []), (53, (.iload_n 2), 1, 0, 2, 0, [], []), (54, .iaload, 1, 0, 0, 0, [], []), (55, .ireturn, 1, 0, 0, 0, [], [])]
def tX3_weight : List bwE := [(0, (.aload_n 0), 1, 0, 0, 0, [], []), (1, (.getfield 12), 3, 0, 0, 3, [], []), (4, (.iload_n 1), 1, 0, 1, 0, [], []), (5, (.iload_n 2), 1, 0, 2, 0, [], []), (6, (.iload_n 3), 1, 0, 3, 0, [], []), (7, (.invokevirtual 79), 3, 0, 20, 2043, [], []), (10, (.ifCond .eq 22), 3, 0, 32, 0, [], []), (13, (.iload 4), 2, 0, 4, 0, [], []), (15, (.ifCond .lt 17), 3, 0, 32, 0, [], []), (18, (.iload 4), 2, 0, 4, 0, [], []), (20, (.aload_n 0), 1, 0, 0, 0, [], []), (21, (.getfield 12), 3, 0, 0, 3, [], []), (24, (.getfield 83), 3, 0, 3, 2, [], []), (27, (.iload_n 1), 1, 0, 1, 0, [], []), (28, .iaload, 1, 0, 0, 0, [], []), (29, (.if_icmp .le 5), 3, 0, 34, 0, [], []), (32, (.iconst (-1)), 1, (-1), 0, 0, [], []), (33, .ireturn, 1, 0, 0, 0, [], []), (34, (.aload_n 0), 1, 0, 0, 0, [], []), (35, (.getfield 12), 3, 0, 0, 3, [], []), (38, (.getfield 86), 3, 0, 6, 2, [], []), (41, (.iload_n 1), 1, 0, 1, 0, [], []), (42, (.iload_n 2), 1, 0, 2, 0, [], []), (43, (.iload_n 3), 1, 0, 3, 0, [], []), (44, (.invokestatic 89), 3, 0, 81, 31, [], []), (47, .iaload, 1, 0, 0, 0, [], []), (48, (.istore 5), 2, 0, 5, 0, [], []), (50, (.aload_n 0), 1, 0, 0, 0, [], []), (51, (.iconst 2), 1, 2, 0, 0, [], []), (52, (.iload_n 1), 1, 0, 1, 0, [], []), (53, (.iload_n 2), 1, 0, 2, 0, [], []), (54, (.iload_n 3), 1, 0, 3, 0, [], []), (55, (.iload 4), 2, 0, 4, 0, [], []), (57, (.invokevirtual 75), 3, 0, 74, 3060, [], []), (60, (.iload 5), 2, 0, 5, 0, [], []), (62, .ireturn, 1, 0, 0, 0, [], [])]
def tX3_told : List bwE := [(0, (.aload_n 0), 1, 0, 0, 0, [], []), (1, (.getfield 12), 3, 0, 0, 3, [], []), (4, (.iload_n 1), 1, 0, 1, 0, [], []), (5, (.iload_n 2), 1, 0, 2, 0, [], []), (6, (.iload_n 3), 1, 0, 3, 0, [], []), (7, (.invokevirtual 79), 3, 0, 20, 2043, [], []), (10, (.ifCond .eq 20), 3, 0, 30, 0, [], []), (13, (.aload_n 0), 1, 0, 0, 0, [], []), (14, (.getfield 12), 3, 0, 0, 3, [], []), (17, (.getfield 86), 3, 0, 6, 2, [], []), (20, (.iload_n 1), 1, 0, 1, 0, [], []), (21, (.iload_n 2), 1, 0, 2, 0, [], []), (22, (.iload_n 3), 1, 0, 3, 0, [], []), (23, (.invokestatic 89), 3, 0, 81, 31, [], []), (26, .iaload, 1, 0, 0, 0, [], []), (27, (.goto 4), 3, 0, 31, 0, [], []), (30, (.iconst (-1)), 1, (-1), 0, 0, [], []), (31, .ireturn, 1, 0, 0, 0, [], [])]
def tX3_about : List bwE := [(0, (.aload_n 0), 1, 0, 0, 0, [], []), (1, (.getfield 12), 3, 0, 0, 3, [], []), (4, (.iload_n 1), 1, 0, 1, 0, [], []), (5, (.invokevirtual 56), 3, 0, 17, 2023, [], []), (8, (.ifCond .ne 5), 3, 0, 13, 0, [], []), (11, (.iconst (-1)), 1, (-1), 0, 0, [], []), (12, .ireturn, 1, 0, 0, 0, [], []), (13, (.iload_n 2), 1, 0, 2, 0, [], []), (14, (.tableswitch 118 0 6 #[42, 52, 62, 72, 81, 98, 108]), 42, 0, 132, 0, [], [(0, 56), (1, 66), (2, 76), (3, 86), (4, 95), (5, 112), (6, 122)]), (56, (.aload_n 0), 1, 0, 0, 0, [], []), (57, (.getfield 12), 3, 0, 0, 3, [], []), (60, (.getfield 93), 3, 0, 2, 2, [], []), (63, (.iload_n 1), 1, 0, 1, 0, [], []), (64, .iaload, 1, 0, 0, 0, [], []), (65, .ireturn, 1, 0, 0, 0, [], []), (66, (.aload_n 0), 1, 0, 0, 0, [], []), (67, (.getfield 12), 3, 0, 0, 3, [], []), (70, (.getfield 83), 3, 0, 3, 2, [], []), (73, (.iload_n 1), 1, 0, 1, 0, [], []), (74, .iaload, 1, 0, 0, 0, [], []), (75, .ireturn, 1, 0, 0, 0, [], []), (76, (.aload_n 0), 1, 0, 0, 0, [], []), (77, (.getfield 12), 3, 0, 0, 3, [], []), (80, (.getfield 72), 3, 0, 4, 2, [], []), (83, (.iload_n 1), 1, 0, 1, 0, [], []), (84, .iaload, 1, 0, 0, 0, [], []), (85, .ireturn, 1, 0, 0, 0, [], []), (86, (.aload_n 0), 1, 0, 0, 0, [], []), (87, (.getfield 12), 3, 0, 0, 3, [], []), (90, (.iload_n 1), 1, 0, 1, 0, [], []), (91, (.invokevirtual 96), 3, 0, 26, 2021, [], []), (94, .ireturn, 1, 0, 0, 0, [], []), (95, (.aload_n 0), 1, 0, 0, 0, [], []), (96, (.getfield 12), 3, 0, 0, 3, [], []), (99, (.iload_n 1), 1, 0, 1, 0, [], []), (100, (.invokevirtual 99), 3, 0, 29, 2023, [], []), (103, (.ifCond .eq 7), 3, 0, 110, 0, [], []), (106, (.iconst 1), 1, 1, 0, 0, [], []), (107, (.goto 4), 3, 0, 111, 0, [], []), (110, (.iconst 0), 1, 0, 0, 0, [], []), (111, .ireturn, 1, 0, 0, 0, [], []), (112, (.aload_n 0), 1, 0, 0, 0, [], []), (113, (.getfield 12), 3, 0, 0, 3, [], []), (116, (.getfield 102), 3, 0, 7, 2, [], []), (119, (.iload_n 1), 1, 0, 1, 0, [], []), (120, .iaload, 1, 0, 0, 0, [], []), (121, .ireturn, 1, 0, 0, 0, [], []), (122, (.aload_n 0), 1, 0, 0, 0, [], []), (123, (.getfield 12), 3, 0, 0, 3, [], []), (126, (.getfield 105), 3, 0, 8, 2, [], []), (129, (.iload_n 1), 1, 0, 1, 0, [], []), (130, .iaload, 1, 0, 0, 0, [], []), (131, .ireturn, 1, 0, 0, 0, [], []), (132, (.iconst (-1)), 1, (-1), 0, 0, [], []), (133, .ireturn, 1, 0, 0, 0, [], [])]
def tX3_parent : List bwE := [(0, (.aload_n 0), 1, 0, 0, 0, [], []), (1, (.getfield 12), 3, 0, 0, 3, [], []), (4, (.iload_n 1), 1, 0, 1, 0, [], []), (5, (.invokevirtual 56), 3, 0, 17, 2023, [], []), (8, (.ifCond .eq 20), 3, 0, 28, 0, [], []), (11, (.iload_n 2), 1, 0, 2, 0, [], []), (12, (.ifCond .lt 16), 3, 0, 28, 0, [], []), (15, (.iload_n 2), 1, 0, 2, 0, [], []), (16, (.aload_n 0), 1, 0, 0, 0, [], []), (17, (.getfield 12), 3, 0, 0, 3, [], []), (20, (.getfield 72), 3, 0, 4, 2, [], []), (23, (.iload_n 1), 1, 0, 1, 0, [], []), (24, .iaload, 1, 0, 0, 0, [], []), (25, (.if_icmp .lt 6), 3, 0, 31, 0, [], []), (28, (.bipush (-2)), 2, (-2), 0, 0, [], []), (30, .ireturn, 1, 0, 0, 0, [], []), (31, (.aload_n 0), 1, 0, 0, 0, [], []), (32, (.getfield 12), 3, 0, 0, 3, [], []), (35, (.getfield 108), 3, 0, 5, 2, [], []), (38, (.iload_n 1), 1, 0, 1, 0, [], []), (39, (.iload_n 2), 1, 0, 2, 0, [], []), (40, (.invokestatic 111), 3, 0, 83, 21, [], []), (43, .iaload, 1, 0, 0, 0, [], []), (44, .ireturn, 1, 0, 0, 0, [], [])]
def tX3_sound : List bwE := [(0, (.aload_n 0), 1, 0, 0, 0, [], []), (1, (.getfield 12), 3, 0, 0, 3, [], []), (4, (.invokevirtual 114), 3, 0, 28, 2013, [], []), (7, (.ifCond .eq 7), 3, 0, 14, 0, [], []), (10, (.iconst 1), 1, 1, 0, 0, [], []), (11, (.goto 4), 3, 0, 15, 0, [], []), (14, (.iconst 0), 1, 0, 0, 0, [], []), (15, .ireturn, 1, 0, 0, 0, [], [])]
def tX3_see : List bwE := [(0, (.aload_n 0), 1, 0, 0, 0, [], []), (1, (.getfield 12), 3, 0, 0, 3, [], []), (4, (.iload_n 1), 1, 0, 1, 0, [], []), (5, (.iload_n 2), 1, 0, 2, 0, [], []), (6, (.invokevirtual 118), 3, 0, 19, 2033, [], []), (9, (.ifCond .ne 5), 3, 0, 14, 0, [], []), (12, (.iconst (-1)), 1, (-1), 0, 0, [], []), (13, .ireturn, 1, 0, 0, 0, [], []), (14, (.aload_n 0), 1, 0, 0, 0, [], []), (15, (.iconst 3), 1, 3, 0, 0, [], []), (16, (.iload_n 1), 1, 0, 1, 0, [], []), (17, (.iload_n 2), 1, 0, 2, 0, [], []), (18, (.iconst 0), 1, 0, 0, 0, [], []), (19, (.iconst 0), 1, 0, 0, 0, [], []), (20, (.invokevirtual 75), 3, 0, 74, 3060, [], []), (23, (.iconst 1), 1, 1, 0, 0, [], []), (24, .ireturn, 1, 0, 0, 0, [], [])]
def tX3_act : List bwE := [(0, (.aload_n 0), 1, 0, 0, 0, [], []), (1, (.getfield 12), 3, 0, 0, 3, [], []), (4, (.iload_n 1), 1, 0, 1, 0, [], []), (5, (.iload_n 2), 1, 0, 2, 0, [], []), (6, (.invokevirtual 118), 3, 0, 19, 2033, [], []), (9, (.ifCond .ne 5), 3, 0, 14, 0, [], []), (12, (.iconst (-1)), 1, (-1), 0, 0, [], []), (13, .ireturn, 1, 0, 0, 0, [], []), (14, (.aload_n 0), 1, 0, 0, 0, [], []), (15, (.iconst 4), 1, 4, 0, 0, [], []), (16, (.iload_n 1), 1, 0, 1, 0, [], []), (17, (.iload_n 2), 1, 0, 2, 0, [], []), (18, (.iconst 0), 1, 0, 0, 0, [], []), (19, (.iconst 0), 1, 0, 0, 0, [], []), (20, (.invokevirtual 75), 3, 0, 74, 3060, [], []), (23, (.iconst 1), 1, 1, 0, 0, [], []), (24, .ireturn, 1, 0, 0, 0, [], [])]
def tX3_force : List bwE := [(0, (.aload_n 0), 1, 0, 0, 0, [], []), (1, (.getfield 12), 3, 0, 0, 3, [], []), (4, (.iload_n 1), 1, 0, 1, 0, [], []), (5, (.iload_n 2), 1, 0, 2, 0, [], []), (6, (.invokevirtual 121), 3, 0, 18, 2033, [], []), (9, (.ifCond .eq 12), 3, 0, 21, 0, [], []), (12, (.iload_n 3), 1, 0, 3, 0, [], []), (13, (.ifCond .lt 8), 3, 0, 21, 0, [], []), (16, (.iload_n 3), 1, 0, 3, 0, [], []), (17, (.iconst 3), 1, 3, 0, 0, [], []), (18, (.if_icmp .le 5), 3, 0, 23, 0, [], []), (21, (.iconst (-1)), 1, (-1), 0, 0, [], []), (22, .ireturn, 1, 0, 0, 0, [], []), (23, (.aload_n 0), 1, 0, 0, 0, [], []), (24, (.getfield 12), 3, 0, 0, 3, [], []), (27, (.getfield 124), 3, 0, 9, 2, [], []), (30, (.iload_n 1), 1, 0, 1, 0, [], []), (31, (.iload_n 2), 1, 0, 2, 0, [], []), (32, (.invokestatic 127), 3, 0, 80, 21, [], []), (35, .iaload, 1, 0, 0, 0, [], []), (36, (.istore 4), 2, 0, 4, 0, [], []), (38, (.aload_n 0), 1, 0, 0, 0, [], []), (39, (.iconst 5), 1, 5, 0, 0, [], []), (40, (.iload_n 1), 1, 0, 1, 0, [], []), (41, (.iload_n 2), 1, 0, 2, 0, [], []), (42, (.iload_n 3), 1, 0, 3, 0, [], []), (43, (.iconst 0), 1, 0, 0, 0, [], []), (44, (.invokevirtual 75), 3, 0, 74, 3060, [], []), (47, (.iload 4), 2, 0, 4, 0, [], []), (49, .ireturn, 1, 0, 0, 0, [], [])]
def tX3_chance : List bwE := [(0, (.aload_n 0), 1, 0, 0, 0, [], []), (1, (.getfield 12), 3, 0, 0, 3, [], []), (4, (.invokevirtual 114), 3, 0, 28, 2013, [], []), (7, (.ifCond .ne 6), 3, 0, 13, 0, [], []), (10, (.bipush (-4)), 2, (-4), 0, 0, [], []), (12, .ireturn, 1, 0, 0, 0, [], []), (13, (.aload_n 0), 1, 0, 0, 0, [], []), (14, (.getfield 26), 3, 0, 2, 3, [], []), (17, (.aload_n 0), 1, 0, 0, 0, [], []), (18, (.getfield 12), 3, 0, 0, 3, [], []), (21, (.invokevirtual 130), 3, 0, 5, 1020, [], []), (24, (.aload_n 0), 1, 0, 0, 0, [], []), (25, (.aload_n 0), 1, 0, 0, 0, [], []), (26, (.getfield 26), 3, 0, 2, 3, [], []), (29, (.getfield 133), 3, 0, 10, 1, [], []), (32, (.aload_n 0), 1, 0, 0, 0, [], []), (33, (.getfield 12), 3, 0, 0, 3, [], []), (36, (.invokevirtual 42), 3, 0, 24, 2012, [], []), (39, (.invokevirtual 137), 3, 0, 76, 3030, [], []), (42, (.iconst 1), 1, 1, 0, 0, [], []), (43, .ireturn, 1, 0, 0, 0, [], [])]
def tX3_ask : List bwE := [(0, (.aload_n 0), 1, 0, 0, 0, [], []), (1, (.getfield 12), 3, 0, 0, 3, [], []), (4, (.iload_n 1), 1, 0, 1, 0, [], []), (5, (.iload_n 2), 1, 0, 2, 0, [], []), (6, (.invokevirtual 121), 3, 0, 18, 2033, [], []), (9, (.ifCond .ne 5), 3, 0, 14, 0, [], []), (12, (.iconst (-1)), 1, (-1), 0, 0, [], []), (13, .ireturn, 1, 0, 0, 0, [], []), (14, (.aload_n 0), 1, 0, 0, 0, [], []), (15, (.invokevirtual 141), 3, 0, 75, 3011, [], []), (18, (.istore_n 3), 1, 0, 3, 0, [], []), (19, (.iload_n 3), 1, 0, 3, 0, [], []), (20, (.ifCond .eq 5), 3, 0, 25, 0, [], []), (23, (.iload_n 3), 1, 0, 3, 0, [], []), (24, .ireturn, 1, 0, 0, 0, [], []), (25, (.aload_n 0), 1, 0, 0, 0, [], []), (26, (.aload_n 0), 1, 0, 0, 0, [], []), (27, (.getfield 26), 3, 0, 2, 3, [], []), (30, (.getfield 144), 3, 0, 2, 1, [], []), (33, (.iload_n 1), 1, 0, 1, 0, [], []), (34, (.iload_n 2), 1, 0, 2, 0, [], []), (35, (.invokestatic 127), 3, 0, 80, 21, [], []), (38, .laload, 1, 0, 0, 0, [], []), (39, (.aload_n 0), 1, 0, 0, 0, [], []), (40, (.getfield 26), 3, 0, 2, 3, [], []), (43, (.getfield 133), 3, 0, 10, 1, [], []), (46, (.invokevirtual 137), 3, 0, 76, 3030, [], []), (49, (.iconst 1), 1, 1, 0, 0, [], []), (50, .ireturn, 1, 0, 0, 0, [], [])]
def tX3_both : List bwE := [(0, (.aload_n 0), 1, 0, 0, 0, [], []), (1, (.getfield 12), 3, 0, 0, 3, [], []), (4, (.iload_n 1), 1, 0, 1, 0, [], []), (5, (.iload_n 2), 1, 0, 2, 0, [], []), (6, (.invokevirtual 121), 3, 0, 18, 2033, [], []), (9, (.ifCond .eq 16), 3, 0, 25, 0, [], []), (12, (.aload_n 0), 1, 0, 0, 0, [], []), (13, (.getfield 12), 3, 0, 0, 3, [], []), (16, (.iload_n 3), 1, 0, 3, 0, [], []), (17, (.iload 4), 2, 0, 4, 0, [], []), (19, (.invokevirtual 121), 3, 0, 18, 2033, [], []), (22, (.ifCond .ne 5), 3, 0, 27, 0, [], []), (25, (.iconst (-1)), 1, (-1), 0, 0, [], []), (26, .ireturn, 1, 0, 0, 0, [], []), (27, (.aload_n 0), 1, 0, 0, 0, [], []), (28, (.invokevirtual 141), 3, 0, 75, 3011, [], []), (31, (.istore 5), 2, 0, 5, 0, [], []), (33, (.iload 5), 2, 0, 5, 0, [], []), (35, (.ifCond .eq 6), 3, 0, 41, 0, [], []), (38, (.iload 5), 2, 0, 5, 0, [], []), (40, .ireturn, 1, 0, 0, 0, [], []), (41, (.aload_n 0), 1, 0, 0, 0, [], []), (42, (.getfield 26), 3, 0, 2, 3, [], []), (45, (.getfield 133), 3, 0, 10, 1, [], []), (48, (.lstore 6), 2, 0, 6, 0, [], []), (50, (.aload_n 0), 1, 0, 0, 0, [], []), (51, (.getfield 26), 3, 0, 2, 3, [], []), (54, (.aload_n 0), 1, 0, 0, 0, [], []), (55, (.getfield 12), 3, 0, 0, 3, [], []), (58, (.iload_n 1), 1, 0, 1, 0, [], []), (59, (.iload_n 2), 1, 0, 2, 0, [], []), (60, (.invokevirtual 148), 3, 0, 6, 1040, [], []), (63, (.aload_n 0), 1, 0, 0, 0, [], []), (64, (.aload_n 0), 1, 0, 0, 0, [], []), (65, (.getfield 26), 3, 0, 2, 3, [], []), (68, (.getfield 144), 3, 0, 2, 1, [], []), (71, (.iload_n 3), 1, 0, 3, 0, [], []), (72, (.iload 4), 2, 0, 4, 0, [], []), (74, (.invokestatic 127), 3, 0, 80, 21, [], []), (77, .laload, 1, 0, 0, 0, [], []), (78, (.lload 6), 2, 0, 6, 0, [], []), (80, (.invokevirtual 137), 3, 0, 76, 3030, [], []), (83, (.iconst 1), 1, 1, 0, 0, [], []), (84, .ireturn, 1, 0, 0, 0, [], [])]
def tX3_up : List bwE := [(0, (.aload_n 0), 1, 0, 0, 0, [], []), (1, (.getfield 152), 3, 0, 5, 3, [], []), (4, .lreturn, 1, 0, 0, 0, [], [])]
def tX3_down : List bwE := [(0, (.aload_n 0), 1, 0, 0, 0, [], []), (1, (.getfield 155), 3, 0, 6, 3, [], []), (4, .lreturn, 1, 0, 0, 0, [], [])]
def tX3_most : List bwE := [(0, (.aload_n 0), 1, 0, 0, 0, [], []), (1, (.getfield 12), 3, 0, 0, 3, [], []), (4, (.iload_n 1), 1, 0, 1, 0, [], []), (5, (.invokevirtual 56), 3, 0, 17, 2023, [], []), (8, (.ifCond .ne 5), 3, 0, 13, 0, [], []), (11, (.iconst (-1)), 1, (-1), 0, 0, [], []), (12, .ireturn, 1, 0, 0, 0, [], []), (13, (.aload_n 0), 1, 0, 0, 0, [], []), (14, (.invokevirtual 141), 3, 0, 75, 3011, [], []), (17, (.istore_n 2), 1, 0, 2, 0, [], []), (18, (.iload_n 2), 1, 0, 2, 0, [], []), (19, (.ifCond .eq 5), 3, 0, 24, 0, [], []), (22, (.iload_n 2), 1, 0, 2, 0, [], []), (23, .ireturn, 1, 0, 0, 0, [], []), (24, (.iconst 0), 1, 0, 0, 0, [], []), (25, (.istore_n 3), 1, 0, 3, 0, [], []), (26, (.iconst 1), 1, 1, 0, 0, [], []), (27, (.istore 4), 2, 0, 4, 0, [], []), (29, (.iload 4), 2, 0, 4, 0, [], []), (31, (.aload_n 0), 1, 0, 0, 0, [], []), (32, (.getfield 12), 3, 0, 0, 3, [], []), (35, (.getfield 93), 3, 0, 2, 2, [], []), (38, (.iload_n 1), 1, 0, 1, 0, [], []), (39, .iaload, 1, 0, 0, 0, [], []), (40, (.if_icmp .ge 43), 3, 0, 83, 0, [], []), (43, (.aload_n 0), 1, 0, 0, 0, [], []), (44, (.getfield 26), 3, 0, 2, 3, [], []), (47, (.getfield 144), 3, 0, 2, 1, [], []), (50, (.iload_n 1), 1, 0, 1, 0, [], []), (51, (.iload 4), 2, 0, 4, 0, [], []), (53, (.invokestatic 127), 3, 0, 80, 21, [], []), (56, .laload, 1, 0, 0, 0, [], []), (57, (.aload_n 0), 1, 0, 0, 0, [], []), (58, (.getfield 26), 3, 0, 2, 3, [], []), (61, (.getfield 144), 3, 0, 2, 1, [], []), (64, (.iload_n 1), 1, 0, 1, 0, [], []), (65, (.iload_n 3), 1, 0, 3, 0, [], []), (66, (.invokestatic 127), 3, 0, 80, 21, [], []), (69, .laload, 1, 0, 0, 0, [], []), (70, .lcmp, 1, 0, 0, 0, [], []), (71, (.ifCond .le 6), 3, 0, 77, 0, [], []), (74, (.iload 4), 2, 0, 4, 0, [], []), (76, (.istore_n 3), 1, 0, 3, 0, [], []), (77, (.iinc 4 1), 3, 1, 4, 0, [], []), (80, (.goto (-51)), 3, 0, 29, 0, [], []), (83, (.iload_n 3), 1, 0, 3, 0, [], []), (84, .ireturn, 1, 0, 0, 0, [], [])]
def tX3_likeliest : List bwE := [(0, (.iload_n 1), 1, 0, 1, 0, [], []), (1, (.ifCond .lt 9), 3, 0, 10, 0, [], []), (4, (.iload_n 1), 1, 0, 1, 0, [], []), (5, (.bipush 10), 2, 10, 0, 0, [], []), (7, (.if_icmp .lt 5), 3, 0, 12, 0, [], []), (10, (.iconst (-1)), 1, (-1), 0, 0, [], []), (11, .ireturn, 1, 0, 0, 0, [], []), (12, (.aload_n 0), 1, 0, 0, 0, [], []), (13, (.getfield 12), 3, 0, 0, 3, [], []), (16, (.invokevirtual 114), 3, 0, 28, 2013, [], []), (19, (.ifCond .ne 6), 3, 0, 25, 0, [], []), (22, (.bipush (-4)), 2, (-4), 0, 0, [], []), (24, .ireturn, 1, 0, 0, 0, [], []), (25, (.aload_n 0), 1, 0, 0, 0, [], []), (26, (.getfield 26), 3, 0, 2, 3, [], []), (29, (.aload_n 0), 1, 0, 0, 0, [], []), (30, (.getfield 12), 3, 0, 0, 3, [], []), (33, (.iload_n 1), 1, 0, 1, 0, [], []), (34, (.iconst 1), 1, 1, 0, 0, [], []), (35, .iadd, 1, 0, 0, 0, [], []), (36, (.invokevirtual 158), 3, 0, 7, 1030, [], []), (39, (.iload_n 1), 1, 0, 1, 0, [], []), (40, (.aload_n 0), 1, 0, 0, 0, [], []), (41, (.getfield 26), 3, 0, 2, 3, [], []), (44, (.getfield 162), 3, 0, 5, 1, [], []), (47, (.if_icmp .lt 5), 3, 0, 52, 0, [], []), (50, (.iconst 0), 1, 0, 0, 0, [], []), (51, .ireturn, 1, 0, 0, 0, [], []), (52, (.aload_n 0), 1, 0, 0, 0, [], []), (53, (.aload_n 0), 1, 0, 0, 0, [], []), (54, (.getfield 26), 3, 0, 2, 3, [], []), (57, (.getfield 165), 3, 0, 4, 1, [], []), (60, (.iload_n 1), 1, 0, 1, 0, [], []), (61, .iaload, 1, 0, 0, 0, [], []), (62, (.invokevirtual 168), 3, 0, 78, 3020, [], []), (65, (.aload_n 0), 1, 0, 0, 0, [], []), (66, (.aload_n 0), 1, 0, 0, 0, [], []), (67, (.getfield 26), 3, 0, 2, 3, [], []), (70, (.getfield 172), 3, 0, 3, 1, [], []), (73, (.iload_n 1), 1, 0, 1, 0, [], []), (74, .laload, 1, 0, 0, 0, [], []), (75, (.aload_n 0), 1, 0, 0, 0, [], []), (76, (.getfield 26), 3, 0, 2, 3, [], []), (79, (.getfield 133), 3, 0, 10, 1, [], []), (82, (.invokevirtual 137), 3, 0, 76, 3030, [], []), (85, (.iconst 1), 1, 1, 0, 0, [], []), (86, .ireturn, 1, 0, 0, 0, [], [])]
def tX3_at : List bwE := [(0, (.iload_n 1), 1, 0, 1, 0, [], []), (1, (.ifCond .lt 20), 3, 0, 21, 0, [], []), (4, (.iload_n 1), 1, 0, 1, 0, [], []), (5, (.aload_n 0), 1, 0, 0, 0, [], []), (6, (.getfield 175), 3, 0, 4, 3, [], []), (9, (.if_icmp .ge 12), 3, 0, 21, 0, [], []), (12, (.aload_n 0), 1, 0, 0, 0, [], []), (13, (.getfield 30), 3, 0, 3, 3, [], []), (16, (.iload_n 1), 1, 0, 1, 0, [], []), (17, .iaload, 1, 0, 0, 0, [], []), (18, (.goto 5), 3, 0, 23, 0, [], []), (21, (.bipush (-2)), 2, (-2), 0, 0, [], []), (23, .ireturn, 1, 0, 0, 0, [], [])]
def tX3_wholes : List bwE := [(0, (.aload_n 0), 1, 0, 0, 0, [], []), (1, (.getfield 12), 3, 0, 0, 3, [], []), (4, (.invokevirtual 114), 3, 0, 28, 2013, [], []), (7, (.ifCond .ne 6), 3, 0, 13, 0, [], []), (10, (.bipush (-4)), 2, (-4), 0, 0, [], []), (12, .ireturn, 1, 0, 0, 0, [], []), (13, (.aload_n 0), 1, 0, 0, 0, [], []), (14, (.getfield 26), 3, 0, 2, 3, [], []), (17, (.aload_n 0), 1, 0, 0, 0, [], []), (18, (.getfield 12), 3, 0, 0, 3, [], []), (21, (.invokevirtual 130), 3, 0, 5, 1020, [], []), (24, (.aload_n 0), 1, 0, 0, 0, [], []), (25, (.getfield 26), 3, 0, 2, 3, [], []), (28, (.getfield 178), 3, 0, 9, 1, [], []), (31, .ireturn, 1, 0, 0, 0, [], [])]
def tX3_apart : List bwE := [(0, (.aload_n 0), 1, 0, 0, 0, [], []), (1, (.getfield 12), 3, 0, 0, 3, [], []), (4, (.iload_n 1), 1, 0, 1, 0, [], []), (5, (.invokevirtual 56), 3, 0, 17, 2023, [], []), (8, (.ifCond .eq 14), 3, 0, 22, 0, [], []), (11, (.aload_n 0), 1, 0, 0, 0, [], []), (12, (.getfield 12), 3, 0, 0, 3, [], []), (15, (.iload_n 2), 1, 0, 2, 0, [], []), (16, (.invokevirtual 56), 3, 0, 17, 2023, [], []), (19, (.ifCond .ne 5), 3, 0, 24, 0, [], []), (22, (.iconst (-1)), 1, (-1), 0, 0, [], []), (23, .ireturn, 1, 0, 0, 0, [], []), (24, (.iload_n 1), 1, 0, 1, 0, [], []), (25, (.iload_n 2), 1, 0, 2, 0, [], []), (26, (.if_icmp .eq 19), 3, 0, 45, 0, [], []), (29, (.aload_n 0), 1, 0, 0, 0, [], []), (30, (.getfield 12), 3, 0, 0, 3, [], []), (33, (.iload_n 1), 1, 0, 1, 0, [], []), (34, (.iload_n 2), 1, 0, 2, 0, [], []), (35, (.invokevirtual 181), 3, 0, 36, 2033, [], []), (38, (.ifCond .ne 7), 3, 0, 45, 0, [], []), (41, (.iconst 1), 1, 1, 0, 0, [], []), (42, (.goto 4), 3, 0, 46, 0, [], []), (45, (.iconst 0), 1, 0, 0, 0, [], []), (46, .ireturn, 1, 0, 0, 0, [], [])]
def tX3_options : List bwE := [(0, (.iload_n 1), 1, 0, 1, 0, [], []), (1, (.ifCond .lt 9), 3, 0, 10, 0, [], []), (4, (.iload_n 1), 1, 0, 1, 0, [], []), (5, (.bipush 6), 2, 6, 0, 0, [], []), (7, (.if_icmp .le 5), 3, 0, 12, 0, [], []), (10, (.iconst (-1)), 1, (-1), 0, 0, [], []), (11, .ireturn, 1, 0, 0, 0, [], []), (12, (.aload_n 0), 1, 0, 0, 0, [], []), (13, (.getfield 12), 3, 0, 0, 3, [], []), (16, (.getfield 184), 3, 0, 1, 2, [], []), (19, (.istore_n 2), 1, 0, 2, 0, [], []), (20, (.aload_n 0), 1, 0, 0, 0, [], []), (21, (.bipush 6), 2, 6, 0, 0, [], []), (23, (.iload_n 1), 1, 0, 1, 0, [], []), (24, (.iconst 0), 1, 0, 0, 0, [], []), (25, (.iconst 0), 1, 0, 0, 0, [], []), (26, (.iconst 0), 1, 0, 0, 0, [], []), (27, (.invokevirtual 75), 3, 0, 74, 3060, [], []), (30, (.iload_n 2), 1, 0, 2, 0, [], []), (31, .ireturn, 1, 0, 0, 0, [], [])]
def tX3_worth : List bwE := [(0, (.aload_n 0), 1, 0, 0, 0, [], []), (1, (.getfield 12), 3, 0, 0, 3, [], []), (4, (.iload_n 1), 1, 0, 1, 0, [], []), (5, (.invokevirtual 187), 3, 0, 21, 2023, [], []), (8, (.ifCond .eq 31), 3, 0, 39, 0, [], []), (11, (.aload_n 0), 1, 0, 0, 0, [], []), (12, (.getfield 12), 3, 0, 0, 3, [], []), (15, (.iload_n 2), 1, 0, 2, 0, [], []), (16, (.iload_n 3), 1, 0, 3, 0, [], []), (17, (.invokevirtual 121), 3, 0, 18, 2033, [], []), (20, (.ifCond .eq 19), 3, 0, 39, 0, [], []), (23, (.iload 4), 2, 0, 4, 0, [], []), (25, (.sipush (-500)), 3, (-500), 0, 0, [], []), (28, (.if_icmp .lt 11), 3, 0, 39, 0, [], []), (31, (.iload 4), 2, 0, 4, 0, [], []), (33, (.sipush 500), 3, 500, 0, 0, [], []), (36, (.if_icmp .le 7), 3, 0, 43, 0, [], []), (39, (.sipush 10000), 3, 10000, 0, 0, [], []), (42, .ireturn, 1, 0, 0, 0, [], []), (43, (.aload_n 0), 1, 0, 0, 0, [], []), (44, (.getfield 12), 3, 0, 0, 3, [], []), (47, (.getfield 190), 3, 0, 10, 2, [], []), (50, (.iload_n 1), 1, 0, 1, 0, [], []), (51, (.iload_n 2), 1, 0, 2, 0, [], []), (52, (.iload_n 3), 1, 0, 3, 0, [], []), (53, (.invokestatic 193), 3, 0, 82, 31, [], []), (56, .iaload, 1, 0, 0, 0, [], []), (57, (.istore 5), 2, 0, 5, 0, [], []), (59, (.aload_n 0), 1, 0, 0, 0, [], []), (60, (.bipush 7), 2, 7, 0, 0, [], []), (62, (.iload_n 1), 1, 0, 1, 0, [], []), (63, (.iload_n 2), 1, 0, 2, 0, [], []), (64, (.iload_n 3), 1, 0, 3, 0, [], []), (65, (.iload 4), 2, 0, 4, 0, [], []), (67, (.invokevirtual 75), 3, 0, 74, 3060, [], []), (70, (.iload 5), 2, 0, 5, 0, [], []), (72, .ireturn, 1, 0, 0, 0, [], [])]
def tX3_expected : List bwE := [(0, (.aload_n 0), 1, 0, 0, 0, [], []), (1, (.getfield 12), 3, 0, 0, 3, [], []), (4, (.iload_n 1), 1, 0, 1, 0, [], []), (5, (.invokevirtual 187), 3, 0, 21, 2023, [], []), (8, (.ifCond .ne 5), 3, 0, 13, 0, [], []), (11, (.iconst (-1)), 1, (-1), 0, 0, [], []), (12, .ireturn, 1, 0, 0, 0, [], []), (13, (.aload_n 0), 1, 0, 0, 0, [], []), (14, (.invokevirtual 141), 3, 0, 75, 3011, [], []), (17, (.istore_n 2), 1, 0, 2, 0, [], []), (18, (.iload_n 2), 1, 0, 2, 0, [], []), (19, (.ifCond .eq 5), 3, 0, 24, 0, [], []), (22, (.iload_n 2), 1, 0, 2, 0, [], []), (23, .ireturn, 1, 0, 0, 0, [], []), (24, (.aload_n 0), 1, 0, 0, 0, [], []), (25, (.aload_n 0), 1, 0, 0, 0, [], []), (26, (.getfield 26), 3, 0, 2, 3, [], []), (29, (.aload_n 0), 1, 0, 0, 0, [], []), (30, (.getfield 12), 3, 0, 0, 3, [], []), (33, (.iload_n 1), 1, 0, 1, 0, [], []), (34, (.invokevirtual 196), 3, 0, 14, 1032, [], []), (37, (.aload_n 0), 1, 0, 0, 0, [], []), (38, (.getfield 26), 3, 0, 2, 3, [], []), (41, (.getfield 133), 3, 0, 10, 1, [], []), (44, (.invokevirtual 137), 3, 0, 76, 3030, [], []), (47, (.iconst 1), 1, 1, 0, 0, [], []), (48, .ireturn, 1, 0, 0, 0, [], [])]
def tX3_best : List bwE := [(0, (.aload_n 0), 1, 0, 0, 0, [], []), (1, (.getfield 12), 3, 0, 0, 3, [], []), (4, (.getfield 184), 3, 0, 1, 2, [], []), (7, (.ifCond .ne 5), 3, 0, 12, 0, [], []), (10, (.iconst (-1)), 1, (-1), 0, 0, [], []), (11, .ireturn, 1, 0, 0, 0, [], []), (12, (.aload_n 0), 1, 0, 0, 0, [], []), (13, (.invokevirtual 141), 3, 0, 75, 3011, [], []), (16, (.istore_n 1), 1, 0, 1, 0, [], []), (17, (.iload_n 1), 1, 0, 1, 0, [], []), (18, (.ifCond .eq 5), 3, 0, 23, 0, [], []), (21, (.iload_n 1), 1, 0, 1, 0, [], []), (22, .ireturn, 1, 0, 0, 0, [], []), (23, (.aload_n 0), 1, 0, 0, 0, [], []), (24, (.getfield 26), 3, 0, 2, 3, [], []), (27, (.aload_n 0), 1, 0, 0, 0, [], []), (28, (.getfield 12), 3, 0, 0, 3, [], []), (31, (.invokevirtual 200), 3, 0, 15, 1021, [], []), (34, (.istore_n 2), 1, 0, 2, 0, [], []), (35, (.aload_n 0), 1, 0, 0, 0, [], []), (36, (.aload_n 0), 1, 0, 0, 0, [], []), (37, (.getfield 26), 3, 0, 2, 3, [], []), (40, (.aload_n 0), 1, 0, 0, 0, [], []), (41, (.getfield 12), 3, 0, 0, 3, [], []), (44, (.iload_n 2), 1, 0, 2, 0, [], []), (45, (.invokevirtual 196), 3, 0, 14, 1032, [], []), (48, (.aload_n 0), 1, 0, 0, 0, [], []), (49, (.getfield 26), 3, 0, 2, 3, [], []), (52, (.getfield 133), 3, 0, 10, 1, [], []), (55, (.invokevirtual 137), 3, 0, 76, 3030, [], []), (58, (.iload_n 2), 1, 0, 2, 0, [], []), (59, .ireturn, 1, 0, 0, 0, [], [])]
def tX3_gain : List bwE := [(0, (.aload_n 0), 1, 0, 0, 0, [], []), (1, (.getfield 12), 3, 0, 0, 3, [], []), (4, (.iload_n 1), 1, 0, 1, 0, [], []), (5, (.invokevirtual 56), 3, 0, 17, 2023, [], []), (8, (.ifCond .eq 13), 3, 0, 21, 0, [], []), (11, (.aload_n 0), 1, 0, 0, 0, [], []), (12, (.getfield 12), 3, 0, 0, 3, [], []), (15, (.getfield 184), 3, 0, 1, 2, [], []), (18, (.ifCond .ne 5), 3, 0, 23, 0, [], []), (21, (.iconst (-1)), 1, (-1), 0, 0, [], []), (22, .ireturn, 1, 0, 0, 0, [], []), (23, (.aload_n 0), 1, 0, 0, 0, [], []), (24, (.invokevirtual 141), 3, 0, 75, 3011, [], []), (27, (.istore_n 2), 1, 0, 2, 0, [], []), (28, (.iload_n 2), 1, 0, 2, 0, [], []), (29, (.ifCond .eq 5), 3, 0, 34, 0, [], []), (32, (.iload_n 2), 1, 0, 2, 0, [], []), (33, .ireturn, 1, 0, 0, 0, [], []), (34, (.aload_n 0), 1, 0, 0, 0, [], []), (35, (.getfield 26), 3, 0, 2, 3, [], []), (38, (.getfield 133), 3, 0, 10, 1, [], []), (41, (.lstore_n 3), 1, 0, 3, 0, [], []), (42, (.aload_n 0), 1, 0, 0, 0, [], []), (43, (.getfield 26), 3, 0, 2, 3, [], []), (46, (.aload_n 0), 1, 0, 0, 0, [], []), (47, (.getfield 12), 3, 0, 0, 3, [], []), (50, (.invokevirtual 204), 3, 0, 16, 1022, [], []), (53, (.lstore 5), 2, 0, 5, 0, [], []), (55, (.aload_n 0), 1, 0, 0, 0, [], []), (56, (.aload_n 0), 1, 0, 0, 0, [], []), (57, (.getfield 12), 3, 0, 0, 3, [], []), (60, (.iload_n 1), 1, 0, 1, 0, [], []), (61, (.invokevirtual 208), 3, 0, 22, 2023, [], []), (64, (.ifCond .eq 13), 3, 0, 77, 0, [], []), (67, (.aload_n 0), 1, 0, 0, 0, [], []), (68, (.iload_n 1), 1, 0, 1, 0, [], []), (69, (.lload 5), 2, 0, 5, 0, [], []), (71, (.invokevirtual 211), 3, 0, 79, 3032, [], []), (74, (.goto 4), 3, 0, 78, 0, [], []), (77, (.lconst 0), 1, 0, 0, 0, [], []), (78, (.lload_n 3), 1, 0, 3, 0, [], []), (79, (.invokevirtual 137), 3, 0, 76, 3030, [], []), (82, (.iconst 1), 1, 1, 0, 0, [], []), (83, .ireturn, 1, 0, 0, 0, [], [])]
def tX3_next : List bwE := [(0, (.aload_n 0), 1, 0, 0, 0, [], []), (1, (.getfield 12), 3, 0, 0, 3, [], []), (4, (.getfield 184), 3, 0, 1, 2, [], []), (7, (.ifCond .ne 5), 3, 0, 12, 0, [], []), (10, (.iconst (-1)), 1, (-1), 0, 0, [], []), (11, .ireturn, 1, 0, 0, 0, [], []), (12, (.aload_n 0), 1, 0, 0, 0, [], []), (13, (.invokevirtual 141), 3, 0, 75, 3011, [], []), (16, (.istore_n 1), 1, 0, 1, 0, [], []), (17, (.iload_n 1), 1, 0, 1, 0, [], []), (18, (.ifCond .eq 5), 3, 0, 23, 0, [], []), (21, (.iload_n 1), 1, 0, 1, 0, [], []), (22, .ireturn, 1, 0, 0, 0, [], []), (23, (.aload_n 0), 1, 0, 0, 0, [], []), (24, (.getfield 26), 3, 0, 2, 3, [], []), (27, (.getfield 133), 3, 0, 10, 1, [], []), (30, (.lstore_n 2), 1, 0, 2, 0, [], []), (31, (.aload_n 0), 1, 0, 0, 0, [], []), (32, (.getfield 26), 3, 0, 2, 3, [], []), (35, (.aload_n 0), 1, 0, 0, 0, [], []), (36, (.getfield 12), 3, 0, 0, 3, [], []), (39, (.invokevirtual 204), 3, 0, 16, 1022, [], []), (42, (.lstore 4), 2, 0, 4, 0, [], []), (44, (.bipush (-6)), 2, (-6), 0, 0, [], []), (46, (.istore 6), 2, 0, 6, 0, [], []), (48, (.lconst 0), 1, 0, 0, 0, [], []), (49, (.lstore 7), 2, 0, 7, 0, [], []), (51, (.iconst 0), 1, 0, 0, 0, [], []), (52, (.istore 9), 2, 0, 9, 0, [], []), (54, (.iload 9), 2, 0, 9, 0, [], []), (56, (.aload_n 0), 1, 0, 0, 0, [], []), (57, (.getfield 12), 3, 0, 0, 3, [], []), (60, (.getfield 34), 3, 0, 0, 2, [], []), (63, (.if_icmp .ge 54), 3, 0, 117, 0, [], []), (66, (.aload_n 0), 1, 0, 0, 0, [], []), (67, (.getfield 12), 3, 0, 0, 3, [], []), (70, (.iload 9), 2, 0, 9, 0, [], []), (72, (.invokevirtual 208), 3, 0, 22, 2023, [], []), (75, (.ifCond .eq 36), 3, 0, 111, 0, [], []), (78, (.aload_n 0), 1, 0, 0, 0, [], []), (79, (.iload 9), 2, 0, 9, 0, [], []), (81, (.lload 4), 2, 0, 4, 0, [], []), (83, (.invokevirtual 211), 3, 0, 79, 3032, [], []), (86, (.lstore 10), 2, 0, 10, 0, [], []), (88, (.iload 6), 2, 0, 6, 0, [], []), (90, (.bipush (-6)), 2, (-6), 0, 0, [], []), (92, (.if_icmp .eq 11), 3, 0, 103, 0, [], []), (95, (.lload 10), 2, 0, 10, 0, [], []), (97, (.lload 7), 2, 0, 7, 0, [], []), (99, .lcmp, 1, 0, 0, 0, [], []), (100, (.ifCond .le 11), 3, 0, 111, 0, [], []), (103, (.iload 9), 2, 0, 9, 0, [], []), (105, (.istore 6), 2, 0, 6, 0, [], []), (107, (.lload 10), 2, 0, 10, 0, [], []), (109, (.lstore 7), 2, 0, 7, 0, [], []), (111, (.iinc 9 1), 3, 1, 9, 0, [10], []), (114, (.goto (-60)), 3, 0, 54, 0, [], []), (117, (.iload 6), 2, 0, 6, 0, [], []), (119, (.bipush (-6)), 2, (-6), 0, 0, [], []), (121, (.if_icmp .eq 10), 3, 0, 131, 0, [], []), (124, (.aload_n 0), 1, 0, 0, 0, [], []), (125, (.lload 7), 2, 0, 7, 0, [], []), (127, (.lload_n 2), 1, 0, 2, 0, [], []), (128, (.invokevirtual 137), 3, 0, 76, 3030, [], []), (131, (.iload 6), 2, 0, 6, 0, [], []), (133, .ireturn, 1, 0, 0, 0, [], [])]
def tX3_undo : List bwE := [(0, (.aload_n 0), 1, 0, 0, 0, [], []), (1, (.getfield 19), 3, 0, 1, 3, [], []), (4, (.getfield 215), 3, 0, 3, 0, [], []), (7, (.ifCond .ne 5), 3, 0, 12, 0, [], []), (10, (.iconst (-1)), 1, (-1), 0, 0, [], []), (11, .ireturn, 1, 0, 0, 0, [], []), (12, (.aload_n 0), 1, 0, 0, 0, [], []), (13, (.getfield 19), 3, 0, 1, 3, [], []), (16, (.aload_n 0), 1, 0, 0, 0, [], []), (17, (.getfield 12), 3, 0, 0, 3, [], []), (20, (.invokevirtual 218), 3, 0, 2, 20, [], []), (23, (.aload_n 0), 1, 0, 0, 0, [], []), (24, (.getfield 19), 3, 0, 1, 3, [], []), (27, (.getfield 215), 3, 0, 3, 0, [], []), (30, .ireturn, 1, 0, 0, 0, [], [])]
def tX3_count : List bwE := [(0, (.iload_n 1), 1, 0, 1, 0, [], []), (1, (.tableswitch 63 0 3 #[31, 39, 47, 55]), 31, 0, 64, 0, [], [(0, 32), (1, 40), (2, 48), (3, 56)]), (32, (.aload_n 0), 1, 0, 0, 0, [], []), (33, (.getfield 12), 3, 0, 0, 3, [], []), (36, (.getfield 34), 3, 0, 0, 2, [], []), (39, .ireturn, 1, 0, 0, 0, [], []), (40, (.aload_n 0), 1, 0, 0, 0, [], []), (41, (.getfield 12), 3, 0, 0, 3, [], []), (44, (.invokevirtual 221), 3, 0, 25, 2011, [], []), (47, .ireturn, 1, 0, 0, 0, [], []), (48, (.aload_n 0), 1, 0, 0, 0, [], []), (49, (.getfield 12), 3, 0, 0, 3, [], []), (52, (.getfield 184), 3, 0, 1, 2, [], []), (55, .ireturn, 1, 0, 0, 0, [], []), (56, (.aload_n 0), 1, 0, 0, 0, [], []), (57, (.getfield 19), 3, 0, 1, 3, [], []), (60, (.getfield 215), 3, 0, 3, 0, [], []), (63, .ireturn, 1, 0, 0, 0, [], []), (64, (.iconst (-1)), 1, (-1), 0, 0, [], []), (65, .ireturn, 1, 0, 0, 0, [], [])]
def tX3_carryOut : List bwE := [(0, (.aload_n 0), 1, 0, 0, 0, [], []), (1, (.getfield 19), 3, 0, 1, 3, [], []), (4, (.iload_n 1), 1, 0, 1, 0, [], []), (5, (.iload_n 2), 1, 0, 2, 0, [], []), (6, (.iload_n 3), 1, 0, 3, 0, [], []), (7, (.iload 4), 2, 0, 4, 0, [], []), (9, (.iload 5), 2, 0, 5, 0, [], []), (11, (.invokevirtual 224), 3, 0, 1, 60, [], []), (14, (.aload_n 0), 1, 0, 0, 0, [], []), (15, (.getfield 12), 3, 0, 0, 3, [], []), (18, (.iload_n 1), 1, 0, 1, 0, [], []), (19, (.iload_n 2), 1, 0, 2, 0, [], []), (20, (.iload_n 3), 1, 0, 3, 0, [], []), (21, (.iload 4), 2, 0, 4, 0, [], []), (23, (.iload 5), 2, 0, 5, 0, [], []), (25, (.invokevirtual 227), 3, 0, 38, 2060, [], []), (28, .return_, 1, 0, 0, 0, [], [])]
def tX3_trouble : List bwE := [(0, (.aload_n 0), 1, 0, 0, 0, [], []), (1, (.getfield 12), 3, 0, 0, 3, [], []), (4, (.invokevirtual 114), 3, 0, 28, 2013, [], []), (7, (.ifCond .ne 6), 3, 0, 13, 0, [], []), (10, (.bipush (-4)), 2, (-4), 0, 0, [], []), (12, .ireturn, 1, 0, 0, 0, [], []), (13, (.aload_n 0), 1, 0, 0, 0, [], []), (14, (.getfield 26), 3, 0, 2, 3, [], []), (17, (.aload_n 0), 1, 0, 0, 0, [], []), (18, (.getfield 12), 3, 0, 0, 3, [], []), (21, (.invokevirtual 130), 3, 0, 5, 1020, [], []), (24, (.aload_n 0), 1, 0, 0, 0, [], []), (25, (.getfield 26), 3, 0, 2, 3, [], []), (28, (.getfield 133), 3, 0, 10, 1, [], []), (31, (.lconst 0), 1, 0, 0, 0, [], []), (32, .lcmp, 1, 0, 0, 0, [], []), (33, (.ifCond .ne 8), 3, 0, 41, 0, [], []), (36, (.bipush (-5)), 2, (-5), 0, 0, [], []), (38, (.goto 4), 3, 0, 42, 0, [], []), (41, (.iconst 0), 1, 0, 0, 0, [], []), (42, .ireturn, 1, 0, 0, 0, [], [])]
def tX3_tell : List bwE := [(0, (.lload_n 3), 1, 0, 3, 0, [], []), (1, (.lconst 0), 1, 0, 0, 0, [], []), (2, .lcmp, 1, 0, 0, 0, [], []), (3, (.ifCond .gt 4), 3, 0, 7, 0, [], []), (6, .return_, 1, 0, 0, 0, [], []), (7, (.lload_n 1), 1, 0, 1, 0, [], []), (8, (.invokestatic 228), 3, 0, 0, 997, [], []), (11, (.lload_n 3), 1, 0, 3, 0, [], []), (12, (.invokestatic 234), 3, 0, 77, 22, [], []), (15, (.lstore 5), 2, 0, 5, 0, [], []), (17, (.lload 5), 2, 0, 5, 0, [], []), (19, (.lconst 0), 1, 0, 0, 0, [], []), (20, .lcmp, 1, 0, 0, 0, [], []), (21, (.ifCond .le 19), 3, 0, 40, 0, [], []), (24, (.aload_n 0), 1, 0, 0, 0, [], []), (25, (.lload_n 1), 1, 0, 1, 0, [], []), (26, (.lload 5), 2, 0, 5, 0, [], []), (28, .ldiv, 1, 0, 0, 0, [], []), (29, (.putfield 152), 3, 0, 5, 3, [], []), (32, (.aload_n 0), 1, 0, 0, 0, [], []), (33, (.lload_n 3), 1, 0, 3, 0, [], []), (34, (.lload 5), 2, 0, 5, 0, [], []), (36, .ldiv, 1, 0, 0, 0, [], []), (37, (.putfield 155), 3, 0, 6, 3, [], []), (40, .return_, 1, 0, 0, 0, [], [])]
def tX3_commonDivisor : List bwE := [(0, (.lload_n 0), 1, 0, 0, 0, [], []), (1, (.lstore 4), 2, 0, 4, 0, [], []), (3, (.lload_n 2), 1, 0, 2, 0, [], []), (4, (.lstore 6), 2, 0, 6, 0, [], []), (6, (.iconst 0), 1, 0, 0, 0, [], []), (7, (.istore 8), 2, 0, 8, 0, [], []), (9, (.iload 8), 2, 0, 8, 0, [9], []), (11, (.bipush 100), 2, 100, 0, 0, [], []), (13, (.if_icmp .ge 31), 3, 0, 44, 0, [], []), (16, (.lload 6), 2, 0, 6, 0, [], []), (18, (.lconst 0), 1, 0, 0, 0, [], []), (19, .lcmp, 1, 0, 0, 0, [], []), (20, (.ifCond .eq 24), 3, 0, 44, 0, [], []), (23, (.lload 4), 2, 0, 4, 0, [], []), (25, (.lload 6), 2, 0, 6, 0, [], []), (27, .lrem, 1, 0, 0, 0, [], []), (28, (.lstore 9), 2, 0, 9, 0, [], []), (30, (.lload 6), 2, 0, 6, 0, [], []), (32, (.lstore 4), 2, 0, 4, 0, [], []), (34, (.lload 9), 2, 0, 9, 0, [], []), (36, (.lstore 6), 2, 0, 6, 0, [], []), (38, (.iinc 8 1), 3, 1, 8, 0, [], []), (41, (.goto (-32)), 3, 0, 9, 0, [], []), (44, (.lload 4), 2, 0, 4, 0, [], []), (46, .lreturn, 1, 0, 0, 0, [], [])]
def tX3_show : List bwE := [(0, (.aload_n 0), 1, 0, 0, 0, [], []), (1, (.aload_n 0), 1, 0, 0, 0, [], []), (2, (.getfield 12), 3, 0, 0, 3, [], []), (5, (.getfield 34), 3, 0, 0, 2, [], []), (8, (.putfield 175), 3, 0, 4, 3, [], []), (11, (.iload_n 1), 1, 0, 1, 0, [], []), (12, (.istore_n 2), 1, 0, 2, 0, [], []), (13, (.aload_n 0), 1, 0, 0, 0, [], []), (14, (.getfield 175), 3, 0, 4, 3, [], []), (17, (.iconst 1), 1, 1, 0, 0, [], []), (18, .isub, 1, 0, 0, 0, [], []), (19, (.istore_n 3), 1, 0, 3, 0, [], []), (20, (.iload_n 3), 1, 0, 3, 0, [], []), (21, (.ifCond .lt 22), 3, 0, 43, 0, [], []), (24, (.aload_n 0), 1, 0, 0, 0, [], []), (25, (.getfield 30), 3, 0, 3, 3, [], []), (28, (.iload_n 3), 1, 0, 3, 0, [], []), (29, (.iload_n 2), 1, 0, 2, 0, [], []), (30, (.iconst 3), 1, 3, 0, 0, [], []), (31, .iand, 1, 0, 0, 0, [], []), (32, .iastore, 1, 0, 0, 0, [], []), (33, (.iload_n 2), 1, 0, 2, 0, [], []), (34, (.iconst 2), 1, 2, 0, 0, [], []), (35, .ishr, 1, 0, 0, 0, [], []), (36, (.istore_n 2), 1, 0, 2, 0, [], []), (37, (.iinc 3 (-1)), 3, (-1), 3, 0, [], []), (40, (.goto (-20)), 3, 0, 20, 0, [], []), (43, .return_, 1, 0, 0, 0, [], [])]
def tX3_gainSum : List bwE := [(0, (.lconst 0), 1, 0, 0, 0, [], []), (1, (.lstore 4), 2, 0, 4, 0, [], []), (3, (.iconst 0), 1, 0, 0, 0, [], []), (4, (.istore 6), 2, 0, 6, 0, [], []), (6, (.iload 6), 2, 0, 6, 0, [], []), (8, (.aload_n 0), 1, 0, 0, 0, [], []), (9, (.getfield 12), 3, 0, 0, 3, [], []), (12, (.getfield 93), 3, 0, 2, 2, [], []), (15, (.iload_n 1), 1, 0, 1, 0, [], []), (16, .iaload, 1, 0, 0, 0, [], []), (17, (.if_icmp .ge 39), 3, 0, 56, 0, [], []), (20, (.aload_n 0), 1, 0, 0, 0, [], []), (21, (.getfield 26), 3, 0, 2, 3, [], []), (24, (.aload_n 0), 1, 0, 0, 0, [], []), (25, (.getfield 12), 3, 0, 0, 3, [], []), (28, (.iload_n 1), 1, 0, 1, 0, [], []), (29, (.iload 6), 2, 0, 6, 0, [], []), (31, (.invokevirtual 148), 3, 0, 6, 1040, [], []), (34, (.lload 4), 2, 0, 4, 0, [], []), (36, (.aload_n 0), 1, 0, 0, 0, [], []), (37, (.getfield 26), 3, 0, 2, 3, [], []), (40, (.aload_n 0), 1, 0, 0, 0, [], []), (41, (.getfield 12), 3, 0, 0, 3, [], []), (44, (.invokevirtual 204), 3, 0, 16, 1022, [], []), (47, .ladd, 1, 0, 0, 0, [], []), (48, (.lstore 4), 2, 0, 4, 0, [], []), (50, (.iinc 6 1), 3, 1, 6, 0, [], []), (53, (.goto (-47)), 3, 0, 6, 0, [], []), (56, (.lload 4), 2, 0, 4, 0, [], []), (58, (.lload_n 2), 1, 0, 2, 0, [], []), (59, .lsub, 1, 0, 0, 0, [], []), (60, .lreturn, 1, 0, 0, 0, [], [])]
def tX3_slot : List bwE := [(0, (.iload_n 0), 1, 0, 0, 0, [], []), (1, (.iconst 4), 1, 4, 0, 0, [], []), (2, .imul, 1, 0, 0, 0, [], []), (3, (.iload_n 1), 1, 0, 1, 0, [], []), (4, .iadd, 1, 0, 0, 0, [], []), (5, .ireturn, 1, 0, 0, 0, [], [])]
def tX3_weightSlot : List bwE := [(0, (.iload_n 0), 1, 0, 0, 0, [], []), (1, (.sipush 256), 3, 256, 0, 0, [], []), (4, .imul, 1, 0, 0, 0, [], []), (5, (.iload_n 1), 1, 0, 1, 0, [], []), (6, (.iconst 4), 1, 4, 0, 0, [], []), (7, .imul, 1, 0, 0, 0, [], []), (8, .iadd, 1, 0, 0, 0, [], []), (9, (.iload_n 2), 1, 0, 2, 0, [], []), (10, .iadd, 1, 0, 0, 0, [], []), (11, .ireturn, 1, 0, 0, 0, [], [])]
def tX3_worthSlot : List bwE := [(0, (.iload_n 0), 1, 0, 0, 0, [], []), (1, (.bipush 48), 2, 48, 0, 0, [], []), (3, .imul, 1, 0, 0, 0, [], []), (4, (.iload_n 1), 1, 0, 1, 0, [], []), (5, (.iload_n 2), 1, 0, 2, 0, [], []), (6, (.invokestatic 127), 3, 0, 80, 21, [], []), (9, .iadd, 1, 0, 0, 0, [], []), (10, .ireturn, 1, 0, 0, 0, [], [])]
def tX3_parentSlot : List bwE := [(0, (.iload_n 0), 1, 0, 0, 0, [], []), (1, (.iconst 3), 1, 3, 0, 0, [], []), (2, .imul, 1, 0, 0, 0, [], []), (3, (.iload_n 1), 1, 0, 1, 0, [], []), (4, .iadd, 1, 0, 0, 0, [], []), (5, .ireturn, 1, 0, 0, 0, [], [])]
def tX3_isIn : List bwE := [(0, (.iload_n 0), 1, 0, 0, 0, [], []), (1, (.iload_n 1), 1, 0, 1, 0, [], []), (2, .ishr, 1, 0, 0, 0, [], []), (3, (.iconst 1), 1, 1, 0, 0, [], []), (4, .iand, 1, 0, 0, 0, [], []), (5, (.ifCond .eq 7), 3, 0, 12, 0, [], []), (8, (.iconst 1), 1, 1, 0, 0, [], []), (9, (.goto 4), 3, 0, 13, 0, [], []), (12, (.iconst 0), 1, 0, 0, 0, [], []), (13, .ireturn, 1, 0, 0, 0, [], [])]
def tX4_isThing : List bwE := [(0, (.iload_n 1), 1, 0, 1, 0, [], []), (1, (.ifCond .lt 15), 3, 0, 16, 0, [], []), (4, (.iload_n 1), 1, 0, 1, 0, [], []), (5, (.aload_n 0), 1, 0, 0, 0, [], []), (6, (.getfield 82), 3, 0, 1, 4, [], []), (9, (.if_icmp .ge 7), 3, 0, 16, 0, [], []), (12, (.iconst 1), 1, 1, 0, 0, [], []), (13, (.goto 4), 3, 0, 17, 0, [], []), (16, (.iconst 0), 1, 0, 0, 0, [], []), (17, .ireturn, 1, 0, 0, 0, [], [])]
def tX4_isValue : List bwE := [(0, (.aload_n 0), 1, 0, 0, 0, [], []), (1, (.iload_n 1), 1, 0, 1, 0, [], []), (2, (.invokevirtual 85), 3, 0, 85, 4023, [], []), (5, (.ifCond .eq 21), 3, 0, 26, 0, [], []), (8, (.iload_n 2), 1, 0, 2, 0, [], []), (9, (.ifCond .lt 17), 3, 0, 26, 0, [], []), (12, (.iload_n 2), 1, 0, 2, 0, [], []), (13, (.aload_n 0), 1, 0, 0, 0, [], []), (14, (.getfield 7), 3, 0, 2, 4, [], []), (17, (.iload_n 1), 1, 0, 1, 0, [], []), (18, .iaload, 1, 0, 0, 0, [], []), (19, (.if_icmp .ge 7), 3, 0, 26, 0, [], []), (22, (.iconst 1), 1, 1, 0, 0, [], []), (23, (.goto 4), 3, 0, 27, 0, [], []), (26, (.iconst 0), 1, 0, 0, 0, [], []), (27, .ireturn, 1, 0, 0, 0, [], [])]
def tX4_rows : List bwE := [(0, (.iconst 1), 1, 1, 0, 0, [], []), (1, (.istore_n 2), 1, 0, 2, 0, [], []), (2, (.iconst 0), 1, 0, 0, 0, [], []), (3, (.istore_n 3), 1, 0, 3, 0, [], []), (4, (.iload_n 3), 1, 0, 3, 0, [], []), (5, (.aload_n 0), 1, 0, 0, 0, [], []), (6, (.getfield 16), 3, 0, 4, 4, [], []), (9, (.iload_n 1), 1, 0, 1, 0, [], []), (10, .iaload, 1, 0, 0, 0, [], []), (11, (.if_icmp .ge 27), 3, 0, 38, 0, [], []), (14, (.iload_n 2), 1, 0, 2, 0, [], []), (15, (.aload_n 0), 1, 0, 0, 0, [], []), (16, (.getfield 7), 3, 0, 2, 4, [], []), (19, (.aload_n 0), 1, 0, 0, 0, [], []), (20, (.getfield 19), 3, 0, 5, 4, [], []), (23, (.iconst 3), 1, 3, 0, 0, [], []), (24, (.iload_n 1), 1, 0, 1, 0, [], []), (25, .imul, 1, 0, 0, 0, [], []), (26, (.iload_n 3), 1, 0, 3, 0, [], []), (27, .iadd, 1, 0, 0, 0, [], []), (28, .iaload, 1, 0, 0, 0, [], []), (29, .iaload, 1, 0, 0, 0, [], []), (30, .imul, 1, 0, 0, 0, [], []), (31, (.istore_n 2), 1, 0, 2, 0, [], []), (32, (.iinc 3 1), 3, 1, 3, 0, [], []), (35, (.goto (-31)), 3, 0, 4, 0, [], []), (38, (.iload_n 2), 1, 0, 2, 0, [], []), (39, .ireturn, 1, 0, 0, 0, [], [])]
def tX4_thing : List bwE := [(0, (.iload_n 1), 1, 0, 1, 0, [], []), (1, (.iconst 2), 1, 2, 0, 0, [], []), (2, (.if_icmp .lt 19), 3, 0, 21, 0, [], []), (5, (.iload_n 1), 1, 0, 1, 0, [], []), (6, (.iconst 4), 1, 4, 0, 0, [], []), (7, (.if_icmp .gt 14), 3, 0, 21, 0, [], []), (10, (.iload_n 2), 1, 0, 2, 0, [], []), (11, (.iconst 1), 1, 1, 0, 0, [], []), (12, (.if_icmp .lt 9), 3, 0, 21, 0, [], []), (15, (.iload_n 2), 1, 0, 2, 0, [], []), (16, (.bipush 100), 2, 100, 0, 0, [], []), (18, (.if_icmp .le 5), 3, 0, 23, 0, [], []), (21, (.iconst (-1)), 1, (-1), 0, 0, [], []), (22, .ireturn, 1, 0, 0, 0, [], []), (23, (.iload_n 1), 1, 0, 1, 0, [], []), (24, .i2l, 1, 0, 0, 0, [], []), (25, (.lstore_n 3), 1, 0, 3, 0, [], []), (26, (.iload_n 2), 1, 0, 2, 0, [], []), (27, .i2l, 1, 0, 0, 0, [], []), (28, (.lstore 5), 2, 0, 5, 0, [], []), (30, (.iconst 0), 1, 0, 0, 0, [], []), (31, (.istore 7), 2, 0, 7, 0, [], []), (33, (.iload 7), 2, 0, 7, 0, [], []), (35, (.aload_n 0), 1, 0, 0, 0, [], []), (36, (.getfield 82), 3, 0, 1, 4, [], []), (39, (.if_icmp .ge 33), 3, 0, 72, 0, [], []), (42, (.lload_n 3), 1, 0, 3, 0, [], []), (43, (.aload_n 0), 1, 0, 0, 0, [], []), (44, (.getfield 7), 3, 0, 2, 4, [], []), (47, (.iload 7), 2, 0, 7, 0, [], []), (49, .iaload, 1, 0, 0, 0, [], []), (50, .i2l, 1, 0, 0, 0, [], []), (51, .lmul, 1, 0, 0, 0, [], []), (52, (.lstore_n 3), 1, 0, 3, 0, [], []), (53, (.lload 5), 2, 0, 5, 0, [], []), (55, (.aload_n 0), 1, 0, 0, 0, [], []), (56, (.getfield 13), 3, 0, 3, 4, [], []), (59, (.iload 7), 2, 0, 7, 0, [], []), (61, .iaload, 1, 0, 0, 0, [], []), (62, .i2l, 1, 0, 0, 0, [], []), (63, .lmul, 1, 0, 0, 0, [], []), (64, (.lstore 5), 2, 0, 5, 0, [], []), (66, (.iinc 7 1), 3, 1, 7, 0, [], []), (69, (.goto (-36)), 3, 0, 33, 0, [], []), (72, (.aload_n 0), 1, 0, 0, 0, [], []), (73, (.getfield 82), 3, 0, 1, 4, [], []), (76, (.bipush 12), 2, 12, 0, 0, [], []), (78, (.if_icmp .eq 20), 3, 0, 98, 0, [], []), (81, (.lload_n 3), 1, 0, 3, 0, [], []), (82, (.ldc2_w 89), 3, 0, 20000, 0, [], []), (85, .lcmp, 1, 0, 0, 0, [], []), (86, (.ifCond .gt 12), 3, 0, 98, 0, [], []), (89, (.lload 5), 2, 0, 5, 0, [], []), (91, (.ldc2_w 91), 3, 0, 1000000000, 0, [], []), (94, .lcmp, 1, 0, 0, 0, [], []), (95, (.ifCond .le 6), 3, 0, 101, 0, [], []), (98, (.bipush (-3)), 2, (-3), 0, 0, [], []), (100, .ireturn, 1, 0, 0, 0, [], []), (101, (.aload_n 0), 1, 0, 0, 0, [], []), (102, (.getfield 82), 3, 0, 1, 4, [], []), (105, (.istore 7), 2, 0, 7, 0, [], []), (107, (.aload_n 0), 1, 0, 0, 0, [], []), (108, (.getfield 7), 3, 0, 2, 4, [], []), (111, (.iload 7), 2, 0, 7, 0, [], []), (113, (.iload_n 1), 1, 0, 1, 0, [], []), (114, .iastore, 1, 0, 0, 0, [], []), (115, (.aload_n 0), 1, 0, 0, 0, [], []), (116, (.getfield 13), 3, 0, 3, 4, [], []), (119, (.iload 7), 2, 0, 7, 0, [], []), (121, (.iload_n 2), 1, 0, 2, 0, [], []), (122, .iastore, 1, 0, 0, 0, [], []), (123, (.aload_n 0), 1, 0, 0, 0, [], []), (124, (.getfield 16), 3, 0, 4, 4, [], []), (127, (.iload 7), 2, 0, 7, 0, [], []), (129, (.iconst 0), 1, 0, 0, 0, [], []), (130, .iastore, 1, 0, 0, 0, [], []), (131, (.aload_n 0), 1, 0, 0, 0, [], []), (132, (.getfield 25), 3, 0, 7, 4, [], []), (135, (.iload 7), 2, 0, 7, 0, [], []), (137, (.iconst (-1)), 1, (-1), 0, 0, [], []), (138, .iastore, 1, 0, 0, 0, [], []), (139, (.aload_n 0), 1, 0, 0, 0, [], []), (140, (.getfield 28), 3, 0, 8, 4, [], []), (143, (.iload 7), 2, 0, 7, 0, [], []), (145, (.iconst (-1)), 1, (-1), 0, 0, [], []), (146, .iastore, 1, 0, 0, 0, [], []), (147, (.iconst 0), 1, 0, 0, 0, [], []), (148, (.istore 8), 2, 0, 8, 0, [], []), (150, (.iload 8), 2, 0, 8, 0, [], []), (152, (.iconst 4), 1, 4, 0, 0, [], []), (153, (.if_icmp .ge 22), 3, 0, 175, 0, [], []), (156, (.aload_n 0), 1, 0, 0, 0, [], []), (157, (.getfield 31), 3, 0, 9, 4, [], []), (160, (.iconst 4), 1, 4, 0, 0, [], []), (161, (.iload 7), 2, 0, 7, 0, [], []), (163, .imul, 1, 0, 0, 0, [], []), (164, (.iload 8), 2, 0, 8, 0, [], []), (166, .iadd, 1, 0, 0, 0, [], []), (167, (.iconst 1), 1, 1, 0, 0, [], []), (168, .iastore, 1, 0, 0, 0, [], []), (169, (.iinc 8 1), 3, 1, 8, 0, [], []), (172, (.goto (-22)), 3, 0, 150, 0, [], []), (175, (.iconst 0), 1, 0, 0, 0, [], []), (176, (.istore 8), 2, 0, 8, 0, [], []), (178, (.iload 8), 2, 0, 8, 0, [9], []), (180, (.bipush 6), 2, 6, 0, 0, [], []), (182, (.if_icmp .ge 43), 3, 0, 225, 0, [], []), (185, (.iconst 0), 1, 0, 0, 0, [], []), (186, (.istore 9), 2, 0, 9, 0, [], []), (188, (.iload 9), 2, 0, 9, 0, [], []), (190, (.iconst 4), 1, 4, 0, 0, [], []), (191, (.if_icmp .ge 28), 3, 0, 219, 0, [], []), (194, (.aload_n 0), 1, 0, 0, 0, [], []), (195, (.getfield 34), 3, 0, 11, 4, [], []), (198, (.bipush 48), 2, 48, 0, 0, [], []), (200, (.iload 8), 2, 0, 8, 0, [], []), (202, .imul, 1, 0, 0, 0, [], []), (203, (.iconst 4), 1, 4, 0, 0, [], []), (204, (.iload 7), 2, 0, 7, 0, [], []), (206, .imul, 1, 0, 0, 0, [], []), (207, .iadd, 1, 0, 0, 0, [], []), (208, (.iload 9), 2, 0, 9, 0, [], []), (210, .iadd, 1, 0, 0, 0, [], []), (211, (.iconst 0), 1, 0, 0, 0, [], []), (212, .iastore, 1, 0, 0, 0, [], []), (213, (.iinc 9 1), 3, 1, 9, 0, [], []), (216, (.goto (-28)), 3, 0, 188, 0, [], []), (219, (.iinc 8 1), 3, 1, 8, 0, [], []), (222, (.goto (-44)), 3, 0, 178, 0, [], []), (225, (.aload_n 0), 1, 0, 0, 0, [], []), (226, .dup, 1, 0, 0, 0, [], []), (227, (.getfield 82), 3, 0, 1, 4, [], []), (230, (.iconst 1), 1, 1, 0, 0, [], []), (231, .iadd, 1, 0, 0, 0, [], []), (232, (.putfield 82), 3, 0, 1, 4, [], []), (235, (.aload_n 0), 1, 0, 0, 0, [], []), (236, (.iload 7), 2, 0, 7, 0, [], []), (238, (.invokevirtual 93), 3, 0, 89, 4020, [], []), (241, (.aload_n 0), 1, 0, 0, 0, [], []), (242, (.iconst 0), 1, 0, 0, 0, [], []), (243, (.putfield 97), 3, 0, 25, 4, [], []), (246, (.iload 7), 2, 0, 7, 0, [], []), (248, .ireturn, 1, 0, 0, 0, [], [])]
def tX4_plainTable : List bwE := [(0, (.iconst 0), 1, 0, 0, 0, [], []), (1, (.istore_n 2), 1, 0, 2, 0, [], []), (2, (.iload_n 2), 1, 0, 2, 0, [3], []), (3, (.bipush 64), 2, 64, 0, 0, [], []), (5, (.if_icmp .ge 52), 3, 0, 57, 0, [], []), (8, (.iconst 0), 1, 0, 0, 0, [], []), (9, (.istore_n 3), 1, 0, 3, 0, [], []), (10, (.iload_n 3), 1, 0, 3, 0, [], []), (11, (.iconst 4), 1, 4, 0, 0, [], []), (12, (.if_icmp .ge 39), 3, 0, 51, 0, [], []), (15, (.aload_n 0), 1, 0, 0, 0, [], []), (16, (.getfield 22), 3, 0, 6, 4, [], []), (19, (.sipush 256), 3, 256, 0, 0, [], []), (22, (.iload_n 1), 1, 0, 1, 0, [], []), (23, .imul, 1, 0, 0, 0, [], []), (24, (.iconst 4), 1, 4, 0, 0, [], []), (25, (.iload_n 2), 1, 0, 2, 0, [], []), (26, .imul, 1, 0, 0, 0, [], []), (27, .iadd, 1, 0, 0, 0, [], []), (28, (.iload_n 3), 1, 0, 3, 0, [], []), (29, .iadd, 1, 0, 0, 0, [], []), (30, (.iload_n 3), 1, 0, 3, 0, [], []), (31, (.ifCond .ne 12), 3, 0, 43, 0, [], []), (34, (.aload_n 0), 1, 0, 0, 0, [], []), (35, (.getfield 13), 3, 0, 3, 4, [], []), (38, (.iload_n 1), 1, 0, 1, 0, [], []), (39, .iaload, 1, 0, 0, 0, [], []), (40, (.goto 4), 3, 0, 44, 0, [], []), (43, (.iconst 0), 1, 0, 0, 0, [], []), (44, .iastore, 1, 0, 0, 0, [], []), (45, (.iinc 3 1), 3, 1, 3, 0, [], []), (48, (.goto (-38)), 3, 0, 10, 0, [], []), (51, (.iinc 2 1), 3, 1, 2, 0, [], []), (54, (.goto (-52)), 3, 0, 2, 0, [], []), (57, .return_, 1, 0, 0, 0, [], [])]
def tX4_isParent : List bwE := [(0, (.iconst 0), 1, 0, 0, 0, [], []), (1, (.istore_n 3), 1, 0, 3, 0, [], []), (2, (.iload_n 3), 1, 0, 3, 0, [], []), (3, (.aload_n 0), 1, 0, 0, 0, [], []), (4, (.getfield 16), 3, 0, 4, 4, [], []), (7, (.iload_n 2), 1, 0, 2, 0, [], []), (8, .iaload, 1, 0, 0, 0, [], []), (9, (.if_icmp .ge 25), 3, 0, 34, 0, [], []), (12, (.aload_n 0), 1, 0, 0, 0, [], []), (13, (.getfield 19), 3, 0, 5, 4, [], []), (16, (.iconst 3), 1, 3, 0, 0, [], []), (17, (.iload_n 2), 1, 0, 2, 0, [], []), (18, .imul, 1, 0, 0, 0, [], []), (19, (.iload_n 3), 1, 0, 3, 0, [], []), (20, .iadd, 1, 0, 0, 0, [], []), (21, .iaload, 1, 0, 0, 0, [], []), (22, (.iload_n 1), 1, 0, 1, 0, [], []), (23, (.if_icmp .ne 5), 3, 0, 28, 0, [], []), (26, (.iconst 1), 1, 1, 0, 0, [], []), (27, .ireturn, 1, 0, 0, 0, [], []), (28, (.iinc 3 1), 3, 1, 3, 0, [], []), (31, (.goto (-29)), 3, 0, 2, 0, [], []), (34, (.iconst 0), 1, 0, 0, 0, [], []), (35, .ireturn, 1, 0, 0, 0, [], [])]
def tX4_reach : List bwE := [(0, (.iconst 0), 1, 0, 0, 0, [], []), (1, (.istore_n 3), 1, 0, 3, 0, [], []), (2, (.iload_n 3), 1, 0, 3, 0, [], []), (3, (.aload_n 0), 1, 0, 0, 0, [], []), (4, (.getfield 82), 3, 0, 1, 4, [], []), (7, (.if_icmp .ge 25), 3, 0, 32, 0, [], []), (10, (.aload_n 0), 1, 0, 0, 0, [], []), (11, (.getfield 37), 3, 0, 12, 4, [], []), (14, (.iload_n 3), 1, 0, 3, 0, [], []), (15, (.iload_n 3), 1, 0, 3, 0, [], []), (16, (.iload_n 1), 1, 0, 1, 0, [], []), (17, (.if_icmp .ne 7), 3, 0, 24, 0, [], []), (20, (.iconst 1), 1, 1, 0, 0, [], []), (21, (.goto 4), 3, 0, 25, 0, [], []), (24, (.iconst 0), 1, 0, 0, 0, [], []), (25, .bastore, 1, 0, 0, 0, [], []), (26, (.iinc 3 1), 3, 1, 3, 0, [], []), (29, (.goto (-27)), 3, 0, 2, 0, [], []), (32, (.iconst 1), 1, 1, 0, 0, [], []), (33, (.istore_n 3), 1, 0, 3, 0, [], []), (34, (.iload_n 3), 1, 0, 3, 0, [4], []), (35, (.ifCond .eq 107), 3, 0, 142, 0, [], []), (38, (.iconst 0), 1, 0, 0, 0, [], []), (39, (.istore_n 3), 1, 0, 3, 0, [], []), (40, (.iconst 0), 1, 0, 0, 0, [], []), (41, (.istore 4), 2, 0, 4, 0, [], []), (43, (.iload 4), 2, 0, 4, 0, [], []), (45, (.aload_n 0), 1, 0, 0, 0, [], []), (46, (.getfield 82), 3, 0, 1, 4, [], []), (49, (.if_icmp .ge 90), 3, 0, 139, 0, [], []), (52, (.aload_n 0), 1, 0, 0, 0, [], []), (53, (.getfield 37), 3, 0, 12, 4, [], []), (56, (.iload 4), 2, 0, 4, 0, [], []), (58, .baload, 1, 0, 0, 0, [], []), (59, (.ifCond .ne 74), 3, 0, 133, 0, [], []), (62, (.iload_n 2), 1, 0, 2, 0, [], []), (63, (.ifCond .eq 16), 3, 0, 79, 0, [], []), (66, (.aload_n 0), 1, 0, 0, 0, [], []), (67, (.getfield 28), 3, 0, 8, 4, [], []), (70, (.iload 4), 2, 0, 4, 0, [], []), (72, .iaload, 1, 0, 0, 0, [], []), (73, (.ifCond .lt 6), 3, 0, 79, 0, [], []), (76, (.goto 57), 3, 0, 133, 0, [], []), (79, (.iconst 0), 1, 0, 0, 0, [], []), (80, (.istore 5), 2, 0, 5, 0, [], []), (82, (.iload 5), 2, 0, 5, 0, [], []), (84, (.aload_n 0), 1, 0, 0, 0, [], []), (85, (.getfield 16), 3, 0, 4, 4, [], []), (88, (.iload 4), 2, 0, 4, 0, [], []), (90, .iaload, 1, 0, 0, 0, [], []), (91, (.if_icmp .ge 42), 3, 0, 133, 0, [], []), (94, (.aload_n 0), 1, 0, 0, 0, [], []), (95, (.getfield 37), 3, 0, 12, 4, [], []), (98, (.aload_n 0), 1, 0, 0, 0, [], []), (99, (.getfield 19), 3, 0, 5, 4, [], []), (102, (.iconst 3), 1, 3, 0, 0, [], []), (103, (.iload 4), 2, 0, 4, 0, [], []), (105, .imul, 1, 0, 0, 0, [], []), (106, (.iload 5), 2, 0, 5, 0, [], []), (108, .iadd, 1, 0, 0, 0, [], []), (109, .iaload, 1, 0, 0, 0, [], []), (110, .baload, 1, 0, 0, 0, [], []), (111, (.ifCond .ne 6), 3, 0, 117, 0, [], []), (114, (.goto 13), 3, 0, 127, 0, [], []), (117, (.aload_n 0), 1, 0, 0, 0, [], []), (118, (.getfield 37), 3, 0, 12, 4, [], []), (121, (.iload 4), 2, 0, 4, 0, [], []), (123, (.iconst 1), 1, 1, 0, 0, [], []), (124, .bastore, 1, 0, 0, 0, [], []), (125, (.iconst 1), 1, 1, 0, 0, [], []), (126, (.istore_n 3), 1, 0, 3, 0, [], []), (127, (.iinc 5 1), 3, 1, 5, 0, [], []), (130, (.goto (-48)), 3, 0, 82, 0, [], []), (133, (.iinc 4 1), 3, 1, 4, 0, [5], []), (136, (.goto (-93)), 3, 0, 43, 0, [], []), (139, (.goto (-105)), 3, 0, 34, 0, [], []), (142, .return_, 1, 0, 0, 0, [], [])]
def tX4_arrow : List bwE := [(0, (.aload_n 0), 1, 0, 0, 0, [], []), (1, (.iload_n 1), 1, 0, 1, 0, [], []), (2, (.invokevirtual 85), 3, 0, 85, 4023, [], []), (5, (.ifCond .eq 25), 3, 0, 30, 0, [], []), (8, (.aload_n 0), 1, 0, 0, 0, [], []), (9, (.iload_n 2), 1, 0, 2, 0, [], []), (10, (.invokevirtual 85), 3, 0, 85, 4023, [], []), (13, (.ifCond .eq 17), 3, 0, 30, 0, [], []), (16, (.iload_n 1), 1, 0, 1, 0, [], []), (17, (.iload_n 2), 1, 0, 2, 0, [], []), (18, (.if_icmp .eq 12), 3, 0, 30, 0, [], []), (21, (.aload_n 0), 1, 0, 0, 0, [], []), (22, (.iload_n 1), 1, 0, 1, 0, [], []), (23, (.iload_n 2), 1, 0, 2, 0, [], []), (24, (.invokevirtual 100), 3, 0, 90, 4033, [], []), (27, (.ifCond .eq 5), 3, 0, 32, 0, [], []), (30, (.iconst (-1)), 1, (-1), 0, 0, [], []), (31, .ireturn, 1, 0, 0, 0, [], []), (32, (.aload_n 0), 1, 0, 0, 0, [], []), (33, (.iload_n 2), 1, 0, 2, 0, [], []), (34, (.iconst 0), 1, 0, 0, 0, [], []), (35, (.invokevirtual 104), 3, 0, 91, 4030, [], []), (38, (.aload_n 0), 1, 0, 0, 0, [], []), (39, (.getfield 37), 3, 0, 12, 4, [], []), (42, (.iload_n 1), 1, 0, 1, 0, [], []), (43, .baload, 1, 0, 0, 0, [], []), (44, (.ifCond .eq 6), 3, 0, 50, 0, [], []), (47, (.bipush (-2)), 2, (-2), 0, 0, [], []), (49, .ireturn, 1, 0, 0, 0, [], []), (50, (.aload_n 0), 1, 0, 0, 0, [], []), (51, (.getfield 16), 3, 0, 4, 4, [], []), (54, (.iload_n 2), 1, 0, 2, 0, [], []), (55, .iaload, 1, 0, 0, 0, [], []), (56, (.iconst 3), 1, 3, 0, 0, [], []), (57, (.if_icmp .ne 6), 3, 0, 63, 0, [], []), (60, (.bipush (-3)), 2, (-3), 0, 0, [], []), (62, .ireturn, 1, 0, 0, 0, [], []), (63, (.aload_n 0), 1, 0, 0, 0, [], []), (64, (.iconst 1), 1, 1, 0, 0, [], []), (65, (.iload_n 2), 1, 0, 2, 0, [], []), (66, (.invokevirtual 108), 3, 0, 139, 4030, [], []), (69, (.aload_n 0), 1, 0, 0, 0, [], []), (70, (.getfield 19), 3, 0, 5, 4, [], []), (73, (.iconst 3), 1, 3, 0, 0, [], []), (74, (.iload_n 2), 1, 0, 2, 0, [], []), (75, .imul, 1, 0, 0, 0, [], []), (76, (.aload_n 0), 1, 0, 0, 0, [], []), (77, (.getfield 16), 3, 0, 4, 4, [], []), (80, (.iload_n 2), 1, 0, 2, 0, [], []), (81, .iaload, 1, 0, 0, 0, [], []), (82, .iadd, 1, 0, 0, 0, [], []), (83, (.iload_n 1), 1, 0, 1, 0, [], []), (84, .iastore, 1, 0, 0, 0, [], []), (85, (.aload_n 0), 1, 0, 0, 0, [], []), (86, (.getfield 16), 3, 0, 4, 4, [], []), (89, (.iload_n 2), 1, 0, 2, 0, [], []), (90, .dup2, 1, 0, 0, 0, [], []), (91, .iaload, 1, 0, 0, 0, [], []), (92, (.iconst 1), 1, 1, 0, 0, [], []), (93, .iadd, 1, 0, 0, 0, [], []), (94, .iastore, 1, 0, 0, 0, [], []), (95, (.aload_n 0), 1, 0, 0, 0, [], []), (96, (.iload_n 2), 1, 0, 2, 0, [], []), (97, (.invokevirtual 93), 3, 0, 89, 4020, [], []), (100, (.aload_n 0), 1, 0, 0, 0, [], []), (101, (.getfield 16), 3, 0, 4, 4, [], []), (104, (.iload_n 2), 1, 0, 2, 0, [], []), (105, .iaload, 1, 0, 0, 0, [], []), (106, .ireturn, 1, 0, 0, 0, [], [])]
def tX4_cut : List bwE := [(0, (.aload_n 0), 1, 0, 0, 0, [], []), (1, (.iload_n 1), 1, 0, 1, 0, [], []), (2, (.invokevirtual 85), 3, 0, 85, 4023, [], []), (5, (.ifCond .eq 20), 3, 0, 25, 0, [], []), (8, (.aload_n 0), 1, 0, 0, 0, [], []), (9, (.iload_n 2), 1, 0, 2, 0, [], []), (10, (.invokevirtual 85), 3, 0, 85, 4023, [], []), (13, (.ifCond .eq 12), 3, 0, 25, 0, [], []), (16, (.aload_n 0), 1, 0, 0, 0, [], []), (17, (.iload_n 1), 1, 0, 1, 0, [], []), (18, (.iload_n 2), 1, 0, 2, 0, [], []), (19, (.invokevirtual 100), 3, 0, 90, 4033, [], []), (22, (.ifCond .ne 5), 3, 0, 27, 0, [], []), (25, (.iconst (-1)), 1, (-1), 0, 0, [], []), (26, .ireturn, 1, 0, 0, 0, [], []), (27, (.aload_n 0), 1, 0, 0, 0, [], []), (28, (.iconst 1), 1, 1, 0, 0, [], []), (29, (.iload_n 2), 1, 0, 2, 0, [], []), (30, (.invokevirtual 108), 3, 0, 139, 4030, [], []), (33, (.iconst 0), 1, 0, 0, 0, [], []), (34, (.istore_n 3), 1, 0, 3, 0, [], []), (35, (.iconst 0), 1, 0, 0, 0, [], []), (36, (.istore 4), 2, 0, 4, 0, [], []), (38, (.iload 4), 2, 0, 4, 0, [], []), (40, (.aload_n 0), 1, 0, 0, 0, [], []), (41, (.getfield 16), 3, 0, 4, 4, [], []), (44, (.iload_n 2), 1, 0, 2, 0, [], []), (45, .iaload, 1, 0, 0, 0, [], []), (46, (.if_icmp .ge 51), 3, 0, 97, 0, [], []), (49, (.aload_n 0), 1, 0, 0, 0, [], []), (50, (.getfield 19), 3, 0, 5, 4, [], []), (53, (.iconst 3), 1, 3, 0, 0, [], []), (54, (.iload_n 2), 1, 0, 2, 0, [], []), (55, .imul, 1, 0, 0, 0, [], []), (56, (.iload 4), 2, 0, 4, 0, [], []), (58, .iadd, 1, 0, 0, 0, [], []), (59, .iaload, 1, 0, 0, 0, [], []), (60, (.iload_n 1), 1, 0, 1, 0, [], []), (61, (.if_icmp .ne 6), 3, 0, 67, 0, [], []), (64, (.goto 27), 3, 0, 91, 0, [], []), (67, (.aload_n 0), 1, 0, 0, 0, [], []), (68, (.getfield 19), 3, 0, 5, 4, [], []), (71, (.iconst 3), 1, 3, 0, 0, [], []), (72, (.iload_n 2), 1, 0, 2, 0, [], []), (73, .imul, 1, 0, 0, 0, [], []), (74, (.iload_n 3), 1, 0, 3, 0, [], []), (75, .iadd, 1, 0, 0, 0, [], []), (76, (.aload_n 0), 1, 0, 0, 0, [], []), (77, (.getfield 19), 3, 0, 5, 4, [], []), (80, (.iconst 3), 1, 3, 0, 0, [], []), (81, (.iload_n 2), 1, 0, 2, 0, [], []), (82, .imul, 1, 0, 0, 0, [], []), (83, (.iload 4), 2, 0, 4, 0, [], []), (85, .iadd, 1, 0, 0, 0, [], []), (86, .iaload, 1, 0, 0, 0, [], []), (87, .iastore, 1, 0, 0, 0, [], []), (88, (.iinc 3 1), 3, 1, 3, 0, [], []), (91, (.iinc 4 1), 3, 1, 4, 0, [], []), (94, (.goto (-56)), 3, 0, 38, 0, [], []), (97, (.aload_n 0), 1, 0, 0, 0, [], []), (98, (.getfield 16), 3, 0, 4, 4, [], []), (101, (.iload_n 2), 1, 0, 2, 0, [], []), (102, (.iload_n 3), 1, 0, 3, 0, [], []), (103, .iastore, 1, 0, 0, 0, [], []), (104, (.aload_n 0), 1, 0, 0, 0, [], []), (105, (.iload_n 2), 1, 0, 2, 0, [], []), (106, (.invokevirtual 93), 3, 0, 89, 4020, [], []), (109, (.iload_n 3), 1, 0, 3, 0, [], []), (110, .ireturn, 1, 0, 0, 0, [], [])]
def tX4_isWeight : List bwE := [(0, (.aload_n 0), 1, 0, 0, 0, [], []), (1, (.iload_n 1), 1, 0, 1, 0, [], []), (2, (.iload_n 3), 1, 0, 3, 0, [], []), (3, (.invokevirtual 112), 3, 0, 86, 4033, [], []), (6, (.ifCond .eq 20), 3, 0, 26, 0, [], []), (9, (.iload_n 2), 1, 0, 2, 0, [], []), (10, (.ifCond .lt 16), 3, 0, 26, 0, [], []), (13, (.iload_n 2), 1, 0, 2, 0, [], []), (14, (.aload_n 0), 1, 0, 0, 0, [], []), (15, (.iload_n 1), 1, 0, 1, 0, [], []), (16, (.invokevirtual 115), 3, 0, 87, 4021, [], []), (19, (.if_icmp .ge 7), 3, 0, 26, 0, [], []), (22, (.iconst 1), 1, 1, 0, 0, [], []), (23, (.goto 4), 3, 0, 27, 0, [], []), (26, (.iconst 0), 1, 0, 0, 0, [], []), (27, .ireturn, 1, 0, 0, 0, [], [])]
def tX4_weight : List bwE := [(0, (.aload_n 0), 1, 0, 0, 0, [], []), (1, (.iload_n 1), 1, 0, 1, 0, [], []), (2, (.iload_n 2), 1, 0, 2, 0, [], []), (3, (.iload_n 3), 1, 0, 3, 0, [], []), (4, (.invokevirtual 119), 3, 0, 94, 4043, [], []), (7, (.ifCond .eq 19), 3, 0, 26, 0, [], []), (10, (.iload 4), 2, 0, 4, 0, [], []), (12, (.ifCond .lt 14), 3, 0, 26, 0, [], []), (15, (.iload 4), 2, 0, 4, 0, [], []), (17, (.aload_n 0), 1, 0, 0, 0, [], []), (18, (.getfield 13), 3, 0, 3, 4, [], []), (21, (.iload_n 1), 1, 0, 1, 0, [], []), (22, .iaload, 1, 0, 0, 0, [], []), (23, (.if_icmp .le 5), 3, 0, 28, 0, [], []), (26, (.iconst (-1)), 1, (-1), 0, 0, [], []), (27, .ireturn, 1, 0, 0, 0, [], []), (28, (.sipush 256), 3, 256, 0, 0, [], []), (31, (.iload_n 1), 1, 0, 1, 0, [], []), (32, .imul, 1, 0, 0, 0, [], []), (33, (.iconst 4), 1, 4, 0, 0, [], []), (34, (.iload_n 2), 1, 0, 2, 0, [], []), (35, .imul, 1, 0, 0, 0, [], []), (36, .iadd, 1, 0, 0, 0, [], []), (37, (.iload_n 3), 1, 0, 3, 0, [], []), (38, .iadd, 1, 0, 0, 0, [], []), (39, (.istore 5), 2, 0, 5, 0, [], []), (41, (.aload_n 0), 1, 0, 0, 0, [], []), (42, (.iconst 2), 1, 2, 0, 0, [], []), (43, (.iload 5), 2, 0, 5, 0, [], []), (45, (.invokevirtual 108), 3, 0, 139, 4030, [], []), (48, (.aload_n 0), 1, 0, 0, 0, [], []), (49, (.getfield 22), 3, 0, 6, 4, [], []), (52, (.iload 5), 2, 0, 5, 0, [], []), (54, .iaload, 1, 0, 0, 0, [], []), (55, (.istore 6), 2, 0, 6, 0, [], []), (57, (.aload_n 0), 1, 0, 0, 0, [], []), (58, (.getfield 69), 3, 0, 28, 4, [], []), (61, (.aload_n 0), 1, 0, 0, 0, [], []), (62, (.getfield 97), 3, 0, 25, 4, [], []), (65, (.iconst 1), 1, 1, 0, 0, [], []), (66, .isub, 1, 0, 0, 0, [], []), (67, (.iload 6), 2, 0, 6, 0, [], []), (69, .iastore, 1, 0, 0, 0, [], []), (70, (.aload_n 0), 1, 0, 0, 0, [], []), (71, (.getfield 22), 3, 0, 6, 4, [], []), (74, (.iload 5), 2, 0, 5, 0, [], []), (76, (.iload 4), 2, 0, 4, 0, [], []), (78, .iastore, 1, 0, 0, 0, [], []), (79, (.iload 6), 2, 0, 6, 0, [], []), (81, .ireturn, 1, 0, 0, 0, [], [])]
def tX4_told : List bwE := [(0, (.aload_n 0), 1, 0, 0, 0, [], []), (1, (.iload_n 1), 1, 0, 1, 0, [], []), (2, (.iload_n 2), 1, 0, 2, 0, [], []), (3, (.iload_n 3), 1, 0, 3, 0, [], []), (4, (.invokevirtual 119), 3, 0, 94, 4043, [], []), (7, (.ifCond .eq 22), 3, 0, 29, 0, [], []), (10, (.aload_n 0), 1, 0, 0, 0, [], []), (11, (.getfield 22), 3, 0, 6, 4, [], []), (14, (.sipush 256), 3, 256, 0, 0, [], []), (17, (.iload_n 1), 1, 0, 1, 0, [], []), (18, .imul, 1, 0, 0, 0, [], []), (19, (.iconst 4), 1, 4, 0, 0, [], []), (20, (.iload_n 2), 1, 0, 2, 0, [], []), (21, .imul, 1, 0, 0, 0, [], []), (22, .iadd, 1, 0, 0, 0, [], []), (23, (.iload_n 3), 1, 0, 3, 0, [], []), (24, .iadd, 1, 0, 0, 0, [], []), (25, .iaload, 1, 0, 0, 0, [], []), (26, (.goto 4), 3, 0, 30, 0, [], []), (29, (.iconst (-1)), 1, (-1), 0, 0, [], []), (30, .ireturn, 1, 0, 0, 0, [], [])]
def tX4_isSound : List bwE := [(0, (.iconst 0), 1, 0, 0, 0, [], []), (1, (.istore_n 2), 1, 0, 2, 0, [], []), (2, (.iload_n 2), 1, 0, 2, 0, [3, 4], []), (3, (.aload_n 0), 1, 0, 0, 0, [], []), (4, (.iload_n 1), 1, 0, 1, 0, [], []), (5, (.invokevirtual 115), 3, 0, 87, 4021, [], []), (8, (.if_icmp .ge 63), 3, 0, 71, 0, [], []), (11, (.iconst 0), 1, 0, 0, 0, [], []), (12, (.istore_n 3), 1, 0, 3, 0, [], []), (13, (.iconst 0), 1, 0, 0, 0, [], []), (14, (.istore 4), 2, 0, 4, 0, [], []), (16, (.iload 4), 2, 0, 4, 0, [], []), (18, (.aload_n 0), 1, 0, 0, 0, [], []), (19, (.getfield 7), 3, 0, 2, 4, [], []), (22, (.iload_n 1), 1, 0, 1, 0, [], []), (23, .iaload, 1, 0, 0, 0, [], []), (24, (.if_icmp .ge 29), 3, 0, 53, 0, [], []), (27, (.iload_n 3), 1, 0, 3, 0, [], []), (28, (.aload_n 0), 1, 0, 0, 0, [], []), (29, (.getfield 22), 3, 0, 6, 4, [], []), (32, (.sipush 256), 3, 256, 0, 0, [], []), (35, (.iload_n 1), 1, 0, 1, 0, [], []), (36, .imul, 1, 0, 0, 0, [], []), (37, (.iconst 4), 1, 4, 0, 0, [], []), (38, (.iload_n 2), 1, 0, 2, 0, [], []), (39, .imul, 1, 0, 0, 0, [], []), (40, .iadd, 1, 0, 0, 0, [], []), (41, (.iload 4), 2, 0, 4, 0, [], []), (43, .iadd, 1, 0, 0, 0, [], []), (44, .iaload, 1, 0, 0, 0, [], []), (45, .iadd, 1, 0, 0, 0, [], []), (46, (.istore_n 3), 1, 0, 3, 0, [], []), (47, (.iinc 4 1), 3, 1, 4, 0, [], []), (50, (.goto (-34)), 3, 0, 16, 0, [], []), (53, (.iload_n 3), 1, 0, 3, 0, [], []), (54, (.aload_n 0), 1, 0, 0, 0, [], []), (55, (.getfield 13), 3, 0, 3, 4, [], []), (58, (.iload_n 1), 1, 0, 1, 0, [], []), (59, .iaload, 1, 0, 0, 0, [], []), (60, (.if_icmp .eq 5), 3, 0, 65, 0, [], []), (63, (.iconst 0), 1, 0, 0, 0, [], []), (64, .ireturn, 1, 0, 0, 0, [], []), (65, (.iinc 2 1), 3, 1, 2, 0, [], []), (68, (.goto (-66)), 3, 0, 2, 0, [], []), (71, (.iconst 1), 1, 1, 0, 0, [], []), (72, .ireturn, 1, 0, 0, 0, [], [])]
def tX4_about : List bwE := [(0, (.aload_n 0), 1, 0, 0, 0, [], []), (1, (.iload_n 1), 1, 0, 1, 0, [], []), (2, (.invokevirtual 85), 3, 0, 85, 4023, [], []), (5, (.ifCond .ne 5), 3, 0, 10, 0, [], []), (8, (.iconst (-1)), 1, (-1), 0, 0, [], []), (9, .ireturn, 1, 0, 0, 0, [], []), (10, (.iload_n 2), 1, 0, 2, 0, [], []), (11, (.tableswitch 96 0 6 #[41, 48, 55, 62, 68, 82, 89]), 41, 0, 107, 0, [], [(0, 52), (1, 59), (2, 66), (3, 73), (4, 79), (5, 93), (6, 100)]), (52, (.aload_n 0), 1, 0, 0, 0, [], []), (53, (.getfield 7), 3, 0, 2, 4, [], []), (56, (.iload_n 1), 1, 0, 1, 0, [], []), (57, .iaload, 1, 0, 0, 0, [], []), (58, .ireturn, 1, 0, 0, 0, [], []), (59, (.aload_n 0), 1, 0, 0, 0, [], []), (60, (.getfield 13), 3, 0, 3, 4, [], []), (63, (.iload_n 1), 1, 0, 1, 0, [], []), (64, .iaload, 1, 0, 0, 0, [], []), (65, .ireturn, 1, 0, 0, 0, [], []), (66, (.aload_n 0), 1, 0, 0, 0, [], []), (67, (.getfield 16), 3, 0, 4, 4, [], []), (70, (.iload_n 1), 1, 0, 1, 0, [], []), (71, .iaload, 1, 0, 0, 0, [], []), (72, .ireturn, 1, 0, 0, 0, [], []), (73, (.aload_n 0), 1, 0, 0, 0, [], []), (74, (.iload_n 1), 1, 0, 1, 0, [], []), (75, (.invokevirtual 115), 3, 0, 87, 4021, [], []), (78, .ireturn, 1, 0, 0, 0, [], []), (79, (.aload_n 0), 1, 0, 0, 0, [], []), (80, (.iload_n 1), 1, 0, 1, 0, [], []), (81, (.invokevirtual 123), 3, 0, 97, 4023, [], []), (84, (.ifCond .eq 7), 3, 0, 91, 0, [], []), (87, (.iconst 1), 1, 1, 0, 0, [], []), (88, (.goto 4), 3, 0, 92, 0, [], []), (91, (.iconst 0), 1, 0, 0, 0, [], []), (92, .ireturn, 1, 0, 0, 0, [], []), (93, (.aload_n 0), 1, 0, 0, 0, [], []), (94, (.getfield 25), 3, 0, 7, 4, [], []), (97, (.iload_n 1), 1, 0, 1, 0, [], []), (98, .iaload, 1, 0, 0, 0, [], []), (99, .ireturn, 1, 0, 0, 0, [], []), (100, (.aload_n 0), 1, 0, 0, 0, [], []), (101, (.getfield 28), 3, 0, 8, 4, [], []), (104, (.iload_n 1), 1, 0, 1, 0, [], []), (105, .iaload, 1, 0, 0, 0, [], []), (106, .ireturn, 1, 0, 0, 0, [], []), (107, (.iconst (-1)), 1, (-1), 0, 0, [], []), (108, .ireturn, 1, 0, 0, 0, [], [])]
def tX4_parent : List bwE := [(0, (.aload_n 0), 1, 0, 0, 0, [], []), (1, (.iload_n 1), 1, 0, 1, 0, [], []), (2, (.invokevirtual 85), 3, 0, 85, 4023, [], []), (5, (.ifCond .eq 30), 3, 0, 35, 0, [], []), (8, (.iload_n 2), 1, 0, 2, 0, [], []), (9, (.ifCond .lt 26), 3, 0, 35, 0, [], []), (12, (.iload_n 2), 1, 0, 2, 0, [], []), (13, (.aload_n 0), 1, 0, 0, 0, [], []), (14, (.getfield 16), 3, 0, 4, 4, [], []), (17, (.iload_n 1), 1, 0, 1, 0, [], []), (18, .iaload, 1, 0, 0, 0, [], []), (19, (.if_icmp .ge 16), 3, 0, 35, 0, [], []), (22, (.aload_n 0), 1, 0, 0, 0, [], []), (23, (.getfield 19), 3, 0, 5, 4, [], []), (26, (.iconst 3), 1, 3, 0, 0, [], []), (27, (.iload_n 1), 1, 0, 1, 0, [], []), (28, .imul, 1, 0, 0, 0, [], []), (29, (.iload_n 2), 1, 0, 2, 0, [], []), (30, .iadd, 1, 0, 0, 0, [], []), (31, .iaload, 1, 0, 0, 0, [], []), (32, (.goto 5), 3, 0, 37, 0, [], []), (35, (.bipush (-2)), 2, (-2), 0, 0, [], []), (37, .ireturn, 1, 0, 0, 0, [], [])]
def tX4_isRough : List bwE := [(0, (.iconst 0), 1, 0, 0, 0, [], []), (1, (.istore_n 1), 1, 0, 1, 0, [], []), (2, (.iload_n 1), 1, 0, 1, 0, [], []), (3, (.aload_n 0), 1, 0, 0, 0, [], []), (4, (.getfield 82), 3, 0, 1, 4, [], []), (7, (.if_icmp .ge 28), 3, 0, 35, 0, [], []), (10, (.aload_n 0), 1, 0, 0, 0, [], []), (11, (.getfield 28), 3, 0, 8, 4, [], []), (14, (.iload_n 1), 1, 0, 1, 0, [], []), (15, .iaload, 1, 0, 0, 0, [], []), (16, (.ifCond .ge 13), 3, 0, 29, 0, [], []), (19, (.aload_n 0), 1, 0, 0, 0, [], []), (20, (.iload_n 1), 1, 0, 1, 0, [], []), (21, (.invokevirtual 123), 3, 0, 97, 4023, [], []), (24, (.ifCond .ne 5), 3, 0, 29, 0, [], []), (27, (.iconst 1), 1, 1, 0, 0, [], []), (28, .ireturn, 1, 0, 0, 0, [], []), (29, (.iinc 1 1), 3, 1, 1, 0, [], []), (32, (.goto (-30)), 3, 0, 2, 0, [], []), (35, (.aload_n 0), 1, 0, 0, 0, [], []), (36, (.getfield 82), 3, 0, 1, 4, [], []), (39, (.ifCond .ne 7), 3, 0, 46, 0, [], []), (42, (.iconst 1), 1, 1, 0, 0, [], []), (43, (.goto 4), 3, 0, 47, 0, [], []), (46, (.iconst 0), 1, 0, 0, 0, [], []), (47, .ireturn, 1, 0, 0, 0, [], [])]
def tX4_sound : List bwE := [(0, (.aload_n 0), 1, 0, 0, 0, [], []), (1, (.invokevirtual 126), 3, 0, 100, 4013, [], []), (4, (.ifCond .eq 7), 3, 0, 11, 0, [], []), (7, (.iconst 0), 1, 0, 0, 0, [], []), (8, (.goto 4), 3, 0, 12, 0, [], []), (11, (.iconst 1), 1, 1, 0, 0, [], []), (12, .ireturn, 1, 0, 0, 0, [], [])]
def tX4_mayBe : List bwE := [(0, (.aload_n 0), 1, 0, 0, 0, [], []), (1, (.iload_n 1), 1, 0, 1, 0, [], []), (2, (.invokevirtual 85), 3, 0, 85, 4023, [], []), (5, (.ifCond .eq 21), 3, 0, 26, 0, [], []), (8, (.iload_n 2), 1, 0, 2, 0, [], []), (9, (.iconst (-1)), 1, (-1), 0, 0, [], []), (10, (.if_icmp .eq 12), 3, 0, 22, 0, [], []), (13, (.aload_n 0), 1, 0, 0, 0, [], []), (14, (.iload_n 1), 1, 0, 1, 0, [], []), (15, (.iload_n 2), 1, 0, 2, 0, [], []), (16, (.invokevirtual 112), 3, 0, 86, 4033, [], []), (19, (.ifCond .eq 7), 3, 0, 26, 0, [], []), (22, (.iconst 1), 1, 1, 0, 0, [], []), (23, (.goto 4), 3, 0, 27, 0, [], []), (26, (.iconst 0), 1, 0, 0, 0, [], []), (27, .ireturn, 1, 0, 0, 0, [], [])]
def tX4_becomes : List bwE := [(0, (.aload_n 0), 1, 0, 0, 0, [], []), (1, (.iconst 3), 1, 3, 0, 0, [], []), (2, (.iload_n 1), 1, 0, 1, 0, [], []), (3, (.invokevirtual 108), 3, 0, 139, 4030, [], []), (6, (.aload_n 0), 1, 0, 0, 0, [], []), (7, (.getfield 69), 3, 0, 28, 4, [], []), (10, (.aload_n 0), 1, 0, 0, 0, [], []), (11, (.getfield 97), 3, 0, 25, 4, [], []), (14, (.iconst 1), 1, 1, 0, 0, [], []), (15, .isub, 1, 0, 0, 0, [], []), (16, (.aload_n 0), 1, 0, 0, 0, [], []), (17, (.getfield 25), 3, 0, 7, 4, [], []), (20, (.iload_n 1), 1, 0, 1, 0, [], []), (21, .iaload, 1, 0, 0, 0, [], []), (22, .iastore, 1, 0, 0, 0, [], []), (23, (.aload_n 0), 1, 0, 0, 0, [], []), (24, (.getfield 72), 3, 0, 29, 4, [], []), (27, (.aload_n 0), 1, 0, 0, 0, [], []), (28, (.getfield 97), 3, 0, 25, 4, [], []), (31, (.iconst 1), 1, 1, 0, 0, [], []), (32, .isub, 1, 0, 0, 0, [], []), (33, (.aload_n 0), 1, 0, 0, 0, [], []), (34, (.getfield 28), 3, 0, 8, 4, [], []), (37, (.iload_n 1), 1, 0, 1, 0, [], []), (38, .iaload, 1, 0, 0, 0, [], []), (39, .iastore, 1, 0, 0, 0, [], []), (40, (.aload_n 0), 1, 0, 0, 0, [], []), (41, (.getfield 25), 3, 0, 7, 4, [], []), (44, (.iload_n 1), 1, 0, 1, 0, [], []), (45, (.iload_n 2), 1, 0, 2, 0, [], []), (46, .iastore, 1, 0, 0, 0, [], []), (47, (.aload_n 0), 1, 0, 0, 0, [], []), (48, (.getfield 28), 3, 0, 8, 4, [], []), (51, (.iload_n 1), 1, 0, 1, 0, [], []), (52, (.iload_n 3), 1, 0, 3, 0, [], []), (53, .iastore, 1, 0, 0, 0, [], []), (54, (.iconst 1), 1, 1, 0, 0, [], []), (55, .ireturn, 1, 0, 0, 0, [], [])]
def tX4_see : List bwE := [(0, (.aload_n 0), 1, 0, 0, 0, [], []), (1, (.iload_n 1), 1, 0, 1, 0, [], []), (2, (.iload_n 2), 1, 0, 2, 0, [], []), (3, (.invokevirtual 130), 3, 0, 102, 4033, [], []), (6, (.ifCond .eq 13), 3, 0, 19, 0, [], []), (9, (.aload_n 0), 1, 0, 0, 0, [], []), (10, (.iload_n 1), 1, 0, 1, 0, [], []), (11, (.iload_n 2), 1, 0, 2, 0, [], []), (12, (.iconst (-1)), 1, (-1), 0, 0, [], []), (13, (.invokevirtual 133), 3, 0, 103, 4041, [], []), (16, (.goto 4), 3, 0, 20, 0, [], []), (19, (.iconst (-1)), 1, (-1), 0, 0, [], []), (20, .ireturn, 1, 0, 0, 0, [], [])]
def tX4_act : List bwE := [(0, (.aload_n 0), 1, 0, 0, 0, [], []), (1, (.iload_n 1), 1, 0, 1, 0, [], []), (2, (.iload_n 2), 1, 0, 2, 0, [], []), (3, (.invokevirtual 130), 3, 0, 102, 4033, [], []), (6, (.ifCond .eq 13), 3, 0, 19, 0, [], []), (9, (.aload_n 0), 1, 0, 0, 0, [], []), (10, (.iload_n 1), 1, 0, 1, 0, [], []), (11, (.iconst (-1)), 1, (-1), 0, 0, [], []), (12, (.iload_n 2), 1, 0, 2, 0, [], []), (13, (.invokevirtual 133), 3, 0, 103, 4041, [], []), (16, (.goto 4), 3, 0, 20, 0, [], []), (19, (.iconst (-1)), 1, (-1), 0, 0, [], []), (20, .ireturn, 1, 0, 0, 0, [], [])]
def tX4_force : List bwE := [(0, (.aload_n 0), 1, 0, 0, 0, [], []), (1, (.iload_n 1), 1, 0, 1, 0, [], []), (2, (.iload_n 2), 1, 0, 2, 0, [], []), (3, (.invokevirtual 112), 3, 0, 86, 4033, [], []), (6, (.ifCond .eq 12), 3, 0, 18, 0, [], []), (9, (.iload_n 3), 1, 0, 3, 0, [], []), (10, (.ifCond .lt 8), 3, 0, 18, 0, [], []), (13, (.iload_n 3), 1, 0, 3, 0, [], []), (14, (.iconst 3), 1, 3, 0, 0, [], []), (15, (.if_icmp .le 5), 3, 0, 20, 0, [], []), (18, (.iconst (-1)), 1, (-1), 0, 0, [], []), (19, .ireturn, 1, 0, 0, 0, [], []), (20, (.aload_n 0), 1, 0, 0, 0, [], []), (21, (.iconst 4), 1, 4, 0, 0, [], []), (22, (.iconst 4), 1, 4, 0, 0, [], []), (23, (.iload_n 1), 1, 0, 1, 0, [], []), (24, .imul, 1, 0, 0, 0, [], []), (25, (.iload_n 2), 1, 0, 2, 0, [], []), (26, .iadd, 1, 0, 0, 0, [], []), (27, (.invokevirtual 108), 3, 0, 139, 4030, [], []), (30, (.aload_n 0), 1, 0, 0, 0, [], []), (31, (.getfield 31), 3, 0, 9, 4, [], []), (34, (.iconst 4), 1, 4, 0, 0, [], []), (35, (.iload_n 1), 1, 0, 1, 0, [], []), (36, .imul, 1, 0, 0, 0, [], []), (37, (.iload_n 2), 1, 0, 2, 0, [], []), (38, .iadd, 1, 0, 0, 0, [], []), (39, .iaload, 1, 0, 0, 0, [], []), (40, (.istore 4), 2, 0, 4, 0, [], []), (42, (.aload_n 0), 1, 0, 0, 0, [], []), (43, (.getfield 69), 3, 0, 28, 4, [], []), (46, (.aload_n 0), 1, 0, 0, 0, [], []), (47, (.getfield 97), 3, 0, 25, 4, [], []), (50, (.iconst 1), 1, 1, 0, 0, [], []), (51, .isub, 1, 0, 0, 0, [], []), (52, (.iload 4), 2, 0, 4, 0, [], []), (54, .iastore, 1, 0, 0, 0, [], []), (55, (.aload_n 0), 1, 0, 0, 0, [], []), (56, (.getfield 31), 3, 0, 9, 4, [], []), (59, (.iconst 4), 1, 4, 0, 0, [], []), (60, (.iload_n 1), 1, 0, 1, 0, [], []), (61, .imul, 1, 0, 0, 0, [], []), (62, (.iload_n 2), 1, 0, 2, 0, [], []), (63, .iadd, 1, 0, 0, 0, [], []), (64, (.iload_n 3), 1, 0, 3, 0, [], []), (65, .iastore, 1, 0, 0, 0, [], []), (66, (.iload 4), 2, 0, 4, 0, [], []), (68, .ireturn, 1, 0, 0, 0, [], [])]
def tX4_firstWhole : List bwE := [(0, (.iconst 0), 1, 0, 0, 0, [], []), (1, (.istore_n 1), 1, 0, 1, 0, [], []), (2, (.iload_n 1), 1, 0, 1, 0, [], []), (3, (.aload_n 0), 1, 0, 0, 0, [], []), (4, (.getfield 82), 3, 0, 1, 4, [], []), (7, (.if_icmp .ge 16), 3, 0, 23, 0, [], []), (10, (.aload_n 0), 1, 0, 0, 0, [], []), (11, (.getfield 41), 3, 0, 13, 4, [], []), (14, (.iload_n 1), 1, 0, 1, 0, [], []), (15, (.iconst 0), 1, 0, 0, 0, [], []), (16, .iastore, 1, 0, 0, 0, [], []), (17, (.iinc 1 1), 3, 1, 1, 0, [], []), (20, (.goto (-18)), 3, 0, 2, 0, [], []), (23, .return_, 1, 0, 0, 0, [], [])]
def tX4_nextWhole : List bwE := [(0, (.aload_n 0), 1, 0, 0, 0, [], []), (1, (.getfield 82), 3, 0, 1, 4, [], []), (4, (.iconst 1), 1, 1, 0, 0, [], []), (5, .isub, 1, 0, 0, 0, [], []), (6, (.istore_n 1), 1, 0, 1, 0, [], []), (7, (.iload_n 1), 1, 0, 1, 0, [], []), (8, (.ifCond .lt 33), 3, 0, 41, 0, [], []), (11, (.aload_n 0), 1, 0, 0, 0, [], []), (12, (.getfield 41), 3, 0, 13, 4, [], []), (15, (.iload_n 1), 1, 0, 1, 0, [], []), (16, .iaload, 1, 0, 0, 0, [], []), (17, (.aload_n 0), 1, 0, 0, 0, [], []), (18, (.getfield 7), 3, 0, 2, 4, [], []), (21, (.iload_n 1), 1, 0, 1, 0, [], []), (22, .iaload, 1, 0, 0, 0, [], []), (23, (.iconst 1), 1, 1, 0, 0, [], []), (24, .isub, 1, 0, 0, 0, [], []), (25, (.if_icmp .ne 16), 3, 0, 41, 0, [], []), (28, (.aload_n 0), 1, 0, 0, 0, [], []), (29, (.getfield 41), 3, 0, 13, 4, [], []), (32, (.iload_n 1), 1, 0, 1, 0, [], []), (33, (.iconst 0), 1, 0, 0, 0, [], []), (34, .iastore, 1, 0, 0, 0, [], []), (35, (.iinc 1 (-1)), 3, (-1), 1, 0, [], []), (38, (.goto (-31)), 3, 0, 7, 0, [], []), (41, (.iload_n 1), 1, 0, 1, 0, [], []), (42, (.ifCond .ge 5), 3, 0, 47, 0, [], []), (45, (.iconst 0), 1, 0, 0, 0, [], []), (46, .ireturn, 1, 0, 0, 0, [], []), (47, (.aload_n 0), 1, 0, 0, 0, [], []), (48, (.getfield 41), 3, 0, 13, 4, [], []), (51, (.iload_n 1), 1, 0, 1, 0, [], []), (52, .dup2, 1, 0, 0, 0, [], []), (53, .iaload, 1, 0, 0, 0, [], []), (54, (.iconst 1), 1, 1, 0, 0, [], []), (55, .iadd, 1, 0, 0, 0, [], []), (56, .iastore, 1, 0, 0, 0, [], []), (57, (.iconst 1), 1, 1, 0, 0, [], []), (58, .ireturn, 1, 0, 0, 0, [], [])]
def tX4_weigh : List bwE := [(0, (.aload_n 0), 1, 0, 0, 0, [], []), (1, (.lconst 1), 1, 0, 1, 0, [], []), (2, (.putfield 137), 3, 0, 14, 4, [], []), (5, (.iconst 0), 1, 0, 0, 0, [], []), (6, (.istore_n 1), 1, 0, 1, 0, [], []), (7, (.iload_n 1), 1, 0, 1, 0, [2], []), (8, (.aload_n 0), 1, 0, 0, 0, [], []), (9, (.getfield 82), 3, 0, 1, 4, [], []), (12, (.if_icmp .ge 194), 3, 0, 206, 0, [], []), (15, (.aload_n 0), 1, 0, 0, 0, [], []), (16, (.getfield 137), 3, 0, 14, 4, [], []), (19, (.lconst 0), 1, 0, 0, 0, [], []), (20, .lcmp, 1, 0, 0, 0, [], []), (21, (.ifCond .le 185), 3, 0, 206, 0, [], []), (24, (.aload_n 0), 1, 0, 0, 0, [], []), (25, (.getfield 41), 3, 0, 13, 4, [], []), (28, (.iload_n 1), 1, 0, 1, 0, [], []), (29, .iaload, 1, 0, 0, 0, [], []), (30, (.istore_n 2), 1, 0, 2, 0, [], []), (31, (.aload_n 0), 1, 0, 0, 0, [], []), (32, .dup, 1, 0, 0, 0, [], []), (33, (.getfield 137), 3, 0, 14, 4, [], []), (36, (.aload_n 0), 1, 0, 0, 0, [], []), (37, (.getfield 31), 3, 0, 9, 4, [], []), (40, (.iconst 4), 1, 4, 0, 0, [], []), (41, (.iload_n 1), 1, 0, 1, 0, [], []), (42, .imul, 1, 0, 0, 0, [], []), (43, (.iload_n 2), 1, 0, 2, 0, [], []), (44, .iadd, 1, 0, 0, 0, [], []), (45, .iaload, 1, 0, 0, 0, [], []), (46, .i2l, 1, 0, 0, 0, [], []), (47, .lmul, 1, 0, 0, 0, [], []), (48, (.putfield 137), 3, 0, 14, 4, [], []), (51, (.aload_n 0), 1, 0, 0, 0, [], []), (52, (.getfield 28), 3, 0, 8, 4, [], []), (55, (.iload_n 1), 1, 0, 1, 0, [], []), (56, .iaload, 1, 0, 0, 0, [], []), (57, (.ifCond .lt 36), 3, 0, 93, 0, [], []), (60, (.aload_n 0), 1, 0, 0, 0, [], []), (61, .dup, 1, 0, 0, 0, [], []), (62, (.getfield 137), 3, 0, 14, 4, [], []), (65, (.aload_n 0), 1, 0, 0, 0, [], []), (66, (.getfield 28), 3, 0, 8, 4, [], []), (69, (.iload_n 1), 1, 0, 1, 0, [], []), (70, .iaload, 1, 0, 0, 0, [], []), (71, (.iload_n 2), 1, 0, 2, 0, [], []), (72, (.if_icmp .ne 13), 3, 0, 85, 0, [], []), (75, (.aload_n 0), 1, 0, 0, 0, [], []), (76, (.getfield 13), 3, 0, 3, 4, [], []), (79, (.iload_n 1), 1, 0, 1, 0, [], []), (80, .iaload, 1, 0, 0, 0, [], []), (81, .i2l, 1, 0, 0, 0, [], []), (82, (.goto 4), 3, 0, 86, 0, [], []), (85, (.lconst 0), 1, 0, 0, 0, [], []), (86, .lmul, 1, 0, 0, 0, [], []), (87, (.putfield 137), 3, 0, 14, 4, [], []), (90, (.goto 110), 3, 0, 200, 0, [], []), (93, (.iconst 0), 1, 0, 0, 0, [], []), (94, (.istore_n 3), 1, 0, 3, 0, [], []), (95, (.iconst 0), 1, 0, 0, 0, [], []), (96, (.istore 4), 2, 0, 4, 0, [], []), (98, (.iload 4), 2, 0, 4, 0, [], []), (100, (.aload_n 0), 1, 0, 0, 0, [], []), (101, (.getfield 16), 3, 0, 4, 4, [], []), (104, (.iload_n 1), 1, 0, 1, 0, [], []), (105, .iaload, 1, 0, 0, 0, [], []), (106, (.if_icmp .ge 45), 3, 0, 151, 0, [], []), (109, (.iload_n 3), 1, 0, 3, 0, [], []), (110, (.aload_n 0), 1, 0, 0, 0, [], []), (111, (.getfield 7), 3, 0, 2, 4, [], []), (114, (.aload_n 0), 1, 0, 0, 0, [], []), (115, (.getfield 19), 3, 0, 5, 4, [], []), (118, (.iconst 3), 1, 3, 0, 0, [], []), (119, (.iload_n 1), 1, 0, 1, 0, [], []), (120, .imul, 1, 0, 0, 0, [], []), (121, (.iload 4), 2, 0, 4, 0, [], []), (123, .iadd, 1, 0, 0, 0, [], []), (124, .iaload, 1, 0, 0, 0, [], []), (125, .iaload, 1, 0, 0, 0, [], []), (126, .imul, 1, 0, 0, 0, [], []), (127, (.aload_n 0), 1, 0, 0, 0, [], []), (128, (.getfield 41), 3, 0, 13, 4, [], []), (131, (.aload_n 0), 1, 0, 0, 0, [], []), (132, (.getfield 19), 3, 0, 5, 4, [], []), (135, (.iconst 3), 1, 3, 0, 0, [], []), (136, (.iload_n 1), 1, 0, 1, 0, [], []), (137, .imul, 1, 0, 0, 0, [], []), (138, (.iload 4), 2, 0, 4, 0, [], []), (140, .iadd, 1, 0, 0, 0, [], []), (141, .iaload, 1, 0, 0, 0, [], []), (142, .iaload, 1, 0, 0, 0, [], []), (143, .iadd, 1, 0, 0, 0, [], []), (144, (.istore_n 3), 1, 0, 3, 0, [], []), (145, (.iinc 4 1), 3, 1, 4, 0, [], []), (148, (.goto (-50)), 3, 0, 98, 0, [], []), (151, (.aload_n 0), 1, 0, 0, 0, [], []), (152, .dup, 1, 0, 0, 0, [], []), (153, (.getfield 137), 3, 0, 14, 4, [], []), (156, (.aload_n 0), 1, 0, 0, 0, [], []), (157, (.getfield 25), 3, 0, 7, 4, [], []), (160, (.iload_n 1), 1, 0, 1, 0, [], []), (161, .iaload, 1, 0, 0, 0, [], []), (162, (.ifCond .lt 17), 3, 0, 179, 0, [], []), (165, (.aload_n 0), 1, 0, 0, 0, [], []), (166, (.getfield 25), 3, 0, 7, 4, [], []), (169, (.iload_n 1), 1, 0, 1, 0, [], []), (170, .iaload, 1, 0, 0, 0, [], []), (171, (.iload_n 2), 1, 0, 2, 0, [], []), (172, (.if_icmp .eq 7), 3, 0, 179, 0, [], []), (175, (.lconst 0), 1, 0, 0, 0, [], []), (176, (.goto 20), 3, 0, 196, 0, [], []), (179, (.aload_n 0), 1, 0, 0, 0, [], []), (180, (.getfield 22), 3, 0, 6, 4, [], []), (183, (.sipush 256), 3, 256, 0, 0, [], []), (186, (.iload_n 1), 1, 0, 1, 0, [], []), (187, .imul, 1, 0, 0, 0, [], []), (188, (.iconst 4), 1, 4, 0, 0, [], []), (189, (.iload_n 3), 1, 0, 3, 0, [], []), (190, .imul, 1, 0, 0, 0, [], []), (191, .iadd, 1, 0, 0, 0, [], []), (192, (.iload_n 2), 1, 0, 2, 0, [], []), (193, .iadd, 1, 0, 0, 0, [], []), (194, .iaload, 1, 0, 0, 0, [], []), (195, .i2l, 1, 0, 0, 0, [], []), (196, .lmul, 1, 0, 0, 0, [], []), (197, (.putfield 137), 3, 0, 14, 4, [], []), (200, (.iinc 1 1), 3, 1, 1, 0, [3, 4], []), (203, (.goto (-196)), 3, 0, 7, 0, [], []), (206, .return_, 1, 0, 0, 0, [], [])]
def tX4_sum : List bwE := [(0, (.lconst 0), 1, 0, 0, 0, [], []), (1, (.lstore 5), 2, 0, 5, 0, [], []), (3, (.aload_n 0), 1, 0, 0, 0, [], []), (4, (.invokevirtual 141), 3, 0, 107, 4010, [], []), (7, (.iconst 1), 1, 1, 0, 0, [], []), (8, (.istore 7), 2, 0, 7, 0, [], []), (10, (.iload 7), 2, 0, 7, 0, [], []), (12, (.ifCond .eq 54), 3, 0, 66, 0, [], []), (15, (.iload_n 1), 1, 0, 1, 0, [], []), (16, (.ifCond .lt 13), 3, 0, 29, 0, [], []), (19, (.aload_n 0), 1, 0, 0, 0, [], []), (20, (.getfield 41), 3, 0, 13, 4, [], []), (23, (.iload_n 1), 1, 0, 1, 0, [], []), (24, .iaload, 1, 0, 0, 0, [], []), (25, (.iload_n 2), 1, 0, 2, 0, [], []), (26, (.if_icmp .ne 31), 3, 0, 57, 0, [], []), (29, (.iload_n 3), 1, 0, 3, 0, [], []), (30, (.ifCond .lt 14), 3, 0, 44, 0, [], []), (33, (.aload_n 0), 1, 0, 0, 0, [], []), (34, (.getfield 41), 3, 0, 13, 4, [], []), (37, (.iload_n 3), 1, 0, 3, 0, [], []), (38, .iaload, 1, 0, 0, 0, [], []), (39, (.iload 4), 2, 0, 4, 0, [], []), (41, (.if_icmp .ne 16), 3, 0, 57, 0, [], []), (44, (.aload_n 0), 1, 0, 0, 0, [], []), (45, (.invokevirtual 144), 3, 0, 109, 4010, [], []), (48, (.lload 5), 2, 0, 5, 0, [], []), (50, (.aload_n 0), 1, 0, 0, 0, [], []), (51, (.getfield 137), 3, 0, 14, 4, [], []), (54, .ladd, 1, 0, 0, 0, [], []), (55, (.lstore 5), 2, 0, 5, 0, [], []), (57, (.aload_n 0), 1, 0, 0, 0, [], []), (58, (.invokevirtual 147), 3, 0, 108, 4013, [], []), (61, (.istore 7), 2, 0, 7, 0, [], []), (63, (.goto (-53)), 3, 0, 10, 0, [], []), (66, (.lload 5), 2, 0, 5, 0, [], []), (68, .lreturn, 1, 0, 0, 0, [], [])]
def tX4_all : List bwE := [(0, (.aload_n 0), 1, 0, 0, 0, [], []), (1, (.iconst (-1)), 1, (-1), 0, 0, [], []), (2, (.iconst 0), 1, 0, 0, 0, [], []), (3, (.iconst (-1)), 1, (-1), 0, 0, [], []), (4, (.iconst 0), 1, 0, 0, 0, [], []), (5, (.invokevirtual 150), 3, 0, 110, 4052, [], []), (8, .lreturn, 1, 0, 0, 0, [], [])]
def tX4_common : List bwE := [(0, (.lload_n 0), 1, 0, 0, 0, [], []), (1, (.lconst 0), 1, 0, 0, 0, [], []), (2, .lcmp, 1, 0, 0, 0, [], []), (3, (.ifCond .ge 8), 3, 0, 11, 0, [], []), (6, (.lload_n 0), 1, 0, 0, 0, [], []), (7, .lneg, 1, 0, 0, 0, [], []), (8, (.goto 4), 3, 0, 12, 0, [], []), (11, (.lload_n 0), 1, 0, 0, 0, [], []), (12, (.lstore 4), 2, 0, 4, 0, [], []), (14, (.lload_n 2), 1, 0, 2, 0, [], []), (15, (.lstore 6), 2, 0, 6, 0, [], []), (17, (.lload 6), 2, 0, 6, 0, [8], []), (19, (.lconst 0), 1, 0, 0, 0, [], []), (20, .lcmp, 1, 0, 0, 0, [], []), (21, (.ifCond .eq 21), 3, 0, 42, 0, [], []), (24, (.lload 4), 2, 0, 4, 0, [], []), (26, (.lload 6), 2, 0, 6, 0, [], []), (28, .lrem, 1, 0, 0, 0, [], []), (29, (.lstore 8), 2, 0, 8, 0, [], []), (31, (.lload 6), 2, 0, 6, 0, [], []), (33, (.lstore 4), 2, 0, 4, 0, [], []), (35, (.lload 8), 2, 0, 8, 0, [], []), (37, (.lstore 6), 2, 0, 6, 0, [], []), (39, (.goto (-22)), 3, 0, 17, 0, [], []), (42, (.lload 4), 2, 0, 4, 0, [], []), (44, .lreturn, 1, 0, 0, 0, [], [])]
def tX4_tell : List bwE := [(0, (.lload_n 1), 1, 0, 1, 0, [], []), (1, (.lload_n 3), 1, 0, 3, 0, [], []), (2, (.invokestatic 154), 3, 0, 112, 22, [], []), (5, (.lstore 5), 2, 0, 5, 0, [], []), (7, (.aload_n 0), 1, 0, 0, 0, [], []), (8, (.lload_n 1), 1, 0, 1, 0, [], []), (9, (.lload 5), 2, 0, 5, 0, [], []), (11, .ldiv, 1, 0, 0, 0, [], []), (12, (.putfield 158), 3, 0, 15, 4, [], []), (15, (.aload_n 0), 1, 0, 0, 0, [], []), (16, (.lload_n 3), 1, 0, 3, 0, [], []), (17, (.lload 5), 2, 0, 5, 0, [], []), (19, .ldiv, 1, 0, 0, 0, [], []), (20, (.putfield 161), 3, 0, 16, 4, [], []), (23, (.iconst 1), 1, 1, 0, 0, [], []), (24, .ireturn, 1, 0, 0, 0, [], [])]
def tX4_up : List bwE := [(0, (.aload_n 0), 1, 0, 0, 0, [], []), (1, (.getfield 158), 3, 0, 15, 4, [], []), (4, .lreturn, 1, 0, 0, 0, [], [])]
def tX4_down : List bwE := [(0, (.aload_n 0), 1, 0, 0, 0, [], []), (1, (.getfield 161), 3, 0, 16, 4, [], []), (4, .lreturn, 1, 0, 0, 0, [], [])]
def tX4_chance : List bwE := [(0, (.aload_n 0), 1, 0, 0, 0, [], []), (1, (.invokevirtual 126), 3, 0, 100, 4013, [], []), (4, (.ifCond .eq 6), 3, 0, 10, 0, [], []), (7, (.bipush (-4)), 2, (-4), 0, 0, [], []), (9, .ireturn, 1, 0, 0, 0, [], []), (10, (.lconst 1), 1, 0, 1, 0, [], []), (11, (.lstore_n 1), 1, 0, 1, 0, [], []), (12, (.iconst 0), 1, 0, 0, 0, [], []), (13, (.istore_n 3), 1, 0, 3, 0, [], []), (14, (.iload_n 3), 1, 0, 3, 0, [], []), (15, (.aload_n 0), 1, 0, 0, 0, [], []), (16, (.getfield 82), 3, 0, 1, 4, [], []), (19, (.if_icmp .ge 19), 3, 0, 38, 0, [], []), (22, (.lload_n 1), 1, 0, 1, 0, [], []), (23, (.aload_n 0), 1, 0, 0, 0, [], []), (24, (.getfield 13), 3, 0, 3, 4, [], []), (27, (.iload_n 3), 1, 0, 3, 0, [], []), (28, .iaload, 1, 0, 0, 0, [], []), (29, .i2l, 1, 0, 0, 0, [], []), (30, .lmul, 1, 0, 0, 0, [], []), (31, (.lstore_n 1), 1, 0, 1, 0, [], []), (32, (.iinc 3 1), 3, 1, 3, 0, [], []), (35, (.goto (-21)), 3, 0, 14, 0, [], []), (38, (.aload_n 0), 1, 0, 0, 0, [], []), (39, (.aload_n 0), 1, 0, 0, 0, [], []), (40, (.invokevirtual 164), 3, 0, 111, 4012, [], []), (43, (.lload_n 1), 1, 0, 1, 0, [], []), (44, (.invokevirtual 168), 3, 0, 113, 4031, [], []), (47, .ireturn, 1, 0, 0, 0, [], [])]
def tX4_refused : List bwE := [(0, (.aload_n 0), 1, 0, 0, 0, [], []), (1, (.invokevirtual 126), 3, 0, 100, 4013, [], []), (4, (.ifCond .eq 8), 3, 0, 12, 0, [], []), (7, (.bipush (-4)), 2, (-4), 0, 0, [], []), (9, (.goto 18), 3, 0, 27, 0, [], []), (12, (.aload_n 0), 1, 0, 0, 0, [], []), (13, (.invokevirtual 164), 3, 0, 111, 4012, [], []), (16, (.lconst 0), 1, 0, 0, 0, [], []), (17, .lcmp, 1, 0, 0, 0, [], []), (18, (.ifCond .ne 8), 3, 0, 26, 0, [], []), (21, (.bipush (-5)), 2, (-5), 0, 0, [], []), (23, (.goto 4), 3, 0, 27, 0, [], []), (26, (.iconst 0), 1, 0, 0, 0, [], []), (27, .ireturn, 1, 0, 0, 0, [], [])]
def tX4_ask : List bwE := [(0, (.aload_n 0), 1, 0, 0, 0, [], []), (1, (.iload_n 1), 1, 0, 1, 0, [], []), (2, (.iload_n 2), 1, 0, 2, 0, [], []), (3, (.invokevirtual 112), 3, 0, 86, 4033, [], []), (6, (.ifCond .ne 5), 3, 0, 11, 0, [], []), (9, (.iconst (-1)), 1, (-1), 0, 0, [], []), (10, .ireturn, 1, 0, 0, 0, [], []), (11, (.aload_n 0), 1, 0, 0, 0, [], []), (12, (.invokevirtual 172), 3, 0, 117, 4011, [], []), (15, (.istore_n 3), 1, 0, 3, 0, [], []), (16, (.iload_n 3), 1, 0, 3, 0, [], []), (17, (.ifCond .ge 7), 3, 0, 24, 0, [], []), (20, (.iload_n 3), 1, 0, 3, 0, [], []), (21, (.goto 19), 3, 0, 40, 0, [], []), (24, (.aload_n 0), 1, 0, 0, 0, [], []), (25, (.aload_n 0), 1, 0, 0, 0, [], []), (26, (.iload_n 1), 1, 0, 1, 0, [], []), (27, (.iload_n 2), 1, 0, 2, 0, [], []), (28, (.iconst (-1)), 1, (-1), 0, 0, [], []), (29, (.iconst 0), 1, 0, 0, 0, [], []), (30, (.invokevirtual 150), 3, 0, 110, 4052, [], []), (33, (.aload_n 0), 1, 0, 0, 0, [], []), (34, (.invokevirtual 164), 3, 0, 111, 4012, [], []), (37, (.invokevirtual 168), 3, 0, 113, 4031, [], []), (40, .ireturn, 1, 0, 0, 0, [], [])]
def tX4_both : List bwE := [(0, (.aload_n 0), 1, 0, 0, 0, [], []), (1, (.iload_n 1), 1, 0, 1, 0, [], []), (2, (.iload_n 2), 1, 0, 2, 0, [], []), (3, (.invokevirtual 112), 3, 0, 86, 4033, [], []), (6, (.ifCond .eq 13), 3, 0, 19, 0, [], []), (9, (.aload_n 0), 1, 0, 0, 0, [], []), (10, (.iload_n 3), 1, 0, 3, 0, [], []), (11, (.iload 4), 2, 0, 4, 0, [], []), (13, (.invokevirtual 112), 3, 0, 86, 4033, [], []), (16, (.ifCond .ne 5), 3, 0, 21, 0, [], []), (19, (.iconst (-1)), 1, (-1), 0, 0, [], []), (20, .ireturn, 1, 0, 0, 0, [], []), (21, (.aload_n 0), 1, 0, 0, 0, [], []), (22, (.invokevirtual 172), 3, 0, 117, 4011, [], []), (25, (.istore 5), 2, 0, 5, 0, [], []), (27, (.iload 5), 2, 0, 5, 0, [], []), (29, (.ifCond .ge 8), 3, 0, 37, 0, [], []), (32, (.iload 5), 2, 0, 5, 0, [], []), (34, (.goto 20), 3, 0, 54, 0, [], []), (37, (.aload_n 0), 1, 0, 0, 0, [], []), (38, (.aload_n 0), 1, 0, 0, 0, [], []), (39, (.iload_n 1), 1, 0, 1, 0, [], []), (40, (.iload_n 2), 1, 0, 2, 0, [], []), (41, (.iload_n 3), 1, 0, 3, 0, [], []), (42, (.iload 4), 2, 0, 4, 0, [], []), (44, (.invokevirtual 150), 3, 0, 110, 4052, [], []), (47, (.aload_n 0), 1, 0, 0, 0, [], []), (48, (.invokevirtual 164), 3, 0, 111, 4012, [], []), (51, (.invokevirtual 168), 3, 0, 113, 4031, [], []), (54, .ireturn, 1, 0, 0, 0, [], [])]
def tX4_most : List bwE := [(0, (.aload_n 0), 1, 0, 0, 0, [], []), (1, (.iload_n 1), 1, 0, 1, 0, [], []), (2, (.invokevirtual 85), 3, 0, 85, 4023, [], []), (5, (.ifCond .ne 5), 3, 0, 10, 0, [], []), (8, (.iconst (-1)), 1, (-1), 0, 0, [], []), (9, .ireturn, 1, 0, 0, 0, [], []), (10, (.aload_n 0), 1, 0, 0, 0, [], []), (11, (.invokevirtual 172), 3, 0, 117, 4011, [], []), (14, (.istore_n 2), 1, 0, 2, 0, [], []), (15, (.iload_n 2), 1, 0, 2, 0, [], []), (16, (.ifCond .ge 5), 3, 0, 21, 0, [], []), (19, (.iload_n 2), 1, 0, 2, 0, [], []), (20, .ireturn, 1, 0, 0, 0, [], []), (21, (.iconst 0), 1, 0, 0, 0, [], []), (22, (.istore_n 3), 1, 0, 3, 0, [], []), (23, (.aload_n 0), 1, 0, 0, 0, [], []), (24, (.iload_n 1), 1, 0, 1, 0, [], []), (25, (.iconst 0), 1, 0, 0, 0, [], []), (26, (.iconst (-1)), 1, (-1), 0, 0, [], []), (27, (.iconst 0), 1, 0, 0, 0, [], []), (28, (.invokevirtual 150), 3, 0, 110, 4052, [], []), (31, (.lstore 4), 2, 0, 4, 0, [], []), (33, (.iconst 1), 1, 1, 0, 0, [], []), (34, (.istore 6), 2, 0, 6, 0, [], []), (36, (.iload 6), 2, 0, 6, 0, [7], []), (38, (.aload_n 0), 1, 0, 0, 0, [], []), (39, (.getfield 7), 3, 0, 2, 4, [], []), (42, (.iload_n 1), 1, 0, 1, 0, [], []), (43, .iaload, 1, 0, 0, 0, [], []), (44, (.if_icmp .ge 38), 3, 0, 82, 0, [], []), (47, (.aload_n 0), 1, 0, 0, 0, [], []), (48, (.iload_n 1), 1, 0, 1, 0, [], []), (49, (.iload 6), 2, 0, 6, 0, [], []), (51, (.iconst (-1)), 1, (-1), 0, 0, [], []), (52, (.iconst 0), 1, 0, 0, 0, [], []), (53, (.invokevirtual 150), 3, 0, 110, 4052, [], []), (56, (.lstore 7), 2, 0, 7, 0, [], []), (58, (.lload 7), 2, 0, 7, 0, [], []), (60, (.lload 4), 2, 0, 4, 0, [], []), (62, .lcmp, 1, 0, 0, 0, [], []), (63, (.ifCond .gt 6), 3, 0, 69, 0, [], []), (66, (.goto 10), 3, 0, 76, 0, [], []), (69, (.lload 7), 2, 0, 7, 0, [], []), (71, (.lstore 4), 2, 0, 4, 0, [], []), (73, (.iload 6), 2, 0, 6, 0, [], []), (75, (.istore_n 3), 1, 0, 3, 0, [], []), (76, (.iinc 6 1), 3, 1, 6, 0, [], []), (79, (.goto (-43)), 3, 0, 36, 0, [], []), (82, (.iload_n 3), 1, 0, 3, 0, [], []), (83, .ireturn, 1, 0, 0, 0, [], [])]
def tX4_likeliest : List bwE := [(0, (.iload_n 1), 1, 0, 1, 0, [], []), (1, (.ifCond .lt 9), 3, 0, 10, 0, [], []), (4, (.iload_n 1), 1, 0, 1, 0, [], []), (5, (.bipush 9), 2, 9, 0, 0, [], []), (7, (.if_icmp .le 5), 3, 0, 12, 0, [], []), (10, (.iconst (-1)), 1, (-1), 0, 0, [], []), (11, .ireturn, 1, 0, 0, 0, [], []), (12, (.aload_n 0), 1, 0, 0, 0, [], []), (13, (.invokevirtual 126), 3, 0, 100, 4013, [], []), (16, (.ifCond .eq 6), 3, 0, 22, 0, [], []), (19, (.bipush (-4)), 2, (-4), 0, 0, [], []), (21, .ireturn, 1, 0, 0, 0, [], []), (22, (.iconst 0), 1, 0, 0, 0, [], []), (23, (.istore_n 2), 1, 0, 2, 0, [], []), (24, (.aload_n 0), 1, 0, 0, 0, [], []), (25, (.invokevirtual 141), 3, 0, 107, 4010, [], []), (28, (.iconst 1), 1, 1, 0, 0, [], []), (29, (.istore_n 3), 1, 0, 3, 0, [], []), (30, (.iload_n 3), 1, 0, 3, 0, [], []), (31, (.ifCond .eq 50), 3, 0, 81, 0, [], []), (34, (.aload_n 0), 1, 0, 0, 0, [], []), (35, (.invokevirtual 144), 3, 0, 109, 4010, [], []), (38, (.aload_n 0), 1, 0, 0, 0, [], []), (39, (.getfield 137), 3, 0, 14, 4, [], []), (42, (.lconst 0), 1, 0, 0, 0, [], []), (43, .lcmp, 1, 0, 0, 0, [], []), (44, (.ifCond .le 29), 3, 0, 73, 0, [], []), (47, (.iload_n 2), 1, 0, 2, 0, [], []), (48, (.iload_n 1), 1, 0, 1, 0, [], []), (49, (.if_icmp .le 17), 3, 0, 66, 0, [], []), (52, (.aload_n 0), 1, 0, 0, 0, [], []), (53, (.getfield 137), 3, 0, 14, 4, [], []), (56, (.aload_n 0), 1, 0, 0, 0, [], []), (57, (.getfield 47), 3, 0, 19, 4, [], []), (60, (.iload_n 1), 1, 0, 1, 0, [], []), (61, .laload, 1, 0, 0, 0, [], []), (62, .lcmp, 1, 0, 0, 0, [], []), (63, (.ifCond .le 10), 3, 0, 73, 0, [], []), (66, (.aload_n 0), 1, 0, 0, 0, [], []), (67, (.iload_n 2), 1, 0, 2, 0, [], []), (68, (.iload_n 1), 1, 0, 1, 0, [], []), (69, (.invokevirtual 176), 3, 0, 122, 4031, [], []), (72, (.istore_n 2), 1, 0, 2, 0, [], []), (73, (.aload_n 0), 1, 0, 0, 0, [], []), (74, (.invokevirtual 147), 3, 0, 108, 4013, [], []), (77, (.istore_n 3), 1, 0, 3, 0, [], []), (78, (.goto (-48)), 3, 0, 30, 0, [], []), (81, (.iload_n 2), 1, 0, 2, 0, [], []), (82, (.iload_n 1), 1, 0, 1, 0, [], []), (83, (.if_icmp .gt 5), 3, 0, 88, 0, [], []), (86, (.iconst 0), 1, 0, 0, 0, [], []), (87, .ireturn, 1, 0, 0, 0, [], []), (88, (.aload_n 0), 1, 0, 0, 0, [], []), (89, (.aload_n 0), 1, 0, 0, 0, [], []), (90, (.getfield 82), 3, 0, 1, 4, [], []), (93, (.putfield 180), 3, 0, 18, 4, [], []), (96, (.iconst 0), 1, 0, 0, 0, [], []), (97, (.istore 4), 2, 0, 4, 0, [], []), (99, (.iload 4), 2, 0, 4, 0, [], []), (101, (.aload_n 0), 1, 0, 0, 0, [], []), (102, (.getfield 82), 3, 0, 1, 4, [], []), (105, (.if_icmp .ge 28), 3, 0, 133, 0, [], []), (108, (.aload_n 0), 1, 0, 0, 0, [], []), (109, (.getfield 44), 3, 0, 17, 4, [], []), (112, (.iload 4), 2, 0, 4, 0, [], []), (114, (.aload_n 0), 1, 0, 0, 0, [], []), (115, (.getfield 51), 3, 0, 20, 4, [], []), (118, (.bipush 12), 2, 12, 0, 0, [], []), (120, (.iload_n 1), 1, 0, 1, 0, [], []), (121, .imul, 1, 0, 0, 0, [], []), (122, (.iload 4), 2, 0, 4, 0, [], []), (124, .iadd, 1, 0, 0, 0, [], []), (125, .iaload, 1, 0, 0, 0, [], []), (126, .iastore, 1, 0, 0, 0, [], []), (127, (.iinc 4 1), 3, 1, 4, 0, [], []), (130, (.goto (-31)), 3, 0, 99, 0, [], []), (133, (.aload_n 0), 1, 0, 0, 0, [], []), (134, (.aload_n 0), 1, 0, 0, 0, [], []), (135, (.getfield 47), 3, 0, 19, 4, [], []), (138, (.iload_n 1), 1, 0, 1, 0, [], []), (139, .laload, 1, 0, 0, 0, [], []), (140, (.aload_n 0), 1, 0, 0, 0, [], []), (141, (.invokevirtual 164), 3, 0, 111, 4012, [], []), (144, (.invokevirtual 168), 3, 0, 113, 4031, [], []), (147, .ireturn, 1, 0, 0, 0, [], [])]
def tX4_insert : List bwE := [(0, (.iload_n 1), 1, 0, 1, 0, [], []), (1, (.iload_n 2), 1, 0, 2, 0, [], []), (2, (.if_icmp .gt 7), 3, 0, 9, 0, [], []), (5, (.iload_n 1), 1, 0, 1, 0, [], []), (6, (.goto 4), 3, 0, 10, 0, [], []), (9, (.iload_n 2), 1, 0, 2, 0, [], []), (10, (.istore_n 3), 1, 0, 3, 0, [], []), (11, (.iload_n 3), 1, 0, 3, 0, [4], []), (12, (.ifCond .le 83), 3, 0, 95, 0, [], []), (15, (.aload_n 0), 1, 0, 0, 0, [], []), (16, (.getfield 47), 3, 0, 19, 4, [], []), (19, (.iload_n 3), 1, 0, 3, 0, [], []), (20, (.iconst 1), 1, 1, 0, 0, [], []), (21, .isub, 1, 0, 0, 0, [], []), (22, .laload, 1, 0, 0, 0, [], []), (23, (.aload_n 0), 1, 0, 0, 0, [], []), (24, (.getfield 137), 3, 0, 14, 4, [], []), (27, .lcmp, 1, 0, 0, 0, [], []), (28, (.ifCond .ge 67), 3, 0, 95, 0, [], []), (31, (.aload_n 0), 1, 0, 0, 0, [], []), (32, (.getfield 47), 3, 0, 19, 4, [], []), (35, (.iload_n 3), 1, 0, 3, 0, [], []), (36, (.aload_n 0), 1, 0, 0, 0, [], []), (37, (.getfield 47), 3, 0, 19, 4, [], []), (40, (.iload_n 3), 1, 0, 3, 0, [], []), (41, (.iconst 1), 1, 1, 0, 0, [], []), (42, .isub, 1, 0, 0, 0, [], []), (43, .laload, 1, 0, 0, 0, [], []), (44, .lastore, 1, 0, 0, 0, [], []), (45, (.iconst 0), 1, 0, 0, 0, [], []), (46, (.istore 4), 2, 0, 4, 0, [], []), (48, (.iload 4), 2, 0, 4, 0, [], []), (50, (.aload_n 0), 1, 0, 0, 0, [], []), (51, (.getfield 82), 3, 0, 1, 4, [], []), (54, (.if_icmp .ge 35), 3, 0, 89, 0, [], []), (57, (.aload_n 0), 1, 0, 0, 0, [], []), (58, (.getfield 51), 3, 0, 20, 4, [], []), (61, (.bipush 12), 2, 12, 0, 0, [], []), (63, (.iload_n 3), 1, 0, 3, 0, [], []), (64, .imul, 1, 0, 0, 0, [], []), (65, (.iload 4), 2, 0, 4, 0, [], []), (67, .iadd, 1, 0, 0, 0, [], []), (68, (.aload_n 0), 1, 0, 0, 0, [], []), (69, (.getfield 51), 3, 0, 20, 4, [], []), (72, (.bipush 12), 2, 12, 0, 0, [], []), (74, (.iload_n 3), 1, 0, 3, 0, [], []), (75, (.iconst 1), 1, 1, 0, 0, [], []), (76, .isub, 1, 0, 0, 0, [], []), (77, .imul, 1, 0, 0, 0, [], []), (78, (.iload 4), 2, 0, 4, 0, [], []), (80, .iadd, 1, 0, 0, 0, [], []), (81, .iaload, 1, 0, 0, 0, [], []), (82, .iastore, 1, 0, 0, 0, [], []), (83, (.iinc 4 1), 3, 1, 4, 0, [], []), (86, (.goto (-38)), 3, 0, 48, 0, [], []), (89, (.iinc 3 (-1)), 3, (-1), 3, 0, [], []), (92, (.goto (-81)), 3, 0, 11, 0, [], []), (95, (.aload_n 0), 1, 0, 0, 0, [], []), (96, (.getfield 47), 3, 0, 19, 4, [], []), (99, (.iload_n 3), 1, 0, 3, 0, [], []), (100, (.aload_n 0), 1, 0, 0, 0, [], []), (101, (.getfield 137), 3, 0, 14, 4, [], []), (104, .lastore, 1, 0, 0, 0, [], []), (105, (.iconst 0), 1, 0, 0, 0, [], []), (106, (.istore 4), 2, 0, 4, 0, [], []), (108, (.iload 4), 2, 0, 4, 0, [], []), (110, (.aload_n 0), 1, 0, 0, 0, [], []), (111, (.getfield 82), 3, 0, 1, 4, [], []), (114, (.if_icmp .ge 28), 3, 0, 142, 0, [], []), (117, (.aload_n 0), 1, 0, 0, 0, [], []), (118, (.getfield 51), 3, 0, 20, 4, [], []), (121, (.bipush 12), 2, 12, 0, 0, [], []), (123, (.iload_n 3), 1, 0, 3, 0, [], []), (124, .imul, 1, 0, 0, 0, [], []), (125, (.iload 4), 2, 0, 4, 0, [], []), (127, .iadd, 1, 0, 0, 0, [], []), (128, (.aload_n 0), 1, 0, 0, 0, [], []), (129, (.getfield 41), 3, 0, 13, 4, [], []), (132, (.iload 4), 2, 0, 4, 0, [], []), (134, .iaload, 1, 0, 0, 0, [], []), (135, .iastore, 1, 0, 0, 0, [], []), (136, (.iinc 4 1), 3, 1, 4, 0, [], []), (139, (.goto (-31)), 3, 0, 108, 0, [], []), (142, (.iload_n 1), 1, 0, 1, 0, [], []), (143, (.iload_n 2), 1, 0, 2, 0, [], []), (144, (.if_icmp .gt 9), 3, 0, 153, 0, [], []), (147, (.iload_n 1), 1, 0, 1, 0, [], []), (148, (.iconst 1), 1, 1, 0, 0, [], []), (149, .iadd, 1, 0, 0, 0, [], []), (150, (.goto 4), 3, 0, 154, 0, [], []), (153, (.iload_n 1), 1, 0, 1, 0, [], []), (154, .ireturn, 1, 0, 0, 0, [], [])]
def tX4_at : List bwE := [(0, (.iload_n 1), 1, 0, 1, 0, [], []), (1, (.ifCond .lt 20), 3, 0, 21, 0, [], []), (4, (.iload_n 1), 1, 0, 1, 0, [], []), (5, (.aload_n 0), 1, 0, 0, 0, [], []), (6, (.getfield 180), 3, 0, 18, 4, [], []), (9, (.if_icmp .ge 12), 3, 0, 21, 0, [], []), (12, (.aload_n 0), 1, 0, 0, 0, [], []), (13, (.getfield 44), 3, 0, 17, 4, [], []), (16, (.iload_n 1), 1, 0, 1, 0, [], []), (17, .iaload, 1, 0, 0, 0, [], []), (18, (.goto 5), 3, 0, 23, 0, [], []), (21, (.bipush (-2)), 2, (-2), 0, 0, [], []), (23, .ireturn, 1, 0, 0, 0, [], [])]
def tX4_wholes : List bwE := [(0, (.aload_n 0), 1, 0, 0, 0, [], []), (1, (.invokevirtual 126), 3, 0, 100, 4013, [], []), (4, (.ifCond .eq 6), 3, 0, 10, 0, [], []), (7, (.bipush (-4)), 2, (-4), 0, 0, [], []), (9, .ireturn, 1, 0, 0, 0, [], []), (10, (.iconst 0), 1, 0, 0, 0, [], []), (11, (.istore_n 1), 1, 0, 1, 0, [], []), (12, (.aload_n 0), 1, 0, 0, 0, [], []), (13, (.invokevirtual 141), 3, 0, 107, 4010, [], []), (16, (.iconst 1), 1, 1, 0, 0, [], []), (17, (.istore_n 2), 1, 0, 2, 0, [], []), (18, (.iload_n 2), 1, 0, 2, 0, [], []), (19, (.ifCond .eq 32), 3, 0, 51, 0, [], []), (22, (.aload_n 0), 1, 0, 0, 0, [], []), (23, (.invokevirtual 144), 3, 0, 109, 4010, [], []), (26, (.iload_n 1), 1, 0, 1, 0, [], []), (27, (.aload_n 0), 1, 0, 0, 0, [], []), (28, (.getfield 137), 3, 0, 14, 4, [], []), (31, (.lconst 0), 1, 0, 0, 0, [], []), (32, .lcmp, 1, 0, 0, 0, [], []), (33, (.ifCond .le 7), 3, 0, 40, 0, [], []), (36, (.iconst 1), 1, 1, 0, 0, [], []), (37, (.goto 4), 3, 0, 41, 0, [], []), (40, (.iconst 0), 1, 0, 0, 0, [], []), (41, .iadd, 1, 0, 0, 0, [], []), (42, (.istore_n 1), 1, 0, 1, 0, [], []), (43, (.aload_n 0), 1, 0, 0, 0, [], []), (44, (.invokevirtual 147), 3, 0, 108, 4013, [], []), (47, (.istore_n 2), 1, 0, 2, 0, [], []), (48, (.goto (-30)), 3, 0, 18, 0, [], []), (51, (.iload_n 1), 1, 0, 1, 0, [], []), (52, .ireturn, 1, 0, 0, 0, [], [])]
def tX4_leads : List bwE := [(0, (.aload_n 0), 1, 0, 0, 0, [], []), (1, (.getfield 28), 3, 0, 8, 4, [], []), (4, (.iload_n 2), 1, 0, 2, 0, [], []), (5, .iaload, 1, 0, 0, 0, [], []), (6, (.ifCond .ge 16), 3, 0, 22, 0, [], []), (9, (.aload_n 0), 1, 0, 0, 0, [], []), (10, (.iload_n 1), 1, 0, 1, 0, [], []), (11, (.iload_n 2), 1, 0, 2, 0, [], []), (12, (.invokevirtual 100), 3, 0, 90, 4033, [], []), (15, (.ifCond .eq 7), 3, 0, 22, 0, [], []), (18, (.iconst 1), 1, 1, 0, 0, [], []), (19, (.goto 4), 3, 0, 23, 0, [], []), (22, (.iconst 0), 1, 0, 0, 0, [], []), (23, .ireturn, 1, 0, 0, 0, [], [])]
def tX4_passes : List bwE := [(0, (.aload_n 0), 1, 0, 0, 0, [], []), (1, (.iload_n 1), 1, 0, 1, 0, [], []), (2, (.iload_n 2), 1, 0, 2, 0, [], []), (3, (.invokevirtual 183), 3, 0, 125, 4033, [], []), (6, (.ifCond .eq 60), 3, 0, 66, 0, [], []), (9, (.aload_n 0), 1, 0, 0, 0, [], []), (10, (.iload_n 3), 1, 0, 3, 0, [], []), (11, (.iload_n 2), 1, 0, 2, 0, [], []), (12, (.invokevirtual 183), 3, 0, 125, 4033, [], []), (15, (.ifCond .eq 51), 3, 0, 66, 0, [], []), (18, (.aload_n 0), 1, 0, 0, 0, [], []), (19, (.iload_n 2), 1, 0, 2, 0, [], []), (20, (.iconst 1), 1, 1, 0, 0, [], []), (21, (.invokevirtual 104), 3, 0, 91, 4030, [], []), (24, (.iconst 0), 1, 0, 0, 0, [], []), (25, (.istore 4), 2, 0, 4, 0, [], []), (27, (.iload 4), 2, 0, 4, 0, [], []), (29, (.aload_n 0), 1, 0, 0, 0, [], []), (30, (.getfield 82), 3, 0, 1, 4, [], []), (33, (.if_icmp .ge 31), 3, 0, 64, 0, [], []), (36, (.aload_n 0), 1, 0, 0, 0, [], []), (37, (.getfield 37), 3, 0, 12, 4, [], []), (40, (.iload 4), 2, 0, 4, 0, [], []), (42, .baload, 1, 0, 0, 0, [], []), (43, (.ifCond .eq 15), 3, 0, 58, 0, [], []), (46, (.aload_n 0), 1, 0, 0, 0, [], []), (47, (.getfield 25), 3, 0, 7, 4, [], []), (50, (.iload 4), 2, 0, 4, 0, [], []), (52, .iaload, 1, 0, 0, 0, [], []), (53, (.ifCond .lt 5), 3, 0, 58, 0, [], []), (56, (.iconst 1), 1, 1, 0, 0, [], []), (57, .ireturn, 1, 0, 0, 0, [], []), (58, (.iinc 4 1), 3, 1, 4, 0, [], []), (61, (.goto (-34)), 3, 0, 27, 0, [], []), (64, (.iconst 0), 1, 0, 0, 0, [], []), (65, .ireturn, 1, 0, 0, 0, [], []), (66, (.aload_n 0), 1, 0, 0, 0, [], []), (67, (.getfield 25), 3, 0, 7, 4, [], []), (70, (.iload_n 2), 1, 0, 2, 0, [], []), (71, .iaload, 1, 0, 0, 0, [], []), (72, (.ifCond .ge 16), 3, 0, 88, 0, [], []), (75, (.aload_n 0), 1, 0, 0, 0, [], []), (76, (.getfield 28), 3, 0, 8, 4, [], []), (79, (.iload_n 2), 1, 0, 2, 0, [], []), (80, .iaload, 1, 0, 0, 0, [], []), (81, (.ifCond .ge 7), 3, 0, 88, 0, [], []), (84, (.iconst 1), 1, 1, 0, 0, [], []), (85, (.goto 4), 3, 0, 89, 0, [], []), (88, (.iconst 0), 1, 0, 0, 0, [], []), (89, .ireturn, 1, 0, 0, 0, [], [])]
def tX4_apart : List bwE := [(0, (.aload_n 0), 1, 0, 0, 0, [], []), (1, (.iload_n 1), 1, 0, 1, 0, [], []), (2, (.invokevirtual 85), 3, 0, 85, 4023, [], []), (5, (.ifCond .eq 11), 3, 0, 16, 0, [], []), (8, (.aload_n 0), 1, 0, 0, 0, [], []), (9, (.iload_n 2), 1, 0, 2, 0, [], []), (10, (.invokevirtual 85), 3, 0, 85, 4023, [], []), (13, (.ifCond .ne 5), 3, 0, 18, 0, [], []), (16, (.iconst (-1)), 1, (-1), 0, 0, [], []), (17, .ireturn, 1, 0, 0, 0, [], []), (18, (.iload_n 1), 1, 0, 1, 0, [], []), (19, (.iload_n 2), 1, 0, 2, 0, [], []), (20, (.if_icmp .ne 5), 3, 0, 25, 0, [], []), (23, (.iconst 0), 1, 0, 0, 0, [], []), (24, .ireturn, 1, 0, 0, 0, [], []), (25, (.iconst 0), 1, 0, 0, 0, [], []), (26, (.istore_n 3), 1, 0, 3, 0, [], []), (27, (.iload_n 3), 1, 0, 3, 0, [], []), (28, (.aload_n 0), 1, 0, 0, 0, [], []), (29, (.getfield 82), 3, 0, 1, 4, [], []), (32, (.if_icmp .ge 25), 3, 0, 57, 0, [], []), (35, (.aload_n 0), 1, 0, 0, 0, [], []), (36, (.getfield 60), 3, 0, 23, 4, [], []), (39, (.iload_n 3), 1, 0, 3, 0, [], []), (40, (.iload_n 3), 1, 0, 3, 0, [], []), (41, (.iload_n 1), 1, 0, 1, 0, [], []), (42, (.if_icmp .ne 7), 3, 0, 49, 0, [], []), (45, (.iconst 1), 1, 1, 0, 0, [], []), (46, (.goto 4), 3, 0, 50, 0, [], []), (49, (.iconst 0), 1, 0, 0, 0, [], []), (50, .bastore, 1, 0, 0, 0, [], []), (51, (.iinc 3 1), 3, 1, 3, 0, [], []), (54, (.goto (-27)), 3, 0, 27, 0, [], []), (57, (.iconst 0), 1, 0, 0, 0, [], []), (58, (.istore_n 3), 1, 0, 3, 0, [], []), (59, (.aload_n 0), 1, 0, 0, 0, [], []), (60, (.getfield 54), 3, 0, 21, 4, [], []), (63, (.iconst 0), 1, 0, 0, 0, [], []), (64, (.iload_n 1), 1, 0, 1, 0, [], []), (65, .iastore, 1, 0, 0, 0, [], []), (66, (.aload_n 0), 1, 0, 0, 0, [], []), (67, (.getfield 57), 3, 0, 22, 4, [], []), (70, (.iconst 0), 1, 0, 0, 0, [], []), (71, (.iconst (-1)), 1, (-1), 0, 0, [], []), (72, .iastore, 1, 0, 0, 0, [], []), (73, (.iload_n 3), 1, 0, 3, 0, [4, 5], []), (74, (.ifCond .lt 159), 3, 0, 233, 0, [], []), (77, (.aload_n 0), 1, 0, 0, 0, [], []), (78, (.getfield 54), 3, 0, 21, 4, [], []), (81, (.iload_n 3), 1, 0, 3, 0, [], []), (82, .iaload, 1, 0, 0, 0, [], []), (83, (.istore 4), 2, 0, 4, 0, [], []), (85, (.aload_n 0), 1, 0, 0, 0, [], []), (86, (.getfield 57), 3, 0, 22, 4, [], []), (89, (.iload_n 3), 1, 0, 3, 0, [], []), (90, .iaload, 1, 0, 0, 0, [], []), (91, (.iconst 1), 1, 1, 0, 0, [], []), (92, .iadd, 1, 0, 0, 0, [], []), (93, (.istore 5), 2, 0, 5, 0, [], []), (95, (.iload 5), 2, 0, 5, 0, [], []), (97, (.aload_n 0), 1, 0, 0, 0, [], []), (98, (.getfield 82), 3, 0, 1, 4, [], []), (101, (.if_icmp .ge 64), 3, 0, 165, 0, [], []), (104, (.aload_n 0), 1, 0, 0, 0, [], []), (105, (.getfield 60), 3, 0, 23, 4, [], []), (108, (.iload 5), 2, 0, 5, 0, [], []), (110, .baload, 1, 0, 0, 0, [], []), (111, (.ifCond .ne 48), 3, 0, 159, 0, [], []), (114, (.aload_n 0), 1, 0, 0, 0, [], []), (115, (.iload 4), 2, 0, 4, 0, [], []), (117, (.iload 5), 2, 0, 5, 0, [], []), (119, (.invokevirtual 183), 3, 0, 125, 4033, [], []), (122, (.ifCond .ne 14), 3, 0, 136, 0, [], []), (125, (.aload_n 0), 1, 0, 0, 0, [], []), (126, (.iload 5), 2, 0, 5, 0, [], []), (128, (.iload 4), 2, 0, 4, 0, [], []), (130, (.invokevirtual 183), 3, 0, 125, 4033, [], []), (133, (.ifCond .eq 26), 3, 0, 159, 0, [], []), (136, (.iload_n 3), 1, 0, 3, 0, [], []), (137, (.ifCond .eq 28), 3, 0, 165, 0, [], []), (140, (.aload_n 0), 1, 0, 0, 0, [], []), (141, (.aload_n 0), 1, 0, 0, 0, [], []), (142, (.getfield 54), 3, 0, 21, 4, [], []), (145, (.iload_n 3), 1, 0, 3, 0, [], []), (146, (.iconst 1), 1, 1, 0, 0, [], []), (147, .isub, 1, 0, 0, 0, [], []), (148, .iaload, 1, 0, 0, 0, [], []), (149, (.iload 4), 2, 0, 4, 0, [], []), (151, (.iload 5), 2, 0, 5, 0, [], []), (153, (.invokevirtual 186), 3, 0, 126, 4043, [], []), (156, (.ifCond .ne 9), 3, 0, 165, 0, [], []), (159, (.iinc 5 1), 3, 1, 5, 0, [], []), (162, (.goto (-67)), 3, 0, 95, 0, [], []), (165, (.aload_n 0), 1, 0, 0, 0, [], []), (166, (.getfield 57), 3, 0, 22, 4, [], []), (169, (.iload_n 3), 1, 0, 3, 0, [], []), (170, (.iload 5), 2, 0, 5, 0, [], []), (172, .iastore, 1, 0, 0, 0, [], []), (173, (.iload 5), 2, 0, 5, 0, [], []), (175, (.iload_n 2), 1, 0, 2, 0, [], []), (176, (.if_icmp .ne 5), 3, 0, 181, 0, [], []), (179, (.iconst 0), 1, 0, 0, 0, [], []), (180, .ireturn, 1, 0, 0, 0, [], []), (181, (.iload 5), 2, 0, 5, 0, [], []), (183, (.aload_n 0), 1, 0, 0, 0, [], []), (184, (.getfield 82), 3, 0, 1, 4, [], []), (187, (.if_icmp .lt 17), 3, 0, 204, 0, [], []), (190, (.aload_n 0), 1, 0, 0, 0, [], []), (191, (.getfield 60), 3, 0, 23, 4, [], []), (194, (.iload 4), 2, 0, 4, 0, [], []), (196, (.iconst 0), 1, 0, 0, 0, [], []), (197, .bastore, 1, 0, 0, 0, [], []), (198, (.iinc 3 (-1)), 3, (-1), 3, 0, [], []), (201, (.goto (-128)), 3, 0, 73, 0, [], []), (204, (.iinc 3 1), 3, 1, 3, 0, [], []), (207, (.aload_n 0), 1, 0, 0, 0, [], []), (208, (.getfield 54), 3, 0, 21, 4, [], []), (211, (.iload_n 3), 1, 0, 3, 0, [], []), (212, (.iload 5), 2, 0, 5, 0, [], []), (214, .iastore, 1, 0, 0, 0, [], []), (215, (.aload_n 0), 1, 0, 0, 0, [], []), (216, (.getfield 57), 3, 0, 22, 4, [], []), (219, (.iload_n 3), 1, 0, 3, 0, [], []), (220, (.iconst (-1)), 1, (-1), 0, 0, [], []), (221, .iastore, 1, 0, 0, 0, [], []), (222, (.aload_n 0), 1, 0, 0, 0, [], []), (223, (.getfield 60), 3, 0, 23, 4, [], []), (226, (.iload 5), 2, 0, 5, 0, [], []), (228, (.iconst 1), 1, 1, 0, 0, [], []), (229, .bastore, 1, 0, 0, 0, [], []), (230, (.goto (-157)), 3, 0, 73, 0, [], []), (233, (.iconst 1), 1, 1, 0, 0, [], []), (234, .ireturn, 1, 0, 0, 0, [], [])]
def tX4_options : List bwE := [(0, (.iload_n 1), 1, 0, 1, 0, [], []), (1, (.ifCond .lt 9), 3, 0, 10, 0, [], []), (4, (.iload_n 1), 1, 0, 1, 0, [], []), (5, (.bipush 6), 2, 6, 0, 0, [], []), (7, (.if_icmp .le 5), 3, 0, 12, 0, [], []), (10, (.iconst (-1)), 1, (-1), 0, 0, [], []), (11, .ireturn, 1, 0, 0, 0, [], []), (12, (.aload_n 0), 1, 0, 0, 0, [], []), (13, (.iconst 5), 1, 5, 0, 0, [], []), (14, (.iconst 0), 1, 0, 0, 0, [], []), (15, (.invokevirtual 108), 3, 0, 139, 4030, [], []), (18, (.aload_n 0), 1, 0, 0, 0, [], []), (19, (.getfield 189), 3, 0, 10, 4, [], []), (22, (.istore_n 2), 1, 0, 2, 0, [], []), (23, (.iload_n 2), 1, 0, 2, 0, [], []), (24, (.istore_n 3), 1, 0, 3, 0, [], []), (25, (.iload_n 3), 1, 0, 3, 0, [4], []), (26, (.iload_n 1), 1, 0, 1, 0, [], []), (27, (.if_icmp .ge 38), 3, 0, 65, 0, [], []), (30, (.iconst 0), 1, 0, 0, 0, [], []), (31, (.istore 4), 2, 0, 4, 0, [], []), (33, (.iload 4), 2, 0, 4, 0, [], []), (35, (.bipush 48), 2, 48, 0, 0, [], []), (37, (.if_icmp .ge 22), 3, 0, 59, 0, [], []), (40, (.aload_n 0), 1, 0, 0, 0, [], []), (41, (.getfield 34), 3, 0, 11, 4, [], []), (44, (.bipush 48), 2, 48, 0, 0, [], []), (46, (.iload_n 3), 1, 0, 3, 0, [], []), (47, .imul, 1, 0, 0, 0, [], []), (48, (.iload 4), 2, 0, 4, 0, [], []), (50, .iadd, 1, 0, 0, 0, [], []), (51, (.iconst 0), 1, 0, 0, 0, [], []), (52, .iastore, 1, 0, 0, 0, [], []), (53, (.iinc 4 1), 3, 1, 4, 0, [], []), (56, (.goto (-23)), 3, 0, 33, 0, [], []), (59, (.iinc 3 1), 3, 1, 3, 0, [], []), (62, (.goto (-37)), 3, 0, 25, 0, [], []), (65, (.aload_n 0), 1, 0, 0, 0, [], []), (66, (.iload_n 1), 1, 0, 1, 0, [], []), (67, (.putfield 189), 3, 0, 10, 4, [], []), (70, (.iload_n 2), 1, 0, 2, 0, [], []), (71, .ireturn, 1, 0, 0, 0, [], [])]
def tX4_isOption : List bwE := [(0, (.iload_n 1), 1, 0, 1, 0, [], []), (1, (.ifCond .lt 15), 3, 0, 16, 0, [], []), (4, (.iload_n 1), 1, 0, 1, 0, [], []), (5, (.aload_n 0), 1, 0, 0, 0, [], []), (6, (.getfield 189), 3, 0, 10, 4, [], []), (9, (.if_icmp .ge 7), 3, 0, 16, 0, [], []), (12, (.iconst 1), 1, 1, 0, 0, [], []), (13, (.goto 4), 3, 0, 17, 0, [], []), (16, (.iconst 0), 1, 0, 0, 0, [], []), (17, .ireturn, 1, 0, 0, 0, [], [])]
def tX4_worth : List bwE := [(0, (.aload_n 0), 1, 0, 0, 0, [], []), (1, (.iload_n 1), 1, 0, 1, 0, [], []), (2, (.invokevirtual 192), 3, 0, 129, 4023, [], []), (5, (.ifCond .eq 28), 3, 0, 33, 0, [], []), (8, (.aload_n 0), 1, 0, 0, 0, [], []), (9, (.iload_n 2), 1, 0, 2, 0, [], []), (10, (.iload_n 3), 1, 0, 3, 0, [], []), (11, (.invokevirtual 112), 3, 0, 86, 4033, [], []), (14, (.ifCond .eq 19), 3, 0, 33, 0, [], []), (17, (.iload 4), 2, 0, 4, 0, [], []), (19, (.sipush (-500)), 3, (-500), 0, 0, [], []), (22, (.if_icmp .lt 11), 3, 0, 33, 0, [], []), (25, (.iload 4), 2, 0, 4, 0, [], []), (27, (.sipush 500), 3, 500, 0, 0, [], []), (30, (.if_icmp .le 7), 3, 0, 37, 0, [], []), (33, (.sipush 10000), 3, 10000, 0, 0, [], []), (36, .ireturn, 1, 0, 0, 0, [], []), (37, (.bipush 48), 2, 48, 0, 0, [], []), (39, (.iload_n 1), 1, 0, 1, 0, [], []), (40, .imul, 1, 0, 0, 0, [], []), (41, (.iconst 4), 1, 4, 0, 0, [], []), (42, (.iload_n 2), 1, 0, 2, 0, [], []), (43, .imul, 1, 0, 0, 0, [], []), (44, .iadd, 1, 0, 0, 0, [], []), (45, (.iload_n 3), 1, 0, 3, 0, [], []), (46, .iadd, 1, 0, 0, 0, [], []), (47, (.istore 5), 2, 0, 5, 0, [], []), (49, (.aload_n 0), 1, 0, 0, 0, [], []), (50, (.bipush 6), 2, 6, 0, 0, [], []), (52, (.iload 5), 2, 0, 5, 0, [], []), (54, (.invokevirtual 108), 3, 0, 139, 4030, [], []), (57, (.aload_n 0), 1, 0, 0, 0, [], []), (58, (.getfield 34), 3, 0, 11, 4, [], []), (61, (.iload 5), 2, 0, 5, 0, [], []), (63, .iaload, 1, 0, 0, 0, [], []), (64, (.istore 6), 2, 0, 6, 0, [], []), (66, (.aload_n 0), 1, 0, 0, 0, [], []), (67, (.getfield 69), 3, 0, 28, 4, [], []), (70, (.aload_n 0), 1, 0, 0, 0, [], []), (71, (.getfield 97), 3, 0, 25, 4, [], []), (74, (.iconst 1), 1, 1, 0, 0, [], []), (75, .isub, 1, 0, 0, 0, [], []), (76, (.iload 6), 2, 0, 6, 0, [], []), (78, .iastore, 1, 0, 0, 0, [], []), (79, (.aload_n 0), 1, 0, 0, 0, [], []), (80, (.getfield 34), 3, 0, 11, 4, [], []), (83, (.iload 5), 2, 0, 5, 0, [], []), (85, (.iload 4), 2, 0, 4, 0, [], []), (87, .iastore, 1, 0, 0, 0, [], []), (88, (.iload 6), 2, 0, 6, 0, [], []), (90, .ireturn, 1, 0, 0, 0, [], [])]
def tX4_worthOf : List bwE := [(0, (.lconst 0), 1, 0, 0, 0, [], []), (1, (.lstore 4), 2, 0, 4, 0, [], []), (3, (.aload_n 0), 1, 0, 0, 0, [], []), (4, (.invokevirtual 141), 3, 0, 107, 4010, [], []), (7, (.iconst 1), 1, 1, 0, 0, [], []), (8, (.istore 6), 2, 0, 6, 0, [], []), (10, (.iload 6), 2, 0, 6, 0, [], []), (12, (.ifCond .eq 91), 3, 0, 103, 0, [], []), (15, (.iload_n 2), 1, 0, 2, 0, [], []), (16, (.ifCond .lt 13), 3, 0, 29, 0, [], []), (19, (.aload_n 0), 1, 0, 0, 0, [], []), (20, (.getfield 41), 3, 0, 13, 4, [], []), (23, (.iload_n 2), 1, 0, 2, 0, [], []), (24, .iaload, 1, 0, 0, 0, [], []), (25, (.iload_n 3), 1, 0, 3, 0, [], []), (26, (.if_icmp .ne 68), 3, 0, 94, 0, [], []), (29, (.aload_n 0), 1, 0, 0, 0, [], []), (30, (.invokevirtual 144), 3, 0, 109, 4010, [], []), (33, (.lconst 0), 1, 0, 0, 0, [], []), (34, (.lstore 7), 2, 0, 7, 0, [], []), (36, (.iconst 0), 1, 0, 0, 0, [], []), (37, (.istore 9), 2, 0, 9, 0, [], []), (39, (.iload 9), 2, 0, 9, 0, [], []), (41, (.aload_n 0), 1, 0, 0, 0, [], []), (42, (.getfield 82), 3, 0, 1, 4, [], []), (45, (.if_icmp .ge 37), 3, 0, 82, 0, [], []), (48, (.lload 7), 2, 0, 7, 0, [], []), (50, (.aload_n 0), 1, 0, 0, 0, [], []), (51, (.getfield 34), 3, 0, 11, 4, [], []), (54, (.bipush 48), 2, 48, 0, 0, [], []), (56, (.iload_n 1), 1, 0, 1, 0, [], []), (57, .imul, 1, 0, 0, 0, [], []), (58, (.iconst 4), 1, 4, 0, 0, [], []), (59, (.iload 9), 2, 0, 9, 0, [], []), (61, .imul, 1, 0, 0, 0, [], []), (62, .iadd, 1, 0, 0, 0, [], []), (63, (.aload_n 0), 1, 0, 0, 0, [], []), (64, (.getfield 41), 3, 0, 13, 4, [], []), (67, (.iload 9), 2, 0, 9, 0, [], []), (69, .iaload, 1, 0, 0, 0, [], []), (70, .iadd, 1, 0, 0, 0, [], []), (71, .iaload, 1, 0, 0, 0, [], []), (72, .i2l, 1, 0, 0, 0, [], []), (73, .ladd, 1, 0, 0, 0, [], []), (74, (.lstore 7), 2, 0, 7, 0, [], []), (76, (.iinc 9 1), 3, 1, 9, 0, [], []), (79, (.goto (-40)), 3, 0, 39, 0, [], []), (82, (.lload 4), 2, 0, 4, 0, [], []), (84, (.lload 7), 2, 0, 7, 0, [], []), (86, (.aload_n 0), 1, 0, 0, 0, [], []), (87, (.getfield 137), 3, 0, 14, 4, [], []), (90, .lmul, 1, 0, 0, 0, [], []), (91, .ladd, 1, 0, 0, 0, [], []), (92, (.lstore 4), 2, 0, 4, 0, [], []), (94, (.aload_n 0), 1, 0, 0, 0, [7, 9], []), (95, (.invokevirtual 147), 3, 0, 108, 4013, [], []), (98, (.istore 6), 2, 0, 6, 0, [], []), (100, (.goto (-90)), 3, 0, 10, 0, [], []), (103, (.lload 4), 2, 0, 4, 0, [], []), (105, .lreturn, 1, 0, 0, 0, [], [])]
def tX4_greatest : List bwE := [(0, (.aload_n 0), 1, 0, 0, 0, [], []), (1, (.iconst 0), 1, 0, 0, 0, [], []), (2, (.putfield 195), 3, 0, 24, 4, [], []), (5, (.aload_n 0), 1, 0, 0, 0, [], []), (6, (.iconst 0), 1, 0, 0, 0, [], []), (7, (.iload_n 1), 1, 0, 1, 0, [], []), (8, (.iload_n 2), 1, 0, 2, 0, [], []), (9, (.invokevirtual 198), 3, 0, 131, 4042, [], []), (12, (.lstore_n 3), 1, 0, 3, 0, [], []), (13, (.iconst 1), 1, 1, 0, 0, [], []), (14, (.istore 5), 2, 0, 5, 0, [], []), (16, (.iload 5), 2, 0, 5, 0, [6], []), (18, (.aload_n 0), 1, 0, 0, 0, [], []), (19, (.getfield 189), 3, 0, 10, 4, [], []), (22, (.if_icmp .ge 38), 3, 0, 60, 0, [], []), (25, (.aload_n 0), 1, 0, 0, 0, [], []), (26, (.iload 5), 2, 0, 5, 0, [], []), (28, (.iload_n 1), 1, 0, 1, 0, [], []), (29, (.iload_n 2), 1, 0, 2, 0, [], []), (30, (.invokevirtual 198), 3, 0, 131, 4042, [], []), (33, (.lstore 6), 2, 0, 6, 0, [], []), (35, (.lload 6), 2, 0, 6, 0, [], []), (37, (.lload_n 3), 1, 0, 3, 0, [], []), (38, .lcmp, 1, 0, 0, 0, [], []), (39, (.ifCond .gt 6), 3, 0, 45, 0, [], []), (42, (.goto 12), 3, 0, 54, 0, [], []), (45, (.lload 6), 2, 0, 6, 0, [], []), (47, (.lstore_n 3), 1, 0, 3, 0, [], []), (48, (.aload_n 0), 1, 0, 0, 0, [], []), (49, (.iload 5), 2, 0, 5, 0, [], []), (51, (.putfield 195), 3, 0, 24, 4, [], []), (54, (.iinc 5 1), 3, 1, 5, 0, [], []), (57, (.goto (-41)), 3, 0, 16, 0, [], []), (60, (.lload_n 3), 1, 0, 3, 0, [], []), (61, .lreturn, 1, 0, 0, 0, [], [])]
def tX4_expected : List bwE := [(0, (.aload_n 0), 1, 0, 0, 0, [], []), (1, (.iload_n 1), 1, 0, 1, 0, [], []), (2, (.invokevirtual 192), 3, 0, 129, 4023, [], []), (5, (.ifCond .ne 5), 3, 0, 10, 0, [], []), (8, (.iconst (-1)), 1, (-1), 0, 0, [], []), (9, .ireturn, 1, 0, 0, 0, [], []), (10, (.aload_n 0), 1, 0, 0, 0, [], []), (11, (.invokevirtual 172), 3, 0, 117, 4011, [], []), (14, (.istore_n 2), 1, 0, 2, 0, [], []), (15, (.iload_n 2), 1, 0, 2, 0, [], []), (16, (.ifCond .ge 7), 3, 0, 23, 0, [], []), (19, (.iload_n 2), 1, 0, 2, 0, [], []), (20, (.goto 18), 3, 0, 38, 0, [], []), (23, (.aload_n 0), 1, 0, 0, 0, [], []), (24, (.aload_n 0), 1, 0, 0, 0, [], []), (25, (.iload_n 1), 1, 0, 1, 0, [], []), (26, (.iconst (-1)), 1, (-1), 0, 0, [], []), (27, (.iconst 0), 1, 0, 0, 0, [], []), (28, (.invokevirtual 198), 3, 0, 131, 4042, [], []), (31, (.aload_n 0), 1, 0, 0, 0, [], []), (32, (.invokevirtual 164), 3, 0, 111, 4012, [], []), (35, (.invokevirtual 168), 3, 0, 113, 4031, [], []), (38, .ireturn, 1, 0, 0, 0, [], [])]
def tX4_best : List bwE := [(0, (.aload_n 0), 1, 0, 0, 0, [], []), (1, (.getfield 189), 3, 0, 10, 4, [], []), (4, (.ifCond .ne 5), 3, 0, 9, 0, [], []), (7, (.iconst (-1)), 1, (-1), 0, 0, [], []), (8, .ireturn, 1, 0, 0, 0, [], []), (9, (.aload_n 0), 1, 0, 0, 0, [], []), (10, (.invokevirtual 172), 3, 0, 117, 4011, [], []), (13, (.istore_n 1), 1, 0, 1, 0, [], []), (14, (.iload_n 1), 1, 0, 1, 0, [], []), (15, (.ifCond .ge 5), 3, 0, 20, 0, [], []), (18, (.iload_n 1), 1, 0, 1, 0, [], []), (19, .ireturn, 1, 0, 0, 0, [], []), (20, (.aload_n 0), 1, 0, 0, 0, [], []), (21, (.iconst (-1)), 1, (-1), 0, 0, [], []), (22, (.iconst 0), 1, 0, 0, 0, [], []), (23, (.invokevirtual 202), 3, 0, 132, 4032, [], []), (26, (.lstore_n 2), 1, 0, 2, 0, [], []), (27, (.aload_n 0), 1, 0, 0, 0, [], []), (28, (.getfield 195), 3, 0, 24, 4, [], []), (31, (.istore 4), 2, 0, 4, 0, [], []), (33, (.aload_n 0), 1, 0, 0, 0, [], []), (34, (.lload_n 2), 1, 0, 2, 0, [], []), (35, (.aload_n 0), 1, 0, 0, 0, [], []), (36, (.invokevirtual 164), 3, 0, 111, 4012, [], []), (39, (.invokevirtual 168), 3, 0, 113, 4031, [], []), (42, (.istore 5), 2, 0, 5, 0, [], []), (44, (.iload 4), 2, 0, 4, 0, [], []), (46, .ireturn, 1, 0, 0, 0, [], [])]
def tX4_isKnown : List bwE := [(0, (.aload_n 0), 1, 0, 0, 0, [], []), (1, (.getfield 25), 3, 0, 7, 4, [], []), (4, (.iload_n 1), 1, 0, 1, 0, [], []), (5, .iaload, 1, 0, 0, 0, [], []), (6, (.ifCond .ge 12), 3, 0, 18, 0, [], []), (9, (.aload_n 0), 1, 0, 0, 0, [], []), (10, (.getfield 28), 3, 0, 8, 4, [], []), (13, (.iload_n 1), 1, 0, 1, 0, [], []), (14, .iaload, 1, 0, 0, 0, [], []), (15, (.ifCond .lt 7), 3, 0, 22, 0, [], []), (18, (.iconst 1), 1, 1, 0, 0, [], []), (19, (.goto 4), 3, 0, 23, 0, [], []), (22, (.iconst 0), 1, 0, 0, 0, [], []), (23, .ireturn, 1, 0, 0, 0, [], [])]
def tX4_gainOf : List bwE := [(0, (.aload_n 0), 1, 0, 0, 0, [], []), (1, (.iload_n 1), 1, 0, 1, 0, [], []), (2, (.invokevirtual 206), 3, 0, 135, 4023, [], []), (5, (.ifCond .eq 5), 3, 0, 10, 0, [], []), (8, (.lconst 0), 1, 0, 0, 0, [], []), (9, .lreturn, 1, 0, 0, 0, [], []), (10, (.aload_n 0), 1, 0, 0, 0, [], []), (11, (.iconst (-1)), 1, (-1), 0, 0, [], []), (12, (.iconst 0), 1, 0, 0, 0, [], []), (13, (.invokevirtual 202), 3, 0, 132, 4032, [], []), (16, .lneg, 1, 0, 0, 0, [], []), (17, (.lstore_n 2), 1, 0, 2, 0, [], []), (18, (.iconst 0), 1, 0, 0, 0, [], []), (19, (.istore 4), 2, 0, 4, 0, [], []), (21, (.iload 4), 2, 0, 4, 0, [], []), (23, (.aload_n 0), 1, 0, 0, 0, [], []), (24, (.getfield 7), 3, 0, 2, 4, [], []), (27, (.iload_n 1), 1, 0, 1, 0, [], []), (28, .iaload, 1, 0, 0, 0, [], []), (29, (.if_icmp .ge 19), 3, 0, 48, 0, [], []), (32, (.lload_n 2), 1, 0, 2, 0, [], []), (33, (.aload_n 0), 1, 0, 0, 0, [], []), (34, (.iload_n 1), 1, 0, 1, 0, [], []), (35, (.iload 4), 2, 0, 4, 0, [], []), (37, (.invokevirtual 202), 3, 0, 132, 4032, [], []), (40, .ladd, 1, 0, 0, 0, [], []), (41, (.lstore_n 2), 1, 0, 2, 0, [], []), (42, (.iinc 4 1), 3, 1, 4, 0, [], []), (45, (.goto (-24)), 3, 0, 21, 0, [], []), (48, (.lload_n 2), 1, 0, 2, 0, [], []), (49, .lreturn, 1, 0, 0, 0, [], [])]
def tX4_gain : List bwE := [(0, (.aload_n 0), 1, 0, 0, 0, [], []), (1, (.getfield 189), 3, 0, 10, 4, [], []), (4, (.ifCond .eq 11), 3, 0, 15, 0, [], []), (7, (.aload_n 0), 1, 0, 0, 0, [], []), (8, (.iload_n 1), 1, 0, 1, 0, [], []), (9, (.invokevirtual 85), 3, 0, 85, 4023, [], []), (12, (.ifCond .ne 5), 3, 0, 17, 0, [], []), (15, (.iconst (-1)), 1, (-1), 0, 0, [], []), (16, .ireturn, 1, 0, 0, 0, [], []), (17, (.aload_n 0), 1, 0, 0, 0, [], []), (18, (.invokevirtual 172), 3, 0, 117, 4011, [], []), (21, (.istore_n 2), 1, 0, 2, 0, [], []), (22, (.iload_n 2), 1, 0, 2, 0, [], []), (23, (.ifCond .ge 7), 3, 0, 30, 0, [], []), (26, (.iload_n 2), 1, 0, 2, 0, [], []), (27, (.goto 16), 3, 0, 43, 0, [], []), (30, (.aload_n 0), 1, 0, 0, 0, [], []), (31, (.aload_n 0), 1, 0, 0, 0, [], []), (32, (.iload_n 1), 1, 0, 1, 0, [], []), (33, (.invokevirtual 209), 3, 0, 136, 4022, [], []), (36, (.aload_n 0), 1, 0, 0, 0, [], []), (37, (.invokevirtual 164), 3, 0, 111, 4012, [], []), (40, (.invokevirtual 168), 3, 0, 113, 4031, [], []), (43, .ireturn, 1, 0, 0, 0, [], [])]
def tX4_next : List bwE := [(0, (.aload_n 0), 1, 0, 0, 0, [], []), (1, (.getfield 189), 3, 0, 10, 4, [], []), (4, (.ifCond .ne 5), 3, 0, 9, 0, [], []), (7, (.iconst (-1)), 1, (-1), 0, 0, [], []), (8, .ireturn, 1, 0, 0, 0, [], []), (9, (.aload_n 0), 1, 0, 0, 0, [], []), (10, (.invokevirtual 172), 3, 0, 117, 4011, [], []), (13, (.istore_n 1), 1, 0, 1, 0, [], []), (14, (.iload_n 1), 1, 0, 1, 0, [], []), (15, (.ifCond .ge 5), 3, 0, 20, 0, [], []), (18, (.iload_n 1), 1, 0, 1, 0, [], []), (19, .ireturn, 1, 0, 0, 0, [], []), (20, (.bipush (-6)), 2, (-6), 0, 0, [], []), (22, (.istore_n 2), 1, 0, 2, 0, [], []), (23, (.lconst 0), 1, 0, 0, 0, [], []), (24, (.lstore_n 3), 1, 0, 3, 0, [], []), (25, (.iconst 0), 1, 0, 0, 0, [], []), (26, (.istore 5), 2, 0, 5, 0, [], []), (28, (.iload 5), 2, 0, 5, 0, [], []), (30, (.aload_n 0), 1, 0, 0, 0, [], []), (31, (.getfield 82), 3, 0, 1, 4, [], []), (34, (.if_icmp .ge 49), 3, 0, 83, 0, [], []), (37, (.aload_n 0), 1, 0, 0, 0, [], []), (38, (.iload 5), 2, 0, 5, 0, [], []), (40, (.invokevirtual 206), 3, 0, 135, 4023, [], []), (43, (.ifCond .eq 6), 3, 0, 49, 0, [], []), (46, (.goto 31), 3, 0, 77, 0, [], []), (49, (.aload_n 0), 1, 0, 0, 0, [], []), (50, (.iload 5), 2, 0, 5, 0, [], []), (52, (.invokevirtual 209), 3, 0, 136, 4022, [], []), (55, (.lstore 6), 2, 0, 6, 0, [], []), (57, (.iload_n 2), 1, 0, 2, 0, [], []), (58, (.ifCond .lt 13), 3, 0, 71, 0, [], []), (61, (.lload 6), 2, 0, 6, 0, [], []), (63, (.lload_n 3), 1, 0, 3, 0, [], []), (64, .lcmp, 1, 0, 0, 0, [], []), (65, (.ifCond .gt 6), 3, 0, 71, 0, [], []), (68, (.goto 9), 3, 0, 77, 0, [], []), (71, (.iload 5), 2, 0, 5, 0, [], []), (73, (.istore_n 2), 1, 0, 2, 0, [], []), (74, (.lload 6), 2, 0, 6, 0, [], []), (76, (.lstore_n 3), 1, 0, 3, 0, [], []), (77, (.iinc 5 1), 3, 1, 5, 0, [6], []), (80, (.goto (-52)), 3, 0, 28, 0, [], []), (83, (.iload_n 2), 1, 0, 2, 0, [], []), (84, (.ifCond .lt 14), 3, 0, 98, 0, [], []), (87, (.aload_n 0), 1, 0, 0, 0, [], []), (88, (.lload_n 3), 1, 0, 3, 0, [], []), (89, (.aload_n 0), 1, 0, 0, 0, [], []), (90, (.invokevirtual 164), 3, 0, 111, 4012, [], []), (93, (.invokevirtual 168), 3, 0, 113, 4031, [], []), (96, (.istore 5), 2, 0, 5, 0, [], []), (98, (.iload_n 2), 1, 0, 2, 0, [], []), (99, .ireturn, 1, 0, 0, 0, [], [])]
def tX4_note : List bwE := [(0, (.aload_n 0), 1, 0, 0, 0, [], []), (1, (.getfield 97), 3, 0, 25, 4, [], []), (4, (.bipush 100), 2, 100, 0, 0, [], []), (6, (.if_icmp .ne 130), 3, 0, 136, 0, [], []), (9, (.iconst 0), 1, 0, 0, 0, [], []), (10, (.istore_n 3), 1, 0, 3, 0, [], []), (11, (.iload_n 3), 1, 0, 3, 0, [4], []), (12, (.iconst 1), 1, 1, 0, 0, [], []), (13, .iadd, 1, 0, 0, 0, [], []), (14, (.bipush 100), 2, 100, 0, 0, [], []), (16, (.if_icmp .ge 110), 3, 0, 126, 0, [], []), (19, (.aload_n 0), 1, 0, 0, 0, [], []), (20, (.getfield 63), 3, 0, 26, 4, [], []), (23, (.iload_n 3), 1, 0, 3, 0, [], []), (24, (.aload_n 0), 1, 0, 0, 0, [], []), (25, (.getfield 63), 3, 0, 26, 4, [], []), (28, (.iload_n 3), 1, 0, 3, 0, [], []), (29, (.iconst 1), 1, 1, 0, 0, [], []), (30, .iadd, 1, 0, 0, 0, [], []), (31, .iaload, 1, 0, 0, 0, [], []), (32, .iastore, 1, 0, 0, 0, [], []), (33, (.aload_n 0), 1, 0, 0, 0, [], []), (34, (.getfield 66), 3, 0, 27, 4, [], []), (37, (.iload_n 3), 1, 0, 3, 0, [], []), (38, (.aload_n 0), 1, 0, 0, 0, [], []), (39, (.getfield 66), 3, 0, 27, 4, [], []), (42, (.iload_n 3), 1, 0, 3, 0, [], []), (43, (.iconst 1), 1, 1, 0, 0, [], []), (44, .iadd, 1, 0, 0, 0, [], []), (45, .iaload, 1, 0, 0, 0, [], []), (46, .iastore, 1, 0, 0, 0, [], []), (47, (.aload_n 0), 1, 0, 0, 0, [], []), (48, (.getfield 69), 3, 0, 28, 4, [], []), (51, (.iload_n 3), 1, 0, 3, 0, [], []), (52, (.aload_n 0), 1, 0, 0, 0, [], []), (53, (.getfield 69), 3, 0, 28, 4, [], []), (56, (.iload_n 3), 1, 0, 3, 0, [], []), (57, (.iconst 1), 1, 1, 0, 0, [], []), (58, .iadd, 1, 0, 0, 0, [], []), (59, .iaload, 1, 0, 0, 0, [], []), (60, .iastore, 1, 0, 0, 0, [], []), (61, (.aload_n 0), 1, 0, 0, 0, [], []), (62, (.getfield 72), 3, 0, 29, 4, [], []), (65, (.iload_n 3), 1, 0, 3, 0, [], []), (66, (.aload_n 0), 1, 0, 0, 0, [], []), (67, (.getfield 72), 3, 0, 29, 4, [], []), (70, (.iload_n 3), 1, 0, 3, 0, [], []), (71, (.iconst 1), 1, 1, 0, 0, [], []), (72, .iadd, 1, 0, 0, 0, [], []), (73, .iaload, 1, 0, 0, 0, [], []), (74, .iastore, 1, 0, 0, 0, [], []), (75, (.iconst 0), 1, 0, 0, 0, [], []), (76, (.istore 4), 2, 0, 4, 0, [], []), (78, (.iload 4), 2, 0, 4, 0, [], []), (80, (.sipush 300), 3, 300, 0, 0, [], []), (83, (.if_icmp .ge 37), 3, 0, 120, 0, [], []), (86, (.aload_n 0), 1, 0, 0, 0, [], []), (87, (.getfield 75), 3, 0, 30, 4, [], []), (90, (.sipush 300), 3, 300, 0, 0, [], []), (93, (.iload_n 3), 1, 0, 3, 0, [], []), (94, .imul, 1, 0, 0, 0, [], []), (95, (.iload 4), 2, 0, 4, 0, [], []), (97, .iadd, 1, 0, 0, 0, [], []), (98, (.aload_n 0), 1, 0, 0, 0, [], []), (99, (.getfield 75), 3, 0, 30, 4, [], []), (102, (.sipush 300), 3, 300, 0, 0, [], []), (105, (.iload_n 3), 1, 0, 3, 0, [], []), (106, (.iconst 1), 1, 1, 0, 0, [], []), (107, .iadd, 1, 0, 0, 0, [], []), (108, .imul, 1, 0, 0, 0, [], []), (109, (.iload 4), 2, 0, 4, 0, [], []), (111, .iadd, 1, 0, 0, 0, [], []), (112, .iaload, 1, 0, 0, 0, [], []), (113, .iastore, 1, 0, 0, 0, [], []), (114, (.iinc 4 1), 3, 1, 4, 0, [], []), (117, (.goto (-39)), 3, 0, 78, 0, [], []), (120, (.iinc 3 1), 3, 1, 3, 0, [], []), (123, (.goto (-112)), 3, 0, 11, 0, [], []), (126, (.aload_n 0), 1, 0, 0, 0, [], []), (127, .dup, 1, 0, 0, 0, [], []), (128, (.getfield 97), 3, 0, 25, 4, [], []), (131, (.iconst 1), 1, 1, 0, 0, [], []), (132, .isub, 1, 0, 0, 0, [], []), (133, (.putfield 97), 3, 0, 25, 4, [], []), (136, (.sipush 300), 3, 300, 0, 0, [3], []), (139, (.aload_n 0), 1, 0, 0, 0, [], []), (140, (.getfield 97), 3, 0, 25, 4, [], []), (143, .imul, 1, 0, 0, 0, [], []), (144, (.istore_n 3), 1, 0, 3, 0, [], []), (145, (.aload_n 0), 1, 0, 0, 0, [], []), (146, (.getfield 63), 3, 0, 26, 4, [], []), (149, (.aload_n 0), 1, 0, 0, 0, [], []), (150, (.getfield 97), 3, 0, 25, 4, [], []), (153, (.iload_n 1), 1, 0, 1, 0, [], []), (154, .iastore, 1, 0, 0, 0, [], []), (155, (.aload_n 0), 1, 0, 0, 0, [], []), (156, (.getfield 66), 3, 0, 27, 4, [], []), (159, (.aload_n 0), 1, 0, 0, 0, [], []), (160, (.getfield 97), 3, 0, 25, 4, [], []), (163, (.iload_n 2), 1, 0, 2, 0, [], []), (164, .iastore, 1, 0, 0, 0, [], []), (165, (.aload_n 0), 1, 0, 0, 0, [], []), (166, (.getfield 69), 3, 0, 28, 4, [], []), (169, (.aload_n 0), 1, 0, 0, 0, [], []), (170, (.getfield 97), 3, 0, 25, 4, [], []), (173, (.iload_n 1), 1, 0, 1, 0, [], []), (174, (.iconst 1), 1, 1, 0, 0, [], []), (175, (.if_icmp .ne 12), 3, 0, 187, 0, [], []), (178, (.aload_n 0), 1, 0, 0, 0, [], []), (179, (.getfield 16), 3, 0, 4, 4, [], []), (182, (.iload_n 2), 1, 0, 2, 0, [], []), (183, .iaload, 1, 0, 0, 0, [], []), (184, (.goto 7), 3, 0, 191, 0, [], []), (187, (.aload_n 0), 1, 0, 0, 0, [], []), (188, (.getfield 189), 3, 0, 10, 4, [], []), (191, .iastore, 1, 0, 0, 0, [], []), (192, (.iconst 0), 1, 0, 0, 0, [], []), (193, (.istore 4), 2, 0, 4, 0, [], []), (195, (.iload 4), 2, 0, 4, 0, [], []), (197, (.sipush 256), 3, 256, 0, 0, [], []), (200, (.if_icmp .ge 36), 3, 0, 236, 0, [], []), (203, (.iload_n 1), 1, 0, 1, 0, [], []), (204, (.iconst 1), 1, 1, 0, 0, [], []), (205, (.if_icmp .ne 31), 3, 0, 236, 0, [], []), (208, (.aload_n 0), 1, 0, 0, 0, [], []), (209, (.getfield 75), 3, 0, 30, 4, [], []), (212, (.iload_n 3), 1, 0, 3, 0, [], []), (213, (.iload 4), 2, 0, 4, 0, [], []), (215, .iadd, 1, 0, 0, 0, [], []), (216, (.aload_n 0), 1, 0, 0, 0, [], []), (217, (.getfield 22), 3, 0, 6, 4, [], []), (220, (.sipush 256), 3, 256, 0, 0, [], []), (223, (.iload_n 2), 1, 0, 2, 0, [], []), (224, .imul, 1, 0, 0, 0, [], []), (225, (.iload 4), 2, 0, 4, 0, [], []), (227, .iadd, 1, 0, 0, 0, [], []), (228, .iaload, 1, 0, 0, 0, [], []), (229, .iastore, 1, 0, 0, 0, [], []), (230, (.iinc 4 1), 3, 1, 4, 0, [], []), (233, (.goto (-38)), 3, 0, 195, 0, [], []), (236, (.iconst 0), 1, 0, 0, 0, [], []), (237, (.istore 4), 2, 0, 4, 0, [], []), (239, (.iload 4), 2, 0, 4, 0, [], []), (241, (.iconst 3), 1, 3, 0, 0, [], []), (242, (.if_icmp .ge 38), 3, 0, 280, 0, [], []), (245, (.iload_n 1), 1, 0, 1, 0, [], []), (246, (.iconst 1), 1, 1, 0, 0, [], []), (247, (.if_icmp .ne 33), 3, 0, 280, 0, [], []), (250, (.aload_n 0), 1, 0, 0, 0, [], []), (251, (.getfield 75), 3, 0, 30, 4, [], []), (254, (.iload_n 3), 1, 0, 3, 0, [], []), (255, (.sipush 256), 3, 256, 0, 0, [], []), (258, .iadd, 1, 0, 0, 0, [], []), (259, (.iload 4), 2, 0, 4, 0, [], []), (261, .iadd, 1, 0, 0, 0, [], []), (262, (.aload_n 0), 1, 0, 0, 0, [], []), (263, (.getfield 19), 3, 0, 5, 4, [], []), (266, (.iconst 3), 1, 3, 0, 0, [], []), (267, (.iload_n 2), 1, 0, 2, 0, [], []), (268, .imul, 1, 0, 0, 0, [], []), (269, (.iload 4), 2, 0, 4, 0, [], []), (271, .iadd, 1, 0, 0, 0, [], []), (272, .iaload, 1, 0, 0, 0, [], []), (273, .iastore, 1, 0, 0, 0, [], []), (274, (.iinc 4 1), 3, 1, 4, 0, [], []), (277, (.goto (-38)), 3, 0, 239, 0, [], []), (280, (.iconst 0), 1, 0, 0, 0, [], []), (281, (.istore 4), 2, 0, 4, 0, [], []), (283, (.iload 4), 2, 0, 4, 0, [], []), (285, (.sipush 288), 3, 288, 0, 0, [], []), (288, (.if_icmp .ge 30), 3, 0, 318, 0, [], []), (291, (.iload_n 1), 1, 0, 1, 0, [], []), (292, (.iconst 5), 1, 5, 0, 0, [], []), (293, (.if_icmp .ne 25), 3, 0, 318, 0, [], []), (296, (.aload_n 0), 1, 0, 0, 0, [], []), (297, (.getfield 75), 3, 0, 30, 4, [], []), (300, (.iload_n 3), 1, 0, 3, 0, [], []), (301, (.iload 4), 2, 0, 4, 0, [], []), (303, .iadd, 1, 0, 0, 0, [], []), (304, (.aload_n 0), 1, 0, 0, 0, [], []), (305, (.getfield 34), 3, 0, 11, 4, [], []), (308, (.iload 4), 2, 0, 4, 0, [], []), (310, .iaload, 1, 0, 0, 0, [], []), (311, .iastore, 1, 0, 0, 0, [], []), (312, (.iinc 4 1), 3, 1, 4, 0, [], []), (315, (.goto (-32)), 3, 0, 283, 0, [], []), (318, (.aload_n 0), 1, 0, 0, 0, [], []), (319, .dup, 1, 0, 0, 0, [], []), (320, (.getfield 97), 3, 0, 25, 4, [], []), (323, (.iconst 1), 1, 1, 0, 0, [], []), (324, .iadd, 1, 0, 0, 0, [], []), (325, (.putfield 97), 3, 0, 25, 4, [], []), (328, .return_, 1, 0, 0, 0, [], [])]
def tX4_undo : List bwE := [(0, (.aload_n 0), 1, 0, 0, 0, [], []), (1, (.getfield 97), 3, 0, 25, 4, [], []), (4, (.ifCond .ne 5), 3, 0, 9, 0, [], []), (7, (.iconst (-1)), 1, (-1), 0, 0, [], []), (8, .ireturn, 1, 0, 0, 0, [], []), (9, (.aload_n 0), 1, 0, 0, 0, [], []), (10, .dup, 1, 0, 0, 0, [], []), (11, (.getfield 97), 3, 0, 25, 4, [], []), (14, (.iconst 1), 1, 1, 0, 0, [], []), (15, .isub, 1, 0, 0, 0, [], []), (16, (.putfield 97), 3, 0, 25, 4, [], []), (19, (.aload_n 0), 1, 0, 0, 0, [], []), (20, (.getfield 66), 3, 0, 27, 4, [], []), (23, (.aload_n 0), 1, 0, 0, 0, [], []), (24, (.getfield 97), 3, 0, 25, 4, [], []), (27, .iaload, 1, 0, 0, 0, [], []), (28, (.istore_n 1), 1, 0, 1, 0, [], []), (29, (.sipush 300), 3, 300, 0, 0, [], []), (32, (.aload_n 0), 1, 0, 0, 0, [], []), (33, (.getfield 97), 3, 0, 25, 4, [], []), (36, .imul, 1, 0, 0, 0, [], []), (37, (.istore_n 2), 1, 0, 2, 0, [], []), (38, (.aload_n 0), 1, 0, 0, 0, [], []), (39, (.getfield 63), 3, 0, 26, 4, [], []), (42, (.aload_n 0), 1, 0, 0, 0, [], []), (43, (.getfield 97), 3, 0, 25, 4, [], []), (46, .iaload, 1, 0, 0, 0, [], []), (47, (.tableswitch 235 1 5 #[33, 121, 139, 172, 190]), 33, 0, 282, 0, [], [(1, 80), (2, 168), (3, 186), (4, 219), (5, 237)]), (80, (.aload_n 0), 1, 0, 0, 0, [], []), (81, (.getfield 16), 3, 0, 4, 4, [], []), (84, (.iload_n 1), 1, 0, 1, 0, [], []), (85, (.aload_n 0), 1, 0, 0, 0, [], []), (86, (.getfield 69), 3, 0, 28, 4, [], []), (89, (.aload_n 0), 1, 0, 0, 0, [], []), (90, (.getfield 97), 3, 0, 25, 4, [], []), (93, .iaload, 1, 0, 0, 0, [], []), (94, .iastore, 1, 0, 0, 0, [], []), (95, (.iconst 0), 1, 0, 0, 0, [], []), (96, (.istore_n 3), 1, 0, 3, 0, [], []), (97, (.iload_n 3), 1, 0, 3, 0, [], []), (98, (.sipush 256), 3, 256, 0, 0, [], []), (101, (.if_icmp .ge 29), 3, 0, 130, 0, [], []), (104, (.aload_n 0), 1, 0, 0, 0, [], []), (105, (.getfield 22), 3, 0, 6, 4, [], []), (108, (.sipush 256), 3, 256, 0, 0, [], []), (111, (.iload_n 1), 1, 0, 1, 0, [], []), (112, .imul, 1, 0, 0, 0, [], []), (113, (.iload_n 3), 1, 0, 3, 0, [], []), (114, .iadd, 1, 0, 0, 0, [], []), (115, (.aload_n 0), 1, 0, 0, 0, [], []), (116, (.getfield 75), 3, 0, 30, 4, [], []), (119, (.iload_n 2), 1, 0, 2, 0, [], []), (120, (.iload_n 3), 1, 0, 3, 0, [], []), (121, .iadd, 1, 0, 0, 0, [], []), (122, .iaload, 1, 0, 0, 0, [], []), (123, .iastore, 1, 0, 0, 0, [], []), (124, (.iinc 3 1), 3, 1, 3, 0, [], []), (127, (.goto (-30)), 3, 0, 97, 0, [], []), (130, (.iconst 0), 1, 0, 0, 0, [], []), (131, (.istore_n 3), 1, 0, 3, 0, [], []), (132, (.iload_n 3), 1, 0, 3, 0, [], []), (133, (.iconst 3), 1, 3, 0, 0, [], []), (134, (.if_icmp .ge 31), 3, 0, 165, 0, [], []), (137, (.aload_n 0), 1, 0, 0, 0, [], []), (138, (.getfield 19), 3, 0, 5, 4, [], []), (141, (.iconst 3), 1, 3, 0, 0, [], []), (142, (.iload_n 1), 1, 0, 1, 0, [], []), (143, .imul, 1, 0, 0, 0, [], []), (144, (.iload_n 3), 1, 0, 3, 0, [], []), (145, .iadd, 1, 0, 0, 0, [], []), (146, (.aload_n 0), 1, 0, 0, 0, [], []), (147, (.getfield 75), 3, 0, 30, 4, [], []), (150, (.iload_n 2), 1, 0, 2, 0, [], []), (151, (.sipush 256), 3, 256, 0, 0, [], []), (154, .iadd, 1, 0, 0, 0, [], []), (155, (.iload_n 3), 1, 0, 3, 0, [], []), (156, .iadd, 1, 0, 0, 0, [], []), (157, .iaload, 1, 0, 0, 0, [], []), (158, .iastore, 1, 0, 0, 0, [], []), (159, (.iinc 3 1), 3, 1, 3, 0, [], []), (162, (.goto (-30)), 3, 0, 132, 0, [], []), (165, (.goto 132), 3, 0, 297, 0, [], []), (168, (.aload_n 0), 1, 0, 0, 0, [], []), (169, (.getfield 22), 3, 0, 6, 4, [], []), (172, (.iload_n 1), 1, 0, 1, 0, [], []), (173, (.aload_n 0), 1, 0, 0, 0, [], []), (174, (.getfield 69), 3, 0, 28, 4, [], []), (177, (.aload_n 0), 1, 0, 0, 0, [], []), (178, (.getfield 97), 3, 0, 25, 4, [], []), (181, .iaload, 1, 0, 0, 0, [], []), (182, .iastore, 1, 0, 0, 0, [], []), (183, (.goto 114), 3, 0, 297, 0, [], []), (186, (.aload_n 0), 1, 0, 0, 0, [], []), (187, (.getfield 25), 3, 0, 7, 4, [], []), (190, (.iload_n 1), 1, 0, 1, 0, [], []), (191, (.aload_n 0), 1, 0, 0, 0, [], []), (192, (.getfield 69), 3, 0, 28, 4, [], []), (195, (.aload_n 0), 1, 0, 0, 0, [], []), (196, (.getfield 97), 3, 0, 25, 4, [], []), (199, .iaload, 1, 0, 0, 0, [], []), (200, .iastore, 1, 0, 0, 0, [], []), (201, (.aload_n 0), 1, 0, 0, 0, [], []), (202, (.getfield 28), 3, 0, 8, 4, [], []), (205, (.iload_n 1), 1, 0, 1, 0, [], []), (206, (.aload_n 0), 1, 0, 0, 0, [], []), (207, (.getfield 72), 3, 0, 29, 4, [], []), (210, (.aload_n 0), 1, 0, 0, 0, [], []), (211, (.getfield 97), 3, 0, 25, 4, [], []), (214, .iaload, 1, 0, 0, 0, [], []), (215, .iastore, 1, 0, 0, 0, [], []), (216, (.goto 81), 3, 0, 297, 0, [], []), (219, (.aload_n 0), 1, 0, 0, 0, [], []), (220, (.getfield 31), 3, 0, 9, 4, [], []), (223, (.iload_n 1), 1, 0, 1, 0, [], []), (224, (.aload_n 0), 1, 0, 0, 0, [], []), (225, (.getfield 69), 3, 0, 28, 4, [], []), (228, (.aload_n 0), 1, 0, 0, 0, [], []), (229, (.getfield 97), 3, 0, 25, 4, [], []), (232, .iaload, 1, 0, 0, 0, [], []), (233, .iastore, 1, 0, 0, 0, [], []), (234, (.goto 63), 3, 0, 297, 0, [], []), (237, (.aload_n 0), 1, 0, 0, 0, [], []), (238, (.aload_n 0), 1, 0, 0, 0, [], []), (239, (.getfield 69), 3, 0, 28, 4, [], []), (242, (.aload_n 0), 1, 0, 0, 0, [], []), (243, (.getfield 97), 3, 0, 25, 4, [], []), (246, .iaload, 1, 0, 0, 0, [], []), (247, (.putfield 189), 3, 0, 10, 4, [], []), (250, (.iconst 0), 1, 0, 0, 0, [], []), (251, (.istore_n 3), 1, 0, 3, 0, [], []), (252, (.iload_n 3), 1, 0, 3, 0, [], []), (253, (.sipush 288), 3, 288, 0, 0, [], []), (256, (.if_icmp .ge 23), 3, 0, 279, 0, [], []), (259, (.aload_n 0), 1, 0, 0, 0, [], []), (260, (.getfield 34), 3, 0, 11, 4, [], []), (263, (.iload_n 3), 1, 0, 3, 0, [], []), (264, (.aload_n 0), 1, 0, 0, 0, [], []), (265, (.getfield 75), 3, 0, 30, 4, [], []), (268, (.iload_n 2), 1, 0, 2, 0, [], []), (269, (.iload_n 3), 1, 0, 3, 0, [], []), (270, .iadd, 1, 0, 0, 0, [], []), (271, .iaload, 1, 0, 0, 0, [], []), (272, .iastore, 1, 0, 0, 0, [], []), (273, (.iinc 3 1), 3, 1, 3, 0, [], []), (276, (.goto (-24)), 3, 0, 252, 0, [], []), (279, (.goto 18), 3, 0, 297, 0, [], []), (282, (.aload_n 0), 1, 0, 0, 0, [], []), (283, (.getfield 34), 3, 0, 11, 4, [], []), (286, (.iload_n 1), 1, 0, 1, 0, [], []), (287, (.aload_n 0), 1, 0, 0, 0, [], []), (288, (.getfield 69), 3, 0, 28, 4, [], []), (291, (.aload_n 0), 1, 0, 0, 0, [], []), (292, (.getfield 97), 3, 0, 25, 4, [], []), (295, .iaload, 1, 0, 0, 0, [], []), (296, .iastore, 1, 0, 0, 0, [], []), (297, (.aload_n 0), 1, 0, 0, 0, [3], []), (298, (.getfield 97), 3, 0, 25, 4, [], []), (301, .ireturn, 1, 0, 0, 0, [], [])]
def tX4_count : List bwE := [(0, (.iconst 0), 1, 0, 0, 0, [], []), (1, (.istore_n 2), 1, 0, 2, 0, [], []), (2, (.iconst 0), 1, 0, 0, 0, [], []), (3, (.istore_n 3), 1, 0, 3, 0, [], []), (4, (.iload_n 3), 1, 0, 3, 0, [], []), (5, (.aload_n 0), 1, 0, 0, 0, [], []), (6, (.getfield 82), 3, 0, 1, 4, [], []), (9, (.if_icmp .ge 18), 3, 0, 27, 0, [], []), (12, (.iload_n 2), 1, 0, 2, 0, [], []), (13, (.aload_n 0), 1, 0, 0, 0, [], []), (14, (.getfield 16), 3, 0, 4, 4, [], []), (17, (.iload_n 3), 1, 0, 3, 0, [], []), (18, .iaload, 1, 0, 0, 0, [], []), (19, .iadd, 1, 0, 0, 0, [], []), (20, (.istore_n 2), 1, 0, 2, 0, [], []), (21, (.iinc 3 1), 3, 1, 3, 0, [], []), (24, (.goto (-20)), 3, 0, 4, 0, [], []), (27, (.iload_n 1), 1, 0, 1, 0, [], []), (28, (.ifCond .ne 10), 3, 0, 38, 0, [], []), (31, (.aload_n 0), 1, 0, 0, 0, [], []), (32, (.getfield 82), 3, 0, 1, 4, [], []), (35, (.goto 37), 3, 0, 72, 0, [], []), (38, (.iload_n 1), 1, 0, 1, 0, [], []), (39, (.iconst 1), 1, 1, 0, 0, [], []), (40, (.if_icmp .ne 7), 3, 0, 47, 0, [], []), (43, (.iload_n 2), 1, 0, 2, 0, [], []), (44, (.goto 28), 3, 0, 72, 0, [], []), (47, (.iload_n 1), 1, 0, 1, 0, [], []), (48, (.iconst 2), 1, 2, 0, 0, [], []), (49, (.if_icmp .ne 10), 3, 0, 59, 0, [], []), (52, (.aload_n 0), 1, 0, 0, 0, [], []), (53, (.getfield 189), 3, 0, 10, 4, [], []), (56, (.goto 16), 3, 0, 72, 0, [], []), (59, (.iload_n 1), 1, 0, 1, 0, [], []), (60, (.iconst 3), 1, 3, 0, 0, [], []), (61, (.if_icmp .ne 10), 3, 0, 71, 0, [], []), (64, (.aload_n 0), 1, 0, 0, 0, [], []), (65, (.getfield 97), 3, 0, 25, 4, [], []), (68, (.goto 4), 3, 0, 72, 0, [], []), (71, (.iconst (-1)), 1, (-1), 0, 0, [], []), (72, .ireturn, 1, 0, 0, 0, [], [])]
def tL_law : List bwE := [(0, (.new 7), 3, 0, 0, 0, [], []), (3, .dup, 1, 0, 0, 0, [], []), (4, (.invokespecial 9), 3, 0, 0, 0, [], []), (7, (.astore_n 1), 1, 0, 1, 0, [], []), (8, (.new 10), 3, 0, 0, 0, [], []), (11, .dup, 1, 0, 0, 0, [], []), (12, (.invokespecial 12), 3, 0, 0, 0, [], []), (15, (.astore_n 2), 1, 0, 2, 0, [], []), (16, (.iconst 0), 1, 0, 0, 0, [], []), (17, (.istore_n 3), 1, 0, 3, 0, [], []), (18, (.iload_n 3), 1, 0, 3, 0, [], []), (19, (.aload_n 0), 1, 0, 0, 0, [], []), (20, .arraylength, 1, 0, 0, 0, [], []), (21, (.iconst 5), 1, 5, 0, 0, [], []), (22, .isub, 1, 0, 0, 0, [], []), (23, (.if_icmp .gt 956), 3, 0, 979, 0, [], []), (26, (.aload_n 0), 1, 0, 0, 0, [], []), (27, (.iload_n 3), 1, 0, 3, 0, [], []), (28, .iaload, 1, 0, 0, 0, [], []), (29, (.bipush 31), 2, 31, 0, 0, [], []), (31, .iand, 1, 0, 0, 0, [], []), (32, (.tableswitch 941 0 28 #[132, 165, 198, 231, 284, 327, 360, 393, 406, 439, 472, 515, 528, 561, 614, 628, 642, 665, 688, 711, 724, 757, 780, 833, 856, 869, 892, 905, 918]), 132, 0, 973, 0, [], [(0, 164), (1, 197), (2, 230), (3, 263), (4, 316), (5, 359), (6, 392), (7, 425), (8, 438), (9, 471), (10, 504), (11, 547), (12, 560), (13, 593), (14, 646), (15, 660), (16, 674), (17, 697), (18, 720), (19, 743), (20, 756), (21, 789), (22, 812), (23, 865), (24, 888), (25, 901), (26, 924), (27, 937), (28, 950)]), (164, (.aload_n 1), 1, 0, 1, 0, [], []), (165, (.aload_n 0), 1, 0, 0, 0, [], []), (166, (.iload_n 3), 1, 0, 3, 0, [], []), (167, (.iconst 1), 1, 1, 0, 0, [], []), (168, .iadd, 1, 0, 0, 0, [], []), (169, .iaload, 1, 0, 0, 0, [], []), (170, (.aload_n 0), 1, 0, 0, 0, [], []), (171, (.iload_n 3), 1, 0, 3, 0, [], []), (172, (.iconst 2), 1, 2, 0, 0, [], []), (173, .iadd, 1, 0, 0, 0, [], []), (174, .iaload, 1, 0, 0, 0, [], []), (175, (.invokevirtual 13), 3, 0, 45, 3031, [], []), (178, (.aload_n 2), 1, 0, 2, 0, [], []), (179, (.aload_n 0), 1, 0, 0, 0, [], []), (180, (.iload_n 3), 1, 0, 3, 0, [], []), (181, (.iconst 1), 1, 1, 0, 0, [], []), (182, .iadd, 1, 0, 0, 0, [], []), (183, .iaload, 1, 0, 0, 0, [], []), (184, (.aload_n 0), 1, 0, 0, 0, [], []), (185, (.iload_n 3), 1, 0, 3, 0, [], []), (186, (.iconst 2), 1, 2, 0, 0, [], []), (187, .iadd, 1, 0, 0, 0, [], []), (188, .iaload, 1, 0, 0, 0, [], []), (189, (.invokevirtual 17), 3, 0, 88, 4031, [], []), (192, (.if_icmp .eq 781), 3, 0, 973, 0, [], []), (195, (.iconst 0), 1, 0, 0, 0, [], []), (196, .ireturn, 1, 0, 0, 0, [], []), (197, (.aload_n 1), 1, 0, 1, 0, [], []), (198, (.aload_n 0), 1, 0, 0, 0, [], []), (199, (.iload_n 3), 1, 0, 3, 0, [], []), (200, (.iconst 1), 1, 1, 0, 0, [], []), (201, .iadd, 1, 0, 0, 0, [], []), (202, .iaload, 1, 0, 0, 0, [], []), (203, (.aload_n 0), 1, 0, 0, 0, [], []), (204, (.iload_n 3), 1, 0, 3, 0, [], []), (205, (.iconst 2), 1, 2, 0, 0, [], []), (206, .iadd, 1, 0, 0, 0, [], []), (207, .iaload, 1, 0, 0, 0, [], []), (208, (.invokevirtual 18), 3, 0, 46, 3031, [], []), (211, (.aload_n 2), 1, 0, 2, 0, [], []), (212, (.aload_n 0), 1, 0, 0, 0, [], []), (213, (.iload_n 3), 1, 0, 3, 0, [], []), (214, (.iconst 1), 1, 1, 0, 0, [], []), (215, .iadd, 1, 0, 0, 0, [], []), (216, .iaload, 1, 0, 0, 0, [], []), (217, (.aload_n 0), 1, 0, 0, 0, [], []), (218, (.iload_n 3), 1, 0, 3, 0, [], []), (219, (.iconst 2), 1, 2, 0, 0, [], []), (220, .iadd, 1, 0, 0, 0, [], []), (221, .iaload, 1, 0, 0, 0, [], []), (222, (.invokevirtual 21), 3, 0, 92, 4031, [], []), (225, (.if_icmp .eq 748), 3, 0, 973, 0, [], []), (228, (.iconst 0), 1, 0, 0, 0, [], []), (229, .ireturn, 1, 0, 0, 0, [], []), (230, (.aload_n 1), 1, 0, 1, 0, [], []), (231, (.aload_n 0), 1, 0, 0, 0, [], []), (232, (.iload_n 3), 1, 0, 3, 0, [], []), (233, (.iconst 1), 1, 1, 0, 0, [], []), (234, .iadd, 1, 0, 0, 0, [], []), (235, .iaload, 1, 0, 0, 0, [], []), (236, (.aload_n 0), 1, 0, 0, 0, [], []), (237, (.iload_n 3), 1, 0, 3, 0, [], []), (238, (.iconst 2), 1, 2, 0, 0, [], []), (239, .iadd, 1, 0, 0, 0, [], []), (240, .iaload, 1, 0, 0, 0, [], []), (241, (.invokevirtual 22), 3, 0, 47, 3031, [], []), (244, (.aload_n 2), 1, 0, 2, 0, [], []), (245, (.aload_n 0), 1, 0, 0, 0, [], []), (246, (.iload_n 3), 1, 0, 3, 0, [], []), (247, (.iconst 1), 1, 1, 0, 0, [], []), (248, .iadd, 1, 0, 0, 0, [], []), (249, .iaload, 1, 0, 0, 0, [], []), (250, (.aload_n 0), 1, 0, 0, 0, [], []), (251, (.iload_n 3), 1, 0, 3, 0, [], []), (252, (.iconst 2), 1, 2, 0, 0, [], []), (253, .iadd, 1, 0, 0, 0, [], []), (254, .iaload, 1, 0, 0, 0, [], []), (255, (.invokevirtual 25), 3, 0, 93, 4031, [], []), (258, (.if_icmp .eq 715), 3, 0, 973, 0, [], []), (261, (.iconst 0), 1, 0, 0, 0, [], []), (262, .ireturn, 1, 0, 0, 0, [], []), (263, (.aload_n 1), 1, 0, 1, 0, [], []), (264, (.aload_n 0), 1, 0, 0, 0, [], []), (265, (.iload_n 3), 1, 0, 3, 0, [], []), (266, (.iconst 1), 1, 1, 0, 0, [], []), (267, .iadd, 1, 0, 0, 0, [], []), (268, .iaload, 1, 0, 0, 0, [], []), (269, (.aload_n 0), 1, 0, 0, 0, [], []), (270, (.iload_n 3), 1, 0, 3, 0, [], []), (271, (.iconst 2), 1, 2, 0, 0, [], []), (272, .iadd, 1, 0, 0, 0, [], []), (273, .iaload, 1, 0, 0, 0, [], []), (274, (.aload_n 0), 1, 0, 0, 0, [], []), (275, (.iload_n 3), 1, 0, 3, 0, [], []), (276, (.iconst 3), 1, 3, 0, 0, [], []), (277, .iadd, 1, 0, 0, 0, [], []), (278, .iaload, 1, 0, 0, 0, [], []), (279, (.aload_n 0), 1, 0, 0, 0, [], []), (280, (.iload_n 3), 1, 0, 3, 0, [], []), (281, (.iconst 4), 1, 4, 0, 0, [], []), (282, .iadd, 1, 0, 0, 0, [], []), (283, .iaload, 1, 0, 0, 0, [], []), (284, (.invokevirtual 26), 3, 0, 48, 3051, [], []), (287, (.aload_n 2), 1, 0, 2, 0, [], []), (288, (.aload_n 0), 1, 0, 0, 0, [], []), (289, (.iload_n 3), 1, 0, 3, 0, [], []), (290, (.iconst 1), 1, 1, 0, 0, [], []), (291, .iadd, 1, 0, 0, 0, [], []), (292, .iaload, 1, 0, 0, 0, [], []), (293, (.aload_n 0), 1, 0, 0, 0, [], []), (294, (.iload_n 3), 1, 0, 3, 0, [], []), (295, (.iconst 2), 1, 2, 0, 0, [], []), (296, .iadd, 1, 0, 0, 0, [], []), (297, .iaload, 1, 0, 0, 0, [], []), (298, (.aload_n 0), 1, 0, 0, 0, [], []), (299, (.iload_n 3), 1, 0, 3, 0, [], []), (300, (.iconst 3), 1, 3, 0, 0, [], []), (301, .iadd, 1, 0, 0, 0, [], []), (302, .iaload, 1, 0, 0, 0, [], []), (303, (.aload_n 0), 1, 0, 0, 0, [], []), (304, (.iload_n 3), 1, 0, 3, 0, [], []), (305, (.iconst 4), 1, 4, 0, 0, [], []), (306, .iadd, 1, 0, 0, 0, [], []), (307, .iaload, 1, 0, 0, 0, [], []), (308, (.invokevirtual 30), 3, 0, 95, 4051, [], []), (311, (.if_icmp .eq 662), 3, 0, 973, 0, [], []), (314, (.iconst 0), 1, 0, 0, 0, [], []), (315, .ireturn, 1, 0, 0, 0, [], []), (316, (.aload_n 1), 1, 0, 1, 0, [], []), (317, (.aload_n 0), 1, 0, 0, 0, [], []), (318, (.iload_n 3), 1, 0, 3, 0, [], []), (319, (.iconst 1), 1, 1, 0, 0, [], []), (320, .iadd, 1, 0, 0, 0, [], []), (321, .iaload, 1, 0, 0, 0, [], []), (322, (.aload_n 0), 1, 0, 0, 0, [], []), (323, (.iload_n 3), 1, 0, 3, 0, [], []), (324, (.iconst 2), 1, 2, 0, 0, [], []), (325, .iadd, 1, 0, 0, 0, [], []), (326, .iaload, 1, 0, 0, 0, [], []), (327, (.aload_n 0), 1, 0, 0, 0, [], []), (328, (.iload_n 3), 1, 0, 3, 0, [], []), (329, (.iconst 3), 1, 3, 0, 0, [], []), (330, .iadd, 1, 0, 0, 0, [], []), (331, .iaload, 1, 0, 0, 0, [], []), (332, (.invokevirtual 31), 3, 0, 49, 3041, [], []), (335, (.aload_n 2), 1, 0, 2, 0, [], []), (336, (.aload_n 0), 1, 0, 0, 0, [], []), (337, (.iload_n 3), 1, 0, 3, 0, [], []), (338, (.iconst 1), 1, 1, 0, 0, [], []), (339, .iadd, 1, 0, 0, 0, [], []), (340, .iaload, 1, 0, 0, 0, [], []), (341, (.aload_n 0), 1, 0, 0, 0, [], []), (342, (.iload_n 3), 1, 0, 3, 0, [], []), (343, (.iconst 2), 1, 2, 0, 0, [], []), (344, .iadd, 1, 0, 0, 0, [], []), (345, .iaload, 1, 0, 0, 0, [], []), (346, (.aload_n 0), 1, 0, 0, 0, [], []), (347, (.iload_n 3), 1, 0, 3, 0, [], []), (348, (.iconst 3), 1, 3, 0, 0, [], []), (349, .iadd, 1, 0, 0, 0, [], []), (350, .iaload, 1, 0, 0, 0, [], []), (351, (.invokevirtual 35), 3, 0, 96, 4041, [], []), (354, (.if_icmp .eq 619), 3, 0, 973, 0, [], []), (357, (.iconst 0), 1, 0, 0, 0, [], []), (358, .ireturn, 1, 0, 0, 0, [], []), (359, (.aload_n 1), 1, 0, 1, 0, [], []), (360, (.aload_n 0), 1, 0, 0, 0, [], []), (361, (.iload_n 3), 1, 0, 3, 0, [], []), (362, (.iconst 1), 1, 1, 0, 0, [], []), (363, .iadd, 1, 0, 0, 0, [], []), (364, .iaload, 1, 0, 0, 0, [], []), (365, (.aload_n 0), 1, 0, 0, 0, [], []), (366, (.iload_n 3), 1, 0, 3, 0, [], []), (367, (.iconst 2), 1, 2, 0, 0, [], []), (368, .iadd, 1, 0, 0, 0, [], []), (369, .iaload, 1, 0, 0, 0, [], []), (370, (.invokevirtual 36), 3, 0, 50, 3031, [], []), (373, (.aload_n 2), 1, 0, 2, 0, [], []), (374, (.aload_n 0), 1, 0, 0, 0, [], []), (375, (.iload_n 3), 1, 0, 3, 0, [], []), (376, (.iconst 1), 1, 1, 0, 0, [], []), (377, .iadd, 1, 0, 0, 0, [], []), (378, .iaload, 1, 0, 0, 0, [], []), (379, (.aload_n 0), 1, 0, 0, 0, [], []), (380, (.iload_n 3), 1, 0, 3, 0, [], []), (381, (.iconst 2), 1, 2, 0, 0, [], []), (382, .iadd, 1, 0, 0, 0, [], []), (383, .iaload, 1, 0, 0, 0, [], []), (384, (.invokevirtual 39), 3, 0, 98, 4031, [], []), (387, (.if_icmp .eq 586), 3, 0, 973, 0, [], []), (390, (.iconst 0), 1, 0, 0, 0, [], []), (391, .ireturn, 1, 0, 0, 0, [], []), (392, (.aload_n 1), 1, 0, 1, 0, [], []), (393, (.aload_n 0), 1, 0, 0, 0, [], []), (394, (.iload_n 3), 1, 0, 3, 0, [], []), (395, (.iconst 1), 1, 1, 0, 0, [], []), (396, .iadd, 1, 0, 0, 0, [], []), (397, .iaload, 1, 0, 0, 0, [], []), (398, (.aload_n 0), 1, 0, 0, 0, [], []), (399, (.iload_n 3), 1, 0, 3, 0, [], []), (400, (.iconst 2), 1, 2, 0, 0, [], []), (401, .iadd, 1, 0, 0, 0, [], []), (402, .iaload, 1, 0, 0, 0, [], []), (403, (.invokevirtual 40), 3, 0, 51, 3031, [], []), (406, (.aload_n 2), 1, 0, 2, 0, [], []), (407, (.aload_n 0), 1, 0, 0, 0, [], []), (408, (.iload_n 3), 1, 0, 3, 0, [], []), (409, (.iconst 1), 1, 1, 0, 0, [], []), (410, .iadd, 1, 0, 0, 0, [], []), (411, .iaload, 1, 0, 0, 0, [], []), (412, (.aload_n 0), 1, 0, 0, 0, [], []), (413, (.iload_n 3), 1, 0, 3, 0, [], []), (414, (.iconst 2), 1, 2, 0, 0, [], []), (415, .iadd, 1, 0, 0, 0, [], []), (416, .iaload, 1, 0, 0, 0, [], []), (417, (.invokevirtual 43), 3, 0, 99, 4031, [], []), (420, (.if_icmp .eq 553), 3, 0, 973, 0, [], []), (423, (.iconst 0), 1, 0, 0, 0, [], []), (424, .ireturn, 1, 0, 0, 0, [], []), (425, (.aload_n 1), 1, 0, 1, 0, [], []), (426, (.invokevirtual 44), 3, 0, 52, 3011, [], []), (429, (.aload_n 2), 1, 0, 2, 0, [], []), (430, (.invokevirtual 48), 3, 0, 101, 4011, [], []), (433, (.if_icmp .eq 540), 3, 0, 973, 0, [], []), (436, (.iconst 0), 1, 0, 0, 0, [], []), (437, .ireturn, 1, 0, 0, 0, [], []), (438, (.aload_n 1), 1, 0, 1, 0, [], []), (439, (.aload_n 0), 1, 0, 0, 0, [], []), (440, (.iload_n 3), 1, 0, 3, 0, [], []), (441, (.iconst 1), 1, 1, 0, 0, [], []), (442, .iadd, 1, 0, 0, 0, [], []), (443, .iaload, 1, 0, 0, 0, [], []), (444, (.aload_n 0), 1, 0, 0, 0, [], []), (445, (.iload_n 3), 1, 0, 3, 0, [], []), (446, (.iconst 2), 1, 2, 0, 0, [], []), (447, .iadd, 1, 0, 0, 0, [], []), (448, .iaload, 1, 0, 0, 0, [], []), (449, (.invokevirtual 49), 3, 0, 53, 3031, [], []), (452, (.aload_n 2), 1, 0, 2, 0, [], []), (453, (.aload_n 0), 1, 0, 0, 0, [], []), (454, (.iload_n 3), 1, 0, 3, 0, [], []), (455, (.iconst 1), 1, 1, 0, 0, [], []), (456, .iadd, 1, 0, 0, 0, [], []), (457, .iaload, 1, 0, 0, 0, [], []), (458, (.aload_n 0), 1, 0, 0, 0, [], []), (459, (.iload_n 3), 1, 0, 3, 0, [], []), (460, (.iconst 2), 1, 2, 0, 0, [], []), (461, .iadd, 1, 0, 0, 0, [], []), (462, .iaload, 1, 0, 0, 0, [], []), (463, (.invokevirtual 52), 3, 0, 104, 4031, [], []), (466, (.if_icmp .eq 507), 3, 0, 973, 0, [], []), (469, (.iconst 0), 1, 0, 0, 0, [], []), (470, .ireturn, 1, 0, 0, 0, [], []), (471, (.aload_n 1), 1, 0, 1, 0, [], []), (472, (.aload_n 0), 1, 0, 0, 0, [], []), (473, (.iload_n 3), 1, 0, 3, 0, [], []), (474, (.iconst 1), 1, 1, 0, 0, [], []), (475, .iadd, 1, 0, 0, 0, [], []), (476, .iaload, 1, 0, 0, 0, [], []), (477, (.aload_n 0), 1, 0, 0, 0, [], []), (478, (.iload_n 3), 1, 0, 3, 0, [], []), (479, (.iconst 2), 1, 2, 0, 0, [], []), (480, .iadd, 1, 0, 0, 0, [], []), (481, .iaload, 1, 0, 0, 0, [], []), (482, (.invokevirtual 53), 3, 0, 54, 3031, [], []), (485, (.aload_n 2), 1, 0, 2, 0, [], []), (486, (.aload_n 0), 1, 0, 0, 0, [], []), (487, (.iload_n 3), 1, 0, 3, 0, [], []), (488, (.iconst 1), 1, 1, 0, 0, [], []), (489, .iadd, 1, 0, 0, 0, [], []), (490, .iaload, 1, 0, 0, 0, [], []), (491, (.aload_n 0), 1, 0, 0, 0, [], []), (492, (.iload_n 3), 1, 0, 3, 0, [], []), (493, (.iconst 2), 1, 2, 0, 0, [], []), (494, .iadd, 1, 0, 0, 0, [], []), (495, .iaload, 1, 0, 0, 0, [], []), (496, (.invokevirtual 56), 3, 0, 105, 4031, [], []), (499, (.if_icmp .eq 474), 3, 0, 973, 0, [], []), (502, (.iconst 0), 1, 0, 0, 0, [], []), (503, .ireturn, 1, 0, 0, 0, [], []), (504, (.aload_n 1), 1, 0, 1, 0, [], []), (505, (.aload_n 0), 1, 0, 0, 0, [], []), (506, (.iload_n 3), 1, 0, 3, 0, [], []), (507, (.iconst 1), 1, 1, 0, 0, [], []), (508, .iadd, 1, 0, 0, 0, [], []), (509, .iaload, 1, 0, 0, 0, [], []), (510, (.aload_n 0), 1, 0, 0, 0, [], []), (511, (.iload_n 3), 1, 0, 3, 0, [], []), (512, (.iconst 2), 1, 2, 0, 0, [], []), (513, .iadd, 1, 0, 0, 0, [], []), (514, .iaload, 1, 0, 0, 0, [], []), (515, (.aload_n 0), 1, 0, 0, 0, [], []), (516, (.iload_n 3), 1, 0, 3, 0, [], []), (517, (.iconst 3), 1, 3, 0, 0, [], []), (518, .iadd, 1, 0, 0, 0, [], []), (519, .iaload, 1, 0, 0, 0, [], []), (520, (.invokevirtual 57), 3, 0, 55, 3041, [], []), (523, (.aload_n 2), 1, 0, 2, 0, [], []), (524, (.aload_n 0), 1, 0, 0, 0, [], []), (525, (.iload_n 3), 1, 0, 3, 0, [], []), (526, (.iconst 1), 1, 1, 0, 0, [], []), (527, .iadd, 1, 0, 0, 0, [], []), (528, .iaload, 1, 0, 0, 0, [], []), (529, (.aload_n 0), 1, 0, 0, 0, [], []), (530, (.iload_n 3), 1, 0, 3, 0, [], []), (531, (.iconst 2), 1, 2, 0, 0, [], []), (532, .iadd, 1, 0, 0, 0, [], []), (533, .iaload, 1, 0, 0, 0, [], []), (534, (.aload_n 0), 1, 0, 0, 0, [], []), (535, (.iload_n 3), 1, 0, 3, 0, [], []), (536, (.iconst 3), 1, 3, 0, 0, [], []), (537, .iadd, 1, 0, 0, 0, [], []), (538, .iaload, 1, 0, 0, 0, [], []), (539, (.invokevirtual 60), 3, 0, 106, 4041, [], []), (542, (.if_icmp .eq 431), 3, 0, 973, 0, [], []), (545, (.iconst 0), 1, 0, 0, 0, [], []), (546, .ireturn, 1, 0, 0, 0, [], []), (547, (.aload_n 1), 1, 0, 1, 0, [], []), (548, (.invokevirtual 61), 3, 0, 56, 3011, [], []), (551, (.aload_n 2), 1, 0, 2, 0, [], []), (552, (.invokevirtual 64), 3, 0, 116, 4011, [], []), (555, (.if_icmp .eq 418), 3, 0, 973, 0, [], []), (558, (.iconst 0), 1, 0, 0, 0, [], []), (559, .ireturn, 1, 0, 0, 0, [], []), (560, (.aload_n 1), 1, 0, 1, 0, [], []), (561, (.aload_n 0), 1, 0, 0, 0, [], []), (562, (.iload_n 3), 1, 0, 3, 0, [], []), (563, (.iconst 1), 1, 1, 0, 0, [], []), (564, .iadd, 1, 0, 0, 0, [], []), (565, .iaload, 1, 0, 0, 0, [], []), (566, (.aload_n 0), 1, 0, 0, 0, [], []), (567, (.iload_n 3), 1, 0, 3, 0, [], []), (568, (.iconst 2), 1, 2, 0, 0, [], []), (569, .iadd, 1, 0, 0, 0, [], []), (570, .iaload, 1, 0, 0, 0, [], []), (571, (.invokevirtual 65), 3, 0, 57, 3031, [], []), (574, (.aload_n 2), 1, 0, 2, 0, [], []), (575, (.aload_n 0), 1, 0, 0, 0, [], []), (576, (.iload_n 3), 1, 0, 3, 0, [], []), (577, (.iconst 1), 1, 1, 0, 0, [], []), (578, .iadd, 1, 0, 0, 0, [], []), (579, .iaload, 1, 0, 0, 0, [], []), (580, (.aload_n 0), 1, 0, 0, 0, [], []), (581, (.iload_n 3), 1, 0, 3, 0, [], []), (582, (.iconst 2), 1, 2, 0, 0, [], []), (583, .iadd, 1, 0, 0, 0, [], []), (584, .iaload, 1, 0, 0, 0, [], []), (585, (.invokevirtual 68), 3, 0, 118, 4031, [], []), (588, (.if_icmp .eq 385), 3, 0, 973, 0, [], []), (591, (.iconst 0), 1, 0, 0, 0, [], []), (592, .ireturn, 1, 0, 0, 0, [], []), (593, (.aload_n 1), 1, 0, 1, 0, [], []), (594, (.aload_n 0), 1, 0, 0, 0, [], []), (595, (.iload_n 3), 1, 0, 3, 0, [], []), (596, (.iconst 1), 1, 1, 0, 0, [], []), (597, .iadd, 1, 0, 0, 0, [], []), (598, .iaload, 1, 0, 0, 0, [], []), (599, (.aload_n 0), 1, 0, 0, 0, [], []), (600, (.iload_n 3), 1, 0, 3, 0, [], []), (601, (.iconst 2), 1, 2, 0, 0, [], []), (602, .iadd, 1, 0, 0, 0, [], []), (603, .iaload, 1, 0, 0, 0, [], []), (604, (.aload_n 0), 1, 0, 0, 0, [], []), (605, (.iload_n 3), 1, 0, 3, 0, [], []), (606, (.iconst 3), 1, 3, 0, 0, [], []), (607, .iadd, 1, 0, 0, 0, [], []), (608, .iaload, 1, 0, 0, 0, [], []), (609, (.aload_n 0), 1, 0, 0, 0, [], []), (610, (.iload_n 3), 1, 0, 3, 0, [], []), (611, (.iconst 4), 1, 4, 0, 0, [], []), (612, .iadd, 1, 0, 0, 0, [], []), (613, .iaload, 1, 0, 0, 0, [], []), (614, (.invokevirtual 69), 3, 0, 58, 3051, [], []), (617, (.aload_n 2), 1, 0, 2, 0, [], []), (618, (.aload_n 0), 1, 0, 0, 0, [], []), (619, (.iload_n 3), 1, 0, 3, 0, [], []), (620, (.iconst 1), 1, 1, 0, 0, [], []), (621, .iadd, 1, 0, 0, 0, [], []), (622, .iaload, 1, 0, 0, 0, [], []), (623, (.aload_n 0), 1, 0, 0, 0, [], []), (624, (.iload_n 3), 1, 0, 3, 0, [], []), (625, (.iconst 2), 1, 2, 0, 0, [], []), (626, .iadd, 1, 0, 0, 0, [], []), (627, .iaload, 1, 0, 0, 0, [], []), (628, (.aload_n 0), 1, 0, 0, 0, [], []), (629, (.iload_n 3), 1, 0, 3, 0, [], []), (630, (.iconst 3), 1, 3, 0, 0, [], []), (631, .iadd, 1, 0, 0, 0, [], []), (632, .iaload, 1, 0, 0, 0, [], []), (633, (.aload_n 0), 1, 0, 0, 0, [], []), (634, (.iload_n 3), 1, 0, 3, 0, [], []), (635, (.iconst 4), 1, 4, 0, 0, [], []), (636, .iadd, 1, 0, 0, 0, [], []), (637, .iaload, 1, 0, 0, 0, [], []), (638, (.invokevirtual 72), 3, 0, 119, 4051, [], []), (641, (.if_icmp .eq 332), 3, 0, 973, 0, [], []), (644, (.iconst 0), 1, 0, 0, 0, [], []), (645, .ireturn, 1, 0, 0, 0, [], []), (646, (.aload_n 1), 1, 0, 1, 0, [], []), (647, (.invokevirtual 73), 3, 0, 59, 3012, [], []), (650, (.aload_n 2), 1, 0, 2, 0, [], []), (651, (.invokevirtual 77), 3, 0, 114, 4012, [], []), (654, .lcmp, 1, 0, 0, 0, [], []), (655, (.ifCond .eq 318), 3, 0, 973, 0, [], []), (658, (.iconst 0), 1, 0, 0, 0, [], []), (659, .ireturn, 1, 0, 0, 0, [], []), (660, (.aload_n 1), 1, 0, 1, 0, [], []), (661, (.invokevirtual 78), 3, 0, 60, 3012, [], []), (664, (.aload_n 2), 1, 0, 2, 0, [], []), (665, (.invokevirtual 81), 3, 0, 115, 4012, [], []), (668, .lcmp, 1, 0, 0, 0, [], []), (669, (.ifCond .eq 304), 3, 0, 973, 0, [], []), (672, (.iconst 0), 1, 0, 0, 0, [], []), (673, .ireturn, 1, 0, 0, 0, [], []), (674, (.aload_n 1), 1, 0, 1, 0, [], []), (675, (.aload_n 0), 1, 0, 0, 0, [], []), (676, (.iload_n 3), 1, 0, 3, 0, [], []), (677, (.iconst 1), 1, 1, 0, 0, [], []), (678, .iadd, 1, 0, 0, 0, [], []), (679, .iaload, 1, 0, 0, 0, [], []), (680, (.invokevirtual 82), 3, 0, 61, 3021, [], []), (683, (.aload_n 2), 1, 0, 2, 0, [], []), (684, (.aload_n 0), 1, 0, 0, 0, [], []), (685, (.iload_n 3), 1, 0, 3, 0, [], []), (686, (.iconst 1), 1, 1, 0, 0, [], []), (687, .iadd, 1, 0, 0, 0, [], []), (688, .iaload, 1, 0, 0, 0, [], []), (689, (.invokevirtual 86), 3, 0, 120, 4021, [], []), (692, (.if_icmp .eq 281), 3, 0, 973, 0, [], []), (695, (.iconst 0), 1, 0, 0, 0, [], []), (696, .ireturn, 1, 0, 0, 0, [], []), (697, (.aload_n 1), 1, 0, 1, 0, [], []), (698, (.aload_n 0), 1, 0, 0, 0, [], []), (699, (.iload_n 3), 1, 0, 3, 0, [], []), (700, (.iconst 1), 1, 1, 0, 0, [], []), (701, .iadd, 1, 0, 0, 0, [], []), (702, .iaload, 1, 0, 0, 0, [], []), (703, (.invokevirtual 87), 3, 0, 62, 3021, [], []), (706, (.aload_n 2), 1, 0, 2, 0, [], []), (707, (.aload_n 0), 1, 0, 0, 0, [], []), (708, (.iload_n 3), 1, 0, 3, 0, [], []), (709, (.iconst 1), 1, 1, 0, 0, [], []), (710, .iadd, 1, 0, 0, 0, [], []), (711, .iaload, 1, 0, 0, 0, [], []), (712, (.invokevirtual 90), 3, 0, 121, 4021, [], []), (715, (.if_icmp .eq 258), 3, 0, 973, 0, [], []), (718, (.iconst 0), 1, 0, 0, 0, [], []), (719, .ireturn, 1, 0, 0, 0, [], []), (720, (.aload_n 1), 1, 0, 1, 0, [], []), (721, (.aload_n 0), 1, 0, 0, 0, [], []), (722, (.iload_n 3), 1, 0, 3, 0, [], []), (723, (.iconst 1), 1, 1, 0, 0, [], []), (724, .iadd, 1, 0, 0, 0, [], []), (725, .iaload, 1, 0, 0, 0, [], []), (726, (.invokevirtual 91), 3, 0, 63, 3021, [], []), (729, (.aload_n 2), 1, 0, 2, 0, [], []), (730, (.aload_n 0), 1, 0, 0, 0, [], []), (731, (.iload_n 3), 1, 0, 3, 0, [], []), (732, (.iconst 1), 1, 1, 0, 0, [], []), (733, .iadd, 1, 0, 0, 0, [], []), (734, .iaload, 1, 0, 0, 0, [], []), (735, (.invokevirtual 94), 3, 0, 123, 4021, [], []), (738, (.if_icmp .eq 235), 3, 0, 973, 0, [], []), (741, (.iconst 0), 1, 0, 0, 0, [], []), (742, .ireturn, 1, 0, 0, 0, [], []), (743, (.aload_n 1), 1, 0, 1, 0, [], []), (744, (.invokevirtual 95), 3, 0, 64, 3011, [], []), (747, (.aload_n 2), 1, 0, 2, 0, [], []), (748, (.invokevirtual 98), 3, 0, 124, 4011, [], []), (751, (.if_icmp .eq 222), 3, 0, 973, 0, [], []), (754, (.iconst 0), 1, 0, 0, 0, [], []), (755, .ireturn, 1, 0, 0, 0, [], []), (756, (.aload_n 1), 1, 0, 1, 0, [], []), (757, (.aload_n 0), 1, 0, 0, 0, [], []), (758, (.iload_n 3), 1, 0, 3, 0, [], []), (759, (.iconst 1), 1, 1, 0, 0, [], []), (760, .iadd, 1, 0, 0, 0, [], []), (761, .iaload, 1, 0, 0, 0, [], []), (762, (.aload_n 0), 1, 0, 0, 0, [], []), (763, (.iload_n 3), 1, 0, 3, 0, [], []), (764, (.iconst 2), 1, 2, 0, 0, [], []), (765, .iadd, 1, 0, 0, 0, [], []), (766, .iaload, 1, 0, 0, 0, [], []), (767, (.invokevirtual 99), 3, 0, 65, 3031, [], []), (770, (.aload_n 2), 1, 0, 2, 0, [], []), (771, (.aload_n 0), 1, 0, 0, 0, [], []), (772, (.iload_n 3), 1, 0, 3, 0, [], []), (773, (.iconst 1), 1, 1, 0, 0, [], []), (774, .iadd, 1, 0, 0, 0, [], []), (775, .iaload, 1, 0, 0, 0, [], []), (776, (.aload_n 0), 1, 0, 0, 0, [], []), (777, (.iload_n 3), 1, 0, 3, 0, [], []), (778, (.iconst 2), 1, 2, 0, 0, [], []), (779, .iadd, 1, 0, 0, 0, [], []), (780, .iaload, 1, 0, 0, 0, [], []), (781, (.invokevirtual 102), 3, 0, 127, 4031, [], []), (784, (.if_icmp .eq 189), 3, 0, 973, 0, [], []), (787, (.iconst 0), 1, 0, 0, 0, [], []), (788, .ireturn, 1, 0, 0, 0, [], []), (789, (.aload_n 1), 1, 0, 1, 0, [], []), (790, (.aload_n 0), 1, 0, 0, 0, [], []), (791, (.iload_n 3), 1, 0, 3, 0, [], []), (792, (.iconst 1), 1, 1, 0, 0, [], []), (793, .iadd, 1, 0, 0, 0, [], []), (794, .iaload, 1, 0, 0, 0, [], []), (795, (.invokevirtual 103), 3, 0, 66, 3021, [], []), (798, (.aload_n 2), 1, 0, 2, 0, [], []), (799, (.aload_n 0), 1, 0, 0, 0, [], []), (800, (.iload_n 3), 1, 0, 3, 0, [], []), (801, (.iconst 1), 1, 1, 0, 0, [], []), (802, .iadd, 1, 0, 0, 0, [], []), (803, .iaload, 1, 0, 0, 0, [], []), (804, (.invokevirtual 106), 3, 0, 128, 4021, [], []), (807, (.if_icmp .eq 166), 3, 0, 973, 0, [], []), (810, (.iconst 0), 1, 0, 0, 0, [], []), (811, .ireturn, 1, 0, 0, 0, [], []), (812, (.aload_n 1), 1, 0, 1, 0, [], []), (813, (.aload_n 0), 1, 0, 0, 0, [], []), (814, (.iload_n 3), 1, 0, 3, 0, [], []), (815, (.iconst 1), 1, 1, 0, 0, [], []), (816, .iadd, 1, 0, 0, 0, [], []), (817, .iaload, 1, 0, 0, 0, [], []), (818, (.aload_n 0), 1, 0, 0, 0, [], []), (819, (.iload_n 3), 1, 0, 3, 0, [], []), (820, (.iconst 2), 1, 2, 0, 0, [], []), (821, .iadd, 1, 0, 0, 0, [], []), (822, .iaload, 1, 0, 0, 0, [], []), (823, (.aload_n 0), 1, 0, 0, 0, [], []), (824, (.iload_n 3), 1, 0, 3, 0, [], []), (825, (.iconst 3), 1, 3, 0, 0, [], []), (826, .iadd, 1, 0, 0, 0, [], []), (827, .iaload, 1, 0, 0, 0, [], []), (828, (.aload_n 0), 1, 0, 0, 0, [], []), (829, (.iload_n 3), 1, 0, 3, 0, [], []), (830, (.iconst 4), 1, 4, 0, 0, [], []), (831, .iadd, 1, 0, 0, 0, [], []), (832, .iaload, 1, 0, 0, 0, [], []), (833, (.invokevirtual 107), 3, 0, 67, 3051, [], []), (836, (.aload_n 2), 1, 0, 2, 0, [], []), (837, (.aload_n 0), 1, 0, 0, 0, [], []), (838, (.iload_n 3), 1, 0, 3, 0, [], []), (839, (.iconst 1), 1, 1, 0, 0, [], []), (840, .iadd, 1, 0, 0, 0, [], []), (841, .iaload, 1, 0, 0, 0, [], []), (842, (.aload_n 0), 1, 0, 0, 0, [], []), (843, (.iload_n 3), 1, 0, 3, 0, [], []), (844, (.iconst 2), 1, 2, 0, 0, [], []), (845, .iadd, 1, 0, 0, 0, [], []), (846, .iaload, 1, 0, 0, 0, [], []), (847, (.aload_n 0), 1, 0, 0, 0, [], []), (848, (.iload_n 3), 1, 0, 3, 0, [], []), (849, (.iconst 3), 1, 3, 0, 0, [], []), (850, .iadd, 1, 0, 0, 0, [], []), (851, .iaload, 1, 0, 0, 0, [], []), (852, (.aload_n 0), 1, 0, 0, 0, [], []), (853, (.iload_n 3), 1, 0, 3, 0, [], []), (854, (.iconst 4), 1, 4, 0, 0, [], []), (855, .iadd, 1, 0, 0, 0, [], []), (856, .iaload, 1, 0, 0, 0, [], []), (857, (.invokevirtual 110), 3, 0, 130, 4051, [], []), (860, (.if_icmp .eq 113), 3, 0, 973, 0, [], []), (863, (.iconst 0), 1, 0, 0, 0, [], []), (864, .ireturn, 1, 0, 0, 0, [], []), (865, (.aload_n 1), 1, 0, 1, 0, [], []), (866, (.aload_n 0), 1, 0, 0, 0, [], []), (867, (.iload_n 3), 1, 0, 3, 0, [], []), (868, (.iconst 1), 1, 1, 0, 0, [], []), (869, .iadd, 1, 0, 0, 0, [], []), (870, .iaload, 1, 0, 0, 0, [], []), (871, (.invokevirtual 111), 3, 0, 68, 3021, [], []), (874, (.aload_n 2), 1, 0, 2, 0, [], []), (875, (.aload_n 0), 1, 0, 0, 0, [], []), (876, (.iload_n 3), 1, 0, 3, 0, [], []), (877, (.iconst 1), 1, 1, 0, 0, [], []), (878, .iadd, 1, 0, 0, 0, [], []), (879, .iaload, 1, 0, 0, 0, [], []), (880, (.invokevirtual 114), 3, 0, 133, 4021, [], []), (883, (.if_icmp .eq 90), 3, 0, 973, 0, [], []), (886, (.iconst 0), 1, 0, 0, 0, [], []), (887, .ireturn, 1, 0, 0, 0, [], []), (888, (.aload_n 1), 1, 0, 1, 0, [], []), (889, (.invokevirtual 115), 3, 0, 69, 3011, [], []), (892, (.aload_n 2), 1, 0, 2, 0, [], []), (893, (.invokevirtual 118), 3, 0, 134, 4011, [], []), (896, (.if_icmp .eq 77), 3, 0, 973, 0, [], []), (899, (.iconst 0), 1, 0, 0, 0, [], []), (900, .ireturn, 1, 0, 0, 0, [], []), (901, (.aload_n 1), 1, 0, 1, 0, [], []), (902, (.aload_n 0), 1, 0, 0, 0, [], []), (903, (.iload_n 3), 1, 0, 3, 0, [], []), (904, (.iconst 1), 1, 1, 0, 0, [], []), (905, .iadd, 1, 0, 0, 0, [], []), (906, .iaload, 1, 0, 0, 0, [], []), (907, (.invokevirtual 119), 3, 0, 70, 3021, [], []), (910, (.aload_n 2), 1, 0, 2, 0, [], []), (911, (.aload_n 0), 1, 0, 0, 0, [], []), (912, (.iload_n 3), 1, 0, 3, 0, [], []), (913, (.iconst 1), 1, 1, 0, 0, [], []), (914, .iadd, 1, 0, 0, 0, [], []), (915, .iaload, 1, 0, 0, 0, [], []), (916, (.invokevirtual 122), 3, 0, 137, 4021, [], []), (919, (.if_icmp .eq 54), 3, 0, 973, 0, [], []), (922, (.iconst 0), 1, 0, 0, 0, [], []), (923, .ireturn, 1, 0, 0, 0, [], []), (924, (.aload_n 1), 1, 0, 1, 0, [], []), (925, (.invokevirtual 123), 3, 0, 71, 3011, [], []), (928, (.aload_n 2), 1, 0, 2, 0, [], []), (929, (.invokevirtual 126), 3, 0, 138, 4011, [], []), (932, (.if_icmp .eq 41), 3, 0, 973, 0, [], []), (935, (.iconst 0), 1, 0, 0, 0, [], []), (936, .ireturn, 1, 0, 0, 0, [], []), (937, (.aload_n 1), 1, 0, 1, 0, [], []), (938, (.invokevirtual 127), 3, 0, 72, 3011, [], []), (941, (.aload_n 2), 1, 0, 2, 0, [], []), (942, (.invokevirtual 130), 3, 0, 140, 4011, [], []), (945, (.if_icmp .eq 28), 3, 0, 973, 0, [], []), (948, (.iconst 0), 1, 0, 0, 0, [], []), (949, .ireturn, 1, 0, 0, 0, [], []), (950, (.aload_n 1), 1, 0, 1, 0, [], []), (951, (.aload_n 0), 1, 0, 0, 0, [], []), (952, (.iload_n 3), 1, 0, 3, 0, [], []), (953, (.iconst 1), 1, 1, 0, 0, [], []), (954, .iadd, 1, 0, 0, 0, [], []), (955, .iaload, 1, 0, 0, 0, [], []), (956, (.invokevirtual 131), 3, 0, 73, 3021, [], []), (959, (.aload_n 2), 1, 0, 2, 0, [], []), (960, (.aload_n 0), 1, 0, 0, 0, [], []), (961, (.iload_n 3), 1, 0, 3, 0, [], []), (962, (.iconst 1), 1, 1, 0, 0, [], []), (963, .iadd, 1, 0, 0, 0, [], []), (964, .iaload, 1, 0, 0, 0, [], []), (965, (.invokevirtual 134), 3, 0, 141, 4021, [], []), (968, (.if_icmp .eq 5), 3, 0, 973, 0, [], []), (971, (.iconst 0), 1, 0, 0, 0, [], []), (972, .ireturn, 1, 0, 0, 0, [], []), (973, (.iinc 3 5), 3, 5, 3, 0, [], []), (976, (.goto (-958)), 3, 0, 18, 0, [], []), (979, (.iconst 1), 1, 1, 0, 0, [], []), (980, .ireturn, 1, 0, 0, 0, [], [])]
theorem kX0_startFrom : bw_okT 0 cX0_startFrom 2 tX0_startFrom = true := by decide +kernel
theorem kX0_add : bw_okT 0 cX0_add 7 tX0_add = true := by decide +kernel
theorem kX0_takeBackLatest : bw_okT 0 cX0_takeBackLatest 3 tX0_takeBackLatest = true := by decide +kernel
theorem kX0_repeat : bw_okT 0 cX0_repeat 4 tX0_repeat = true := by decide +kernel
theorem kX0_placeOf : bw_okT 0 cX0_placeOf 2 tX0_placeOf = true := by decide +kernel
theorem kX1_goOver : bw_okT 1 cX1_goOver 2 tX1_goOver = true := by decide +kernel
theorem kX1_goOverThoseWith : bw_okT 1 cX1_goOverThoseWith 4 tX1_goOverThoseWith = true := by decide +kernel
theorem kX1_rank : bw_okT 1 cX1_rank 3 tX1_rank = true := by decide +kernel
theorem kX1_start : bw_okT 1 cX1_start 3 tX1_start = true := by decide +kernel
theorem kX1_putParentsFirst : bw_okT 1 cX1_putParentsFirst 6 tX1_putParentsFirst = true := by decide +kernel
theorem kX1_spread : bw_okT 1 cX1_spread 14 tX1_spread = true := by decide +kernel
theorem kX1_meet : bw_okT 1 cX1_meet 6 tX1_meet = true := by decide +kernel
theorem kX1_isBefore : bw_okT 1 cX1_isBefore 7 tX1_isBefore = true := by decide +kernel
theorem kX1_wholeChosen : bw_okT 1 cX1_wholeChosen 4 tX1_wholeChosen = true := by decide +kernel
theorem kX1_worthSum : bw_okT 1 cX1_worthSum 7 tX1_worthSum = true := by decide +kernel
theorem kX1_bestOption : bw_okT 1 cX1_bestOption 4 tX1_bestOption = true := by decide +kernel
theorem kX1_greatestWorthSum : bw_okT 1 cX1_greatestWorthSum 2 tX1_greatestWorthSum = true := by decide +kernel
theorem kX2_hasThing : bw_okT 2 cX2_hasThing 2 tX2_hasThing = true := by decide +kernel
theorem kX2_hasValue : bw_okT 2 cX2_hasValue 3 tX2_hasValue = true := by decide +kernel
theorem kX2_mayBeKnownAs : bw_okT 2 cX2_mayBeKnownAs 3 tX2_mayBeKnownAs = true := by decide +kernel
theorem kX2_hasWeight : bw_okT 2 cX2_hasWeight 4 tX2_hasWeight = true := by decide +kernel
theorem kX2_hasOption : bw_okT 2 cX2_hasOption 2 tX2_hasOption = true := by decide +kernel
theorem kX2_isFree : bw_okT 2 cX2_isFree 2 tX2_isFree = true := by decide +kernel
theorem kX2_allWholes : bw_okT 2 cX2_allWholes 3 tX2_allWholes = true := by decide +kernel
theorem kX2_allTotals : bw_okT 2 cX2_allTotals 4 tX2_allTotals = true := by decide +kernel
theorem kX2_arrows : bw_okT 2 cX2_arrows 3 tX2_arrows = true := by decide +kernel
theorem kX2_rows : bw_okT 2 cX2_rows 4 tX2_rows = true := by decide +kernel
theorem kX2_rowAt : bw_okT 2 cX2_rowAt 6 tX2_rowAt = true := by decide +kernel
theorem kX2_isSound : bw_okT 2 cX2_isSound 2 tX2_isSound = true := by decide +kernel
theorem kX2_hasSoundTable : bw_okT 2 cX2_hasSoundTable 6 tX2_hasSoundTable = true := by decide +kernel
theorem kX2_factor : bw_okT 2 cX2_factor 5 tX2_factor = true := by decide +kernel
theorem kX2_parentPlace : bw_okT 2 cX2_parentPlace 4 tX2_parentPlace = true := by decide +kernel
theorem kX2_parentSet : bw_okT 2 cX2_parentSet 4 tX2_parentSet = true := by decide +kernel
theorem kX2_ancestorsAnd : bw_okT 2 cX2_ancestorsAnd 5 tX2_ancestorsAnd = true := by decide +kernel
theorem kX2_parentSetNow : bw_okT 2 cX2_parentSetNow 2 tX2_parentSetNow = true := by decide +kernel
theorem kX2_childSetNow : bw_okT 2 cX2_childSetNow 4 tX2_childSetNow = true := by decide +kernel
theorem kX2_hasOpenRoad : bw_okT 2 cX2_hasOpenRoad 9 tX2_hasOpenRoad = true := by decide +kernel
theorem kX2_addThing : bw_okT 2 cX2_addThing 5 tX2_addThing = true := by decide +kernel
theorem kX2_carryOut : bw_okT 2 cX2_carryOut 6 tX2_carryOut = true := by decide +kernel
theorem kX2_addParent : bw_okT 2 cX2_addParent 3 tX2_addParent = true := by decide +kernel
theorem kX2_dropParent : bw_okT 2 cX2_dropParent 4 tX2_dropParent = true := by decide +kernel
theorem kX2_resetTable : bw_okT 2 cX2_resetTable 5 tX2_resetTable = true := by decide +kernel
theorem kX2_setOptions : bw_okT 2 cX2_setOptions 3 tX2_setOptions = true := by decide +kernel
theorem kX2_copyFrom : bw_okT 2 cX2_copyFrom 2 tX2_copyFrom = true := by decide +kernel
theorem kX2_copyAll : bw_okT 2 cX2_copyAll 2 tX2_copyAll = true := by decide +kernel
theorem kX3_thing : bw_okT 3 cX3_thing 4 tX3_thing = true := by decide +kernel
theorem kX3_arrow : bw_okT 3 cX3_arrow 3 tX3_arrow = true := by decide +kernel
theorem kX3_cut : bw_okT 3 cX3_cut 3 tX3_cut = true := by decide +kernel
theorem kX3_weight : bw_okT 3 cX3_weight 6 tX3_weight = true := by decide +kernel
theorem kX3_told : bw_okT 3 cX3_told 4 tX3_told = true := by decide +kernel
theorem kX3_about : bw_okT 3 cX3_about 3 tX3_about = true := by decide +kernel
theorem kX3_parent : bw_okT 3 cX3_parent 3 tX3_parent = true := by decide +kernel
theorem kX3_sound : bw_okT 3 cX3_sound 1 tX3_sound = true := by decide +kernel
theorem kX3_see : bw_okT 3 cX3_see 3 tX3_see = true := by decide +kernel
theorem kX3_act : bw_okT 3 cX3_act 3 tX3_act = true := by decide +kernel
theorem kX3_force : bw_okT 3 cX3_force 5 tX3_force = true := by decide +kernel
theorem kX3_chance : bw_okT 3 cX3_chance 1 tX3_chance = true := by decide +kernel
theorem kX3_ask : bw_okT 3 cX3_ask 4 tX3_ask = true := by decide +kernel
theorem kX3_both : bw_okT 3 cX3_both 8 tX3_both = true := by decide +kernel
theorem kX3_up : bw_okT 3 cX3_up 1 tX3_up = true := by decide +kernel
theorem kX3_down : bw_okT 3 cX3_down 1 tX3_down = true := by decide +kernel
theorem kX3_most : bw_okT 3 cX3_most 5 tX3_most = true := by decide +kernel
theorem kX3_likeliest : bw_okT 3 cX3_likeliest 2 tX3_likeliest = true := by decide +kernel
theorem kX3_at : bw_okT 3 cX3_at 2 tX3_at = true := by decide +kernel
theorem kX3_wholes : bw_okT 3 cX3_wholes 1 tX3_wholes = true := by decide +kernel
theorem kX3_apart : bw_okT 3 cX3_apart 3 tX3_apart = true := by decide +kernel
theorem kX3_options : bw_okT 3 cX3_options 3 tX3_options = true := by decide +kernel
theorem kX3_worth : bw_okT 3 cX3_worth 6 tX3_worth = true := by decide +kernel
theorem kX3_expected : bw_okT 3 cX3_expected 3 tX3_expected = true := by decide +kernel
theorem kX3_best : bw_okT 3 cX3_best 3 tX3_best = true := by decide +kernel
theorem kX3_gain : bw_okT 3 cX3_gain 7 tX3_gain = true := by decide +kernel
theorem kX3_next : bw_okT 3 cX3_next 12 tX3_next = true := by decide +kernel
theorem kX3_undo : bw_okT 3 cX3_undo 1 tX3_undo = true := by decide +kernel
theorem kX3_count : bw_okT 3 cX3_count 2 tX3_count = true := by decide +kernel
theorem kX3_carryOut : bw_okT 3 cX3_carryOut 6 tX3_carryOut = true := by decide +kernel
theorem kX3_trouble : bw_okT 3 cX3_trouble 1 tX3_trouble = true := by decide +kernel
theorem kX3_tell : bw_okT 3 cX3_tell 7 tX3_tell = true := by decide +kernel
theorem kX3_commonDivisor : bw_okT 3 cX3_commonDivisor 11 tX3_commonDivisor = true := by decide +kernel
theorem kX3_show : bw_okT 3 cX3_show 4 tX3_show = true := by decide +kernel
theorem kX3_gainSum : bw_okT 3 cX3_gainSum 7 tX3_gainSum = true := by decide +kernel
theorem kX3_slot : bw_okT 3 cX3_slot 2 tX3_slot = true := by decide +kernel
theorem kX3_weightSlot : bw_okT 3 cX3_weightSlot 3 tX3_weightSlot = true := by decide +kernel
theorem kX3_worthSlot : bw_okT 3 cX3_worthSlot 3 tX3_worthSlot = true := by decide +kernel
theorem kX3_parentSlot : bw_okT 3 cX3_parentSlot 2 tX3_parentSlot = true := by decide +kernel
theorem kX3_isIn : bw_okT 3 cX3_isIn 2 tX3_isIn = true := by decide +kernel
theorem kX4_isThing : bw_okT 4 cX4_isThing 2 tX4_isThing = true := by decide +kernel
theorem kX4_isValue : bw_okT 4 cX4_isValue 3 tX4_isValue = true := by decide +kernel
theorem kX4_rows : bw_okT 4 cX4_rows 4 tX4_rows = true := by decide +kernel
theorem kX4_thing : bw_okT 4 cX4_thing 10 tX4_thing = true := by decide +kernel
theorem kX4_plainTable : bw_okT 4 cX4_plainTable 4 tX4_plainTable = true := by decide +kernel
theorem kX4_isParent : bw_okT 4 cX4_isParent 4 tX4_isParent = true := by decide +kernel
theorem kX4_reach : bw_okT 4 cX4_reach 6 tX4_reach = true := by decide +kernel
theorem kX4_arrow : bw_okT 4 cX4_arrow 3 tX4_arrow = true := by decide +kernel
theorem kX4_cut : bw_okT 4 cX4_cut 5 tX4_cut = true := by decide +kernel
theorem kX4_isWeight : bw_okT 4 cX4_isWeight 4 tX4_isWeight = true := by decide +kernel
theorem kX4_weight : bw_okT 4 cX4_weight 7 tX4_weight = true := by decide +kernel
theorem kX4_told : bw_okT 4 cX4_told 4 tX4_told = true := by decide +kernel
theorem kX4_isSound : bw_okT 4 cX4_isSound 5 tX4_isSound = true := by decide +kernel
theorem kX4_about : bw_okT 4 cX4_about 3 tX4_about = true := by decide +kernel
theorem kX4_parent : bw_okT 4 cX4_parent 3 tX4_parent = true := by decide +kernel
theorem kX4_isRough : bw_okT 4 cX4_isRough 2 tX4_isRough = true := by decide +kernel
theorem kX4_sound : bw_okT 4 cX4_sound 1 tX4_sound = true := by decide +kernel
theorem kX4_mayBe : bw_okT 4 cX4_mayBe 3 tX4_mayBe = true := by decide +kernel
theorem kX4_becomes : bw_okT 4 cX4_becomes 4 tX4_becomes = true := by decide +kernel
theorem kX4_see : bw_okT 4 cX4_see 3 tX4_see = true := by decide +kernel
theorem kX4_act : bw_okT 4 cX4_act 3 tX4_act = true := by decide +kernel
theorem kX4_force : bw_okT 4 cX4_force 5 tX4_force = true := by decide +kernel
theorem kX4_firstWhole : bw_okT 4 cX4_firstWhole 2 tX4_firstWhole = true := by decide +kernel
theorem kX4_nextWhole : bw_okT 4 cX4_nextWhole 2 tX4_nextWhole = true := by decide +kernel
theorem kX4_weigh : bw_okT 4 cX4_weigh 5 tX4_weigh = true := by decide +kernel
theorem kX4_sum : bw_okT 4 cX4_sum 8 tX4_sum = true := by decide +kernel
theorem kX4_all : bw_okT 4 cX4_all 1 tX4_all = true := by decide +kernel
theorem kX4_common : bw_okT 4 cX4_common 10 tX4_common = true := by decide +kernel
theorem kX4_tell : bw_okT 4 cX4_tell 7 tX4_tell = true := by decide +kernel
theorem kX4_up : bw_okT 4 cX4_up 1 tX4_up = true := by decide +kernel
theorem kX4_down : bw_okT 4 cX4_down 1 tX4_down = true := by decide +kernel
theorem kX4_chance : bw_okT 4 cX4_chance 4 tX4_chance = true := by decide +kernel
theorem kX4_refused : bw_okT 4 cX4_refused 1 tX4_refused = true := by decide +kernel
theorem kX4_ask : bw_okT 4 cX4_ask 4 tX4_ask = true := by decide +kernel
theorem kX4_both : bw_okT 4 cX4_both 6 tX4_both = true := by decide +kernel
theorem kX4_most : bw_okT 4 cX4_most 9 tX4_most = true := by decide +kernel
theorem kX4_likeliest : bw_okT 4 cX4_likeliest 5 tX4_likeliest = true := by decide +kernel
theorem kX4_insert : bw_okT 4 cX4_insert 5 tX4_insert = true := by decide +kernel
theorem kX4_at : bw_okT 4 cX4_at 2 tX4_at = true := by decide +kernel
theorem kX4_wholes : bw_okT 4 cX4_wholes 3 tX4_wholes = true := by decide +kernel
theorem kX4_leads : bw_okT 4 cX4_leads 3 tX4_leads = true := by decide +kernel
theorem kX4_passes : bw_okT 4 cX4_passes 5 tX4_passes = true := by decide +kernel
theorem kX4_apart : bw_okT 4 cX4_apart 6 tX4_apart = true := by decide +kernel
theorem kX4_options : bw_okT 4 cX4_options 5 tX4_options = true := by decide +kernel
theorem kX4_isOption : bw_okT 4 cX4_isOption 2 tX4_isOption = true := by decide +kernel
theorem kX4_worth : bw_okT 4 cX4_worth 7 tX4_worth = true := by decide +kernel
theorem kX4_worthOf : bw_okT 4 cX4_worthOf 10 tX4_worthOf = true := by decide +kernel
theorem kX4_greatest : bw_okT 4 cX4_greatest 8 tX4_greatest = true := by decide +kernel
theorem kX4_expected : bw_okT 4 cX4_expected 3 tX4_expected = true := by decide +kernel
theorem kX4_best : bw_okT 4 cX4_best 6 tX4_best = true := by decide +kernel
theorem kX4_isKnown : bw_okT 4 cX4_isKnown 2 tX4_isKnown = true := by decide +kernel
theorem kX4_gainOf : bw_okT 4 cX4_gainOf 5 tX4_gainOf = true := by decide +kernel
theorem kX4_gain : bw_okT 4 cX4_gain 3 tX4_gain = true := by decide +kernel
theorem kX4_next : bw_okT 4 cX4_next 8 tX4_next = true := by decide +kernel
theorem kX4_note : bw_okT 4 cX4_note 5 tX4_note = true := by decide +kernel
theorem kX4_undo : bw_okT 4 cX4_undo 4 tX4_undo = true := by decide +kernel
theorem kX4_count : bw_okT 4 cX4_count 4 tX4_count = true := by decide +kernel
def bw_tabs : List (List bwE) := [tX0_startFrom, tX0_add, tX0_takeBackLatest, tX0_repeat, tX0_placeOf, tX1_goOver, tX1_goOverThoseWith, tX1_rank, tX1_start, tX1_putParentsFirst, tX1_spread, tX1_meet, tX1_isBefore, tX1_wholeChosen, tX1_worthSum, tX1_bestOption, tX1_greatestWorthSum, tX2_hasThing, tX2_hasValue, tX2_mayBeKnownAs, tX2_hasWeight, tX2_hasOption, tX2_isFree, tX2_allWholes, tX2_allTotals, tX2_arrows, tX2_rows, tX2_rowAt, tX2_isSound, tX2_hasSoundTable, tX2_factor, tX2_parentPlace, tX2_parentSet, tX2_ancestorsAnd, tX2_parentSetNow, tX2_childSetNow, tX2_hasOpenRoad, tX2_addThing, tX2_carryOut, tX2_addParent, tX2_dropParent, tX2_resetTable, tX2_setOptions, tX2_copyFrom, tX2_copyAll, tX3_thing, tX3_arrow, tX3_cut, tX3_weight, tX3_told, tX3_about, tX3_parent, tX3_sound, tX3_see, tX3_act, tX3_force, tX3_chance, tX3_ask, tX3_both, tX3_up, tX3_down, tX3_most, tX3_likeliest, tX3_at, tX3_wholes, tX3_apart, tX3_options, tX3_worth, tX3_expected, tX3_best, tX3_gain, tX3_next, tX3_undo, tX3_count, tX3_carryOut, tX3_trouble, tX3_tell, tX3_commonDivisor, tX3_show, tX3_gainSum, tX3_slot, tX3_weightSlot, tX3_worthSlot, tX3_parentSlot, tX3_isIn, tX4_isThing, tX4_isValue, tX4_rows, tX4_thing, tX4_plainTable, tX4_isParent, tX4_reach, tX4_arrow, tX4_cut, tX4_isWeight, tX4_weight, tX4_told, tX4_isSound, tX4_about, tX4_parent, tX4_isRough, tX4_sound, tX4_mayBe, tX4_becomes, tX4_see, tX4_act, tX4_force, tX4_firstWhole, tX4_nextWhole, tX4_weigh, tX4_sum, tX4_all, tX4_common, tX4_tell, tX4_up, tX4_down, tX4_chance, tX4_refused, tX4_ask, tX4_both, tX4_most, tX4_likeliest, tX4_insert, tX4_at, tX4_wholes, tX4_leads, tX4_passes, tX4_apart, tX4_options, tX4_isOption, tX4_worth, tX4_worthOf, tX4_greatest, tX4_expected, tX4_best, tX4_isKnown, tX4_gainOf, tX4_gain, tX4_next, tX4_note, tX4_undo, tX4_count]
theorem bw_tabs_ok : bw_okA bw_sg bw_tabs := ⟨kX0_startFrom, ⟨kX0_add, ⟨kX0_takeBackLatest, ⟨kX0_repeat, ⟨kX0_placeOf, ⟨kX1_goOver, ⟨kX1_goOverThoseWith, ⟨kX1_rank, ⟨kX1_start, ⟨kX1_putParentsFirst, ⟨kX1_spread, ⟨kX1_meet, ⟨kX1_isBefore, ⟨kX1_wholeChosen, ⟨kX1_worthSum, ⟨kX1_bestOption, ⟨kX1_greatestWorthSum, ⟨kX2_hasThing, ⟨kX2_hasValue, ⟨kX2_mayBeKnownAs, ⟨kX2_hasWeight, ⟨kX2_hasOption, ⟨kX2_isFree, ⟨kX2_allWholes, ⟨kX2_allTotals, ⟨kX2_arrows, ⟨kX2_rows, ⟨kX2_rowAt, ⟨kX2_isSound, ⟨kX2_hasSoundTable, ⟨kX2_factor, ⟨kX2_parentPlace, ⟨kX2_parentSet, ⟨kX2_ancestorsAnd, ⟨kX2_parentSetNow, ⟨kX2_childSetNow, ⟨kX2_hasOpenRoad, ⟨kX2_addThing, ⟨kX2_carryOut, ⟨kX2_addParent, ⟨kX2_dropParent, ⟨kX2_resetTable, ⟨kX2_setOptions, ⟨kX2_copyFrom, ⟨kX2_copyAll, ⟨kX3_thing, ⟨kX3_arrow, ⟨kX3_cut, ⟨kX3_weight, ⟨kX3_told, ⟨kX3_about, ⟨kX3_parent, ⟨kX3_sound, ⟨kX3_see, ⟨kX3_act, ⟨kX3_force, ⟨kX3_chance, ⟨kX3_ask, ⟨kX3_both, ⟨kX3_up, ⟨kX3_down, ⟨kX3_most, ⟨kX3_likeliest, ⟨kX3_at, ⟨kX3_wholes, ⟨kX3_apart, ⟨kX3_options, ⟨kX3_worth, ⟨kX3_expected, ⟨kX3_best, ⟨kX3_gain, ⟨kX3_next, ⟨kX3_undo, ⟨kX3_count, ⟨kX3_carryOut, ⟨kX3_trouble, ⟨kX3_tell, ⟨kX3_commonDivisor, ⟨kX3_show, ⟨kX3_gainSum, ⟨kX3_slot, ⟨kX3_weightSlot, ⟨kX3_worthSlot, ⟨kX3_parentSlot, ⟨kX3_isIn, ⟨kX4_isThing, ⟨kX4_isValue, ⟨kX4_rows, ⟨kX4_thing, ⟨kX4_plainTable, ⟨kX4_isParent, ⟨kX4_reach, ⟨kX4_arrow, ⟨kX4_cut, ⟨kX4_isWeight, ⟨kX4_weight, ⟨kX4_told, ⟨kX4_isSound, ⟨kX4_about, ⟨kX4_parent, ⟨kX4_isRough, ⟨kX4_sound, ⟨kX4_mayBe, ⟨kX4_becomes, ⟨kX4_see, ⟨kX4_act, ⟨kX4_force, ⟨kX4_firstWhole, ⟨kX4_nextWhole, ⟨kX4_weigh, ⟨kX4_sum, ⟨kX4_all, ⟨kX4_common, ⟨kX4_tell, ⟨kX4_up, ⟨kX4_down, ⟨kX4_chance, ⟨kX4_refused, ⟨kX4_ask, ⟨kX4_both, ⟨kX4_most, ⟨kX4_likeliest, ⟨kX4_insert, ⟨kX4_at, ⟨kX4_wholes, ⟨kX4_leads, ⟨kX4_passes, ⟨kX4_apart, ⟨kX4_options, ⟨kX4_isOption, ⟨kX4_worth, ⟨kX4_worthOf, ⟨kX4_greatest, ⟨kX4_expected, ⟨kX4_best, ⟨kX4_isKnown, ⟨kX4_gainOf, ⟨kX4_gain, ⟨kX4_next, ⟨kX4_note, ⟨kX4_undo, ⟨kX4_count, trivial⟩⟩⟩⟩⟩⟩⟩⟩⟩⟩⟩⟩⟩⟩⟩⟩⟩⟩⟩⟩⟩⟩⟩⟩⟩⟩⟩⟩⟩⟩⟩⟩⟩⟩⟩⟩⟩⟩⟩⟩⟩⟩⟩⟩⟩⟩⟩⟩⟩⟩⟩⟩⟩⟩⟩⟩⟩⟩⟩⟩⟩⟩⟩⟩⟩⟩⟩⟩⟩⟩⟩⟩⟩⟩⟩⟩⟩⟩⟩⟩⟩⟩⟩⟩⟩⟩⟩⟩⟩⟩⟩⟩⟩⟩⟩⟩⟩⟩⟩⟩⟩⟩⟩⟩⟩⟩⟩⟩⟩⟩⟩⟩⟩⟩⟩⟩⟩⟩⟩⟩⟩⟩⟩⟩⟩⟩⟩⟩⟩⟩⟩⟩⟩⟩⟩⟩⟩⟩⟩⟩⟩⟩
end
section
/-! THE WORLD: the cells of the heap that a memory says, and what the steps need of them. -/
def bw_z : Nat → Int32 := fun _ => 0
noncomputable def bw_call : Nat → Nat → List bwV → bwM → Option bwR
  | 0, _, _, _ => none
  | d + 1, m, as, μ => match bw_nth bw_sg m with
    | some (_, _, _, mx, rt, _, _) => (match bw_nth bw_tabs m with
      | some t => bif Nat.ble (bw_wd as) mx then bw_ex (bw_call d) 0 bw_z rt t 0 (bw_loc as mx) [] μ else none
      | none => none)
    | none => none
def bw_cv (ad : Nat → Nat) (v : bwV) : Value := match v with
  | .inl x => .int x
  | .inr (.inl y) => .long y
  | .inr (.inr o) => .ref (ad o)
def bw_fd (ad : Nat → Nat) (o : Nat) (f : Nat → Int32) (g : Nat → Int64) : List Value := (List.range (bw_nf (bw_cls o))).map fun a => match bw_ft (bw_cls o) a with
  | 0 => .int (f a)
  | 1 => .long (g a)
  | _ => .ref (ad (bw_rf o a))
def bw_cell (ad : Nat → Nat) (cI cJ cZ : ClassId) (o : Nat) (f : Nat → Int32) (g : Nat → Int64) : va_E := match bw_kd o with
  | 0 => .inr (bw_cls o, bw_fd ad o f g)
  | 1 => .inl (cI, bw_len o, .inl f)
  | 2 => .inl (cJ, bw_len o, .inr (.inl g))
  | _ => .inl (cZ, bw_len o, .inl f)
def bw_cells (ad : Nat → Nat) (cI cJ cZ : ClassId) (μ : bwM) : va_W := (List.range 53).map fun o => (ad o, bw_cell ad cI cJ cZ o (μ.1 o) (μ.2 o))
def bw_tys (cI cJ cZ : ClassId) : List (ClassId × FieldType) := [(cI, .int), (cJ, .long), (cZ, .boolean)]
def bw_lv (ad : Nat → Nat) (i : Nat) (ls : List (Option bwV)) : List (Nat × Value) := match ls with
  | [] => []
  | some v :: r => (i, bw_cv ad v) :: bw_lv ad (i + 1) r
  | none :: r => bw_lv ad (i + 1) r
theorem bw_lv_mem {ad : Nat → Nat} {q : Nat × Value} : ∀ (ls : List (Option bwV)) (i : Nat), q ∈ bw_lv ad i ls ↔ ∃ (j : Nat) (v : bwV), bw_get ls j = some (some v) ∧ q = (i + j, bw_cv ad v) := by
  intro ls
  induction ls with
  | nil => intro i; simp [bw_lv, bw_get]
  | cons a r ih =>
    intro i
    constructor
    · intro h
      cases a with
      | none =>
        obtain ⟨j, v, h1, h2⟩ := (ih (i + 1)).mp h
        exact ⟨j + 1, v, h1, by rw [h2, Nat.add_assoc, Nat.add_comm 1 j]⟩
      | some w =>
        rcases List.mem_cons.mp h with h | h
        · exact ⟨0, w, rfl, h⟩
        · obtain ⟨j, v, h1, h2⟩ := (ih (i + 1)).mp h
          exact ⟨j + 1, v, h1, by rw [h2, Nat.add_assoc, Nat.add_comm 1 j]⟩
    · rintro ⟨j, v, h1, h2⟩
      cases j with
      | zero =>
        cases a with
        | none => cases h1
        | some w =>
          cases h1
          exact List.mem_cons.mpr (Or.inl h2)
      | succ j =>
        have h3 := (ih (i + 1)).mpr ⟨j, v, h1, by rw [h2, Nat.add_assoc, Nat.add_comm 1 j]⟩
        cases a with
        | none => exact h3
        | some w => exact List.mem_cons.mpr (Or.inr h3)
theorem bw_get_set {ls : List (Option bwV)} {i j : Nat} {v x : Option bwV} (h : bw_get (bw_set ls i v) j = some x) : (j = i ∧ x = v) ∨ (j ≠ i ∧ bw_get ls j = some x) := by
  induction ls generalizing i j with
  | nil => cases h
  | cons a r ih =>
    cases i with
    | zero =>
      cases j with
      | zero => cases h; exact Or.inl ⟨rfl, rfl⟩
      | succ j => exact Or.inr ⟨by omega, h⟩
    | succ i =>
      cases j with
      | zero => exact Or.inr ⟨by omega, h⟩
      | succ j =>
        rcases ih h with ⟨h1, h2⟩ | ⟨h1, h2⟩
        · exact Or.inl ⟨by omega, h2⟩
        · exact Or.inr ⟨by omega, h2⟩
theorem bw_cv_cat {ad : Nat → Nat} (v : bwV) : ((bw_cv ad v).category == 2) = bw_isL v := by
  rcases v with x | x | x <;> rfl
theorem bw_get_clr {ls : List (Option bwV)} {i j : Nat} {v : bwV} (h : bw_get (bw_clr ls i) j = some (some v)) : bw_get ls j = some (some v) ∧ ¬ (j + 1 = i ∧ bw_isL v = true) := by
  cases i with
  | zero => exact ⟨h, by omega⟩
  | succ i =>
    unfold bw_clr at h
    dsimp only at h
    split at h
    · rename_i y hy
      rcases bw_get_set h with ⟨h1, h2⟩ | ⟨h1, h2⟩
      · cases h2
      · exact ⟨h2, by omega⟩
    · rename_i hn
      refine ⟨h, ?_⟩
      rintro ⟨h1, h2⟩
      have h3 : j = i := by omega
      subst h3
      rcases v with x | x | x
      · cases h2
      · exact hn x h
      · cases h2
theorem bw_lv_put {ad : Nat → Nat} {ls : List (Option bwV)} {i nL : Nat} {v : bwV} {lsA : Array Slot} (h : lv_has lsA nL ((i, bw_cv ad v) :: (bw_lv ad 0 ls).filter (fun q => !(q.1 == i) && !(q.1 + 1 == i && q.2.category == 2)))) : lv_has lsA nL (bw_lv ad 0 (bw_put ls i v)) := by
  refine ⟨h.1, h.2.1, fun q hq => h.2.2 q ?_⟩
  obtain ⟨j, w, h1, rfl⟩ := (bw_lv_mem _ _).mp hq
  rw [Nat.zero_add]
  rcases bw_get_set h1 with ⟨h2, h3⟩ | ⟨h2, h3⟩
  · cases h3; subst h2; exact List.mem_cons_self
  · obtain ⟨h4, h5⟩ := bw_get_clr h3
    refine List.mem_cons.mpr (Or.inr (List.mem_filter.mpr ⟨(bw_lv_mem _ _).mpr ⟨j, w, h4, by rw [Nat.zero_add]⟩, ?_⟩))
    dsimp only
    rw [bw_cv_cat]
    have e1 : (j == i) = false := by simp [h2]
    rw [e1]
    cases hL : bw_isL w with
    | false => simp
    | true =>
      have e2 : (j + 1 == i) = false := by simp; intro h6; exact h5 ⟨h6, hL⟩
      rw [e2]; rfl
theorem bw_lv_putL {ad : Nat → Nat} {ls : List (Option bwV)} {i nL : Nat} {v : Int64} {lsA : Array Slot} (h : lv_has lsA nL ((i, Value.long v) :: (bw_lv ad 0 ls).filter (fun q => !(q.1 == i) && (!(q.1 == i + 1) && !(q.1 + 1 == i && q.2.category == 2))))) : lv_has lsA nL (bw_lv ad 0 (bw_putL ls i v)) := by
  refine ⟨h.1, h.2.1, fun q hq => h.2.2 q ?_⟩
  obtain ⟨j, w, h1, rfl⟩ := (bw_lv_mem _ _).mp hq
  rw [Nat.zero_add]
  rcases bw_get_set h1 with ⟨h2, h3⟩ | ⟨h0, h1⟩
  · cases h3
  rcases bw_get_set h1 with ⟨h2, h3⟩ | ⟨h2, h3⟩
  · cases h3; subst h2; exact List.mem_cons_self
  · obtain ⟨h4, h5⟩ := bw_get_clr h3
    refine List.mem_cons.mpr (Or.inr (List.mem_filter.mpr ⟨(bw_lv_mem _ _).mpr ⟨j, w, h4, by rw [Nat.zero_add]⟩, ?_⟩))
    dsimp only
    rw [bw_cv_cat]
    have e1 : (j == i) = false := by simp [h2]
    have e0 : (j == i + 1) = false := by simp [h0]
    rw [e1, e0]
    cases hL : bw_isL w with
    | false => simp
    | true =>
      have e2 : (j + 1 == i) = false := by simp; intro h6; exact h5 ⟨h6, hL⟩
      rw [e2]; rfl
theorem bw_lv_forget {ad : Nat → Nat} {nL : Nat} {lsA : Array Slot} : ∀ (ks : List Nat) (ls : List (Option bwV)), lv_has lsA nL (bw_lv ad 0 ls) → lv_has lsA nL (bw_lv ad 0 (bw_forget ks ls)) := by
  intro ks
  induction ks with
  | nil => intro ls h; exact h
  | cons k r ih =>
    intro ls h
    refine ih _ ⟨h.1, h.2.1, fun q hq => h.2.2 q ?_⟩
    obtain ⟨j, w, h1, rfl⟩ := (bw_lv_mem _ _).mp hq
    rcases bw_get_set h1 with ⟨h2, h3⟩ | ⟨h2, h3⟩
    · cases h3
    · exact (bw_lv_mem _ _).mpr ⟨j, w, h3, rfl⟩
theorem bw_lv_at {ad : Nat → Nat} {nL : Nat} {lsA : Array Slot} {ls : List (Option bwV)} {i : Nat} {v : bwV} (h : lv_has lsA nL (bw_lv ad 0 ls)) (hg : bw_get ls i = some (some v)) : lsA[i]? = some (.val (bw_cv ad v)) :=
  h.2.2 (i, bw_cv ad v) ((bw_lv_mem _ _).mpr ⟨i, v, hg, by rw [Nat.zero_add]⟩)
theorem bw_wd_cat (ad : Nat → Nat) : ∀ st : List bwV, ((st.map (bw_cv ad)).map fun v => v.category).sum = bw_wd st := by
  intro st
  induction st with
  | nil => rfl
  | cons v r ih =>
    simp only [List.map_cons, List.sum_cons, ih, bw_wd]
    rcases v with x | x | x <;> rfl
theorem bw_wd_sl (ad : Nat → Nat) : ∀ st : List bwV, (lg_sl (st.map (bw_cv ad))).length = bw_wd st := by
  intro st
  induction st with
  | nil => rfl
  | cons v r ih =>
    unfold lg_sl at ih ⊢
    simp only [List.map_cons, List.flatMap_cons, List.length_append, ih, bw_wd]
    rcases v with x | x | x <;> rfl
theorem bw_loc_args {ad : Nat → Nat} : ∀ (n : Nat) (as : List bwV) (i j : Nat) (v : bwV), bw_get (bw_loc as n) j = some (some v) → (i + j, bw_cv ad v) ∈ lv_args i (as.map (bw_cv ad)) := by
  intro n
  induction n using Nat.strongRecOn with
  | _ n ih =>
    intro as i j v h
    cases n with
    | zero => unfold bw_loc at h; cases h
    | succ n =>
      cases as with
      | nil =>
        unfold bw_loc at h
        dsimp only at h
        cases j with
        | zero => cases h
        | succ j =>
          have := ih n (Nat.lt_succ_self n) [] (i + 1) j v h
          simp [lv_args] at this
      | cons a r =>
        rcases a with x | x | x
        · unfold bw_loc at h
          dsimp only at h
          cases j with
          | zero => cases h; exact List.mem_cons_self
          | succ j =>
            have := ih n (Nat.lt_succ_self n) r (i + 1) j v h
            rw [show i + (j + 1) = i + 1 + j from by omega]
            exact List.mem_cons.mpr (Or.inr this)
        · unfold bw_loc at h
          dsimp only at h
          cases n with
          | zero =>
            cases j with
            | zero => cases h; exact List.mem_cons_self
            | succ j => cases h
          | succ n =>
            dsimp only at h
            cases j with
            | zero => cases h; exact List.mem_cons_self
            | succ j =>
              cases j with
              | zero => cases h
              | succ j =>
                have := ih n (by omega) r (i + 2) j v h
                rw [show i + (j + 1 + 1) = i + 2 + j from by omega]
                exact List.mem_cons.mpr (Or.inr this)
        · unfold bw_loc at h
          dsimp only at h
          cases j with
          | zero => cases h; exact List.mem_cons_self
          | succ j =>
            have := ih n (Nat.lt_succ_self n) r (i + 1) j v h
            rw [show i + (j + 1) = i + 1 + j from by omega]
            exact List.mem_cons.mpr (Or.inr this)
-- cells
theorem bw_cls_ob {o b : Nat} (h : bw_cls o = b) (hb : b < 5) : o < 53 ∧ bw_kd o = 0 := by
  unfold bw_cls at h
  split at h <;> first | omega | exact ⟨by decide, rfl⟩
theorem bw_cells_at {ad : Nat → Nat} {cI cJ cZ : ClassId} {μ : bwM} {o : Nat} (h : o < 53) : (bw_cells ad cI cJ cZ μ)[o]? = some (ad o, bw_cell ad cI cJ cZ o (μ.1 o) (μ.2 o)) := by
  simp [bw_cells, h]
theorem bw_cells_set {ad : Nat → Nat} {cI cJ cZ : ClassId} {μ μ' : bwM} {o : Nat} {X : va_E} (hX : bw_cell ad cI cJ cZ o (μ'.1 o) (μ'.2 o) = X) (h1 : ∀ o', o' ≠ o → μ'.1 o' = μ.1 o') (h2 : ∀ o', o' ≠ o → μ'.2 o' = μ.2 o') : (bw_cells ad cI cJ cZ μ).set o (ad o, X) = bw_cells ad cI cJ cZ μ' := by
  apply List.ext_getElem?
  intro i
  rw [List.getElem?_set]
  by_cases hi : i < 53
  · by_cases e : o = i
    · subst e
      rw [if_pos rfl, bw_cells_at hi, hX]
      simp [bw_cells, hi]
    · rw [if_neg e, bw_cells_at hi, bw_cells_at hi, h1 i (fun q => e q.symm), h2 i (fun q => e q.symm)]
  · have e1 : (bw_cells ad cI cJ cZ μ').length ≤ i := by simp [bw_cells]; omega
    have e2 : (bw_cells ad cI cJ cZ μ).length ≤ i := by simp [bw_cells]; omega
    rw [List.getElem?_eq_none e1]
    by_cases e : o = i
    · subst e
      rw [if_pos rfl, if_neg (by omega)]
    · rw [if_neg e, List.getElem?_eq_none e2]
theorem bw_si_ne {μ : bwM} {o j : Nat} {x : Int32} : ∀ o', o' ≠ o → (bw_si μ o j x).1 o' = μ.1 o' := by
  intro o' h; funext k; simp [bw_si, h]
theorem bw_si_eq {μ : bwM} {o j : Nat} {x : Int32} : (bw_si μ o j x).1 o = upd (μ.1 o) j x := by
  funext k; simp [bw_si, upd]
theorem bw_sl_ne {μ : bwM} {o j : Nat} {x : Int64} : ∀ o', o' ≠ o → (bw_sl μ o j x).2 o' = μ.2 o' := by
  intro o' h; funext k; simp [bw_sl, h]
theorem bw_sl_eq {μ : bwM} {o j : Nat} {x : Int64} : (bw_sl μ o j x).2 o = vp_updL (μ.2 o) j x := by
  funext k; simp [bw_sl, vp_updL]
theorem bw_in_vp {i : Int32} {n : Nat} (h : bw_in i n) : vp_in i n := by
  unfold vp_in
  rintro (h1 | h1)
  · have := h.1
    rw [Int32.lt_iff_toInt_lt] at h1
    rw [Int32.le_iff_toInt_le] at this
    omega
  · have := h.2
    omega
theorem bw_cls_ws : ∀ (b : Nat) (r : vw_C), vwCl[b]? = some r → ∀ w ∈ u_ws r.1 r.2.1 r.2.2, w ∈ lw_tbl := by
  intro b r h
  match b, h with
  | 0, h => cases h; exact inX0
  | 1, h => cases h; exact inX1
  | 2, h => cases h; exact inX2
  | 3, h => cases h; exact inX3
  | 4, h => cases h; exact inX4
  | b + 5, h => simp [vwCl] at h
theorem bw_cls_nf : ∀ (b : Nat) (r : vw_C), vwCl[b]? = some r → r.2.2 = bw_nf b ∧ b < 5 := by
  intro b r h
  match b, h with
  | 0, h => cases h; exact ⟨rfl, by decide⟩
  | 1, h => cases h; exact ⟨rfl, by decide⟩
  | 2, h => cases h; exact ⟨rfl, by decide⟩
  | 3, h => cases h; exact ⟨rfl, by decide⟩
  | 4, h => cases h; exact ⟨rfl, by decide⟩
  | b + 5, h => simp [vwCl] at h
theorem bw_ftX0 : ∀ k, k < 4 → (bw_ft 0 k = 0 → (TX0 k).2.2.2 = false ∧ tyX0 k = .int) ∧ (bw_ft 0 k = 1 → (TX0 k).2.2.2 = false ∧ tyX0 k = .long) := by decide +kernel
theorem bw_ftX1 : ∀ k, k < 11 → (bw_ft 1 k = 0 → (TX1 k).2.2.2 = false ∧ tyX1 k = .int) ∧ (bw_ft 1 k = 1 → (TX1 k).2.2.2 = false ∧ tyX1 k = .long) := by decide +kernel
theorem bw_ftX2 : ∀ k, k < 11 → (bw_ft 2 k = 0 → (TX2 k).2.2.2 = false ∧ tyX2 k = .int) ∧ (bw_ft 2 k = 1 → (TX2 k).2.2.2 = false ∧ tyX2 k = .long) := by decide +kernel
theorem bw_ftX3 : ∀ k, k < 7 → (bw_ft 3 k = 0 → (TX3 k).2.2.2 = false ∧ tyX3 k = .int) ∧ (bw_ft 3 k = 1 → (TX3 k).2.2.2 = false ∧ tyX3 k = .long) := by decide +kernel
theorem bw_ftX4 : ∀ k, k < 31 → (bw_ft 4 k = 0 → (TX4 k).2.2.2 = false ∧ tyX4 k = .int) ∧ (bw_ft 4 k = 1 → (TX4 k).2.2.2 = false ∧ tyX4 k = .long) := by decide +kernel
theorem bw_cls_ty : ∀ (b : Nat) (r : vw_C), vwCl[b]? = some r → ∃ ty0 : Nat → FieldType, (∀ k, k < r.2.2 → parseFieldDescriptor (r.2.1 k).2.2.1 = some (ty0 k)) ∧ (∀ a, a < r.2.2 → ∀ b, b < r.2.2 → a ≠ b → (r.2.1 a).2.1 ≠ (r.2.1 b).2.1) ∧ ∀ k, k < r.2.2 → (bw_ft b k = 0 → (r.2.1 k).2.2.2 = false ∧ ty0 k = .int) ∧ (bw_ft b k = 1 → (r.2.1 k).2.2.2 = false ∧ ty0 k = .long) := by
  intro b r h
  match b, h with
  | 0, h => cases h; exact ⟨tyX0, tyX0_ok, nmX0, bw_ftX0⟩
  | 1, h => cases h; exact ⟨tyX1, tyX1_ok, nmX1, bw_ftX1⟩
  | 2, h => cases h; exact ⟨tyX2, tyX2_ok, nmX2, bw_ftX2⟩
  | 3, h => cases h; exact ⟨tyX3, tyX3_ok, nmX3, bw_ftX3⟩
  | 4, h => cases h; exact ⟨tyX4, tyX4_ok, nmX4, bw_ftX4⟩
  | b + 5, h => simp [vwCl] at h
theorem bw_beq {a b : Nat} (h : Nat.beq a b = true) : a = b := Nat.eq_of_beq_eq_true h
theorem bw_fl_use {own i a b : Nat} (h : (bw_fl.any fun q => Nat.beq q.1 own && Nat.beq q.2.1 i && Nat.beq q.2.2.1 b && Nat.beq q.2.2.2.1 a) = true) : ∃ r : vw_C, vwCl[b]? = some r ∧ a < r.2.2 ∧ Cond.fieldLink (bw_own own) i (r.2.1 a).1 (r.2.1 a).2.1 (r.2.1 a).2.2.1 ∈ lw_tbl := by
  obtain ⟨q, hq, h⟩ := List.any_eq_true.mp h
  simp only [Bool.and_eq_true] at h
  obtain ⟨⟨⟨h1, h2⟩, h3⟩, h4⟩ := h
  have h5 := List.all_eq_true.mp bw_fl_tbl q hq
  rw [← bw_beq h1, ← bw_beq h2, ← bw_beq h3, ← bw_beq h4]
  cases hr : vwCl[q.2.2.1]? with
  | none => rw [hr] at h5; cases h5
  | some r =>
    rw [hr] at h5
    simp only [Bool.and_eq_true, decide_eq_true_eq] at h5
    exact ⟨r, rfl, Nat.le_of_ble_eq_true h5.1, List.mem_of_getElem? h5.2⟩
theorem bw_ml_use {own i a : Nat} {P : Nat → Bool} (h : (bw_ml.any fun q => Nat.beq q.1 own && Nat.beq q.2.1 i && Nat.beq q.2.2.1 a && P q.2.2.2.1) = true) : ∃ (g : bwG) (n : Nat), bw_nth bw_sg a = some g ∧ P n = true ∧ (n = 0 → Cond.methodLink (bw_own own) i g.2.1 ∈ lw_tbl) ∧ (n ≠ 0 → Cond.methodLinkNest (bw_own own) i g.2.1 "BeliefWeb" ∈ lw_tbl) := by
  obtain ⟨q, hq, h⟩ := List.any_eq_true.mp h
  simp only [Bool.and_eq_true] at h
  obtain ⟨⟨⟨h1, h2⟩, h3⟩, h4⟩ := h
  have h5 := List.all_eq_true.mp bw_ml_tbl q hq
  rw [← bw_beq h1, ← bw_beq h2, ← bw_beq h3]
  cases hr : bw_nth bw_sg q.2.2.1 with
  | none => rw [hr] at h5; cases h5
  | some g =>
    rw [hr] at h5
    dsimp only at h5
    have h6 := List.mem_of_getElem? (of_decide_eq_true h5)
    refine ⟨g, q.2.2.2.1, rfl, h4, fun e => ?_, fun e => ?_⟩
    · rw [e] at h6; exact h6
    · cases hn : q.2.2.2.1 with
      | zero => exact absurd hn e
      | succ n => rw [hn] at h6; exact h6
theorem bw_nth_mem {α : Type} : ∀ (l : List α) (n : Nat) (a : α), bw_nth l n = some a → a ∈ l := by
  intro l
  induction l with
  | nil => intro n a h; cases h
  | cons b r ih =>
    intro n a h
    cases n with
    | zero => cases h; exact List.mem_cons_self
    | succ n => exact List.mem_cons.mpr (Or.inr (ih n a h))
theorem bw_okGs_use : ∀ (gs : List bwG) (ps : List (Nat × Nat × Nat × Nat)) (n : Nat) (g : bwG), bw_okGs gs ps = true → bw_nth gs n = some g → ∃ p, bw_okG g p = true := by
  intro gs
  induction gs with
  | nil => intro ps n g h1 h2; cases h2
  | cons a r ih =>
    intro ps n g h1 h2
    cases ps with
    | nil => cases h1
    | cons p ps =>
      simp only [bw_okGs, Bool.and_eq_true] at h1
      cases n with
      | zero => cases h2; exact ⟨p, h1.1⟩
      | succ n => exact ih ps n g h1.2 h2
theorem bw_okA_use : ∀ (gs : List bwG) (ts : List (List bwE)) (n : Nat) (g : bwG) (t : List bwE), bw_okA gs ts → bw_nth gs n = some g → bw_nth ts n = some t → bw_okT g.1 g.2.2.1 g.2.2.2.1 t = true := by
  intro gs
  induction gs with
  | nil => intro ps n g t h1 h2; cases h2
  | cons a r ih =>
    intro ps n g t h1 h2 h3
    cases ps with
    | nil => cases h1
    | cons p ps =>
      cases n with
      | zero => cases h2; cases h3; exact h1.1
      | succ n => exact ih ps n g t h1.2 h2 h3
theorem bw_cw_mem {m : Nat} {g : bwG} (h : bw_nth bw_sg m = some g) : bw_cw g ∈ lw_tbl := bw_cw_in _ (List.mem_map.mpr ⟨g, bw_nth_mem _ _ _ h, rfl⟩)
theorem bw_find_use : ∀ (t : List bwE) (pc : Nat) (e : bwE), bw_find t pc = some e → e ∈ t ∧ e.1 = pc := by
  intro t
  induction t with
  | nil => intro pc e h; cases h
  | cons a r ih =>
    intro pc e h
    unfold bw_find at h
    cases hb : Nat.beq a.1 pc with
    | true => rw [hb] at h; cases h; exact ⟨List.mem_cons_self, bw_beq hb⟩
    | false => rw [hb] at h; exact ⟨List.mem_cons.mpr (Or.inr (ih pc e h).1), (ih pc e h).2⟩
end
section
/-! SOUNDNESS: a step of the abstract machine is a step of the machine. -/
section ELIM
theorem be_gI {v : bwV} {k : Int32 → Prop} (h : bw_gI v False k) : ∃ x, v = .inl x ∧ k x := by
  rcases v with x | x | x
  · exact ⟨x, rfl, h⟩
  · exact h.elim
  · exact h.elim
theorem be_gL {v : bwV} {k : Int64 → Prop} (h : bw_gL v False k) : ∃ x, v = .inr (.inl x) ∧ k x := by
  rcases v with x | x | x
  · exact h.elim
  · exact ⟨x, rfl, h⟩
  · exact h.elim
theorem be_gR {v : bwV} {k : Nat → Prop} (h : bw_gR v False k) : ∃ x, v = .inr (.inr x) ∧ k x := by
  rcases v with x | x | x
  · exact h.elim
  · exact h.elim
  · exact ⟨x, rfl, h⟩
theorem be_pp {st : List bwV} {k : bwV → List bwV → Prop} (h : bw_pp st False k) : ∃ v r, st = v :: r ∧ k v r := by
  rcases st with _ | ⟨v, r⟩
  · exact h.elim
  · exact ⟨v, r, rfl, h⟩
theorem be_lk {o : Option (Option bwV)} {k : bwV → Prop} (h : bw_lk o False k) : ∃ v, o = some (some v) ∧ k v := by
  rcases o with _ | _ | v
  · exact h.elim
  · exact h.elim
  · exact ⟨v, rfl, h⟩
theorem be_nl {st : List bwV} {k : Prop} (h : bw_nl st False k) : st = [] ∧ k := by
  rcases st with _ | ⟨v, r⟩
  · exact ⟨rfl, h⟩
  · exact h.elim
theorem be_bI {r : Option bwR} {k : Int32 → bwM → Prop} (h : bw_bI r False k) : ∃ x μ, r = some (some (.inl x), μ) ∧ k x μ := by
  rcases r with _ | ⟨_ | x | x | x, μ⟩
  · exact h.elim
  · exact h.elim
  · exact ⟨x, μ, rfl, h⟩
  · exact h.elim
  · exact h.elim
theorem be_bL {r : Option bwR} {k : Int64 → bwM → Prop} (h : bw_bL r False k) : ∃ x μ, r = some (some (.inr (.inl x)), μ) ∧ k x μ := by
  rcases r with _ | ⟨_ | x | x | x, μ⟩
  · exact h.elim
  · exact h.elim
  · exact h.elim
  · exact ⟨x, μ, rfl, h⟩
  · exact h.elim
theorem be_bV {r : Option bwR} {k : bwM → Prop} (h : bw_bV r False k) : ∃ μ, r = some (none, μ) ∧ k μ := by
  rcases r with _ | ⟨_ | x, μ⟩
  · exact h.elim
  · exact ⟨μ, rfl, h⟩
  · exact h.elim
theorem be_i1 {st : List bwV} {k : Int32 → List bwV → Prop} (h : bw_i1 st False k) : ∃ x r, st = .inl x :: r ∧ k x r := by
  obtain ⟨v, r, e1, h1⟩ := be_pp h
  obtain ⟨x, e2, h2⟩ := be_gI h1
  exact ⟨x, r, by rw [e1, e2], h2⟩
theorem be_l1 {st : List bwV} {k : Int64 → List bwV → Prop} (h : bw_l1 st False k) : ∃ x r, st = .inr (.inl x) :: r ∧ k x r := by
  obtain ⟨v, r, e1, h1⟩ := be_pp h
  obtain ⟨x, e2, h2⟩ := be_gL h1
  exact ⟨x, r, by rw [e1, e2], h2⟩
theorem be_r1 {st : List bwV} {k : Nat → List bwV → Prop} (h : bw_r1 st False k) : ∃ x r, st = .inr (.inr x) :: r ∧ k x r := by
  obtain ⟨v, r, e1, h1⟩ := be_pp h
  obtain ⟨x, e2, h2⟩ := be_gR h1
  exact ⟨x, r, by rw [e1, e2], h2⟩
theorem be_i2 {st : List bwV} {k : Int32 → Int32 → List bwV → Prop} (h : bw_i2 st False k) : ∃ x y r, st = .inl y :: .inl x :: r ∧ k x y r := by
  obtain ⟨v, r, e1, h1⟩ := be_pp h
  obtain ⟨v2, r2, e2, h2⟩ := be_pp h1
  obtain ⟨y, e3, h3⟩ := be_gI h2
  obtain ⟨x, e4, h4⟩ := be_gI h3
  exact ⟨x, y, r2, by rw [e1, e2, e3, e4], h4⟩
theorem be_l2 {st : List bwV} {k : Int64 → Int64 → List bwV → Prop} (h : bw_l2 st False k) : ∃ x y r, st = .inr (.inl y) :: .inr (.inl x) :: r ∧ k x y r := by
  obtain ⟨v, r, e1, h1⟩ := be_pp h
  obtain ⟨v2, r2, e2, h2⟩ := be_pp h1
  obtain ⟨y, e3, h3⟩ := be_gL h2
  obtain ⟨x, e4, h4⟩ := be_gL h3
  exact ⟨x, y, r2, by rw [e1, e2, e3, e4], h4⟩
theorem be_ar {k : List bwV → List bwV → Prop} : ∀ (n : Nat) (st acc : List bwV), bw_ar n st acc False k → ∃ as r, st = as.reverse ++ r ∧ as.length = n ∧ k (as ++ acc) r := by
  intro n
  induction n with
  | zero => intro st acc h; exact ⟨[], st, rfl, rfl, h⟩
  | succ n ih =>
    intro st acc h
    rcases st with _ | ⟨v, q⟩
    · exact h.elim
    · obtain ⟨as, r, h1, h2, h3⟩ := ih q (v :: acc) h
      exact ⟨as ++ [v], r, by rw [h1]; simp, by simp [h2], by simpa using h3⟩
theorem be_rc {as : List bwV} {c : Nat} {cls : Nat → Nat} {k : Prop} (h : bw_rc as c cls False k) : ∃ o q, as = .inr (.inr o) :: q ∧ cls o = c ∧ k := by
  rcases as with _ | ⟨x | x | x, q⟩
  · exact h.elim
  · exact h.elim
  · exact h.elim
  · change (bif Nat.beq (cls x) c then k else False) at h
    cases hb : Nat.beq (cls x) c with
    | true => rw [hb] at h; exact ⟨x, q, rfl, bw_beq hb, h⟩
    | false => rw [hb] at h; exact h.elim
theorem be_b {c : Bool} {k : Prop} (h : bif c then k else False) : c = true ∧ k := by
  cases c
  · exact h.elim
  · exact ⟨rfl, h⟩
theorem be_bn {c : Bool} {k : Prop} (h : bif c then False else k) : c = false ∧ k := by
  cases c
  · exact ⟨rfl, h⟩
  · exact h.elim
theorem be_if {c : Prop} [d : Decidable c] {k : Prop} (h : if c then k else False) : c ∧ k := by
  by_cases hc : c
  · rw [if_pos hc] at h; exact ⟨hc, h⟩
  · rw [if_neg hc] at h; exact h.elim
theorem be_ifn {c : Prop} [d : Decidable c] {k : Prop} (h : if c then False else k) : ¬ c ∧ k := by
  by_cases hc : c
  · rw [if_pos hc] at h; exact h.elim
  · rw [if_neg hc] at h; exact ⟨hc, h⟩
theorem be_t {c : Prop} [d : Decidable c] {x y : Prop} (h : if c then x else y) (hc : c) : x := by rw [if_pos hc] at h; exact h
theorem be_f {c : Prop} [d : Decidable c] {x y : Prop} (h : if c then x else y) (hc : ¬ c) : y := by rw [if_neg hc] at h; exact h
end ELIM
theorem bw_cell_0 {ad : Nat → Nat} {cI cJ cZ : ClassId} {o : Nat} {f : Nat → Int32} {g : Nat → Int64} (h : bw_kd o = 0) : bw_cell ad cI cJ cZ o f g = .inr (bw_cls o, bw_fd ad o f g) := by
  unfold bw_cell; rw [h]; rfl
theorem bw_cell_1 {ad : Nat → Nat} {cI cJ cZ : ClassId} {o : Nat} {f : Nat → Int32} {g : Nat → Int64} (h : bw_kd o = 1) : bw_cell ad cI cJ cZ o f g = .inl (cI, bw_len o, .inl f) := by
  unfold bw_cell; rw [h]; rfl
theorem bw_cell_2 {ad : Nat → Nat} {cI cJ cZ : ClassId} {o : Nat} {f : Nat → Int32} {g : Nat → Int64} (h : bw_kd o = 2) : bw_cell ad cI cJ cZ o f g = .inl (cJ, bw_len o, .inr (.inl g)) := by
  unfold bw_cell; rw [h]; rfl
theorem bw_cell_3 {ad : Nat → Nat} {cI cJ cZ : ClassId} {o : Nat} {f : Nat → Int32} {g : Nat → Int64} (h : bw_kd o = 3) : bw_cell ad cI cJ cZ o f g = .inl (cZ, bw_len o, .inl f) := by
  unfold bw_cell; rw [h]; rfl
/-- the words that last over calls -/
def bw_ws : List Cond := lw_tbl.filter goodWord
theorem bw_gd {w : Cond} (h : w ∈ lw_tbl) (hg : goodWord w = true) : w ∈ bw_ws := List.mem_filter.mpr ⟨h, hg⟩
theorem bw_gdX0 : wsX00.all goodWord = true := by decide +kernel
theorem bw_gdX1 : wsX10.all goodWord = true := by decide +kernel
theorem bw_gdX2 : wsX20.all goodWord = true := by decide +kernel
theorem bw_gdX3 : wsX30.all goodWord = true := by decide +kernel
theorem bw_gdX4 : wsX40.all goodWord = true := by decide +kernel
theorem bw_cls_ws2 : ∀ (b : Nat) (r : vw_C), vwCl[b]? = some r → ∀ w ∈ u_ws r.1 r.2.1 r.2.2, w ∈ bw_ws := by
  intro b r h w hw
  refine bw_gd (bw_cls_ws b r h w hw) ?_
  match b, h with
  | 0, h => cases h; exact List.all_eq_true.mp bw_gdX0 w hw
  | 1, h => cases h; exact List.all_eq_true.mp bw_gdX1 w hw
  | 2, h => cases h; exact List.all_eq_true.mp bw_gdX2 w hw
  | 3, h => cases h; exact List.all_eq_true.mp bw_gdX3 w hw
  | 4, h => cases h; exact List.all_eq_true.mp bw_gdX4 w hw
  | b + 5, h => simp [vwCl] at h
def bw_B (ad : Nat → Nat) (D : va_G) (cI cJ cZ : ClassId) (A1 : Nat → Prop) (u : bwM) (t : State) : Prop := va_P D vwCl (bw_cells ad cI cJ cZ u) t.heap ∧ va_K D vwCl (bw_tys cI cJ cZ) t ∧ va_D A1 (bw_cells ad cI cJ cZ u)
/-- links to private methods of the nest: they last over calls by themselves -/
def bw_Nst (U : State) : Prop := ∀ (n i : Nat) (y : MethodName), Cond.methodLinkNest (bw_own n) i y "BeliefWeb" ∈ lw_tbl → va_Nw (.methodLinkNest (bw_own n) i y "BeliefWeb") U
def bw_Pre (ad : Nat → Nat) (D : va_G) (cI cJ cZ : ClassId) (as : List bwV) (μ : bwM) (sz : Nat) : Array Value → State → Prop := va_Pc (as.map (bw_cv ad)) (fun U => U.heap.size = sz ∧ va_P D vwCl (bw_cells ad cI cJ cZ μ) U.heap ∧ va_K D vwCl (bw_tys cI cJ cZ) U ∧ va_D (fun _ => True) (bw_cells ad cI cJ cZ μ) ∧ bw_Nst U)
def bw_Post (ad : Nat → Nat) (D : va_G) (cI cJ cZ : ClassId) (r : Option bwV) (μ' : bwM) (A1 : Nat → Prop) : Array Value → State → Outcome → State → Prop := match r with
  | none => va_Qv (fun u : bwM => u = μ') (bw_B ad D cI cJ cZ A1) A1
  | some (.inl x) => va_Qi (fun (v : Int32) (u : bwM) => v = x ∧ u = μ') (bw_B ad D cI cJ cZ A1) A1
  | some (.inr (.inl x)) => va_Ql (fun (v : Int64) (u : bwM) => v = x ∧ u = μ') (bw_B ad D cI cJ cZ A1) A1
  | some (.inr (.inr _)) => fun _ _ _ _ => False
def bw_rm (d : Nat) : Room := { frames := d, cells := 0, slots := 0, locals := d * 64 }
/-- the contracts of all methods, at a depth -/
def bw_CS (l : Launch) (ad : Nat → Nat) (D : va_G) (cI cJ cZ : ClassId) (d : Nat) : Prop := ∀ (m : Nat) (as : List bwV) (μ : bwM) (r : Option bwV) (μ' : bwM), bw_call d m as μ = some (r, μ') → ∀ g : bwG, bw_nth bw_sg m = some g → ∀ sz : Nat,
  Met l g.2.1 (bw_cw g :: bw_ws) (bw_rm d) (bw_Pre ad D cI cJ cZ as μ sz) (bw_Post ad D cI cJ cZ r μ' (va_A (bw_cells ad cI cJ cZ μ) sz)) 0 0 (va_A (bw_cells ad cI cJ cZ μ) sz)
theorem bw_good {g : bwG} (h : bw_cw g ∈ lw_tbl) : GoodIn bw_ws (bw_cw g :: bw_ws) := by
  intro w hw
  have h2 : w ∈ bw_ws := by
    rcases List.mem_cons.mp hw with e | e
    · rw [e]; exact bw_gd h rfl
    · exact e
  exact ⟨h2, good_of_word (List.mem_filter.mp h2).2⟩
theorem bw_blind {ad : Nat → Nat} {D : va_G} {cI cJ cZ : ClassId} {as : List bwV} {μ : bwM} {sz : Nat} : FrameBlind (bw_Pre ad D cI cJ cZ as μ sz) := by
  intro a U g mk q
  obtain ⟨q0, q1, qP, qK, qD, qN⟩ := q
  exact ⟨q0, q1, qP, va_K.moved (u := U) (U := U.calling g mk a) (Vm.Alike.refl U.vm) qK, qD, fun n i y hy => va_Nw.same (u := U) (U := U.calling g mk a) rfl rfl (qN n i y hy)⟩
section SOUND
variable {p : Program} {l : Launch} {e : Env} {R : Room} {s : State} {m : MethodId} {args : Array Value} {below : List Frame} {meth : Method} {c : Code} {cs ss : Nat} {Q : State → Prop}
variable {ad : Nat → Nat} {D : va_G} {cI cJ cZ : ClassId} {A : Nat → Prop} {H0 : Heap} {cc : ByteArray} {nL own : Nat} {d : Nat}
/-- the machine, at an abstract state, comes to a state with Q -/
def bw_W (p : Program) (l : Launch) (e : Env) (R : Room) (s : State) (m : MethodId) (args : Array Value) (below : List Frame) (meth : Method) (c : Code) (cs ss : Nat) (Q : State → Prop) (ad : Nat → Nat) (D : va_G) (cI cJ cZ : ClassId) (A : Nat → Prop) (H0 : Heap) (nL : Nat) (pc : Nat) (ls : List (Option bwV)) (st : List bwV) (μ : bwM) : Prop :=
  ∀ (H : Heap) (locs : List Loc) (lsA : Array Slot), va_P D vwCl (bw_cells ad cI cJ cZ μ) H → va_D A (bw_cells ad cI cJ cZ μ) → va_S A H0 H locs → lv_has lsA nL (bw_lv ad 0 ls) → W p l e R s m args below meth c H locs cs ss Q (F0 m pc lsA (st.map (bw_cv ad)))
def bw_Cx (p : Program) (s : State) (m : MethodId) (args : Array Value) (c : Code) (own : Nat) (cc : ByteArray) (nL : Nat) (D : va_G) (cI cJ cZ : ClassId) (A : Nat → Prop) (H0 : Heap) : Prop :=
  p.tables.exec = Jvm.exec ∧ c.code = cc ∧ c.maxLocals = nL ∧ s.vm.findClass (bw_own own) = some m.cls ∧ (∀ w ∈ bw_ws, w.before args s = true) ∧ va_K D vwCl (bw_tys cI cJ cZ) s ∧ (∀ q, H0.size ≤ q → A q) ∧ bw_Nst s
theorem bw_toA {μ : bwM} {H : Heap} {locs : List Loc} (hD : va_D A (bw_cells ad cI cJ cZ μ)) (hS : va_S A H0 H locs) (hA : ∀ q, H0.size ≤ q → A q) : ∀ q, va_A (bw_cells ad cI cJ cZ μ) H.size q → A q := by
  rintro q (⟨k, e, h⟩ | h)
  · exact hD.2 k _ h
  · exact hA q (Nat.le_trans hS.1 h)
/-- a call, static or virtual: what the run gives, behind it -/
theorem bw_call_go {pc : Nat} {ls : List (Option bwV)} {r : List bwV} {μ : bwM} {H : Heap} {locs : List Loc} {lsA : Array Slot} {as : List bwV} {a rt : Nat} {av : Array Value} {st0 : List Value}
    (hC : bw_Cx p s m args c own cc nL D cI cJ cZ A H0) (hD : va_D A (bw_cells ad cI cJ cZ μ)) (hS : va_S A H0 H locs) (hl : lv_has lsA nL (bw_lv ad 0 ls))
    (h : match rt with
      | 0 => bw_bV (bw_call d a as μ) False fun μ => bw_W p l e R s m args below meth c cs ss Q ad D cI cJ cZ A H0 nL (pc + 3) ls r μ
      | 2 => bw_bL (bw_call d a as μ) False fun x μ => bw_W p l e R s m args below meth c cs ss Q ad D cI cJ cZ A H0 nL (pc + 3) ls (.inr (.inl x) :: r) μ
      | _ => bw_bI (bw_call d a as μ) False fun x μ => bw_W p l e R s m args below meth c cs ss Q ad D cI cJ cZ A H0 nL (pc + 3) ls (.inl x :: r) μ)
    (run : ∀ (v : Option bwV) (μ' : bwM), bw_call d a as μ = some (v, μ') → va_Run p l e R s m args below meth c H locs cs ss 0 0 (F0 m pc lsA st0) (r.map (bw_cv ad)) (bw_Post ad D cI cJ cZ v μ' (va_A (bw_cells ad cI cJ cZ μ) H.size) av) (va_A (bw_cells ad cI cJ cZ μ) H.size)) :
    W p l e R s m args below meth c H locs cs ss Q (F0 m pc lsA st0) := by
  obtain ⟨-, -, -, -, -, -, hA, -⟩ := hC
  have hFc := bw_toA hD hS hA
  split at h
  · obtain ⟨μ', hc, h⟩ := be_bV h
    refine va_callv (a := av) (run _ _ hc) hS (fun q _ h => hFc q h) hFc (fun u t H1 locs1 ht hvm hw hB hz1 hk1 hS1 => ?_)
    subst hw
    obtain ⟨hP1, hK1, hD1⟩ := hB
    rw [ht] at hP1
    exact h H1 locs1 lsA hP1 ⟨hD1.1, fun k q hq => hFc _ (hD1.2 k q hq)⟩ hS1 hl
  · obtain ⟨x, μ', hc, h⟩ := be_bL h
    refine va_calll (a := av) (run _ _ hc) hS (fun q _ h => hFc q h) hFc (fun rv u t H1 locs1 ht hvm hw hB hz1 hk1 hS1 => ?_)
    obtain ⟨e1, e2⟩ := hw
    subst e1; subst e2
    obtain ⟨hP1, hK1, hD1⟩ := hB
    rw [ht] at hP1
    exact h H1 locs1 lsA hP1 ⟨hD1.1, fun k q hq => hFc _ (hD1.2 k q hq)⟩ hS1 hl
  · obtain ⟨x, μ', hc, h⟩ := be_bI h
    refine va_calli (a := av) (run _ _ hc) hS (fun q _ h => hFc q h) hFc (fun rv u t H1 locs1 ht hvm hw hB hz1 hk1 hS1 => ?_)
    obtain ⟨e1, e2⟩ := hw
    subst e1; subst e2
    obtain ⟨hP1, hK1, hD1⟩ := hB
    rw [ht] at hP1
    exact h H1 locs1 lsA hP1 ⟨hD1.1, fun k q hq => hFc _ (hD1.2 k q hq)⟩ hS1 hl
theorem bw_pre_at {as : List bwV} {μ : bwM} {H : Heap} (hC : bw_Cx p s m args c own cc nL D cI cJ cZ A H0) (hP : va_P D vwCl (bw_cells ad cI cJ cZ μ) H) (hD : va_D A (bw_cells ad cI cJ cZ μ)) : ∀ U : State, U.heap = H → s.WarmedH U.vm → bw_Pre ad D cI cJ cZ as μ H.size (as.map (bw_cv ad)).toArray U := by
  obtain ⟨-, -, -, -, -, hK, -, hN⟩ := hC
  intro U hU hW
  exact ⟨rfl, by rw [hU], by rw [hU]; exact hP, va_K.moved hW.alike hK, hD.weaken (fun _ _ _ _ => trivial), fun n i y hy => va_Nw.warmM hW (hN n i y hy)⟩
/-- the script, if there is one: cell 60 -/
def bw_Sc (ad : Nat → Nat) (A : Nat → Prop) (s : State) (H0 : Heap) (sl : Nat) (sx : Nat → Int32) : Prop := sl = 0 ∨ (va_X (ad 60) (sl - 1) sx s H0 ∧ ad 60 < H0.size ∧ ¬ A (ad 60))
theorem bw_swgo {pc : Nat} {ls : List (Option bwV)} {r : List bwV} {μ : bwM} {x : Int32} {dW : Prop} {k : Nat → Prop} : ∀ (offs : List Int) (lo : Int) (sw : List (Int32 × Nat)), bw_swok pc lo offs sw = true → bw_sw x sw dW k → (dW ∧ (x.toInt < lo ∨ lo + (offs.length : Int) ≤ x.toInt)) ∨ ∃ (off : Int) (t : Nat), lo ≤ x.toInt ∧ x.toInt < lo + (offs.length : Int) ∧ offs[(x.toInt - lo).toNat]? = some off ∧ (pc : Int) + off = (t : Int) ∧ k t := by
  intro offs
  induction offs with
  | nil =>
    intro lo sw h1 h2
    cases sw with
    | nil => exact Or.inl ⟨h2, by simp; omega⟩
    | cons q sw => cases h1
  | cons o offs ih =>
    intro lo sw h1 h2
    cases sw with
    | nil => cases h1
    | cons q sw =>
      simp only [bw_swok, Bool.and_eq_true, decide_eq_true_eq] at h1
      obtain ⟨⟨g1, g2⟩, g3⟩ := h1
      unfold bw_sw at h2
      by_cases hx : x = q.1
      · rw [if_pos hx] at h2
        refine Or.inr ⟨o, q.2, by rw [hx, g1]; exact Int.le_refl _, by rw [hx, g1]; simp; omega, ?_, g2, h2⟩
        rw [hx, g1, Int.sub_self]; rfl
      · rw [if_neg hx] at h2
        have hne : x.toInt ≠ lo := fun e => hx (Int32.toInt_inj.mp (e.trans g1.symm))
        rcases ih (lo + 1) sw g3 h2 with ⟨a1, a2⟩ | ⟨off, t, a1, a2, a3, a4, a5⟩
        · refine Or.inl ⟨a1, ?_⟩
          simp only [List.length_cons]; omega
        · refine Or.inr ⟨off, t, by omega, by simp only [List.length_cons]; omega, ?_, a4, a5⟩
          rw [show (x.toInt - lo).toNat = (x.toInt - (lo + 1)).toNat + 1 by omega]
          exact a3
theorem bw_fd_at {o a : Nat} {f : Nat → Int32} {g : Nat → Int64} (h : a < bw_nf (bw_cls o)) : (bw_fd ad o f g)[a]? = some (match bw_ft (bw_cls o) a with
    | 0 => .int (f a)
    | 1 => .long (g a)
    | _ => .ref (ad (bw_rf o a))) := by
  simp [bw_fd, h]
  rfl
theorem bw_fd_len {o : Nat} {f : Nat → Int32} {g : Nat → Int64} : (bw_fd ad o f g).length = bw_nf (bw_cls o) := by simp [bw_fd]
theorem bw_fd_setI {o a : Nat} {f : Nat → Int32} {g : Nat → Int64} {x : Int32} (h : bw_ft (bw_cls o) a = 0) (ha : a < bw_nf (bw_cls o)) : (bw_fd ad o f g).set a (.int x) = bw_fd ad o (upd f a x) g := by
  apply List.ext_getElem?
  intro i
  rw [List.getElem?_set, bw_fd_len]
  by_cases hi : i < bw_nf (bw_cls o)
  · by_cases e : a = i
    · subst e
      rw [if_pos rfl, if_pos hi, bw_fd_at hi, h]
      simp [upd]
    · rw [if_neg e, bw_fd_at hi, bw_fd_at hi]
      simp [upd, Ne.symm e]
  · rw [List.getElem?_eq_none (by rw [bw_fd_len]; omega), List.getElem?_eq_none (by rw [bw_fd_len]; omega)]
    by_cases e : a = i
    · omega
    · rw [if_neg e]
theorem bw_fd_setL {o a : Nat} {f : Nat → Int32} {g : Nat → Int64} {x : Int64} (h : bw_ft (bw_cls o) a = 1) (ha : a < bw_nf (bw_cls o)) : (bw_fd ad o f g).set a (.long x) = bw_fd ad o f (vp_updL g a x) := by
  apply List.ext_getElem?
  intro i
  rw [List.getElem?_set, bw_fd_len]
  by_cases hi : i < bw_nf (bw_cls o)
  · by_cases e : a = i
    · subst e
      rw [if_pos rfl, if_pos hi, bw_fd_at hi, h]
      simp [vp_updL]
    · rw [if_neg e, bw_fd_at hi, bw_fd_at hi]
      simp [vp_updL, Ne.symm e]
  · rw [List.getElem?_eq_none (by rw [bw_fd_len]; omega), List.getElem?_eq_none (by rw [bw_fd_len]; omega)]
    by_cases e : a = i
    · omega
    · rw [if_neg e]
theorem bw_getf {pc i a b : Nat} {ls : List (Option bwV)} {st : List bwV} {μ : bwM} (hC : bw_Cx p s m args c own cc nL D cI cJ cZ A H0) (hdg : decode cc pc = .ok (.getfield i, 3)) (ok : (bw_fl.any fun q => Nat.beq q.1 own && Nat.beq q.2.1 i && Nat.beq q.2.2.1 b && Nat.beq q.2.2.2.1 a) = true)
    (h : bw_r1 st False fun o r => bif Nat.beq (bw_cls o) b then (match bw_ft b a with
      | 0 => bw_W p l e R s m args below meth c cs ss Q ad D cI cJ cZ A H0 nL (pc + 3) ls (.inl (μ.1 o a) :: r) μ
      | 1 => bw_W p l e R s m args below meth c cs ss Q ad D cI cJ cZ A H0 nL (pc + 3) ls (.inr (.inl (μ.2 o a)) :: r) μ
      | _ => bw_W p l e R s m args below meth c cs ss Q ad D cI cJ cZ A H0 nL (pc + 3) ls (.inr (.inr (bw_rf o a)) :: r) μ) else False) :
    bw_W p l e R s m args below meth c cs ss Q ad D cI cJ cZ A H0 nL pc ls st μ := by
  intro H locs lsA hP hD hS hl
  obtain ⟨o, r, hst, h1⟩ := be_r1 h
  obtain ⟨hb1, h2⟩ := be_b h1
  clear h h1
  subst hst
  have hcl := bw_beq hb1
  obtain ⟨vr, hvr, ha, hlk⟩ := bw_fl_use ok
  obtain ⟨hnf, hb5⟩ := bw_cls_nf _ _ hvr
  obtain ⟨ho1, ho2⟩ := bw_cls_ob hcl hb5
  obtain ⟨hx, hb, hml, hown, hts, hK, hA, hN⟩ := id hC
  have hcell : (bw_cells ad cI cJ cZ μ)[o]? = some (ad o, .inr (b, bw_fd ad o (μ.1 o) (μ.2 o))) := by
    rw [bw_cells_at ho1, bw_cell_0 ho2, hcl]
  have hat := bw_fd_at (ad := ad) (o := o) (a := a) (f := μ.1 o) (g := μ.2 o) (by rw [hcl, ← hnf]; exact ha)
  rw [hcl] at hat
  refine va_get (D := D) (ci := b) (Ts := bw_ws) hx hb hts (bw_cls_ws2 _ _ hvr) hown hK hP o hcell hvr a ha (hts _ (bw_gd hlk rfl)) (fun _ h => h) hat hdg ?_
  split at h2
  · exact h2 H locs lsA hP hD hS hl
  · exact h2 H locs lsA hP hD hS hl
  · exact h2 H locs lsA hP hD hS hl
set_option maxHeartbeats 1000000 in
theorem bw_putf {pc i a b : Nat} {ls : List (Option bwV)} {st : List bwV} {μ : bwM} (hC : bw_Cx p s m args c own cc nL D cI cJ cZ A H0) (hdg : decode cc pc = .ok (.putfield i, 3)) (ok : (bw_fl.any fun q => Nat.beq q.1 own && Nat.beq q.2.1 i && Nat.beq q.2.2.1 b && Nat.beq q.2.2.2.1 a) = true)
    (h : bw_pp st False fun x r => bw_r1 r False fun o r => bif Nat.beq (bw_cls o) b then (match bw_ft b a with
      | 0 => bw_gI x False fun x => bw_W p l e R s m args below meth c cs ss Q ad D cI cJ cZ A H0 nL (pc + 3) ls r (bw_si μ o a x)
      | 1 => bw_gL x False fun x => bw_W p l e R s m args below meth c cs ss Q ad D cI cJ cZ A H0 nL (pc + 3) ls r (bw_sl μ o a x)
      | _ => False) else False) :
    bw_W p l e R s m args below meth c cs ss Q ad D cI cJ cZ A H0 nL pc ls st μ := by
  intro H locs lsA hP hD hS hl
  obtain ⟨x, r0, hst0, h0⟩ := be_pp h
  obtain ⟨o, r, hst, h1⟩ := be_r1 h0
  obtain ⟨hb1, h2⟩ := be_b h1
  clear h h0 h1
  subst hst
  subst hst0
  have hcl := bw_beq hb1
  obtain ⟨vr, hvr, ha, hlk⟩ := bw_fl_use ok
  obtain ⟨hnf, hb5⟩ := bw_cls_nf _ _ hvr
  obtain ⟨ty0, hty, hnm, hft⟩ := bw_cls_ty _ _ hvr
  obtain ⟨ho1, ho2⟩ := bw_cls_ob hcl hb5
  obtain ⟨hx, hb, hml, hown, hts, hK, hA, hN⟩ := id hC
  have hcell : (bw_cells ad cI cJ cZ μ)[o]? = some (ad o, .inr (b, bw_fd ad o (μ.1 o) (μ.2 o))) := by
    rw [bw_cells_at ho1, bw_cell_0 ho2, hcl]
  have hfl : a < (bw_fd ad o (μ.1 o) (μ.2 o)).length := by rw [bw_fd_len, hcl, ← hnf]; exact ha
  have hab : a < bw_nf (bw_cls o) := by rw [hcl, ← hnf]; exact ha
  split at h2
  · rename_i hk
    obtain ⟨x, rfl, h3⟩ := be_gI h2
    obtain ⟨f1, f2⟩ := (hft a ha).1 hk
    have hd := hty a ha
    rw [f2] at hd
    have hset : (bw_cells ad cI cJ cZ μ).set o (ad o, .inr (b, (bw_fd ad o (μ.1 o) (μ.2 o)).set a (.int x))) = bw_cells ad cI cJ cZ (bw_si μ o a x) := by
      refine bw_cells_set ?_ bw_si_ne (fun _ _ => rfl)
      rw [bw_cell_0 ho2, bw_si_eq, bw_fd_setI (by rw [hcl]; exact hk) hab, hcl]
      rfl
    refine va_put (D := D) (ci := b) (v := .int x) (ty := .int) (Ts := bw_ws) hx hb hts (bw_cls_ws2 _ _ hvr) ty0 hty hnm hown hK hP hD hS o hcell hvr a ha (hts _ (bw_gd hlk rfl)) (fun _ h => h) f1 hd rfl rfl hfl hdg (fun H1 locs1 hP1 hD1 hS1 => ?_)
    rw [hset] at hP1 hD1
    exact h3 H1 locs1 lsA hP1 hD1 hS1 hl
  · rename_i hk
    obtain ⟨x, rfl, h3⟩ := be_gL h2
    obtain ⟨f1, f2⟩ := (hft a ha).2 hk
    have hd := hty a ha
    rw [f2] at hd
    have hset : (bw_cells ad cI cJ cZ μ).set o (ad o, .inr (b, (bw_fd ad o (μ.1 o) (μ.2 o)).set a (.long x))) = bw_cells ad cI cJ cZ (bw_sl μ o a x) := by
      refine bw_cells_set ?_ (fun _ _ => rfl) bw_sl_ne
      rw [bw_cell_0 ho2, bw_sl_eq, bw_fd_setL (by rw [hcl]; exact hk) hab, hcl]
      rfl
    refine va_put (D := D) (ci := b) (v := .long x) (ty := .long) (Ts := bw_ws) hx hb hts (bw_cls_ws2 _ _ hvr) ty0 hty hnm hown hK hP hD hS o hcell hvr a ha (hts _ (bw_gd hlk rfl)) (fun _ h => h) f1 hd rfl rfl hfl hdg (fun H1 locs1 hP1 hD1 hS1 => ?_)
    rw [hset] at hP1 hD1
    exact h3 H1 locs1 lsA hP1 hD1 hS1 hl
  · exact h2.elim
theorem bw_kb {o n : Nat} (h : (Nat.blt o 53 && Nat.beq (bw_kd o) n) = true) : o < 53 ∧ bw_kd o = n := by
  simp only [Bool.and_eq_true] at h
  exact ⟨Nat.le_of_ble_eq_true h.1, bw_beq h.2⟩
theorem bw_cell1 {μ : bwM} {o : Nat} (h : (Nat.blt o 53 && Nat.beq (bw_kd o) 1) = true) : (bw_cells ad cI cJ cZ μ)[o]? = some (ad o, .inl (cI, bw_len o, .inl (μ.1 o))) := by
  obtain ⟨h1, h2⟩ := bw_kb h
  rw [bw_cells_at h1, bw_cell_1 h2]
theorem bw_cell2 {μ : bwM} {o : Nat} (h : (Nat.blt o 53 && Nat.beq (bw_kd o) 2) = true) : (bw_cells ad cI cJ cZ μ)[o]? = some (ad o, .inl (cJ, bw_len o, .inr (.inl (μ.2 o)))) := by
  obtain ⟨h1, h2⟩ := bw_kb h
  rw [bw_cells_at h1, bw_cell_2 h2]
theorem bw_cell3 {μ : bwM} {o : Nat} (h : (Nat.blt o 53 && Nat.beq (bw_kd o) 3) = true) : (bw_cells ad cI cJ cZ μ)[o]? = some (ad o, .inl (cZ, bw_len o, .inl (μ.1 o))) := by
  obtain ⟨h1, h2⟩ := bw_kb h
  rw [bw_cells_at h1, bw_cell_3 h2]
theorem bw_set1 {μ : bwM} {o j : Nat} {x : Int32} (h : (Nat.blt o 53 && Nat.beq (bw_kd o) 1) = true) : (bw_cells ad cI cJ cZ μ).set o (ad o, .inl (cI, bw_len o, .inl (upd (μ.1 o) j x))) = bw_cells ad cI cJ cZ (bw_si μ o j x) := by
  obtain ⟨h1, h2⟩ := bw_kb h
  refine bw_cells_set ?_ bw_si_ne (fun _ _ => rfl)
  rw [bw_cell_1 h2, bw_si_eq]
theorem bw_set3 {μ : bwM} {o j : Nat} {x : Int32} (h : (Nat.blt o 53 && Nat.beq (bw_kd o) 3) = true) : (bw_cells ad cI cJ cZ μ).set o (ad o, .inl (cZ, bw_len o, .inl (upd (μ.1 o) j x))) = bw_cells ad cI cJ cZ (bw_si μ o j x) := by
  obtain ⟨h1, h2⟩ := bw_kb h
  refine bw_cells_set ?_ bw_si_ne (fun _ _ => rfl)
  rw [bw_cell_3 h2, bw_si_eq]
theorem bw_set2 {μ : bwM} {o j : Nat} {x : Int64} (h : (Nat.blt o 53 && Nat.beq (bw_kd o) 2) = true) : (bw_cells ad cI cJ cZ μ).set o (ad o, .inl (cJ, bw_len o, .inr (.inl (vp_updL (μ.2 o) j x)))) = bw_cells ad cI cJ cZ (bw_sl μ o j x) := by
  obtain ⟨h1, h2⟩ := bw_kb h
  refine bw_cells_set ?_ (fun _ _ => rfl) bw_sl_ne
  rw [bw_cell_2 h2, bw_sl_eq]
theorem bw_setC {μ : bwM} {o1 o2 sp dp n : Nat} (h : (Nat.blt o2 53 && Nat.beq (bw_kd o2) 1) = true) : (bw_cells ad cI cJ cZ μ).set o2 (ad o2, .inl (cI, bw_len o2, .inl (va_cpy (μ.1 o1) (μ.1 o2) sp dp n))) = bw_cells ad cI cJ cZ (bw_cp μ o1 o2 sp dp n) := by
  obtain ⟨h1, h2⟩ := bw_kb h
  refine bw_cells_set ?_ (fun o' ho => ?_) (fun _ _ => rfl)
  · rw [bw_cell_1 h2]
    have : (bw_cp μ o1 o2 sp dp n).1 o2 = va_cpy (μ.1 o1) (μ.1 o2) sp dp n := by funext k; simp [bw_cp, va_cpy]
    rw [this]
  · funext k; simp [bw_cp, ho]
theorem bw_nneg {x : Int32} (h : 0 ≤ x) : ¬ x < 0 := by
  rw [Int32.lt_iff_toInt_lt]
  rw [Int32.le_iff_toInt_le] at h
  omega
end SOUND
end
section
section SOUND
variable {p : Program} {l : Launch} {e : Env} {R : Room} {s : State} {m : MethodId} {args : Array Value} {below : List Frame} {meth : Method} {c : Code} {cs ss : Nat} {Q : State → Prop}
variable {ad : Nat → Nat} {D : va_G} {cI cJ cZ : ClassId} {A : Nat → Prop} {H0 : Heap} {cc : ByteArray} {nL own : Nat} {d : Nat}
set_option maxHeartbeats 4000000 in
set_option maxRecDepth 100000 in
theorem bw_inv {pc i a b len : Nat} {ls : List (Option bwV)} {st : List bwV} {μ : bwM} (hC : bw_Cx p s m args c own cc nL D cI cJ cZ A H0) (hCS : bw_CS l ad D cI cJ cZ d) (hfr : d + 1 ≤ R.frames) (hlo : d * 64 + 64 ≤ R.locals) (hcs : cs ≤ R.cells ∧ ss ≤ R.slots)
    (hdg : decode cc pc = .ok (.invokevirtual i, len)) (hlen3 : len = 3) (ok2 : (bw_ml.any fun q => Nat.beq q.1 own && Nat.beq q.2.1 i && Nat.beq q.2.2.1 a && Nat.beq q.2.2.2.1 0) = true) (ok3 : (match bw_nth bw_sg a with
    | some (cn, _, _, _, rt, sc, na) => Nat.beq sc 0 && Nat.blt cn 5 && Nat.beq b (cn * 1000 + (na + 1) * 10 + rt) && Nat.blt rt 4 && Nat.blt na 10
    | none => false) = true)
    (h : bw_ar (b / 10 % 100) st [] False fun as r => bw_rc as (b / 1000) bw_cls False (bif Nat.ble (bw_wd r) 8 then (match b % 10 with
      | 0 => bw_bV (bw_call d a as μ) False fun μ => bw_W p l e R s m args below meth c cs ss Q ad D cI cJ cZ A H0 nL (pc + len) ls r μ
      | 2 => bw_bL (bw_call d a as μ) False fun x μ => bw_W p l e R s m args below meth c cs ss Q ad D cI cJ cZ A H0 nL (pc + len) ls (.inr (.inl x) :: r) μ
      | _ => bw_bI (bw_call d a as μ) False fun x μ => bw_W p l e R s m args below meth c cs ss Q ad D cI cJ cZ A H0 nL (pc + len) ls (.inl x :: r) μ) else False)) :
    bw_W p l e R s m args below meth c cs ss Q ad D cI cJ cZ A H0 nL pc ls st μ := by
  intro H locs lsA hP hD hS hl
  subst hlen3
  obtain ⟨as, r, hst, hlen, h1⟩ := be_ar _ _ _ h
  rw [List.append_nil] at h1
  obtain ⟨o, q, has, ho, h2⟩ := be_rc h1
  obtain ⟨hw8, h3⟩ := be_b h2
  clear h h1 h2
  subst has
  obtain ⟨g, n, hg, hn, hlk, -⟩ := bw_ml_use (P := fun n => Nat.beq n 0) ok2
  have hlk := hlk (bw_beq hn)
  rw [hg] at ok3
  obtain ⟨p0, hp0⟩ := bw_okGs_use _ _ _ _ bw_sg_ok hg
  obtain ⟨cn, y, bytes, mx, rt, sc, na⟩ := g
  simp only [Bool.and_eq_true] at ok3
  obtain ⟨⟨⟨⟨s1, s2⟩, s3⟩, s4⟩, s5⟩ := ok3
  have s1 := bw_beq s1
  subst s1
  have s3 := bw_beq s3
  have s2 : cn < 5 := Nat.le_of_ble_eq_true s2
  have s4 : rt < 4 := Nat.le_of_ble_eq_true s4
  have s5 : na < 10 := Nat.le_of_ble_eq_true s5
  have hb1 : b / 1000 = cn := by omega
  have hb2 : b / 10 % 100 = na + 1 := by omega
  have hb3 : b % 10 = rt := by omega
  simp only [bw_okG, Bool.and_eq_true, decide_eq_true_eq] at hp0
  obtain ⟨⟨⟨⟨⟨w1, w2⟩, w3⟩, w4⟩, w5⟩, w6, w7⟩ := hp0
  have w5 := Nat.le_of_ble_eq_true w5
  have hcw := bw_cw_mem hg
  have hcwg : bw_cw (cn, y, bytes, mx, rt, _, na) ∈ bw_ws := bw_gd hcw rfl
  have hi := bw_gd (List.mem_of_getElem? w4) rfl
  have hin := bw_gd (List.mem_of_getElem? w6) rfl
  have hsel := bw_gd (List.mem_of_getElem? w7) rfl
  obtain ⟨hx, hb, hml, hown, hts, hK, hA, hN⟩ := id hC
  have hcl : bw_cls o = cn := by rw [ho, hb1]
  obtain ⟨ho1, ho2⟩ := bw_cls_ob hcl s2
  subst hst
  refine bw_call_go (own := own) (cc := cc) (d := d) (a := a) (rt := b % 10) hC hD hS hl h3 (av := (Value.ref (ad o) :: q.map (bw_cv ad)).toArray) (fun v μ' hc => ?_)
  have hcell : (bw_cells ad cI cJ cZ μ)[o]? = some (ad o, .inr (cn, bw_fd ad o (μ.1 o) (μ.2 o))) := by
    rw [bw_cells_at ho1, bw_cell_0 ho2, hcl]
  have hvc : ∃ r : vw_C, vwCl[cn]? = some r ∧ r.1 = bw_own cn := by
    match cn, s2 with
    | 0, _ => exact ⟨_, rfl, rfl⟩
    | 1, _ => exact ⟨_, rfl, rfl⟩
    | 2, _ => exact ⟨_, rfl, rfl⟩
    | 3, _ => exact ⟨_, rfl, rfl⟩
    | 4, _ => exact ⟨_, rfl, rfl⟩
  obtain ⟨vr, hvr, hvn⟩ := hvc
  have hrec := va_recv hK hP (ci := cn) (q0 := o) hvr hcell
  rw [hvn, ← w1] at hrec
  have hM := hCS a _ μ v μ' hc _ hg H.size
  refine va_runV (C := y.cls) (b := ad o) (As := q.map (bw_cv ad)) (rest := r.map (bw_cv ad)) (Ts := bw_ws) (own := bw_own own) (index := i) (bytes := bytes) (maxL := mx) (ret := bw_ret rt) (n := na) (nL := nL) ⟨hx, hb, hml, hown, hts⟩ hM ?_ ⟨bw_blind, hrec, bw_pre_at hC hP hD⟩ rfl ?_ hl.1 ?_ ?_ hdg ⟨hcs.1, hcs.2⟩
  · refine ⟨callB_of na hts (bw_good hcw) rfl rfl rfl (hts _ hi) (hts _ (bw_gd hlk rfl)) w3 ⟨hfr, ?_⟩, hts _ hin, hts _ hsel⟩
    show 8 + (mx + 11) + d * 64 ≤ R.locals
    have : mx ≤ 40 := w5
    omega
  · simp only [List.length_cons] at hlen
    simp; omega
  · simp [bw_cv]
  · exact lv_room (by rw [bw_wd_cat]; exact Nat.le_of_ble_eq_true hw8)
set_option maxHeartbeats 4000000 in
set_option maxRecDepth 100000 in
theorem bw_inS {pc i a b len : Nat} {ls : List (Option bwV)} {st : List bwV} {μ : bwM} (hC : bw_Cx p s m args c own cc nL D cI cJ cZ A H0) (hCS : bw_CS l ad D cI cJ cZ d) (hfr : d + 1 ≤ R.frames) (hlo : d * 64 + 64 ≤ R.locals) (hcs : cs ≤ R.cells ∧ ss ≤ R.slots)
    (hdg : decode cc pc = .ok (.invokestatic i, len)) (hlen3 : len = 3) (ok2 : (bw_ml.any fun q => Nat.beq q.1 own && Nat.beq q.2.1 i && Nat.beq q.2.2.1 a) = true) (ok3 : (match bw_nth bw_sg a with
    | some (_, _, _, _, rt, sc, na) => Nat.beq sc 1 && Nat.beq b (na * 10 + rt) && Nat.blt rt 4 && Nat.blt na 10
    | none => false) = true)
    (h : bw_ar (b / 10 % 100) st [] False fun as r => bif Nat.ble (bw_wd r) 8 then (match b % 10 with
      | 0 => bw_bV (bw_call d a as μ) False fun μ => bw_W p l e R s m args below meth c cs ss Q ad D cI cJ cZ A H0 nL (pc + len) ls r μ
      | 2 => bw_bL (bw_call d a as μ) False fun x μ => bw_W p l e R s m args below meth c cs ss Q ad D cI cJ cZ A H0 nL (pc + len) ls (.inr (.inl x) :: r) μ
      | _ => bw_bI (bw_call d a as μ) False fun x μ => bw_W p l e R s m args below meth c cs ss Q ad D cI cJ cZ A H0 nL (pc + len) ls (.inl x :: r) μ) else False) :
    bw_W p l e R s m args below meth c cs ss Q ad D cI cJ cZ A H0 nL pc ls st μ := by
  intro H locs lsA hP hD hS hl
  subst hlen3
  obtain ⟨as, r, hst, hlen, h1⟩ := be_ar _ _ _ h
  rw [List.append_nil] at h1
  obtain ⟨hw8, h3⟩ := be_b h1
  clear h h1
  obtain ⟨g, n, hg, -, hlk, hlkN⟩ := bw_ml_use (own := own) (i := i) (a := a) (P := fun _ => true) (by simpa using ok2)
  rw [hg] at ok3
  obtain ⟨p0, hp0⟩ := bw_okGs_use _ _ _ _ bw_sg_ok hg
  obtain ⟨cn, y, bytes, mx, rt, sc, na⟩ := g
  simp only [Bool.and_eq_true] at ok3
  obtain ⟨⟨⟨s1, s3⟩, s4⟩, s5⟩ := ok3
  have s1 := bw_beq s1
  subst s1
  have s3 := bw_beq s3
  have s4 : rt < 4 := Nat.le_of_ble_eq_true s4
  have s5 : na < 10 := Nat.le_of_ble_eq_true s5
  have hb2 : b / 10 % 100 = na := by omega
  have hb3 : b % 10 = rt := by omega
  simp only [bw_okG, Bool.and_eq_true, decide_eq_true_eq] at hp0
  obtain ⟨⟨⟨⟨⟨w1, w2⟩, w3⟩, w4⟩, w5⟩, w6⟩ := hp0
  have w5 : mx ≤ 40 := Nat.le_of_ble_eq_true w5
  have hcw := bw_cw_mem hg
  have hcwg : bw_cw (cn, y, bytes, mx, rt, _, na) ∈ bw_ws := bw_gd hcw rfl
  have hi := bw_gd (List.mem_of_getElem? w4) rfl
  have hsta := bw_gd (List.mem_of_getElem? w6) rfl
  obtain ⟨hx, hb, hml, hown, hts, hK, hA, hN⟩ := id hC
  subst hst
  refine bw_call_go (own := own) (cc := cc) (d := d) (a := a) (rt := b % 10) hC hD hS hl h3 (av := (as.map (bw_cv ad)).toArray) (fun v μ' hc => ?_)
  have hM := hCS a _ μ v μ' hc _ hg H.size
  by_cases hn : n = 0
  · refine va_runS (As := as.map (bw_cv ad)) (rest := r.map (bw_cv ad)) (Ts := bw_ws) (own := bw_own own) (index := i) (bytes := bytes) (maxL := mx) (ret := bw_ret rt) (n := na) (nL := nL) ⟨hx, hb, hml, hown, hts⟩ hM ?_ ⟨bw_blind, bw_pre_at hC hP hD⟩ rfl ?_ hl.1 ?_ ?_ hdg ⟨hcs.1, hcs.2⟩
    · refine ⟨callB_of na hts (bw_good hcw) rfl rfl rfl (hts _ hi) (hts _ (bw_gd (hlk hn) rfl)) w3 ⟨hfr, ?_⟩, hts _ hsta⟩
      show 8 + (mx + 11) + d * 64 ≤ R.locals
      omega
    · simp; omega
    · simp
    · exact lv_room (by rw [bw_wd_cat]; exact Nat.le_of_ble_eq_true hw8)
  · refine va_runSN (host := "BeliefWeb") (As := as.map (bw_cv ad)) (rest := r.map (bw_cv ad)) (Ts := bw_ws) (own := bw_own own) (index := i) (bytes := bytes) (maxL := mx) (ret := bw_ret rt) (n := na) (nL := nL) ⟨hx, hb, hml, hown, hts⟩ hM ?_ ⟨bw_blind, bw_pre_at hC hP hD⟩ rfl ?_ hl.1 ?_ ?_ hdg ⟨hcs.1, hcs.2⟩
    · refine ⟨⟨⟨rfl, rfl, hfr, ?_, pay_in hts (bw_good hcw), List.mem_cons_self⟩, hts _ hcwg, hts _ hi, ⟨w3.1, w3.2.1⟩, fun sig h => ?_, va_Nw.use rfl (hN _ _ _ (hlkN hn))⟩, hts _ hsta, trivial⟩
      · show 8 + (mx + 11) + d * 64 ≤ R.locals
        omega
      · have h2 := w3.2.2
        rw [h] at h2
        exact (Option.some.inj h2).symm
    · simp; omega
    · simp
    · exact lv_room (by rw [bw_wd_cat]; exact Nat.le_of_ble_eq_true hw8)
end SOUND
end
section
section SOUND
variable {p : Program} {l : Launch} {e : Env} {R : Room} {s : State} {m : MethodId} {args : Array Value} {below : List Frame} {meth : Method} {c : Code} {cs ss : Nat} {Q : State → Prop}
variable {ad : Nat → Nat} {D : va_G} {cI cJ cZ : ClassId} {A : Nat → Prop} {H0 : Heap} {cc : ByteArray} {nL own : Nat} {d : Nat}
theorem be_and {a b : Bool} (h : (a && b) = true) : a = true ∧ b = true := by
  cases a
  · cases h
  · exact ⟨rfl, h⟩
set_option maxHeartbeats 8000000 in
set_option maxRecDepth 100000 in
/-- ONE STEP -/
theorem bw_sound {pc : Nat} {ins : Instr} {len : Nat} {v : Int32} {a b : Nat} {sw : List (Int32 × Nat)} {ls : List (Option bwV)} {st : List bwV} {μ : bwM} {sl : Nat} {sx : Nat → Int32} {rt : Nat} {Ret : bwR → Prop}
    (hC : bw_Cx p s m args c own cc nL D cI cJ cZ A H0) (hCS : bw_CS l ad D cI cJ cZ d) (hfr : d + 1 ≤ R.frames) (hlo : d * 64 + 64 ≤ R.locals) (hcs : cs ≤ R.cells ∧ ss ≤ R.slots) (hSc : bw_Sc ad A s H0 sl sx)
    (hri : ∀ (x : Int32) (μ : bwM) (pc : Nat) (ls : List (Option bwV)), decode cc pc = .ok (.ireturn, 1) → (rt = 1 ∨ rt = 3 ∧ (x = 0 ∨ x = 1)) → Ret (some (.inl x), μ) → bw_W p l e R s m args below meth c cs ss Q ad D cI cJ cZ A H0 nL pc ls [.inl x] μ)
    (hrl : ∀ (x : Int64) (μ : bwM) (pc : Nat) (ls : List (Option bwV)), decode cc pc = .ok (.lreturn, 1) → rt = 2 → Ret (some (.inr (.inl x)), μ) → bw_W p l e R s m args below meth c cs ss Q ad D cI cJ cZ A H0 nL pc ls [.inr (.inl x)] μ)
    (hrv : ∀ (μ : bwM) (pc : Nat) (ls : List (Option bwV)), decode cc pc = .ok (.return_, 1) → rt = 0 → Ret (none, μ) → bw_W p l e R s m args below meth c cs ss Q ad D cI cJ cZ A H0 nL pc ls [] μ)
    (hdg : decode cc pc = .ok (ins, len)) (ok : bw_okI own nL pc ins len v a b sw = true)
    (h : bw_step (β := Prop) (bw_call d) sl sx rt ins len v a b sw pc ls st μ Ret False (bw_W p l e R s m args below meth c cs ss Q ad D cI cJ cZ A H0 nL)) :
    bw_W p l e R s m args below meth c cs ss Q ad D cI cJ cZ A H0 nL pc ls st μ := by
  obtain ⟨hx, hb, hml, hown, hts, hK, hA, hN⟩ := id hC
  unfold bw_step at h
  split at h
  -- iconst
  · rename_i n
    have ok : (decide (Int32.ofInt n = v) && Nat.beq len 1) = true := ok
    obtain ⟨o1, o2⟩ := be_and ok
    have o1 := of_decide_eq_true o1
    have o2 := bw_beq o2
    subst o2
    intro H locs lsA hP hD hS hl
    exact lv_iconst hx hb hdg o1 (h H locs lsA hP hD hS hl)
  -- bipush
  · rename_i n
    have ok : (decide ((Int8.ofInt n).toInt32 = v) && Nat.beq len 2) = true := ok
    obtain ⟨o1, o2⟩ := be_and ok
    have o1 := of_decide_eq_true o1
    have o2 := bw_beq o2
    subst o2
    intro H locs lsA hP hD hS hl
    exact lv_bipush hx hb hdg o1 (h H locs lsA hP hD hS hl)
  -- sipush
  · rename_i n
    have ok : (decide ((Int16.ofInt n).toInt32 = v) && Nat.beq len 3) = true := ok
    obtain ⟨o1, o2⟩ := be_and ok
    have o1 := of_decide_eq_true o1
    have o2 := bw_beq o2
    subst o2
    intro H locs lsA hP hD hS hl
    exact lv_sipush hx hb hdg o1 (h H locs lsA hP hD hS hl)
  -- lconst
  · rename_i n
    have ok : (Nat.beq a n.val && Nat.beq len 1) = true := ok
    obtain ⟨o1, o2⟩ := be_and ok
    have o1 := bw_beq o1
    have o2 := bw_beq o2
    subst o2
    subst o1
    intro H locs lsA hP hD hS hl
    exact lv_lconst hx hb hdg rfl (h H locs lsA hP hD hS hl)
  -- ldc2_w
  · rename_i n
    have ok : (Nat.beq len 3 && bw_cl.any fun q => Nat.beq q.1 own && Nat.beq q.2.1 n && Nat.beq q.2.2.1 a) = true := ok
    obtain ⟨o1, o2⟩ := be_and ok
    have o1 := bw_beq o1
    subst o1
    obtain ⟨q, hq, h1⟩ := List.any_eq_true.mp o2
    simp only [Bool.and_eq_true] at h1
    have h5 := of_decide_eq_true (List.all_eq_true.mp bw_cl_tbl q hq)
    rw [bw_beq h1.1.1, bw_beq h1.1.2, bw_beq h1.2] at h5
    intro H locs lsA hP hD hS hl
    exact lv_ldc2 hx hb hown (hts _ (bw_gd (List.mem_of_getElem? h5) rfl)) hdg (h H locs lsA hP hD hS hl)
  -- iload_n
  · rename_i n
    have ok : (Nat.beq a n.val && Nat.beq len 1) = true := ok
    obtain ⟨o1, o2⟩ := be_and ok
    have o2 := bw_beq o2
    subst o2
    obtain ⟨w, g1, h1⟩ := be_lk h
    obtain ⟨x, g2, h2⟩ := be_gI h1
    subst g2
    intro H locs lsA hP hD hS hl
    exact lv_iload_n hx hb hdg (bw_beq o1).symm (bw_lv_at hl g1) (h2 H locs lsA hP hD hS hl)
  -- iload
  · rename_i n
    have ok : (Nat.beq a n && Nat.beq len 2) = true := ok
    obtain ⟨o1, o2⟩ := be_and ok
    have o2 := bw_beq o2
    have o1 := bw_beq o1
    subst o2
    subst o1
    obtain ⟨w, g1, h1⟩ := be_lk h
    obtain ⟨x, g2, h2⟩ := be_gI h1
    subst g2
    intro H locs lsA hP hD hS hl
    exact lv_iload hx hb hdg (bw_lv_at hl g1) (h2 H locs lsA hP hD hS hl)
  -- lload_n
  · rename_i n
    have ok : (Nat.beq a n.val && Nat.beq len 1) = true := ok
    obtain ⟨o1, o2⟩ := be_and ok
    have o2 := bw_beq o2
    subst o2
    obtain ⟨w, g1, h1⟩ := be_lk h
    obtain ⟨x, g2, h2⟩ := be_gL h1
    subst g2
    intro H locs lsA hP hD hS hl
    exact lv_lload_n hx hb hdg (bw_beq o1).symm (bw_lv_at hl g1) (h2 H locs lsA hP hD hS hl)
  -- lload
  · rename_i n
    have ok : (Nat.beq a n && Nat.beq len 2) = true := ok
    obtain ⟨o1, o2⟩ := be_and ok
    have o2 := bw_beq o2
    have o1 := bw_beq o1
    subst o2
    subst o1
    obtain ⟨w, g1, h1⟩ := be_lk h
    obtain ⟨x, g2, h2⟩ := be_gL h1
    subst g2
    intro H locs lsA hP hD hS hl
    exact lv_lload hx hb hdg (bw_lv_at hl g1) (h2 H locs lsA hP hD hS hl)
  -- aload_n
  · rename_i n
    have ok : (Nat.beq a n.val && Nat.beq len 1) = true := ok
    obtain ⟨o1, o2⟩ := be_and ok
    have o2 := bw_beq o2
    subst o2
    obtain ⟨w, g1, h1⟩ := be_lk h
    obtain ⟨x, g2, h2⟩ := be_gR h1
    subst g2
    intro H locs lsA hP hD hS hl
    exact lv_aload_n hx hb hdg (bw_beq o1).symm (bw_lv_at hl g1) (h2 H locs lsA hP hD hS hl)
  -- aload
  · rename_i n
    have ok : (Nat.beq a n && Nat.beq len 2) = true := ok
    obtain ⟨o1, o2⟩ := be_and ok
    have o2 := bw_beq o2
    have o1 := bw_beq o1
    subst o2
    subst o1
    obtain ⟨w, g1, h1⟩ := be_lk h
    obtain ⟨x, g2, h2⟩ := be_gR h1
    subst g2
    intro H locs lsA hP hD hS hl
    exact lv_aload hx hb hdg (bw_lv_at hl g1) (h2 H locs lsA hP hD hS hl)
  -- istore_n
  · rename_i n
    have ok : (Nat.beq a n.val && Nat.beq len 1 && Nat.blt a nL) = true := ok
    obtain ⟨o0, o3⟩ := be_and ok
    obtain ⟨o1, o2⟩ := be_and o0
    clear ok o0
    have o2 := bw_beq o2
    subst o2
    obtain ⟨x, r, g1, h1⟩ := be_i1 h
    subst g1
    intro H locs lsA hP hD hS hl
    exact lv_istore_n hx hb hdg (bw_beq o1).symm hl (Nat.le_of_ble_eq_true o3) rfl (fun ls' hl' => h1 H locs ls' hP hD hS (bw_lv_put (v := .inl x) hl'))
  -- istore
  · rename_i n
    have ok : (Nat.beq a n && Nat.beq len 2 && Nat.blt a nL) = true := ok
    obtain ⟨o0, o3⟩ := be_and ok
    obtain ⟨o1, o2⟩ := be_and o0
    clear ok o0
    have o2 := bw_beq o2
    have o1 := bw_beq o1
    subst o2
    subst o1
    obtain ⟨x, r, g1, h1⟩ := be_i1 h
    subst g1
    intro H locs lsA hP hD hS hl
    exact lv_istore hx hb hdg hl (Nat.le_of_ble_eq_true o3) rfl (fun ls' hl' => h1 H locs ls' hP hD hS (bw_lv_put (v := .inl x) hl'))
  -- lstore_n
  · rename_i n
    have ok : (Nat.beq a n.val && Nat.beq len 1 && Nat.blt (a + 1) nL) = true := ok
    obtain ⟨o0, o3⟩ := be_and ok
    obtain ⟨o1, o2⟩ := be_and o0
    clear ok o0
    have o2 := bw_beq o2
    subst o2
    obtain ⟨x, r, g1, h1⟩ := be_l1 h
    subst g1
    intro H locs lsA hP hD hS hl
    exact lv_lstore_n hx hb hdg (bw_beq o1).symm hl (Nat.le_of_ble_eq_true o3) rfl (fun ls' hl' => h1 H locs ls' hP hD hS (bw_lv_putL hl'))
  -- lstore
  · rename_i n
    have ok : (Nat.beq a n && Nat.beq len 2 && Nat.blt (a + 1) nL) = true := ok
    obtain ⟨o0, o3⟩ := be_and ok
    obtain ⟨o1, o2⟩ := be_and o0
    clear ok o0
    have o2 := bw_beq o2
    have o1 := bw_beq o1
    subst o2
    subst o1
    obtain ⟨x, r, g1, h1⟩ := be_l1 h
    subst g1
    intro H locs lsA hP hD hS hl
    exact lv_lstore hx hb hdg hl (Nat.le_of_ble_eq_true o3) rfl (fun ls' hl' => h1 H locs ls' hP hD hS (bw_lv_putL hl'))
  -- iinc
  · rename_i n k
    have ok : (Nat.beq a n && decide (Int32.ofInt k = v) && Nat.beq len 3 && Nat.blt a nL) = true := ok
    obtain ⟨o8, o4⟩ := be_and ok
    obtain ⟨o9, o3⟩ := be_and o8
    obtain ⟨o1, o2⟩ := be_and o9
    clear ok o8 o9
    have o3 := bw_beq o3
    have o1 := bw_beq o1
    have o2 := of_decide_eq_true o2
    subst o3
    subst o1
    obtain ⟨w, g1, h1⟩ := be_lk h
    obtain ⟨x, g2, h2⟩ := be_gI h1
    subst g2
    intro H locs lsA hP hD hS hl
    obtain ⟨kk, hkk⟩ := List.getElem?_of_mem ((bw_lv_mem (ad := ad) (q := (a, bw_cv ad (.inl x))) ls 0).mpr ⟨a, .inl x, g1, by rw [Nat.zero_add]⟩)
    exact lv_iinc hx hb hdg hl hkk (by rw [o2]) (Nat.le_of_ble_eq_true o4) rfl (fun ls' hl' => h2 H locs ls' hP hD hS (bw_lv_put (v := .inl (x + v)) hl'))
  -- iadd
  · have o2 := bw_beq (show Nat.beq len 1 = true from ok)
    subst o2
    obtain ⟨x, y, r, g1, h1⟩ := be_i2 h
    subst g1
    intro H locs lsA hP hD hS hl
    exact lv_iadd hx hb hdg (h1 H locs lsA hP hD hS hl)
  -- isub
  · have o2 := bw_beq (show Nat.beq len 1 = true from ok)
    subst o2
    obtain ⟨x, y, r, g1, h1⟩ := be_i2 h
    subst g1
    intro H locs lsA hP hD hS hl
    exact lv_isub hx hb hdg (h1 H locs lsA hP hD hS hl)
  -- imul
  · have o2 := bw_beq (show Nat.beq len 1 = true from ok)
    subst o2
    obtain ⟨x, y, r, g1, h1⟩ := be_i2 h
    subst g1
    intro H locs lsA hP hD hS hl
    exact lv_imul hx hb hdg (h1 H locs lsA hP hD hS hl)
  -- irem
  · have o2 := bw_beq (show Nat.beq len 1 = true from ok)
    subst o2
    obtain ⟨x, y, r, g1, h1⟩ := be_i2 h
    obtain ⟨hne, h2⟩ := be_ifn h1
    subst g1
    intro H locs lsA hP hD hS hl
    exact lv_irem hx hb hdg hne (h2 H locs lsA hP hD hS hl)
  -- ior
  · have o2 := bw_beq (show Nat.beq len 1 = true from ok)
    subst o2
    obtain ⟨x, y, r, g1, h1⟩ := be_i2 h
    subst g1
    intro H locs lsA hP hD hS hl
    exact lv_ior hx hb hdg (h1 H locs lsA hP hD hS hl)
  -- iand
  · have o2 := bw_beq (show Nat.beq len 1 = true from ok)
    subst o2
    obtain ⟨x, y, r, g1, h1⟩ := be_i2 h
    subst g1
    intro H locs lsA hP hD hS hl
    exact lv_iand hx hb hdg (h1 H locs lsA hP hD hS hl)
  -- ixor
  · have o2 := bw_beq (show Nat.beq len 1 = true from ok)
    subst o2
    obtain ⟨x, y, r, g1, h1⟩ := be_i2 h
    subst g1
    intro H locs lsA hP hD hS hl
    exact lv_ixor hx hb hdg (h1 H locs lsA hP hD hS hl)
  -- ishl
  · have o2 := bw_beq (show Nat.beq len 1 = true from ok)
    subst o2
    obtain ⟨x, y, r, g1, h1⟩ := be_i2 h
    subst g1
    intro H locs lsA hP hD hS hl
    exact lv_ishl hx hb hdg (h1 H locs lsA hP hD hS hl)
  -- ishr
  · have o2 := bw_beq (show Nat.beq len 1 = true from ok)
    subst o2
    obtain ⟨x, y, r, g1, h1⟩ := be_i2 h
    subst g1
    intro H locs lsA hP hD hS hl
    exact lv_ishr hx hb hdg (h1 H locs lsA hP hD hS hl)
  -- ladd
  · have o2 := bw_beq (show Nat.beq len 1 = true from ok)
    subst o2
    obtain ⟨x, y, r, g1, h1⟩ := be_l2 h
    subst g1
    intro H locs lsA hP hD hS hl
    exact lv_ladd hx hb hdg (h1 H locs lsA hP hD hS hl)
  -- lsub
  · have o2 := bw_beq (show Nat.beq len 1 = true from ok)
    subst o2
    obtain ⟨x, y, r, g1, h1⟩ := be_l2 h
    subst g1
    intro H locs lsA hP hD hS hl
    exact lv_lsub hx hb hdg (h1 H locs lsA hP hD hS hl)
  -- lmul
  · have o2 := bw_beq (show Nat.beq len 1 = true from ok)
    subst o2
    obtain ⟨x, y, r, g1, h1⟩ := be_l2 h
    subst g1
    intro H locs lsA hP hD hS hl
    exact lv_lmul hx hb hdg (h1 H locs lsA hP hD hS hl)
  -- ldiv
  · have o2 := bw_beq (show Nat.beq len 1 = true from ok)
    subst o2
    obtain ⟨x, y, r, g1, h1⟩ := be_l2 h
    obtain ⟨hne, h2⟩ := be_ifn h1
    subst g1
    intro H locs lsA hP hD hS hl
    exact lv_ldiv hx hb hdg hne (h2 H locs lsA hP hD hS hl)
  -- lrem
  · have o2 := bw_beq (show Nat.beq len 1 = true from ok)
    subst o2
    obtain ⟨x, y, r, g1, h1⟩ := be_l2 h
    obtain ⟨hne, h2⟩ := be_ifn h1
    subst g1
    intro H locs lsA hP hD hS hl
    exact lv_lrem hx hb hdg hne (h2 H locs lsA hP hD hS hl)
  -- lneg
  · have o2 := bw_beq (show Nat.beq len 1 = true from ok)
    subst o2
    obtain ⟨x, r, g1, h1⟩ := be_l1 h
    subst g1
    intro H locs lsA hP hD hS hl
    exact lv_lneg hx hb hdg (h1 H locs lsA hP hD hS hl)
  -- i2l
  · have o2 := bw_beq (show Nat.beq len 1 = true from ok)
    subst o2
    obtain ⟨x, r, g1, h1⟩ := be_i1 h
    subst g1
    intro H locs lsA hP hD hS hl
    exact lv_i2l hx hb hdg rfl (h1 H locs lsA hP hD hS hl)
  -- lcmp
  · have o2 := bw_beq (show Nat.beq len 1 = true from ok)
    subst o2
    obtain ⟨x, y, r, g1, h1⟩ := be_l2 h
    subst g1
    intro H locs lsA hP hD hS hl
    exact W.lcmp hx hb hdg (h1 H locs lsA hP hD hS hl)
  -- dup
  · have o2 := bw_beq (show Nat.beq len 1 = true from ok)
    subst o2
    obtain ⟨x, r, g1, h1⟩ := be_pp h
    obtain ⟨hL, h2⟩ := be_bn h1
    subst g1
    intro H locs lsA hP hD hS hl
    exact lv_dup hx hb hdg (by rcases x with x | x | x <;> first | rfl | cases hL) (h2 H locs lsA hP hD hS hl)
  -- dup2
  · have o2 := bw_beq (show Nat.beq len 1 = true from ok)
    subst o2
    obtain ⟨x, r0, g0, h0⟩ := be_pp h
    obtain ⟨y, r, g1, h1⟩ := be_pp h0
    obtain ⟨hL, h2⟩ := be_bn h1
    subst g1
    subst g0
    have hL1 : bw_isL x = false := by cases hq : bw_isL x with
      | false => rfl
      | true => rw [hq] at hL; cases hL
    have hL2 : bw_isL y = false := by rw [hL1] at hL; exact hL
    intro H locs lsA hP hD hS hl
    exact lv_dup2_11 hx hb hdg (by rcases x with x | x | x <;> first | rfl | cases hL1) (by rcases y with x | x | x <;> first | rfl | cases hL2) (h2 H locs lsA hP hD hS hl)
  -- goto
  · rename_i off
    have ok : (decide ((pc : Int) + off = (a : Int)) && Nat.beq len 3) = true := ok
    obtain ⟨o1, o2⟩ := be_and ok
    have o2 := bw_beq o2
    subst o2
    intro H locs lsA hP hD hS hl
    exact lv_goto hx hb hdg (of_decide_eq_true o1) (h H locs lsA hP hD hS hl)
  -- ifCond
  · rename_i co off
    have ok : (decide ((pc : Int) + off = (a : Int)) && Nat.beq len 3) = true := ok
    obtain ⟨o1, o2⟩ := be_and ok
    have o2 := bw_beq o2
    have o1 := of_decide_eq_true o1
    clear ok
    subst o2
    split at h
    · obtain ⟨x, r, g1, h1⟩ := be_i1 h
      subst g1
      intro H locs lsA hP hD hS hl
      exact lv_if_eq hx hb hdg o1 (fun hc => (be_t h1 hc) H locs lsA hP hD hS hl) (fun hc => (be_f h1 hc) H locs lsA hP hD hS hl)
    · obtain ⟨x, r, g1, h1⟩ := be_i1 h
      subst g1
      intro H locs lsA hP hD hS hl
      exact lv_if_ne hx hb hdg o1 (fun hc => (be_f h1 hc) H locs lsA hP hD hS hl) (fun hc => (be_t h1 hc) H locs lsA hP hD hS hl)
    · obtain ⟨x, r, g1, h1⟩ := be_i1 h
      subst g1
      intro H locs lsA hP hD hS hl
      exact lv_if_lt hx hb hdg o1 (fun hc => (be_t h1 hc) H locs lsA hP hD hS hl) (fun hc => (be_f h1 hc) H locs lsA hP hD hS hl)
    · obtain ⟨x, r, g1, h1⟩ := be_i1 h
      subst g1
      intro H locs lsA hP hD hS hl
      exact lv_if_ge hx hb hdg o1 (fun hc => (be_t h1 hc) H locs lsA hP hD hS hl) (fun hc => (be_f h1 hc) H locs lsA hP hD hS hl)
    · obtain ⟨x, r, g1, h1⟩ := be_i1 h
      subst g1
      intro H locs lsA hP hD hS hl
      exact lv_if_gt hx hb hdg o1 (fun hc => (be_t h1 hc) H locs lsA hP hD hS hl) (fun hc => (be_f h1 hc) H locs lsA hP hD hS hl)
    · obtain ⟨x, r, g1, h1⟩ := be_i1 h
      subst g1
      intro H locs lsA hP hD hS hl
      exact lv_if_le hx hb hdg o1 (fun hc => (be_t h1 hc) H locs lsA hP hD hS hl) (fun hc => (be_f h1 hc) H locs lsA hP hD hS hl)
  -- if_icmp
  · rename_i co off
    have ok : (decide ((pc : Int) + off = (a : Int)) && Nat.beq len 3) = true := ok
    obtain ⟨o1, o2⟩ := be_and ok
    have o2 := bw_beq o2
    have o1 := of_decide_eq_true o1
    clear ok
    subst o2
    split at h
    · obtain ⟨x, y, r, g1, h1⟩ := be_i2 h
      subst g1
      intro H locs lsA hP hD hS hl
      exact lv_icmp_eq hx hb hdg o1 (fun hc => (be_t h1 hc) H locs lsA hP hD hS hl) (fun hc => (be_f h1 hc) H locs lsA hP hD hS hl)
    · obtain ⟨x, y, r, g1, h1⟩ := be_i2 h
      subst g1
      intro H locs lsA hP hD hS hl
      exact lv_icmp_ne hx hb hdg o1 (fun hc => (be_f h1 hc) H locs lsA hP hD hS hl) (fun hc => (be_t h1 hc) H locs lsA hP hD hS hl)
    · obtain ⟨x, y, r, g1, h1⟩ := be_i2 h
      subst g1
      intro H locs lsA hP hD hS hl
      exact lv_icmp_lt hx hb hdg o1 (fun hc => (be_t h1 hc) H locs lsA hP hD hS hl) (fun hc => (be_f h1 hc) H locs lsA hP hD hS hl)
    · obtain ⟨x, y, r, g1, h1⟩ := be_i2 h
      subst g1
      intro H locs lsA hP hD hS hl
      exact lv_icmp_ge hx hb hdg o1 (fun hc => (be_t h1 hc) H locs lsA hP hD hS hl) (fun hc => (be_f h1 hc) H locs lsA hP hD hS hl)
    · obtain ⟨x, y, r, g1, h1⟩ := be_i2 h
      subst g1
      intro H locs lsA hP hD hS hl
      exact lv_icmp_gt hx hb hdg o1 (fun hc => (be_t h1 hc) H locs lsA hP hD hS hl) (fun hc => (be_f h1 hc) H locs lsA hP hD hS hl)
    · obtain ⟨x, y, r, g1, h1⟩ := be_i2 h
      subst g1
      intro H locs lsA hP hD hS hl
      exact lv_icmp_le hx hb hdg o1 (fun hc => (be_t h1 hc) H locs lsA hP hD hS hl) (fun hc => (be_f h1 hc) H locs lsA hP hD hS hl)
  -- tableswitch
  · rename_i dflt lo hi offs
    have ok : (decide ((pc : Int) + dflt = (a : Int)) && bw_swok pc lo offs.toList sw && decide (lo + (offs.toList.length : Int) = hi + 1)) = true := ok
    obtain ⟨o0, o3⟩ := be_and ok
    obtain ⟨o1, o2⟩ := be_and o0
    have o1 := of_decide_eq_true o1
    have o3 := of_decide_eq_true o3
    obtain ⟨x, r, g1, h1⟩ := be_i1 h
    subst g1
    intro H locs lsA hP hD hS hl
    rcases bw_swgo (ls := ls) (r := r) (μ := μ) offs.toList lo sw o2 h1 with ⟨a1, a2⟩ | ⟨off, t, a1, a2, a3, a4, a5⟩
    · exact lv_tableOut hx hb hdg (by omega) o1 (a1 H locs lsA hP hD hS hl)
    · exact lv_tableIn hx hb hdg (by omega) (by omega) (by rw [← Array.getElem?_toList]; exact a3) a4 (a5 H locs lsA hP hD hS hl)
  -- getfield
  · rename_i n
    have ok : (Nat.beq len 3 && bw_fl.any fun q => Nat.beq q.1 own && Nat.beq q.2.1 n && Nat.beq q.2.2.1 b && Nat.beq q.2.2.2.1 a) = true := ok
    obtain ⟨o1, o2⟩ := be_and ok
    have o1 := bw_beq o1
    subst o1
    exact bw_getf hC hdg o2 h
  -- putfield
  · rename_i n
    have ok : (Nat.beq len 3 && bw_fl.any fun q => Nat.beq q.1 own && Nat.beq q.2.1 n && Nat.beq q.2.2.1 b && Nat.beq q.2.2.2.1 a) = true := ok
    obtain ⟨o1, o2⟩ := be_and ok
    have o1 := bw_beq o1
    subst o1
    exact bw_putf hC hdg o2 h
  -- iaload
  · have o2 := bw_beq (show Nat.beq len 1 = true from ok)
    subst o2
    obtain ⟨i, r0, g0, h0⟩ := be_i1 h
    obtain ⟨o, r, g1, h1⟩ := be_r1 h0
    clear h h0
    subst g1
    subst g0
    intro H locs lsA hP hD hS hl
    cases hq : Nat.beq o 60 with
    | true =>
      rw [hq] at h1
      obtain ⟨h2, h3⟩ := be_if h1
      have e60 := bw_beq hq
      subst e60
      rcases hSc with e | ⟨hX, hbl, hbA⟩
      · rw [e] at h2; exact absurd h2.2 (by omega)
      · exact va_sld hx hb hX hbl hbA hS (bw_in_vp h2) hdg (h3 H locs lsA hP hD hS hl)
    | false =>
      rw [hq] at h1
      obtain ⟨h2, h3⟩ := be_b h1
      obtain ⟨h4, h5⟩ := be_if h3
      exact va_iald hx hb hK hP o 0 (bw_cell1 h2) rfl (bw_in_vp h4) hdg (h5 H locs lsA hP hD hS hl)
  -- laload
  · have o2 := bw_beq (show Nat.beq len 1 = true from ok)
    subst o2
    obtain ⟨i, r0, g0, h0⟩ := be_i1 h
    obtain ⟨o, r, g1, h1⟩ := be_r1 h0
    obtain ⟨h2, h3⟩ := be_b h1
    obtain ⟨h4, h5⟩ := be_if h3
    clear h h0 h1 h3
    subst g1
    subst g0
    intro H locs lsA hP hD hS hl
    exact va_lald hx hb hK hP o 1 (bw_cell2 h2) rfl (bw_in_vp h4) hdg (h5 H locs lsA hP hD hS hl)
  -- baload
  · have o2 := bw_beq (show Nat.beq len 1 = true from ok)
    subst o2
    obtain ⟨i, r0, g0, h0⟩ := be_i1 h
    obtain ⟨o, r, g1, h1⟩ := be_r1 h0
    obtain ⟨h2, h3⟩ := be_b h1
    obtain ⟨h4, h5⟩ := be_if h3
    clear h h0 h1 h3
    subst g1
    subst g0
    intro H locs lsA hP hD hS hl
    exact va_zald hx hb hK hP o 2 (bw_cell3 h2) rfl (bw_in_vp h4) hdg (h5 H locs lsA hP hD hS hl)
  -- iastore
  · have o2 := bw_beq (show Nat.beq len 1 = true from ok)
    subst o2
    obtain ⟨x, r8, g8, h8⟩ := be_i1 h
    obtain ⟨i, r0, g0, h0⟩ := be_i1 h8
    obtain ⟨o, r, g1, h1⟩ := be_r1 h0
    obtain ⟨h2, h3⟩ := be_b h1
    obtain ⟨h4, h5⟩ := be_if h3
    clear h h8 h0 h1 h3
    subst g1
    subst g0
    subst g8
    intro H locs lsA hP hD hS hl
    refine va_iast hx hb hK hP hD hS o 0 (bw_cell1 h2) rfl (bw_in_vp h4) hdg (fun H1 locs1 hP1 hD1 hS1 => ?_)
    rw [bw_set1 h2] at hP1 hD1
    exact h5 H1 locs1 lsA hP1 hD1 hS1 hl
  -- lastore
  · have o2 := bw_beq (show Nat.beq len 1 = true from ok)
    subst o2
    obtain ⟨x, r8, g8, h8⟩ := be_l1 h
    obtain ⟨i, r0, g0, h0⟩ := be_i1 h8
    obtain ⟨o, r, g1, h1⟩ := be_r1 h0
    obtain ⟨h2, h3⟩ := be_b h1
    obtain ⟨h4, h5⟩ := be_if h3
    clear h h8 h0 h1 h3
    subst g1
    subst g0
    subst g8
    intro H locs lsA hP hD hS hl
    refine va_last hx hb hK hP hD hS o 1 (bw_cell2 h2) rfl (bw_in_vp h4) hdg (fun H1 locs1 hP1 hD1 hS1 => ?_)
    rw [bw_set2 h2] at hP1 hD1
    exact h5 H1 locs1 lsA hP1 hD1 hS1 hl
  -- bastore
  · have o2 := bw_beq (show Nat.beq len 1 = true from ok)
    subst o2
    obtain ⟨x, r8, g8, h8⟩ := be_i1 h
    obtain ⟨i, r0, g0, h0⟩ := be_i1 h8
    obtain ⟨o, r, g1, h1⟩ := be_r1 h0
    obtain ⟨h2, h3⟩ := be_b h1
    obtain ⟨h4, h5⟩ := be_if h3
    clear h h8 h0 h1 h3
    subst g1
    subst g0
    subst g8
    intro H locs lsA hP hD hS hl
    refine va_zast hx hb hK hP hD hS o 2 (bw_cell3 h2) rfl (bw_in_vp h4) hdg (fun H1 locs1 hP1 hD1 hS1 => ?_)
    rw [bw_set3 h2] at hP1 hD1
    exact h5 H1 locs1 lsA hP1 hD1 hS1 hl
  -- arraylength
  · have o2 := bw_beq (show Nat.beq len 1 = true from ok)
    subst o2
    obtain ⟨o, r, g1, h1⟩ := be_r1 h
    clear h
    subst g1
    intro H locs lsA hP hD hS hl
    cases hq : Nat.beq o 60 with
    | true =>
      rw [hq] at h1
      obtain ⟨h2, h3⟩ := be_bn h1
      have e60 := bw_beq hq
      subst e60
      rcases hSc with e | ⟨hX, hbl, hbA⟩
      · rw [e] at h2; cases h2
      · exact va_slen hx hb hX hbl hbA hS hdg (h3 H locs lsA hP hD hS hl)
    | false =>
      rw [hq] at h1
      obtain ⟨h2, h3⟩ := be_b h1
      exact va_alen hx hb hK hP o 0 (bw_cell1 h2) rfl rfl hdg (h3 H locs lsA hP hD hS hl)
  -- invokevirtual
  · rename_i n
    have ok : (Nat.beq len 3 && (bw_ml.any fun q => Nat.beq q.1 own && Nat.beq q.2.1 n && Nat.beq q.2.2.1 a && Nat.beq q.2.2.2.1 0) && (match bw_nth bw_sg a with
      | some (cn, _, _, _, rt, sc, na) => Nat.beq sc 0 && Nat.blt cn 5 && Nat.beq b (cn * 1000 + (na + 1) * 10 + rt) && Nat.blt rt 4 && Nat.blt na 10
      | none => false)) = true := ok
    obtain ⟨o0, o3⟩ := be_and ok
    obtain ⟨o1, o2⟩ := be_and o0
    exact bw_inv hC hCS hfr hlo hcs hdg (bw_beq o1) o2 o3 h
  -- invokestatic
  · rename_i n
    have ok : (Nat.beq len 3 && (bif Nat.ble 997 b then (bw_sl3.any fun q => Nat.beq q.1 own && Nat.beq q.2.1 n && Nat.beq q.2.2.1 b) else (bw_ml.any fun q => Nat.beq q.1 own && Nat.beq q.2.1 n && Nat.beq q.2.2.1 a) && (match bw_nth bw_sg a with
      | some (_, _, _, _, rt, sc, na) => Nat.beq sc 1 && Nat.beq b (na * 10 + rt) && Nat.blt rt 4 && Nat.blt na 10
      | none => false))) = true := ok
    obtain ⟨o1, o2⟩ := be_and ok
    have o1 := bw_beq o1
    clear ok
    subst o1
    cases h997 : Nat.ble 997 b with
    | false =>
      rw [h997] at o2
      obtain ⟨o3, o4⟩ := be_and o2
      have hb9 : b < 997 := by
        rcases Nat.lt_or_ge b 997 with q | q
        · exact q
        · rw [Nat.ble_eq_true_of_le q] at h997; cases h997
      have e8 : Nat.beq b 998 = false := by
        cases hq : Nat.beq b 998 with
        | false => rfl
        | true => have := bw_beq hq; omega
      have e7 : Nat.beq b 997 = false := by
        cases hq : Nat.beq b 997 with
        | false => rfl
        | true => have := bw_beq hq; omega
      have e9 : Nat.beq b 999 = false := by
        cases hq : Nat.beq b 999 with
        | false => rfl
        | true => have := bw_beq hq; omega
      rw [e8, e7, e9] at h
      exact bw_inS hC hCS hfr hlo hcs hdg rfl o3 o4 h
    | true =>
      rw [h997] at o2
      obtain ⟨q, hq, hq1⟩ := List.any_eq_true.mp o2
      simp only [Bool.and_eq_true] at hq1
      have h5 := List.all_eq_true.mp bw_sl3_tbl q hq
      rw [bw_beq hq1.1.1, bw_beq hq1.1.2, bw_beq hq1.2] at h5
      obtain ⟨h6, h7⟩ := be_and h5
      obtain ⟨h8, h9⟩ := be_and h6
      have hlk := bw_gd (List.mem_of_getElem? (of_decide_eq_true h7)) rfl
      have b1 : 997 ≤ b := Nat.le_of_ble_eq_true h997
      have b2 : b ≤ 999 := Nat.le_of_ble_eq_true h9
      have sy : ∀ w ∈ bw_sys, goodWord w = true → w.before args s = true := fun w hw hg => hts w (bw_gd (bw_sys_in w hw) hg)
      rcases (show b = 997 ∨ b = 998 ∨ b = 999 by omega) with rfl | rfl | rfl
      · obtain ⟨x, r, g1, h1⟩ := be_l1 (show bw_l1 st False (fun x r => bif Nat.ble (bw_wd r) 8 then bw_W p l e R s m args below meth c cs ss Q ad D cI cJ cZ A H0 nL (pc + 3) ls (.inr (.inl (if 0 < x then x else -x)) :: r) μ else False) from h)
        obtain ⟨h2, h3⟩ := be_b h1
        clear h h1
        subst g1
        intro H locs lsA hP hD hS hl
        refine va_mabs_long hx hb (hml.trans hl.1.symm) hown (hts _ hlk) (sy _ (by simp [bw_sys]) rfl) (sy _ (by simp [bw_sys]) rfl) (sy _ (by simp [bw_sys]) rfl) (by omega) ?_ hcs.1 hcs.2 hdg (h3 H locs lsA hP hD hS hl)
        have := Nat.le_of_ble_eq_true h2
        rw [bw_wd_cat]; omega
      · obtain ⟨x, y, r, g1, h1⟩ := be_i2 (show bw_i2 st False (fun x y r => bif Nat.ble (bw_wd r) 8 then bw_W p l e R s m args below meth c cs ss Q ad D cI cJ cZ A H0 nL (pc + 3) ls (.inl (if y < x then y else x) :: r) μ else False) from h)
        obtain ⟨h2, h3⟩ := be_b h1
        clear h h1
        subst g1
        intro H locs lsA hP hD hS hl
        refine va_mmin hx hb (hml.trans hl.1.symm) hown (hts _ hlk) (sy _ (by simp [bw_sys]) rfl) (sy _ (by simp [bw_sys]) rfl) (sy _ (by simp [bw_sys]) rfl) (by omega) ?_ hcs.1 hcs.2 hdg (h3 H locs lsA hP hD hS hl)
        have := Nat.le_of_ble_eq_true h2
        rw [bw_wd_cat]; omega
      · obtain ⟨n, r1, g1, h1⟩ := be_i1 (show bw_i1 st False (fun n r => bw_i1 r False fun dp r => bw_r1 r False fun o2 r => bw_i1 r False fun sp r => bw_r1 r False fun o1 r => bw_nl r False (bif (Nat.blt o1 53 && Nat.beq (bw_kd o1) 1) && (Nat.blt o2 53 && Nat.beq (bw_kd o2) 1) then (if (0 ≤ sp ∧ 0 ≤ dp) ∧ (0 ≤ n ∧ sp.toNatClampNeg + n.toNatClampNeg ≤ bw_len o1 ∧ dp.toNatClampNeg + n.toNatClampNeg ≤ bw_len o2) then bw_W p l e R s m args below meth c cs ss Q ad D cI cJ cZ A H0 nL (pc + 3) ls [] (bw_cp μ o1 o2 sp.toNatClampNeg dp.toNatClampNeg n.toNatClampNeg) else False) else False)) from h)
        obtain ⟨dp, r2, g2, h2⟩ := be_i1 h1
        obtain ⟨o2, r3, g3, h3⟩ := be_r1 h2
        obtain ⟨sp, r4, g4, h4⟩ := be_i1 h3
        obtain ⟨o1, r5, g5, h5⟩ := be_r1 h4
        obtain ⟨g6, h6⟩ := be_nl h5
        obtain ⟨k1, h7⟩ := be_b h6
        obtain ⟨k2, h8⟩ := be_if h7
        obtain ⟨k3, k4⟩ := be_and k1
        clear h h1 h2 h3 h4 h5 h6 h7
        subst g6
        subst g5
        subst g4
        subst g3
        subst g2
        subst g1
        intro H locs lsA hP hD hS hl
        refine va_copyi hx hb (hml.trans hl.1.symm) hown (hts _ hlk) (sy _ (by simp [bw_sys]) rfl) (sy _ (by simp [bw_sys]) rfl) (sy _ (by simp [bw_sys]) rfl) hK hP hD hS o1 o2 0 0 (bw_cell1 k3) (bw_cell1 k4) rfl rfl rfl (bw_nneg k2.1.1) (bw_nneg k2.1.2) (bw_nneg k2.2.1) k2.2.2.1 k2.2.2.2 (fun _ _ => rfl) (by omega) ?_ hdg (fun H1 locs1 hP1 hD1 hS1 => ?_)
        · show 0 + (nativeFrameWords "java/lang/System" "arraycopy" 5 + 11) ≤ R.locals
          have : nativeFrameWords "java/lang/System" "arraycopy" 5 ≤ 50 := by decide +kernel
          omega
        · rw [bw_setC k4] at hP1 hD1
          exact h8 H1 locs1 lsA hP1 hD1 hS1 hl
  -- ireturn
  · have o2 := bw_beq (show Nat.beq len 1 = true from ok)
    subst o2
    obtain ⟨x, r, g1, h1⟩ := be_i1 h
    obtain ⟨g2, h2⟩ := be_nl h1
    clear h h1
    subst g2
    subst g1
    split at h2
    · exact hri x μ pc ls hdg (Or.inl rfl) h2
    · obtain ⟨h3, h4⟩ := be_if h2
      exact hri x μ pc ls hdg (Or.inr ⟨rfl, h3⟩) h4
    · exact h2.elim
  -- lreturn
  · have o2 := bw_beq (show Nat.beq len 1 = true from ok)
    subst o2
    obtain ⟨x, r, g1, h1⟩ := be_l1 h
    obtain ⟨g2, h2⟩ := be_nl h1
    clear h h1
    subst g2
    subst g1
    split at h2
    · exact hrl x μ pc ls hdg rfl h2
    · exact h2.elim
  -- return
  · have o2 := bw_beq (show Nat.beq len 1 = true from ok)
    subst o2
    obtain ⟨g2, h2⟩ := be_nl h
    clear h
    subst g2
    split at h2
    · exact hrv μ pc ls hdg rfl h2
    · exact h2.elim
  · exact h.elim
end SOUND
end
section
/-! EVERY METHOD'S CONTRACT, at every depth. -/
section SOUND
variable {p : Program} {l : Launch} {e : Env} {R : Room} {s : State} {m : MethodId} {args : Array Value} {below : List Frame} {meth : Method} {c : Code} {cs ss : Nat} {Q : State → Prop}
variable {ad : Nat → Nat} {D : va_G} {cI cJ cZ : ClassId} {A : Nat → Prop} {H0 : Heap} {cc : ByteArray} {nL own : Nat} {d : Nat}
theorem bw_sound_run {sl : Nat} {sx : Nat → Int32} {rt : Nat} {t : List bwE} {ρ : bwR}
    (hC : bw_Cx p s m args c own cc nL D cI cJ cZ A H0) (hCS : bw_CS l ad D cI cJ cZ d) (hfr : d + 1 ≤ R.frames) (hlo : d * 64 + 64 ≤ R.locals) (hcs : cs ≤ R.cells ∧ ss ≤ R.slots) (hSc : bw_Sc ad A s H0 sl sx)
    (hri : ∀ (x : Int32) (μ : bwM) (pc : Nat) (ls : List (Option bwV)), decode cc pc = .ok (.ireturn, 1) → (rt = 1 ∨ rt = 3 ∧ (x = 0 ∨ x = 1)) → (some (.inl x), μ) = ρ → bw_W p l e R s m args below meth c cs ss Q ad D cI cJ cZ A H0 nL pc ls [.inl x] μ)
    (hrl : ∀ (x : Int64) (μ : bwM) (pc : Nat) (ls : List (Option bwV)), decode cc pc = .ok (.lreturn, 1) → rt = 2 → (some (.inr (.inl x)), μ) = ρ → bw_W p l e R s m args below meth c cs ss Q ad D cI cJ cZ A H0 nL pc ls [.inr (.inl x)] μ)
    (hrv : ∀ (μ : bwM) (pc : Nat) (ls : List (Option bwV)), decode cc pc = .ok (.return_, 1) → rt = 0 → (none, μ) = ρ → bw_W p l e R s m args below meth c cs ss Q ad D cI cJ cZ A H0 nL pc ls [] μ)
    (hT : bw_okT own cc nL t = true) : ∀ (n pc : Nat) (ls : List (Option bwV)) (st : List bwV) (μ : bwM), bw_run (bw_call d) sl sx rt t n pc ls st μ = some ρ → bw_W p l e R s m args below meth c cs ss Q ad D cI cJ cZ A H0 nL pc ls st μ := by
  intro n
  induction n with
  | zero => intro pc ls st μ h; cases h
  | succ n ih =>
    intro pc ls st μ h
    unfold bw_run at h
    cases hf : bw_find t pc with
    | none => rw [hf] at h; cases h
    | some q =>
      obtain ⟨h1, h2⟩ := bw_find_use _ _ _ hf
      have h3 := List.all_eq_true.mp hT q h1
      obtain ⟨p0, ins, len, v, a, b, fg, sw⟩ := q
      rw [hf] at h
      dsimp only at h h2 h3
      subst h2
      obtain ⟨h4, h5⟩ := be_and h3
      have h4 := of_decide_eq_true h4
      have hW : bw_W p l e R s m args below meth c cs ss Q ad D cI cJ cZ A H0 nL p0 (bw_forget fg ls) st μ := by
        refine bw_sound (Ret := fun x => x = ρ) (sl := sl) (sx := sx) (rt := rt) hC hCS hfr hlo hcs hSc hri hrl hrv h4 h5 ?_
        rcases bw_shape (bw_call d) sl sx rt ins len v a b sw p0 (bw_forget fg ls) st μ with ⟨c, hc⟩ | hc | ⟨pc', ls', st', μ', hc⟩ <;> dsimp only at hc
        · rw [hc] at h ⊢; exact Option.some.inj h
        · rw [hc] at h; cases h
        · rw [hc] at h ⊢; exact ih _ _ _ _ h
      intro H locs lsA hP hD hS hl
      exact hW H locs lsA hP hD hS (bw_lv_forget fg ls hl)
end SOUND
theorem bw_narz {x : Int32} (h : x = 0 ∨ x = 1) : narrow .boolean (.int x) = .int x := by
  rcases h with rfl | rfl <;> decide +kernel
set_option maxHeartbeats 1000000 in
set_option maxRecDepth 20000 in
theorem bw_CS_all (l : Launch) (ad : Nat → Nat) (D : va_G) (cI cJ cZ : ClassId) : ∀ d : Nat, bw_CS l ad D cI cJ cZ d := by
  intro d
  induction d with
  | zero => intro m as μ r μ' h; cases h
  | succ d ih =>
    intro m as μ r μ' h g hg sz
    unfold bw_call at h
    rw [hg] at h
    obtain ⟨cn, y, bytes, mx, rt, sc, na⟩ := g
    dsimp only at h
    cases ht : bw_nth bw_tabs m with
    | none => rw [ht] at h; cases h
    | some t =>
      rw [ht] at h
      dsimp only at h
      cases hw : Nat.ble (bw_wd as) mx with
      | false => rw [hw] at h; cases h
      | true =>
        rw [hw] at h
        have h : bw_ex (bw_call d) 0 bw_z rt t 0 (bw_loc as mx) [] μ = some (r, μ') := h
        obtain ⟨n, hn⟩ := bw_ex_iff.mp h
        have hT := bw_okA_use _ _ _ _ _ bw_tabs_ok hg ht
        obtain ⟨p0, hp0⟩ := bw_okGs_use _ _ _ _ bw_sg_ok hg
        obtain ⟨hp1, -⟩ := be_and hp0
        obtain ⟨hp1, -⟩ := be_and hp1
        obtain ⟨hp1, -⟩ := be_and hp1
        obtain ⟨hp1, -⟩ := be_and hp1
        obtain ⟨w1, w2⟩ := be_and hp1
        have w1 := of_decide_eq_true w1
        dsimp only at w1 w2
        refine Met.ofW (cc := bytes) (maxL := mx) (ret := bw_ret rt) w2 rfl ?_
        intro p e s m args below meth c s₁ B hml hv
        obtain ⟨rfl, hsz, hP, hK, hD0, hN⟩ := hv
        have hx := B.exec
        have hb := B.bytes
        have hr := B.returns
        have hts := atoms_spec (ws := bw_cw (cn, y, bytes, mx, rt, sc, na) :: bw_ws) B.pre
        have hown : s.vm.findClass y.cls = some m.cls := findClass_of_methodNamed B.named
        have hlocks := B.notSynchronized
        subst hsz
        have hD := hD0.self (sz := s.heap.size)
        have hA : ∀ q : Nat, s.heap.size ≤ q → va_A (bw_cells ad cI cJ cZ μ) s.heap.size q := fun q h => Or.inr h
        generalize va_A (bw_cells ad cI cJ cZ μ) s.heap.size = A at hD hA ⊢
        have hS : va_S A s.heap s.heap [] := va_S.rf
        have hl := lv_entry (as.map (bw_cv ad)) (n := mx) (by rw [bw_wd_sl]; exact Nat.le_of_ble_eq_true hw)
        rw [lg_entry_eq]
        generalize (lg_sl (as.map (bw_cv ad)) ++ List.replicate (mx - (lg_sl (as.map (bw_cv ad))).length) Slot.unset).toArray = ls at hl ⊢
        have hl2 : lv_has ls mx (bw_lv ad 0 (bw_loc as mx)) := ⟨hl.1, hl.2.1, fun q hq => hl.2.2 q (by
          obtain ⟨j, v, h1, rfl⟩ := (bw_lv_mem _ _).mp hq
          exact bw_loc_args mx as 0 j v h1)⟩
        have hC : bw_Cx p s m (as.map (bw_cv ad)).toArray c cn bytes mx D cI cJ cZ A s.heap := ⟨hx, hb, hml, by rw [← w1]; exact hown, fun w hw => hts w (List.mem_cons.mpr (Or.inr hw)), hK, hA, hN⟩
        refine bw_sound_run (own := cn) (cc := bytes) (ρ := (r, μ')) (R := bw_rm (d + 1)) (sl := 0) (sx := bw_z) (rt := rt) (Q := MQ below (bw_Post ad D cI cJ cZ r μ' A) (as.map (bw_cv ad)).toArray s 0 0 A) hC ih (Nat.le_refl _) (by show d * 64 + 64 ≤ (d + 1) * 64; omega) ⟨Nat.zero_le _, Nat.zero_le _⟩ (Or.inl rfl) ?_ ?_ ?_ hT n 0 (bw_loc as mx) [] μ hn s.heap [] ls hP hD hS hl2
        · intro x ν pc ls2 hd hrt hρ
          cases hρ
          intro H locs lsA hP1 hD1 hS1 hl1
          have hq : ∀ t : State, t.heap = H → s.WarmedH t.vm → bw_Post ad D cI cJ cZ (some (.inl x)) μ' A (as.map (bw_cv ad)).toArray s (.returned (some (.int x))) t := fun t ht hW => ⟨⟨x, μ', rfl, ⟨rfl, rfl⟩, by rw [ht]; exact hP1, va_K.moved hW.alike hK, hD1⟩, hS1.F ht⟩
          rcases hrt with e1 | ⟨e1, e2⟩
          · subst e1
            exact W.iret hx hb hr hq hS1.2.2 hd
          · subst e1
            exact W.zret hx hb hr (bw_narz e2) hq hS1.2.2 hd
        · intro x ν pc ls2 hd hrt hρ
          cases hρ
          intro H locs lsA hP1 hD1 hS1 hl1
          have hq : ∀ t : State, t.heap = H → s.WarmedH t.vm → bw_Post ad D cI cJ cZ (some (.inr (.inl x))) μ' A (as.map (bw_cv ad)).toArray s (.returned (some (.long x))) t := fun t ht hW => ⟨⟨x, μ', rfl, ⟨rfl, rfl⟩, by rw [ht]; exact hP1, va_K.moved hW.alike hK, hD1⟩, hS1.F ht⟩
          subst hrt
          exact W.lret hx hb hr hq hS1.2.2 hd
        · intro ν pc ls2 hd hrt hρ
          cases hρ
          intro H locs lsA hP1 hD1 hS1 hl1
          have hq : ∀ t : State, t.heap = H → s.WarmedH t.vm → bw_Post ad D cI cJ cZ none μ' A (as.map (bw_cv ad)).toArray s (.returned none) t := fun t ht hW => ⟨⟨μ', rfl, rfl, by rw [ht]; exact hP1, va_K.moved hW.alike hK, hD1⟩, hS1.F ht⟩
          subst hrt
          exact W.vret hx hb hr hq hS1.2.2 hd
end
section
noncomputable def eX2_hasThing (d pc : Nat) (ls : List (Option bwV)) (st : List bwV) (μ : bwM) : Option bwR := bw_ex (bw_call d) 0 bw_z 3 tX2_hasThing pc ls st μ
set_option maxRecDepth 20000 in
theorem qX2_hasThing (d : Nat) {w : Nat} (hw : w = 2 ∨ w = 12) (x1 : Int32) (μ : bwM) : bw_call (d + 1) 17 [.inr (.inr w), .inl x1] μ = if x1 < 0 then if (0 : Int32) = 0 ∨ (0 : Int32) = 1 then some (some (.inl (0 : Int32)), μ) else none else if (μ.1 w 0) ≤ x1 then if (0 : Int32) = 0 ∨ (0 : Int32) = 1 then some (some (.inl (0 : Int32)), μ) else none else if (1 : Int32) = 0 ∨ (1 : Int32) = 1 then some (some (.inl (1 : Int32)), μ) else none := by
  rcases hw with rfl | rfl <;> exact (bw_ex_go [] 10 0 _ _ _).trans rfl
noncomputable def eX2_hasValue (d pc : Nat) (ls : List (Option bwV)) (st : List bwV) (μ : bwM) : Option bwR := bw_ex (bw_call d) 0 bw_z 3 tX2_hasValue pc ls st μ
set_option maxRecDepth 20000 in
theorem qX2_hasValue (d : Nat) {w : Nat} (hw : w = 2 ∨ w = 12) (x1 x2 : Int32) (μ : bwM) : bw_call (d + 1) 18 [.inr (.inr w), .inl x1, .inl x2] μ = bw_bI (bw_call d 17 [.inr (.inr w), .inl x1] μ) none (fun r2 m1 => if r2 = 0 then if (0 : Int32) = 0 ∨ (0 : Int32) = 1 then some (some (.inl (0 : Int32)), m1) else none else if x2 < 0 then if (0 : Int32) = 0 ∨ (0 : Int32) = 1 then some (some (.inl (0 : Int32)), m1) else none else if bw_in x1 12 then if (m1.1 (w + 1) x1.toNatClampNeg) ≤ x2 then if (0 : Int32) = 0 ∨ (0 : Int32) = 1 then some (some (.inl (0 : Int32)), m1) else none else if (1 : Int32) = 0 ∨ (1 : Int32) = 1 then some (some (.inl (1 : Int32)), m1) else none else none) := by
  rcases hw with rfl | rfl <;> exact (bw_ex_go [] 16 0 _ _ _).trans rfl
noncomputable def eX2_mayBeKnownAs (d pc : Nat) (ls : List (Option bwV)) (st : List bwV) (μ : bwM) : Option bwR := bw_ex (bw_call d) 0 bw_z 3 tX2_mayBeKnownAs pc ls st μ
set_option maxRecDepth 20000 in
theorem qX2_mayBeKnownAs (d : Nat) {w : Nat} (hw : w = 2 ∨ w = 12) (x1 x2 : Int32) (μ : bwM) : bw_call (d + 1) 19 [.inr (.inr w), .inl x1, .inl x2] μ = bw_bI (bw_call d 17 [.inr (.inr w), .inl x1] μ) none (fun r2 m1 => if r2 = 0 then if (0 : Int32) = 0 ∨ (0 : Int32) = 1 then some (some (.inl (0 : Int32)), m1) else none else if x2 = (-1 : Int32) then if (1 : Int32) = 0 ∨ (1 : Int32) = 1 then some (some (.inl (1 : Int32)), m1) else none else bw_bI (bw_call d 18 [.inr (.inr w), .inl x1, .inl x2] m1) none (fun r4 m3 => if r4 = 0 then if (0 : Int32) = 0 ∨ (0 : Int32) = 1 then some (some (.inl (0 : Int32)), m3) else none else if (1 : Int32) = 0 ∨ (1 : Int32) = 1 then some (some (.inl (1 : Int32)), m3) else none)) := by
  rcases hw with rfl | rfl <;> exact (bw_ex_go [] 16 0 _ _ _).trans rfl
noncomputable def eX2_hasWeight (d pc : Nat) (ls : List (Option bwV)) (st : List bwV) (μ : bwM) : Option bwR := bw_ex (bw_call d) 0 bw_z 3 tX2_hasWeight pc ls st μ
set_option maxRecDepth 20000 in
theorem qX2_hasWeight (d : Nat) {w : Nat} (hw : w = 2 ∨ w = 12) (x1 x2 x3 : Int32) (μ : bwM) : bw_call (d + 1) 20 [.inr (.inr w), .inl x1, .inl x2, .inl x3] μ = bw_bI (bw_call d 18 [.inr (.inr w), .inl x1, .inl x3] μ) none (fun r2 m1 => if r2 = 0 then if (0 : Int32) = 0 ∨ (0 : Int32) = 1 then some (some (.inl (0 : Int32)), m1) else none else if x2 < 0 then if (0 : Int32) = 0 ∨ (0 : Int32) = 1 then some (some (.inl (0 : Int32)), m1) else none else bw_bI (bw_call d 26 [.inr (.inr w), .inl x1] m1) none (fun r4 m3 => if r4 ≤ x2 then if (0 : Int32) = 0 ∨ (0 : Int32) = 1 then some (some (.inl (0 : Int32)), m3) else none else if (1 : Int32) = 0 ∨ (1 : Int32) = 1 then some (some (.inl (1 : Int32)), m3) else none)) := by
  rcases hw with rfl | rfl <;> exact (bw_ex_go [] 16 0 _ _ _).trans rfl
noncomputable def eX2_hasOption (d pc : Nat) (ls : List (Option bwV)) (st : List bwV) (μ : bwM) : Option bwR := bw_ex (bw_call d) 0 bw_z 3 tX2_hasOption pc ls st μ
set_option maxRecDepth 20000 in
theorem qX2_hasOption (d : Nat) {w : Nat} (hw : w = 2 ∨ w = 12) (x1 : Int32) (μ : bwM) : bw_call (d + 1) 21 [.inr (.inr w), .inl x1] μ = if x1 < 0 then if (0 : Int32) = 0 ∨ (0 : Int32) = 1 then some (some (.inl (0 : Int32)), μ) else none else if (μ.1 w 1) ≤ x1 then if (0 : Int32) = 0 ∨ (0 : Int32) = 1 then some (some (.inl (0 : Int32)), μ) else none else if (1 : Int32) = 0 ∨ (1 : Int32) = 1 then some (some (.inl (1 : Int32)), μ) else none := by
  rcases hw with rfl | rfl <;> exact (bw_ex_go [] 10 0 _ _ _).trans rfl
noncomputable def eX2_isFree (d pc : Nat) (ls : List (Option bwV)) (st : List bwV) (μ : bwM) : Option bwR := bw_ex (bw_call d) 0 bw_z 3 tX2_isFree pc ls st μ
set_option maxRecDepth 20000 in
theorem qX2_isFree (d : Nat) {w : Nat} (hw : w = 2 ∨ w = 12) (x1 : Int32) (μ : bwM) : bw_call (d + 1) 22 [.inr (.inr w), .inl x1] μ = if bw_in x1 12 then if (μ.1 (w + 6) x1.toNatClampNeg) = (-1 : Int32) then if bw_in x1 12 then if (μ.1 (w + 7) x1.toNatClampNeg) = (-1 : Int32) then if (1 : Int32) = 0 ∨ (1 : Int32) = 1 then some (some (.inl (1 : Int32)), μ) else none else if (0 : Int32) = 0 ∨ (0 : Int32) = 1 then some (some (.inl (0 : Int32)), μ) else none else none else if (0 : Int32) = 0 ∨ (0 : Int32) = 1 then some (some (.inl (0 : Int32)), μ) else none else none := by
  rcases hw with rfl | rfl <;> exact (bw_ex_go [] 16 0 _ _ _).trans rfl
noncomputable def eX2_allWholes (d pc : Nat) (ls : List (Option bwV)) (st : List bwV) (μ : bwM) : Option bwR := bw_ex (bw_call d) 0 bw_z 1 tX2_allWholes pc ls st μ
set_option maxRecDepth 20000 in
theorem qX2_allWholes (d : Nat) {w : Nat} (hw : w = 2 ∨ w = 12) (μ : bwM) : bw_call (d + 1) 23 [.inr (.inr w)] μ = eX2_allWholes d 4 [some (.inr (.inr w)), some (.inl (1 : Int32)), some (.inl (0 : Int32))] [] μ := by
  rcases hw with rfl | rfl <;> exact (bw_ex_go [4] 6 0 _ _ _).trans rfl
set_option maxRecDepth 20000 in
theorem qX2_allWholes_4 (d : Nat) {w : Nat} (hw : w = 2 ∨ w = 12) (x1 x2 : Int32) (μ : bwM) : eX2_allWholes d 4 [some (.inr (.inr w)), some (.inl x1), some (.inl x2)] [] μ = if (μ.1 w 0) ≤ x2 then some (some (.inl x1), μ) else if bw_in x2 12 then eX2_allWholes d 4 [some (.inr (.inr w)), some (.inl (x1 * (μ.1 (w + 1) x2.toNatClampNeg))), some (.inl (x2 + (1 : Int32)))] [] μ else none := by
  rcases hw with rfl | rfl <;> exact (bw_ex_go [4] 15 4 _ _ _).trans rfl
noncomputable def eX2_allTotals (d pc : Nat) (ls : List (Option bwV)) (st : List bwV) (μ : bwM) : Option bwR := bw_ex (bw_call d) 0 bw_z 2 tX2_allTotals pc ls st μ
set_option maxRecDepth 20000 in
theorem qX2_allTotals (d : Nat) {w : Nat} (hw : w = 2 ∨ w = 12) (μ : bwM) : bw_call (d + 1) 24 [.inr (.inr w)] μ = eX2_allTotals d 4 [some (.inr (.inr w)), some (.inr (.inl (Int64.ofNat 1))), none, some (.inl (0 : Int32))] [] μ := by
  rcases hw with rfl | rfl <;> exact (bw_ex_go [4] 6 0 _ _ _).trans rfl
set_option maxRecDepth 20000 in
theorem qX2_allTotals_4 (d : Nat) {w : Nat} (hw : w = 2 ∨ w = 12) (x3 : Int32) (y1 : Int64) (μ : bwM) : eX2_allTotals d 4 [some (.inr (.inr w)), some (.inr (.inl y1)), none, some (.inl x3)] [] μ = if (μ.1 w 0) ≤ x3 then some (some (.inr (.inl y1)), μ) else if bw_in x3 12 then eX2_allTotals d 4 [some (.inr (.inr w)), some (.inr (.inl (y1 * ((μ.1 (w + 2) x3.toNatClampNeg).toInt64)))), none, some (.inl (x3 + (1 : Int32)))] [] μ else none := by
  rcases hw with rfl | rfl <;> exact (bw_ex_go [4] 16 4 _ _ _).trans rfl
noncomputable def eX2_arrows (d pc : Nat) (ls : List (Option bwV)) (st : List bwV) (μ : bwM) : Option bwR := bw_ex (bw_call d) 0 bw_z 1 tX2_arrows pc ls st μ
set_option maxRecDepth 20000 in
theorem qX2_arrows (d : Nat) {w : Nat} (hw : w = 2 ∨ w = 12) (μ : bwM) : bw_call (d + 1) 25 [.inr (.inr w)] μ = eX2_arrows d 4 [some (.inr (.inr w)), some (.inl (0 : Int32)), some (.inl (0 : Int32))] [] μ := by
  rcases hw with rfl | rfl <;> exact (bw_ex_go [4] 6 0 _ _ _).trans rfl
set_option maxRecDepth 20000 in
theorem qX2_arrows_4 (d : Nat) {w : Nat} (hw : w = 2 ∨ w = 12) (x1 x2 : Int32) (μ : bwM) : eX2_arrows d 4 [some (.inr (.inr w)), some (.inl x1), some (.inl x2)] [] μ = if (μ.1 w 0) ≤ x2 then some (some (.inl x1), μ) else if bw_in x2 12 then eX2_arrows d 4 [some (.inr (.inr w)), some (.inl (x1 + (μ.1 (w + 3) x2.toNatClampNeg))), some (.inl (x2 + (1 : Int32)))] [] μ else none := by
  rcases hw with rfl | rfl <;> exact (bw_ex_go [4] 15 4 _ _ _).trans rfl
noncomputable def eX2_rows (d pc : Nat) (ls : List (Option bwV)) (st : List bwV) (μ : bwM) : Option bwR := bw_ex (bw_call d) 0 bw_z 1 tX2_rows pc ls st μ
set_option maxRecDepth 20000 in
theorem qX2_rows (d : Nat) {w : Nat} (hw : w = 2 ∨ w = 12) (x1 : Int32) (μ : bwM) : bw_call (d + 1) 26 [.inr (.inr w), .inl x1] μ = eX2_rows d 4 [some (.inr (.inr w)), some (.inl x1), some (.inl (1 : Int32)), some (.inl (0 : Int32))] [] μ := by
  rcases hw with rfl | rfl <;> exact (bw_ex_go [4] 6 0 _ _ _).trans rfl
set_option maxRecDepth 20000 in
theorem qX2_rows_4 (d : Nat) {w : Nat} (hw : w = 2 ∨ w = 12) (x1 x2 x3 : Int32) (μ : bwM) : eX2_rows d 4 [some (.inr (.inr w)), some (.inl x1), some (.inl x2), some (.inl x3)] [] μ = if bw_in x1 12 then if (μ.1 (w + 3) x1.toNatClampNeg) ≤ x3 then some (some (.inl x2), μ) else bw_bI (bw_call d 83 [.inl x1, .inl x3] μ) none (fun r2 m1 => if bw_in r2 36 then if bw_in (m1.1 (w + 4) r2.toNatClampNeg) 12 then eX2_rows d 4 [some (.inr (.inr w)), some (.inl x1), some (.inl (x2 * (m1.1 (w + 1) (m1.1 (w + 4) r2.toNatClampNeg).toNatClampNeg))), some (.inl (x3 + (1 : Int32)))] [] m1 else none else none) else none := by
  rcases hw with rfl | rfl <;> exact (bw_ex_go [4] 22 4 _ _ _).trans rfl
noncomputable def eX2_rowAt (d pc : Nat) (ls : List (Option bwV)) (st : List bwV) (μ : bwM) : Option bwR := bw_ex (bw_call d) 0 bw_z 1 tX2_rowAt pc ls st μ
set_option maxRecDepth 20000 in
theorem qX2_rowAt (d : Nat) {w : Nat} (hw : w = 2 ∨ w = 12) (x1 : Int32) (μ : bwM) : bw_call (d + 1) 27 [.inr (.inr w), .inl x1, .inr (.inr 26)] μ = eX2_rowAt d 5 [some (.inr (.inr w)), some (.inl x1), some (.inr (.inr 26)), some (.inl (0 : Int32)), some (.inl (0 : Int32)), none] [] μ := by
  rcases hw with rfl | rfl <;> exact (bw_ex_go [5] 6 0 _ _ _).trans rfl
set_option maxRecDepth 20000 in
theorem qX2_rowAt_5 (d : Nat) {w : Nat} (hw : w = 2 ∨ w = 12) (x1 x3 x4 : Int32) (o5 : Option bwV) (μ : bwM) : eX2_rowAt d 5 [some (.inr (.inr w)), some (.inl x1), some (.inr (.inr 26)), some (.inl x3), some (.inl x4), o5] [] μ = if bw_in x1 12 then if (μ.1 (w + 3) x1.toNatClampNeg) ≤ x4 then some (some (.inl x3), μ) else bw_bI (bw_call d 83 [.inl x1, .inl x4] μ) none (fun r2 m1 => if bw_in r2 36 then if bw_in (m1.1 (w + 4) r2.toNatClampNeg) 12 then if bw_in (m1.1 (w + 4) r2.toNatClampNeg) 12 then eX2_rowAt d 5 [some (.inr (.inr w)), some (.inl x1), some (.inr (.inr 26)), some (.inl ((x3 * (m1.1 (w + 1) (m1.1 (w + 4) r2.toNatClampNeg).toNatClampNeg)) + (m1.1 26 (m1.1 (w + 4) r2.toNatClampNeg).toNatClampNeg))), some (.inl (x4 + (1 : Int32))), some (.inl (m1.1 (w + 4) r2.toNatClampNeg))] [] m1 else none else none else none) else none := by
  rcases hw with rfl | rfl <;> exact (bw_ex_go [5] 28 5 _ _ _).trans rfl
noncomputable def eX2_isSound (d pc : Nat) (ls : List (Option bwV)) (st : List bwV) (μ : bwM) : Option bwR := bw_ex (bw_call d) 0 bw_z 3 tX2_isSound pc ls st μ
set_option maxRecDepth 20000 in
theorem qX2_isSound (d : Nat) {w : Nat} (hw : w = 2 ∨ w = 12) (μ : bwM) : bw_call (d + 1) 28 [.inr (.inr w)] μ = eX2_isSound d 2 [some (.inr (.inr w)), some (.inl (0 : Int32))] [] μ := by
  rcases hw with rfl | rfl <;> exact (bw_ex_go [2, 30] 4 0 _ _ _).trans rfl
set_option maxRecDepth 20000 in
theorem qX2_isSound_2 (d : Nat) {w : Nat} (hw : w = 2 ∨ w = 12) (x1 : Int32) (μ : bwM) : eX2_isSound d 2 [some (.inr (.inr w)), some (.inl x1)] [] μ = if (μ.1 w 0) ≤ x1 then if (μ.1 w 0) ≤ 0 then if (0 : Int32) = 0 ∨ (0 : Int32) = 1 then some (some (.inl (0 : Int32)), μ) else none else if (1 : Int32) = 0 ∨ (1 : Int32) = 1 then some (some (.inl (1 : Int32)), μ) else none else if bw_in x1 12 then if (μ.1 (w + 7) x1.toNatClampNeg) = (-1 : Int32) then bw_bI (bw_call d 29 [.inr (.inr w), .inl x1] μ) none (fun r2 m1 => if r2 = 0 then if (0 : Int32) = 0 ∨ (0 : Int32) = 1 then some (some (.inl (0 : Int32)), m1) else none else eX2_isSound d 30 [some (.inr (.inr w)), some (.inl x1)] [] m1) else eX2_isSound d 30 [some (.inr (.inr w)), some (.inl x1)] [] μ else none := by
  rcases hw with rfl | rfl <;> exact (bw_ex_go [2, 30] 17 2 _ _ _).trans rfl
set_option maxRecDepth 20000 in
theorem qX2_isSound_30 (d : Nat) {w : Nat} (hw : w = 2 ∨ w = 12) (x1 : Int32) (μ : bwM) : eX2_isSound d 30 [some (.inr (.inr w)), some (.inl x1)] [] μ = eX2_isSound d 2 [some (.inr (.inr w)), some (.inl (x1 + (1 : Int32)))] [] μ := by
  rcases hw with rfl | rfl <;> exact (bw_ex_go [2, 30] 4 30 _ _ _).trans rfl
noncomputable def eX2_hasSoundTable (d pc : Nat) (ls : List (Option bwV)) (st : List bwV) (μ : bwM) : Option bwR := bw_ex (bw_call d) 0 bw_z 3 tX2_hasSoundTable pc ls st μ
set_option maxRecDepth 20000 in
theorem qX2_hasSoundTable (d : Nat) {w : Nat} (hw : w = 2 ∨ w = 12) (x1 : Int32) (μ : bwM) : bw_call (d + 1) 29 [.inr (.inr w), .inl x1] μ = bw_bI (bw_call d 26 [.inr (.inr w), .inl x1] μ) none (fun r2 m1 => eX2_hasSoundTable d 8 [some (.inr (.inr w)), some (.inl x1), some (.inl r2), some (.inl (0 : Int32)), none, none] [] m1) := by
  rcases hw with rfl | rfl <;> exact (bw_ex_go [8, 19] 8 0 _ _ _).trans rfl
set_option maxRecDepth 20000 in
theorem qX2_hasSoundTable_8 (d : Nat) {w : Nat} (hw : w = 2 ∨ w = 12) (x1 x2 x3 : Int32) (o4 o5 : Option bwV) (μ : bwM) : eX2_hasSoundTable d 8 [some (.inr (.inr w)), some (.inl x1), some (.inl x2), some (.inl x3), o4, o5] [] μ = if x2 ≤ x3 then if (1 : Int32) = 0 ∨ (1 : Int32) = 1 then some (some (.inl (1 : Int32)), μ) else none else eX2_hasSoundTable d 19 [some (.inr (.inr w)), some (.inl x1), some (.inl x2), some (.inl x3), some (.inl (0 : Int32)), some (.inl (0 : Int32))] [] μ := by
  rcases hw with rfl | rfl <;> exact (bw_ex_go [8, 19] 9 8 _ _ _).trans rfl
set_option maxRecDepth 20000 in
theorem qX2_hasSoundTable_19 (d : Nat) {w : Nat} (hw : w = 2 ∨ w = 12) (x1 x2 x3 x4 x5 : Int32) (μ : bwM) : eX2_hasSoundTable d 19 [some (.inr (.inr w)), some (.inl x1), some (.inl x2), some (.inl x3), some (.inl x4), some (.inl x5)] [] μ = if bw_in x1 12 then if (μ.1 (w + 1) x1.toNatClampNeg) ≤ x5 then if bw_in x1 12 then if x4 = (μ.1 (w + 2) x1.toNatClampNeg) then eX2_hasSoundTable d 8 [some (.inr (.inr w)), some (.inl x1), some (.inl x2), some (.inl (x3 + (1 : Int32))), some (.inl x4), some (.inl x5)] [] μ else if (0 : Int32) = 0 ∨ (0 : Int32) = 1 then some (some (.inl (0 : Int32)), μ) else none else none else bw_bI (bw_call d 81 [.inl x1, .inl x3, .inl x5] μ) none (fun r2 m1 => if bw_in r2 3072 then eX2_hasSoundTable d 19 [some (.inr (.inr w)), some (.inl x1), some (.inl x2), some (.inl x3), some (.inl (x4 + (m1.1 (w + 5) r2.toNatClampNeg))), some (.inl (x5 + (1 : Int32)))] [] m1 else none) else none := by
  rcases hw with rfl | rfl <;> exact (bw_ex_go [8, 19] 20 19 _ _ _).trans rfl
noncomputable def eX2_factor (d pc : Nat) (ls : List (Option bwV)) (st : List bwV) (μ : bwM) : Option bwR := bw_ex (bw_call d) 0 bw_z 1 tX2_factor pc ls st μ
set_option maxRecDepth 20000 in
theorem qX2_factor (d : Nat) {w : Nat} (hw : w = 2 ∨ w = 12) (x1 x2 x3 : Int32) (μ : bwM) : bw_call (d + 1) 30 [.inr (.inr w), .inl x1, .inl x2, .inl x3] μ = bw_bI (bw_call d 80 [.inl x1, .inl x3] μ) none (fun r2 m1 => if bw_in r2 48 then if bw_in x1 12 then if (m1.1 (w + 7) x1.toNatClampNeg) = (-1 : Int32) then if bw_in x1 12 then if (m1.1 (w + 6) x1.toNatClampNeg) = (-1 : Int32) then eX2_factor d 68 [some (.inr (.inr w)), some (.inl x1), some (.inl x2), some (.inl x3), some (.inl (m1.1 (w + 8) r2.toNatClampNeg))] [] m1 else if bw_in x1 12 then if (m1.1 (w + 6) x1.toNatClampNeg) = x3 then eX2_factor d 68 [some (.inr (.inr w)), some (.inl x1), some (.inl x2), some (.inl x3), some (.inl (m1.1 (w + 8) r2.toNatClampNeg))] [] m1 else some (some (.inl (0 : Int32)), m1) else none else none else if bw_in x1 12 then if (m1.1 (w + 7) x1.toNatClampNeg) = x3 then if bw_in x1 12 then some (some (.inl ((m1.1 (w + 8) r2.toNatClampNeg) * (m1.1 (w + 2) x1.toNatClampNeg))), m1) else none else some (some (.inl (0 : Int32)), m1) else none else none else none) := by
  rcases hw with rfl | rfl <;> exact (bw_ex_go [68] 28 0 _ _ _).trans rfl
set_option maxRecDepth 20000 in
theorem qX2_factor_68 (d : Nat) {w : Nat} (hw : w = 2 ∨ w = 12) (x1 x2 x3 x4 : Int32) (μ : bwM) : eX2_factor d 68 [some (.inr (.inr w)), some (.inl x1), some (.inl x2), some (.inl x3), some (.inl x4)] [] μ = bw_bI (bw_call d 81 [.inl x1, .inl x2, .inl x3] μ) none (fun r2 m1 => if bw_in r2 3072 then some (some (.inl (x4 * (m1.1 (w + 5) r2.toNatClampNeg))), m1) else none) := by
  rcases hw with rfl | rfl <;> exact (bw_ex_go [68] 11 68 _ _ _).trans rfl
noncomputable def eX2_parentPlace (d pc : Nat) (ls : List (Option bwV)) (st : List bwV) (μ : bwM) : Option bwR := bw_ex (bw_call d) 0 bw_z 1 tX2_parentPlace pc ls st μ
set_option maxRecDepth 20000 in
theorem qX2_parentPlace (d : Nat) {w : Nat} (hw : w = 2 ∨ w = 12) (x1 x2 : Int32) (μ : bwM) : bw_call (d + 1) 31 [.inr (.inr w), .inl x1, .inl x2] μ = eX2_parentPlace d 2 [some (.inr (.inr w)), some (.inl x1), some (.inl x2), some (.inl (0 : Int32))] [] μ := by
  rcases hw with rfl | rfl <;> exact (bw_ex_go [2] 4 0 _ _ _).trans rfl
set_option maxRecDepth 20000 in
theorem qX2_parentPlace_2 (d : Nat) {w : Nat} (hw : w = 2 ∨ w = 12) (x1 x2 x3 : Int32) (μ : bwM) : eX2_parentPlace d 2 [some (.inr (.inr w)), some (.inl x1), some (.inl x2), some (.inl x3)] [] μ = if bw_in x1 12 then if (μ.1 (w + 3) x1.toNatClampNeg) ≤ x3 then some (some (.inl (-1 : Int32)), μ) else bw_bI (bw_call d 83 [.inl x1, .inl x3] μ) none (fun r2 m1 => if bw_in r2 36 then if (m1.1 (w + 4) r2.toNatClampNeg) = x2 then some (some (.inl x3), m1) else eX2_parentPlace d 2 [some (.inr (.inr w)), some (.inl x1), some (.inl x2), some (.inl (x3 + (1 : Int32)))] [] m1 else none) else none := by
  rcases hw with rfl | rfl <;> exact (bw_ex_go [2] 18 2 _ _ _).trans rfl
noncomputable def eX2_parentSet (d pc : Nat) (ls : List (Option bwV)) (st : List bwV) (μ : bwM) : Option bwR := bw_ex (bw_call d) 0 bw_z 1 tX2_parentSet pc ls st μ
set_option maxRecDepth 20000 in
theorem qX2_parentSet (d : Nat) {w : Nat} (hw : w = 2 ∨ w = 12) (x1 : Int32) (μ : bwM) : bw_call (d + 1) 32 [.inr (.inr w), .inl x1] μ = eX2_parentSet d 4 [some (.inr (.inr w)), some (.inl x1), some (.inl (0 : Int32)), some (.inl (0 : Int32))] [] μ := by
  rcases hw with rfl | rfl <;> exact (bw_ex_go [4] 6 0 _ _ _).trans rfl
set_option maxRecDepth 20000 in
theorem qX2_parentSet_4 (d : Nat) {w : Nat} (hw : w = 2 ∨ w = 12) (x1 x2 x3 : Int32) (μ : bwM) : eX2_parentSet d 4 [some (.inr (.inr w)), some (.inl x1), some (.inl x2), some (.inl x3)] [] μ = if bw_in x1 12 then if (μ.1 (w + 3) x1.toNatClampNeg) ≤ x3 then some (some (.inl x2), μ) else bw_bI (bw_call d 83 [.inl x1, .inl x3] μ) none (fun r2 m1 => if bw_in r2 36 then eX2_parentSet d 4 [some (.inr (.inr w)), some (.inl x1), some (.inl (x2 ||| ((1 : Int32) <<< ((m1.1 (w + 4) r2.toNatClampNeg) &&& 31)))), some (.inl (x3 + (1 : Int32)))] [] m1 else none) else none := by
  rcases hw with rfl | rfl <;> exact (bw_ex_go [4] 21 4 _ _ _).trans rfl
noncomputable def eX2_ancestorsAnd (d pc : Nat) (ls : List (Option bwV)) (st : List bwV) (μ : bwM) : Option bwR := bw_ex (bw_call d) 0 bw_z 1 tX2_ancestorsAnd pc ls st μ
set_option maxRecDepth 20000 in
theorem qX2_ancestorsAnd (d : Nat) {w : Nat} (hw : w = 2 ∨ w = 12) (x1 : Int32) (μ : bwM) : bw_call (d + 1) 33 [.inr (.inr w), .inl x1] μ = eX2_ancestorsAnd d 6 [some (.inr (.inr w)), some (.inl x1), some (.inl ((1 : Int32) <<< (x1 &&& 31))), some (.inl (0 : Int32)), none] [] μ := by
  rcases hw with rfl | rfl <;> exact (bw_ex_go [6, 17, 44] 8 0 _ _ _).trans rfl
set_option maxRecDepth 20000 in
theorem qX2_ancestorsAnd_6 (d : Nat) {w : Nat} (hw : w = 2 ∨ w = 12) (x1 x2 x3 : Int32) (o4 : Option bwV) (μ : bwM) : eX2_ancestorsAnd d 6 [some (.inr (.inr w)), some (.inl x1), some (.inl x2), some (.inl x3), o4] [] μ = if (μ.1 w 0) ≤ x3 then some (some (.inl x2), μ) else eX2_ancestorsAnd d 17 [some (.inr (.inr w)), some (.inl x1), some (.inl x2), some (.inl x3), some (.inl (0 : Int32))] [] μ := by
  rcases hw with rfl | rfl <;> exact (bw_ex_go [6, 17, 44] 8 6 _ _ _).trans rfl
set_option maxRecDepth 20000 in
theorem qX2_ancestorsAnd_17 (d : Nat) {w : Nat} (hw : w = 2 ∨ w = 12) (x1 x2 x3 x4 : Int32) (μ : bwM) : eX2_ancestorsAnd d 17 [some (.inr (.inr w)), some (.inl x1), some (.inl x2), some (.inl x3), some (.inl x4)] [] μ = if (μ.1 w 0) ≤ x4 then eX2_ancestorsAnd d 6 [some (.inr (.inr w)), some (.inl x1), some (.inl x2), some (.inl (x3 + (1 : Int32))), some (.inl x4)] [] μ else bw_bI (bw_call d 84 [.inl x2, .inl x4] μ) none (fun r2 m1 => if r2 = 0 then eX2_ancestorsAnd d 44 [some (.inr (.inr w)), some (.inl x1), some (.inl x2), some (.inl x3), some (.inl x4)] [] m1 else bw_bI (bw_call d 32 [.inr (.inr w), .inl x4] m1) none (fun r4 m3 => eX2_ancestorsAnd d 44 [some (.inr (.inr w)), some (.inl x1), some (.inl (x2 ||| r4)), some (.inl x3), some (.inl x4)] [] m3)) := by
  rcases hw with rfl | rfl <;> exact (bw_ex_go [6, 17, 44] 16 17 _ _ _).trans rfl
set_option maxRecDepth 20000 in
theorem qX2_ancestorsAnd_44 (d : Nat) {w : Nat} (hw : w = 2 ∨ w = 12) (x1 x2 x3 x4 : Int32) (μ : bwM) : eX2_ancestorsAnd d 44 [some (.inr (.inr w)), some (.inl x1), some (.inl x2), some (.inl x3), some (.inl x4)] [] μ = eX2_ancestorsAnd d 17 [some (.inr (.inr w)), some (.inl x1), some (.inl x2), some (.inl x3), some (.inl (x4 + (1 : Int32)))] [] μ := by
  rcases hw with rfl | rfl <;> exact (bw_ex_go [6, 17, 44] 4 44 _ _ _).trans rfl
noncomputable def eX2_parentSetNow (d pc : Nat) (ls : List (Option bwV)) (st : List bwV) (μ : bwM) : Option bwR := bw_ex (bw_call d) 0 bw_z 1 tX2_parentSetNow pc ls st μ
set_option maxRecDepth 20000 in
theorem qX2_parentSetNow (d : Nat) {w : Nat} (hw : w = 2 ∨ w = 12) (x1 : Int32) (μ : bwM) : bw_call (d + 1) 34 [.inr (.inr w), .inl x1] μ = if bw_in x1 12 then if (μ.1 (w + 7) x1.toNatClampNeg) = (-1 : Int32) then bw_bI (bw_call d 32 [.inr (.inr w), .inl x1] μ) none (fun r2 m1 => some (some (.inl r2), m1)) else some (some (.inl (0 : Int32)), μ) else none := by
  rcases hw with rfl | rfl <;> exact (bw_ex_go [] 12 0 _ _ _).trans rfl
noncomputable def eX2_childSetNow (d pc : Nat) (ls : List (Option bwV)) (st : List bwV) (μ : bwM) : Option bwR := bw_ex (bw_call d) 0 bw_z 1 tX2_childSetNow pc ls st μ
set_option maxRecDepth 20000 in
theorem qX2_childSetNow (d : Nat) {w : Nat} (hw : w = 2 ∨ w = 12) (x1 : Int32) (μ : bwM) : bw_call (d + 1) 35 [.inr (.inr w), .inl x1] μ = eX2_childSetNow d 4 [some (.inr (.inr w)), some (.inl x1), some (.inl (0 : Int32)), some (.inl (0 : Int32))] [] μ := by
  rcases hw with rfl | rfl <;> exact (bw_ex_go [4, 30] 6 0 _ _ _).trans rfl
set_option maxRecDepth 20000 in
theorem qX2_childSetNow_4 (d : Nat) {w : Nat} (hw : w = 2 ∨ w = 12) (x1 x2 x3 : Int32) (μ : bwM) : eX2_childSetNow d 4 [some (.inr (.inr w)), some (.inl x1), some (.inl x2), some (.inl x3)] [] μ = if (μ.1 w 0) ≤ x3 then some (some (.inl x2), μ) else bw_bI (bw_call d 34 [.inr (.inr w), .inl x3] μ) none (fun r2 m1 => bw_bI (bw_call d 84 [.inl r2, .inl x1] m1) none (fun r4 m3 => if r4 = 0 then eX2_childSetNow d 30 [some (.inr (.inr w)), some (.inl x1), some (.inl x2), some (.inl x3)] [] m3 else eX2_childSetNow d 30 [some (.inr (.inr w)), some (.inl x1), some (.inl (x2 ||| ((1 : Int32) <<< (x3 &&& 31)))), some (.inl x3)] [] m3)) := by
  rcases hw with rfl | rfl <;> exact (bw_ex_go [4, 30] 18 4 _ _ _).trans rfl
set_option maxRecDepth 20000 in
theorem qX2_childSetNow_30 (d : Nat) {w : Nat} (hw : w = 2 ∨ w = 12) (x1 x2 x3 : Int32) (μ : bwM) : eX2_childSetNow d 30 [some (.inr (.inr w)), some (.inl x1), some (.inl x2), some (.inl x3)] [] μ = eX2_childSetNow d 4 [some (.inr (.inr w)), some (.inl x1), some (.inl x2), some (.inl (x3 + (1 : Int32)))] [] μ := by
  rcases hw with rfl | rfl <;> exact (bw_ex_go [4, 30] 4 30 _ _ _).trans rfl
noncomputable def eX2_hasOpenRoad (d pc : Nat) (ls : List (Option bwV)) (st : List bwV) (μ : bwM) : Option bwR := bw_ex (bw_call d) 0 bw_z 3 tX2_hasOpenRoad pc ls st μ
set_option maxRecDepth 20000 in
theorem qX2_hasOpenRoad (d : Nat) {w : Nat} (hw : w = 2 ∨ w = 12) (x1 x2 : Int32) (μ : bwM) : bw_call (d + 1) 36 [.inr (.inr w), .inl x1, .inl x2] μ = bw_bI (bw_call d 35 [.inr (.inr w), .inl x1] μ) none (fun r2 m1 => bw_bI (bw_call d 34 [.inr (.inr w), .inl x1] m1) none (fun r4 m3 => eX2_hasOpenRoad d 16 [some (.inr (.inr w)), some (.inl x1), some (.inl x2), some (.inl r2), some (.inl r4), some (.inl (0 : Int32)), none, none, none] [] m3)) := by
  rcases hw with rfl | rfl <;> exact (bw_ex_go [16, 30, 75, 84, 98, 114, 125] 12 0 _ _ _).trans rfl
set_option maxRecDepth 20000 in
theorem qX2_hasOpenRoad_16 (d : Nat) {w : Nat} (hw : w = 2 ∨ w = 12) (x1 x2 x3 x4 x5 : Int32) (o6 : Option bwV) (μ : bwM) : eX2_hasOpenRoad d 16 [some (.inr (.inr w)), some (.inl x1), some (.inl x2), some (.inl x3), some (.inl x4), some (.inl x5), o6, none, none] [] μ = if ((2 : Int32) * (μ.1 w 0)) ≤ x5 then bw_bI (bw_call d 84 [.inl (x3 ||| x4), .inl x2] μ) none (fun r2 m1 => if r2 = 0 ∨ r2 = 1 then some (some (.inl r2), m1) else none) else eX2_hasOpenRoad d 30 [some (.inr (.inr w)), some (.inl x1), some (.inl x2), some (.inl x3), some (.inl x4), some (.inl x5), some (.inl (0 : Int32)), none, none] [] μ := by
  rcases hw with rfl | rfl <;> exact (bw_ex_go [16, 30, 75, 84, 98, 114, 125] 13 16 _ _ _).trans rfl
set_option maxRecDepth 20000 in
theorem qX2_hasOpenRoad_30 (d : Nat) {w : Nat} (hw : w = 2 ∨ w = 12) (x1 x2 x3 x4 x5 x6 : Int32) (o7 o8 : Option bwV) (μ : bwM) : eX2_hasOpenRoad d 30 [some (.inr (.inr w)), some (.inl x1), some (.inl x2), some (.inl x3), some (.inl x4), some (.inl x5), some (.inl x6), o7, o8] [] μ = if (μ.1 w 0) ≤ x6 then eX2_hasOpenRoad d 16 [some (.inr (.inr w)), some (.inl x1), some (.inl x2), some (.inl x3), some (.inl x4), some (.inl (x5 + (1 : Int32))), some (.inl x6), none, none] [] μ else bw_bI (bw_call d 84 [.inl x3, .inl x6] μ) none (fun r2 m1 => bw_bI (bw_call d 84 [.inl x4, .inl x6] m1) none (fun r4 m3 => bw_bI (bw_call d 22 [.inr (.inr w), .inl x6] m3) none (fun r6 m5 => if r6 = 0 then eX2_hasOpenRoad d 84 [some (.inr (.inr w)), some (.inl x1), some (.inl x2), some (.inl x3), some (.inl x4), some (.inl x5), some (.inl x6), some (.inl r2), some (.inl r4)] [] m5 else if r2 = 0 then if r4 = 0 then eX2_hasOpenRoad d 84 [some (.inr (.inr w)), some (.inl x1), some (.inl x2), some (.inl x3), some (.inl x4), some (.inl x5), some (.inl x6), some (.inl r2), some (.inl r4)] [] m5 else eX2_hasOpenRoad d 75 [some (.inr (.inr w)), some (.inl x1), some (.inl x2), some (.inl x3), some (.inl x4), some (.inl x5), some (.inl x6), some (.inl r2), some (.inl r4)] [] m5 else eX2_hasOpenRoad d 75 [some (.inr (.inr w)), some (.inl x1), some (.inl x2), some (.inl x3), some (.inl x4), some (.inl x5), some (.inl x6), some (.inl r2), some (.inl r4)] [] m5))) := by
  rcases hw with rfl | rfl <;> exact (bw_ex_go [16, 30, 75, 84, 98, 114, 125] 22 30 _ _ _).trans rfl
set_option maxRecDepth 20000 in
theorem qX2_hasOpenRoad_75 (d : Nat) {w : Nat} (hw : w = 2 ∨ w = 12) (x1 x2 x3 x4 x5 x6 x7 x8 : Int32) (μ : bwM) : eX2_hasOpenRoad d 75 [some (.inr (.inr w)), some (.inl x1), some (.inl x2), some (.inl x3), some (.inl x4), some (.inl x5), some (.inl x6), some (.inl x7), some (.inl x8)] [] μ = bw_bI (bw_call d 35 [.inr (.inr w), .inl x6] μ) none (fun r2 m1 => eX2_hasOpenRoad d 84 [some (.inr (.inr w)), some (.inl x1), some (.inl x2), some (.inl (x3 ||| r2)), some (.inl x4), some (.inl x5), some (.inl x6), some (.inl x7), some (.inl x8)] [] m1) := by
  rcases hw with rfl | rfl <;> exact (bw_ex_go [16, 30, 75, 84, 98, 114, 125] 8 75 _ _ _).trans rfl
set_option maxRecDepth 20000 in
theorem qX2_hasOpenRoad_84 (d : Nat) {w : Nat} (hw : w = 2 ∨ w = 12) (x1 x2 x3 x4 x5 x6 x7 x8 : Int32) (μ : bwM) : eX2_hasOpenRoad d 84 [some (.inr (.inr w)), some (.inl x1), some (.inl x2), some (.inl x3), some (.inl x4), some (.inl x5), some (.inl x6), some (.inl x7), some (.inl x8)] [] μ = bw_bI (bw_call d 22 [.inr (.inr w), .inl x6] μ) none (fun r2 m1 => if r2 = 0 then eX2_hasOpenRoad d 98 [some (.inr (.inr w)), some (.inl x1), some (.inl x2), some (.inl x3), some (.inl x4), some (.inl x5), some (.inl x6), some (.inl x7), some (.inl x8)] [] m1 else if x8 = 0 then eX2_hasOpenRoad d 98 [some (.inr (.inr w)), some (.inl x1), some (.inl x2), some (.inl x3), some (.inl x4), some (.inl x5), some (.inl x6), some (.inl x7), some (.inl x8)] [] m1 else eX2_hasOpenRoad d 114 [some (.inr (.inr w)), some (.inl x1), some (.inl x2), some (.inl x3), some (.inl x4), some (.inl x5), some (.inl x6), some (.inl x7), some (.inl x8)] [] m1) := by
  rcases hw with rfl | rfl <;> exact (bw_ex_go [16, 30, 75, 84, 98, 114, 125] 8 84 _ _ _).trans rfl
set_option maxRecDepth 20000 in
theorem qX2_hasOpenRoad_98 (d : Nat) {w : Nat} (hw : w = 2 ∨ w = 12) (x1 x2 x3 x4 x5 x6 x7 x8 : Int32) (μ : bwM) : eX2_hasOpenRoad d 98 [some (.inr (.inr w)), some (.inl x1), some (.inl x2), some (.inl x3), some (.inl x4), some (.inl x5), some (.inl x6), some (.inl x7), some (.inl x8)] [] μ = if bw_in x6 12 then if (μ.1 (w + 6) x6.toNatClampNeg) = (-1 : Int32) then eX2_hasOpenRoad d 125 [some (.inr (.inr w)), some (.inl x1), some (.inl x2), some (.inl x3), some (.inl x4), some (.inl x5), some (.inl x6), some (.inl x7), some (.inl x8)] [] μ else if x7 = 0 then eX2_hasOpenRoad d 125 [some (.inr (.inr w)), some (.inl x1), some (.inl x2), some (.inl x3), some (.inl x4), some (.inl x5), some (.inl x6), some (.inl x7), some (.inl x8)] [] μ else eX2_hasOpenRoad d 114 [some (.inr (.inr w)), some (.inl x1), some (.inl x2), some (.inl x3), some (.inl x4), some (.inl x5), some (.inl x6), some (.inl x7), some (.inl x8)] [] μ else none := by
  rcases hw with rfl | rfl <;> exact (bw_ex_go [16, 30, 75, 84, 98, 114, 125] 10 98 _ _ _).trans rfl
set_option maxRecDepth 20000 in
theorem qX2_hasOpenRoad_114 (d : Nat) {w : Nat} (hw : w = 2 ∨ w = 12) (x1 x2 x3 x4 x5 x6 x7 x8 : Int32) (μ : bwM) : eX2_hasOpenRoad d 114 [some (.inr (.inr w)), some (.inl x1), some (.inl x2), some (.inl x3), some (.inl x4), some (.inl x5), some (.inl x6), some (.inl x7), some (.inl x8)] [] μ = bw_bI (bw_call d 34 [.inr (.inr w), .inl x6] μ) none (fun r2 m1 => eX2_hasOpenRoad d 125 [some (.inr (.inr w)), some (.inl x1), some (.inl x2), some (.inl x3), some (.inl (x4 ||| r2)), some (.inl x5), some (.inl x6), some (.inl x7), some (.inl x8)] [] m1) := by
  rcases hw with rfl | rfl <;> exact (bw_ex_go [16, 30, 75, 84, 98, 114, 125] 8 114 _ _ _).trans rfl
set_option maxRecDepth 20000 in
theorem qX2_hasOpenRoad_125 (d : Nat) {w : Nat} (hw : w = 2 ∨ w = 12) (x1 x2 x3 x4 x5 x6 x7 x8 : Int32) (μ : bwM) : eX2_hasOpenRoad d 125 [some (.inr (.inr w)), some (.inl x1), some (.inl x2), some (.inl x3), some (.inl x4), some (.inl x5), some (.inl x6), some (.inl x7), some (.inl x8)] [] μ = eX2_hasOpenRoad d 30 [some (.inr (.inr w)), some (.inl x1), some (.inl x2), some (.inl x3), some (.inl x4), some (.inl x5), some (.inl (x6 + (1 : Int32))), some (.inl x7), some (.inl x8)] [] μ := by
  rcases hw with rfl | rfl <;> exact (bw_ex_go [16, 30, 75, 84, 98, 114, 125] 4 125 _ _ _).trans rfl
noncomputable def eX2_addThing (d pc : Nat) (ls : List (Option bwV)) (st : List bwV) (μ : bwM) : Option bwR := bw_ex (bw_call d) 0 bw_z 0 tX2_addThing pc ls st μ
set_option maxRecDepth 20000 in
theorem qX2_addThing (d : Nat) {w : Nat} (hw : w = 2 ∨ w = 12) (x1 x2 : Int32) (μ : bwM) : bw_call (d + 1) 37 [.inr (.inr w), .inl x1, .inl x2] μ = if bw_in (μ.1 w 0) 12 then if bw_in (μ.1 w 0) 12 then if bw_in (μ.1 w 0) 12 then if bw_in (μ.1 w 0) 12 then eX2_addThing d 46 [some (.inr (.inr w)), some (.inl x1), some (.inl x2), some (.inl (μ.1 w 0)), some (.inl (0 : Int32))] [] (bw_si (bw_si (bw_si (bw_si (bw_si μ w 0 ((μ.1 w 0) + (1 : Int32))) (w + 1) (μ.1 w 0).toNatClampNeg x1) (w + 2) (μ.1 w 0).toNatClampNeg x2) (w + 6) (μ.1 w 0).toNatClampNeg (-1 : Int32)) (w + 7) (μ.1 w 0).toNatClampNeg (-1 : Int32)) else none else none else none else none := by
  rcases hw with rfl | rfl <;> exact (bw_ex_go [46] 33 0 _ _ _).trans rfl
set_option maxRecDepth 20000 in
theorem qX2_addThing_46 (d : Nat) {w : Nat} (hw : w = 2 ∨ w = 12) (x1 x2 x3 x4 : Int32) (μ : bwM) : eX2_addThing d 46 [some (.inr (.inr w)), some (.inl x1), some (.inl x2), some (.inl x3), some (.inl x4)] [] μ = if x1 ≤ x4 then bw_bV (bw_call d 41 [.inr (.inr w), .inl x3] μ) none (fun m1 => some (none, m1)) else bw_bI (bw_call d 80 [.inl x3, .inl x4] μ) none (fun r3 m2 => if bw_in r3 48 then eX2_addThing d 46 [some (.inr (.inr w)), some (.inl x1), some (.inl x2), some (.inl x3), some (.inl (x4 + (1 : Int32)))] [] (bw_si m2 (w + 8) r3.toNatClampNeg (1 : Int32)) else none) := by
  rcases hw with rfl | rfl <;> exact (bw_ex_go [46] 14 46 _ _ _).trans rfl
noncomputable def eX2_carryOut (d pc : Nat) (ls : List (Option bwV)) (st : List bwV) (μ : bwM) : Option bwR := bw_ex (bw_call d) 0 bw_z 0 tX2_carryOut pc ls st μ
set_option maxRecDepth 20000 in
theorem qX2_carryOut (d : Nat) {w : Nat} (hw : w = 2 ∨ w = 12) (x1 x2 x3 x4 x5 : Int32) (μ : bwM) : bw_call (d + 1) 38 [.inr (.inr w), .inl x1, .inl x2, .inl x3, .inl x4, .inl x5] μ = if x1 = (0 : Int32) then bw_bV (bw_call d 39 [.inr (.inr w), .inl x3, .inl x2] μ) none (fun m1 => some (none, m1)) else if x1 = (1 : Int32) then bw_bI (bw_call d 31 [.inr (.inr w), .inl x3, .inl x2] μ) none (fun r3 m2 => bw_bV (bw_call d 40 [.inr (.inr w), .inl x3, .inl r3] m2) none (fun m4 => some (none, m4))) else if x1 = (2 : Int32) then bw_bI (bw_call d 81 [.inl x2, .inl x3, .inl x4] μ) none (fun r6 m5 => if bw_in r6 3072 then some (none, bw_si m5 (w + 5) r6.toNatClampNeg x5) else none) else if x1 = (3 : Int32) then if bw_in x2 12 then if bw_in x2 12 then some (none, bw_si (bw_si μ (w + 6) x2.toNatClampNeg x3) (w + 7) x2.toNatClampNeg (-1 : Int32)) else none else none else if x1 = (4 : Int32) then if bw_in x2 12 then if bw_in x2 12 then some (none, bw_si (bw_si μ (w + 7) x2.toNatClampNeg x3) (w + 6) x2.toNatClampNeg (-1 : Int32)) else none else none else if x1 = (5 : Int32) then bw_bI (bw_call d 80 [.inl x2, .inl x3] μ) none (fun r8 m7 => if bw_in r8 48 then some (none, bw_si m7 (w + 8) r8.toNatClampNeg x4) else none) else if x1 = (6 : Int32) then bw_bV (bw_call d 42 [.inr (.inr w), .inl x2] μ) none (fun m9 => some (none, m9)) else if x1 = (7 : Int32) then bw_bI (bw_call d 82 [.inl x2, .inl x3, .inl x4] μ) none (fun r11 m10 => if bw_in r11 288 then some (none, bw_si m10 (w + 9) r11.toNatClampNeg x5) else none) else some (none, μ) := by
  rcases hw with rfl | rfl <;> exact (bw_ex_go [] 15 0 _ _ _).trans rfl
noncomputable def eX2_addParent (d pc : Nat) (ls : List (Option bwV)) (st : List bwV) (μ : bwM) : Option bwR := bw_ex (bw_call d) 0 bw_z 0 tX2_addParent pc ls st μ
set_option maxRecDepth 20000 in
theorem qX2_addParent (d : Nat) {w : Nat} (hw : w = 2 ∨ w = 12) (x1 x2 : Int32) (μ : bwM) : bw_call (d + 1) 39 [.inr (.inr w), .inl x1, .inl x2] μ = if bw_in x1 12 then if (μ.1 (w + 3) x1.toNatClampNeg) < (3 : Int32) then if bw_in x1 12 then bw_bI (bw_call d 83 [.inl x1, .inl (μ.1 (w + 3) x1.toNatClampNeg)] μ) none (fun r2 m1 => if bw_in r2 36 then if bw_in x1 12 then if bw_in x1 12 then bw_bV (bw_call d 41 [.inr (.inr w), .inl x1] (bw_si (bw_si m1 (w + 4) r2.toNatClampNeg x2) (w + 3) x1.toNatClampNeg (((bw_si m1 (w + 4) r2.toNatClampNeg x2).1 (w + 3) x1.toNatClampNeg) + (1 : Int32)))) none (fun m3 => some (none, m3)) else none else none else none) else none else some (none, μ) else none := by
  rcases hw with rfl | rfl <;> exact (bw_ex_go [] 29 0 _ _ _).trans rfl
noncomputable def eX2_dropParent (d pc : Nat) (ls : List (Option bwV)) (st : List bwV) (μ : bwM) : Option bwR := bw_ex (bw_call d) 0 bw_z 0 tX2_dropParent pc ls st μ
set_option maxRecDepth 20000 in
theorem qX2_dropParent (d : Nat) {w : Nat} (hw : w = 2 ∨ w = 12) (x1 x2 : Int32) (μ : bwM) : bw_call (d + 1) 40 [.inr (.inr w), .inl x1, .inl x2] μ = if x2 < 0 then some (none, μ) else if bw_in x1 12 then if x2 < (μ.1 (w + 3) x1.toNatClampNeg) then if bw_in x1 12 then if bw_in x1 12 then eX2_dropParent d 27 [some (.inr (.inr w)), some (.inl x1), some (.inl x2), some (.inl x2)] [] (bw_si μ (w + 3) x1.toNatClampNeg ((μ.1 (w + 3) x1.toNatClampNeg) - (1 : Int32))) else none else none else some (none, μ) else none := by
  rcases hw with rfl | rfl <;> exact (bw_ex_go [27] 20 0 _ _ _).trans rfl
set_option maxRecDepth 20000 in
theorem qX2_dropParent_27 (d : Nat) {w : Nat} (hw : w = 2 ∨ w = 12) (x1 x2 x3 : Int32) (μ : bwM) : eX2_dropParent d 27 [some (.inr (.inr w)), some (.inl x1), some (.inl x2), some (.inl x3)] [] μ = if bw_in x1 12 then if (μ.1 (w + 3) x1.toNatClampNeg) ≤ x3 then bw_bV (bw_call d 41 [.inr (.inr w), .inl x1] μ) none (fun m1 => some (none, m1)) else bw_bI (bw_call d 83 [.inl x1, .inl x3] μ) none (fun r3 m2 => bw_bI (bw_call d 83 [.inl x1, .inl (x3 + (1 : Int32))] m2) none (fun r5 m4 => if bw_in r5 36 then if bw_in r3 36 then eX2_dropParent d 27 [some (.inr (.inr w)), some (.inl x1), some (.inl x2), some (.inl (x3 + (1 : Int32)))] [] (bw_si m4 (w + 4) r3.toNatClampNeg (m4.1 (w + 4) r5.toNatClampNeg)) else none else none)) else none := by
  rcases hw with rfl | rfl <;> exact (bw_ex_go [27] 24 27 _ _ _).trans rfl
noncomputable def eX2_resetTable (d pc : Nat) (ls : List (Option bwV)) (st : List bwV) (μ : bwM) : Option bwR := bw_ex (bw_call d) 0 bw_z 0 tX2_resetTable pc ls st μ
set_option maxRecDepth 20000 in
theorem qX2_resetTable (d : Nat) {w : Nat} (hw : w = 2 ∨ w = 12) (x1 : Int32) (μ : bwM) : bw_call (d + 1) 41 [.inr (.inr w), .inl x1] μ = bw_bI (bw_call d 26 [.inr (.inr w), .inl x1] μ) none (fun r2 m1 => eX2_resetTable d 8 [some (.inr (.inr w)), some (.inl x1), some (.inl r2), some (.inl (0 : Int32)), none] [] m1) := by
  rcases hw with rfl | rfl <;> exact (bw_ex_go [8, 16, 53] 8 0 _ _ _).trans rfl
set_option maxRecDepth 20000 in
theorem qX2_resetTable_8 (d : Nat) {w : Nat} (hw : w = 2 ∨ w = 12) (x1 x2 x3 : Int32) (o4 : Option bwV) (μ : bwM) : eX2_resetTable d 8 [some (.inr (.inr w)), some (.inl x1), some (.inl x2), some (.inl x3), o4] [] μ = if x2 ≤ x3 then some (none, μ) else eX2_resetTable d 16 [some (.inr (.inr w)), some (.inl x1), some (.inl x2), some (.inl x3), some (.inl (0 : Int32))] [] μ := by
  rcases hw with rfl | rfl <;> exact (bw_ex_go [8, 16, 53] 7 8 _ _ _).trans rfl
set_option maxRecDepth 20000 in
theorem qX2_resetTable_16 (d : Nat) {w : Nat} (hw : w = 2 ∨ w = 12) (x1 x2 x3 x4 : Int32) (μ : bwM) : eX2_resetTable d 16 [some (.inr (.inr w)), some (.inl x1), some (.inl x2), some (.inl x3), some (.inl x4)] [] μ = if bw_in x1 12 then if (μ.1 (w + 1) x1.toNatClampNeg) ≤ x4 then eX2_resetTable d 8 [some (.inr (.inr w)), some (.inl x1), some (.inl x2), some (.inl (x3 + (1 : Int32))), some (.inl x4)] [] μ else bw_bI (bw_call d 81 [.inl x1, .inl x3, .inl x4] μ) none (fun r2 m1 => if x4 = 0 then if bw_in x1 12 then eX2_resetTable d 53 [some (.inr (.inr w)), some (.inl x1), some (.inl x2), some (.inl x3), some (.inl x4)] [.inl (m1.1 (w + 2) x1.toNatClampNeg), .inl r2, .inr (.inr (w + 5))] m1 else none else eX2_resetTable d 53 [some (.inr (.inr w)), some (.inl x1), some (.inl x2), some (.inl x3), some (.inl x4)] [.inl (0 : Int32), .inl r2, .inr (.inr (w + 5))] m1) else none := by
  rcases hw with rfl | rfl <;> exact (bw_ex_go [8, 16, 53] 21 16 _ _ _).trans rfl
set_option maxRecDepth 20000 in
theorem qX2_resetTable_53 (d : Nat) {w : Nat} (hw : w = 2 ∨ w = 12) (x1 x2 x3 x4 s1 s2 : Int32) (μ : bwM) : eX2_resetTable d 53 [some (.inr (.inr w)), some (.inl x1), some (.inl x2), some (.inl x3), some (.inl x4)] [.inl s2, .inl s1, .inr (.inr (w + 5))] μ = if bw_in s1 3072 then eX2_resetTable d 16 [some (.inr (.inr w)), some (.inl x1), some (.inl x2), some (.inl x3), some (.inl (x4 + (1 : Int32)))] [] (bw_si μ (w + 5) s1.toNatClampNeg s2) else none := by
  rcases hw with rfl | rfl <;> exact (bw_ex_go [8, 16, 53] 5 53 _ _ _).trans rfl
noncomputable def eX2_setOptions (d pc : Nat) (ls : List (Option bwV)) (st : List bwV) (μ : bwM) : Option bwR := bw_ex (bw_call d) 0 bw_z 0 tX2_setOptions pc ls st μ
set_option maxRecDepth 20000 in
theorem qX2_setOptions (d : Nat) {w : Nat} (hw : w = 2 ∨ w = 12) (x1 : Int32) (μ : bwM) : bw_call (d + 1) 42 [.inr (.inr w), .inl x1] μ = eX2_setOptions d 5 [some (.inr (.inr w)), some (.inl x1), some (.inl (x1 * (48 : Int32)))] [] μ := by
  rcases hw with rfl | rfl <;> exact (bw_ex_go [5] 6 0 _ _ _).trans rfl
set_option maxRecDepth 20000 in
theorem qX2_setOptions_5 (d : Nat) {w : Nat} (hw : w = 2 ∨ w = 12) (x1 x2 : Int32) (μ : bwM) : eX2_setOptions d 5 [some (.inr (.inr w)), some (.inl x1), some (.inl x2)] [] μ = if (Int32.ofNat 288) ≤ x2 then some (none, bw_si μ w 1 x1) else if bw_in x2 288 then eX2_setOptions d 5 [some (.inr (.inr w)), some (.inl x1), some (.inl (x2 + (1 : Int32)))] [] (bw_si μ (w + 9) x2.toNatClampNeg (0 : Int32)) else none := by
  rcases hw with rfl | rfl <;> exact (bw_ex_go [5] 14 5 _ _ _).trans rfl
noncomputable def eX2_copyFrom (d pc : Nat) (ls : List (Option bwV)) (st : List bwV) (μ : bwM) : Option bwR := bw_ex (bw_call d) 0 bw_z 0 tX2_copyFrom pc ls st μ
set_option maxRecDepth 20000 in
theorem qX2_copyFrom (d : Nat) {w u : Nat} (hw : w = 2 ∧ u = 12 ∨ w = 12 ∧ u = 2) (μ : bwM) : bw_call (d + 1) 43 [.inr (.inr w), .inr (.inr u)] μ = bw_bV (bw_call d 44 [.inr (.inr (u + 1)), .inr (.inr (w + 1))] (bw_si (bw_si μ w 0 (μ.1 u 0)) w 1 ((bw_si μ w 0 (μ.1 u 0)).1 u 1))) none (fun m1 => bw_bV (bw_call d 44 [.inr (.inr (u + 2)), .inr (.inr (w + 2))] m1) none (fun m2 => bw_bV (bw_call d 44 [.inr (.inr (u + 3)), .inr (.inr (w + 3))] m2) none (fun m3 => bw_bV (bw_call d 44 [.inr (.inr (u + 4)), .inr (.inr (w + 4))] m3) none (fun m4 => bw_bV (bw_call d 44 [.inr (.inr (u + 5)), .inr (.inr (w + 5))] m4) none (fun m5 => bw_bV (bw_call d 44 [.inr (.inr (u + 6)), .inr (.inr (w + 6))] m5) none (fun m6 => bw_bV (bw_call d 44 [.inr (.inr (u + 7)), .inr (.inr (w + 7))] m6) none (fun m7 => bw_bV (bw_call d 44 [.inr (.inr (u + 8)), .inr (.inr (w + 8))] m7) none (fun m8 => bw_bV (bw_call d 44 [.inr (.inr (u + 9)), .inr (.inr (w + 9))] m8) none (fun m9 => some (none, m9)))))))))) := by
  rcases hw with ⟨rfl, rfl⟩ | ⟨rfl, rfl⟩ <;> exact (bw_ex_go [] 55 0 _ _ _).trans rfl
end
section
noncomputable def eX0_startFrom (d pc : Nat) (ls : List (Option bwV)) (st : List bwV) (μ : bwM) : Option bwR := bw_ex (bw_call d) 0 bw_z 0 tX0_startFrom pc ls st μ
set_option maxRecDepth 20000 in
theorem qX0_startFrom (d : Nat)  (μ : bwM) : bw_call (d + 1) 0 [.inr (.inr 22), .inr (.inr 2)] μ = bw_bV (bw_call d 43 [.inr (.inr 12), .inr (.inr 2)] μ) none (fun m1 => some (none, bw_si (bw_si m1 22 2 (0 : Int32)) 22 3 (0 : Int32))) := by
  exact (bw_ex_go [] 12 0 _ _ _).trans rfl
noncomputable def eX0_add (d pc : Nat) (ls : List (Option bwV)) (st : List bwV) (μ : bwM) : Option bwR := bw_ex (bw_call d) 0 bw_z 0 tX0_add pc ls st μ
set_option maxRecDepth 20000 in
theorem qX0_add (d : Nat)  (x1 x2 x3 x4 x5 : Int32) (μ : bwM) : bw_call (d + 1) 1 [.inr (.inr 22), .inl x1, .inl x2, .inl x3, .inl x4, .inl x5] μ = if (μ.1 22 3) < (100 : Int32) then eX0_add d 41 [some (.inr (.inr 22)), some (.inl x1), some (.inl x2), some (.inl x3), some (.inl x4), some (.inl x5), none] [] μ else bw_bV (bw_call d 3 [.inr (.inr 22), .inl (0 : Int32), .inr (.inr 12)] μ) none (fun m1 => if (100 : Int32) = 0 then none else eX0_add d 41 [some (.inr (.inr 22)), some (.inl x1), some (.inl x2), some (.inl x3), some (.inl x4), some (.inl x5), none] [] (bw_si (bw_si m1 22 2 (((m1.1 22 2) + (1 : Int32)) - ((m1.1 22 2) + (1 : Int32)) / (100 : Int32) * (100 : Int32))) 22 3 (((bw_si m1 22 2 (((m1.1 22 2) + (1 : Int32)) - ((m1.1 22 2) + (1 : Int32)) / (100 : Int32) * (100 : Int32))).1 22 3) - (1 : Int32)))) := by
  exact (bw_ex_go [41] 25 0 _ _ _).trans rfl
set_option maxRecDepth 20000 in
theorem qX0_add_41 (d : Nat)  (x1 x2 x3 x4 x5 : Int32) (μ : bwM) : eX0_add d 41 [some (.inr (.inr 22)), some (.inl x1), some (.inl x2), some (.inl x3), some (.inl x4), some (.inl x5), none] [] μ = bw_bI (bw_call d 4 [.inr (.inr 22), .inl (μ.1 22 3)] μ) none (fun r2 m1 => if bw_in r2 500 then if bw_in (r2 + (1 : Int32)) 500 then if bw_in (r2 + (2 : Int32)) 500 then if bw_in (r2 + (3 : Int32)) 500 then if bw_in (r2 + (4 : Int32)) 500 then some (none, bw_si (bw_si (bw_si (bw_si (bw_si (bw_si m1 23 r2.toNatClampNeg x1) 23 (r2 + (1 : Int32)).toNatClampNeg x2) 23 (r2 + (2 : Int32)).toNatClampNeg x3) 23 (r2 + (3 : Int32)).toNatClampNeg x4) 23 (r2 + (4 : Int32)).toNatClampNeg x5) 22 3 (((bw_si (bw_si (bw_si (bw_si (bw_si m1 23 r2.toNatClampNeg x1) 23 (r2 + (1 : Int32)).toNatClampNeg x2) 23 (r2 + (2 : Int32)).toNatClampNeg x3) 23 (r2 + (3 : Int32)).toNatClampNeg x4) 23 (r2 + (4 : Int32)).toNatClampNeg x5).1 22 3) + (1 : Int32))) else none else none else none else none else none) := by
  exact (bw_ex_go [41] 46 41 _ _ _).trans rfl
noncomputable def eX0_takeBackLatest (d pc : Nat) (ls : List (Option bwV)) (st : List bwV) (μ : bwM) : Option bwR := bw_ex (bw_call d) 0 bw_z 0 tX0_takeBackLatest pc ls st μ
set_option maxRecDepth 20000 in
theorem qX0_takeBackLatest (d : Nat)  (μ : bwM) : bw_call (d + 1) 2 [.inr (.inr 22), .inr (.inr 2)] μ = if (μ.1 22 3) = 0 then some (none, μ) else bw_bV (bw_call d 43 [.inr (.inr 2), .inr (.inr 12)] (bw_si μ 22 3 ((μ.1 22 3) - (1 : Int32)))) none (fun m1 => eX0_takeBackLatest d 28 [some (.inr (.inr 22)), some (.inr (.inr 2)), some (.inl (0 : Int32))] [] m1) := by
  exact (bw_ex_go [28] 17 0 _ _ _).trans rfl
set_option maxRecDepth 20000 in
theorem qX0_takeBackLatest_28 (d : Nat)  (x2 : Int32) (μ : bwM) : eX0_takeBackLatest d 28 [some (.inr (.inr 22)), some (.inr (.inr 2)), some (.inl x2)] [] μ = if (μ.1 22 3) ≤ x2 then some (none, μ) else bw_bV (bw_call d 3 [.inr (.inr 22), .inl x2, .inr (.inr 2)] μ) none (fun m1 => eX0_takeBackLatest d 28 [some (.inr (.inr 22)), some (.inr (.inr 2)), some (.inl (x2 + (1 : Int32)))] [] m1) := by
  exact (bw_ex_go [28] 12 28 _ _ _).trans rfl
noncomputable def eX0_repeat (d pc : Nat) (ls : List (Option bwV)) (st : List bwV) (μ : bwM) : Option bwR := bw_ex (bw_call d) 0 bw_z 0 tX0_repeat pc ls st μ
set_option maxRecDepth 20000 in
theorem qX0_repeat (d : Nat) {w : Nat} (hw : w = 2 ∨ w = 12) (x1 : Int32) (μ : bwM) : bw_call (d + 1) 3 [.inr (.inr 22), .inl x1, .inr (.inr w)] μ = bw_bI (bw_call d 4 [.inr (.inr 22), .inl x1] μ) none (fun r2 m1 => if bw_in r2 500 then if bw_in (r2 + (1 : Int32)) 500 then if bw_in (r2 + (2 : Int32)) 500 then if bw_in (r2 + (3 : Int32)) 500 then if bw_in (r2 + (4 : Int32)) 500 then bw_bV (bw_call d 38 [.inr (.inr w), .inl (m1.1 23 r2.toNatClampNeg), .inl (m1.1 23 (r2 + (1 : Int32)).toNatClampNeg), .inl (m1.1 23 (r2 + (2 : Int32)).toNatClampNeg), .inl (m1.1 23 (r2 + (3 : Int32)).toNatClampNeg), .inl (m1.1 23 (r2 + (4 : Int32)).toNatClampNeg)] m1) none (fun m3 => some (none, m3)) else none else none else none else none else none) := by
  rcases hw with rfl | rfl <;> exact (bw_ex_go [] 36 0 _ _ _).trans rfl
noncomputable def eX0_placeOf (d pc : Nat) (ls : List (Option bwV)) (st : List bwV) (μ : bwM) : Option bwR := bw_ex (bw_call d) 0 bw_z 1 tX0_placeOf pc ls st μ
set_option maxRecDepth 20000 in
theorem qX0_placeOf (d : Nat)  (x1 : Int32) (μ : bwM) : bw_call (d + 1) 4 [.inr (.inr 22), .inl x1] μ = if (100 : Int32) = 0 then none else some (some (.inl ((((μ.1 22 2) + x1) - ((μ.1 22 2) + x1) / (100 : Int32) * (100 : Int32)) * (5 : Int32))), μ) := by
  exact (bw_ex_go [] 10 0 _ _ _).trans rfl
noncomputable def eX1_goOver (d pc : Nat) (ls : List (Option bwV)) (st : List bwV) (μ : bwM) : Option bwR := bw_ex (bw_call d) 0 bw_z 0 tX1_goOver pc ls st μ
set_option maxRecDepth 20000 in
theorem qX1_goOver (d : Nat)  (μ : bwM) : bw_call (d + 1) 5 [.inr (.inr 24), .inr (.inr 2)] μ = bw_bV (bw_call d 8 [.inr (.inr 24), .inr (.inr 2)] (bw_si (bw_si μ 24 7 (-1 : Int32)) 24 6 (0 : Int32))) none (fun m1 => some (none, m1)) := by
  exact (bw_ex_go [] 11 0 _ _ _).trans rfl
noncomputable def eX1_goOverThoseWith (d pc : Nat) (ls : List (Option bwV)) (st : List bwV) (μ : bwM) : Option bwR := bw_ex (bw_call d) 0 bw_z 0 tX1_goOverThoseWith pc ls st μ
set_option maxRecDepth 20000 in
theorem qX1_goOverThoseWith (d : Nat)  (x2 x3 : Int32) (μ : bwM) : bw_call (d + 1) 6 [.inr (.inr 24), .inr (.inr 2), .inl x2, .inl x3] μ = bw_bV (bw_call d 8 [.inr (.inr 24), .inr (.inr 2)] (bw_si (bw_si (bw_si μ 24 7 x2) 24 8 x3) 24 6 (0 : Int32))) none (fun m1 => some (none, m1)) := by
  exact (bw_ex_go [] 14 0 _ _ _).trans rfl
noncomputable def eX1_rank (d pc : Nat) (ls : List (Option bwV)) (st : List bwV) (μ : bwM) : Option bwR := bw_ex (bw_call d) 0 bw_z 0 tX1_rank pc ls st μ
set_option maxRecDepth 20000 in
theorem qX1_rank (d : Nat)  (x2 : Int32) (μ : bwM) : bw_call (d + 1) 7 [.inr (.inr 24), .inr (.inr 2), .inl x2] μ = bw_bV (bw_call d 8 [.inr (.inr 24), .inr (.inr 2)] (bw_si (bw_si μ 24 7 (-1 : Int32)) 24 6 (if (10 : Int32) < x2 then (10 : Int32) else x2))) none (fun m1 => some (none, m1)) := by
  exact (bw_ex_go [] 13 0 _ _ _).trans rfl
noncomputable def eX1_start (d pc : Nat) (ls : List (Option bwV)) (st : List bwV) (μ : bwM) : Option bwR := bw_ex (bw_call d) 0 bw_z 0 tX1_start pc ls st μ
set_option maxRecDepth 20000 in
theorem qX1_start (d : Nat)  (μ : bwM) : bw_call (d + 1) 8 [.inr (.inr 24), .inr (.inr 2)] μ = eX1_start d 2 [some (.inr (.inr 24)), some (.inr (.inr 2)), some (.inl (0 : Int32))] [] μ := by
  exact (bw_ex_go [2] 4 0 _ _ _).trans rfl
set_option maxRecDepth 20000 in
theorem qX1_start_2 (d : Nat)  (x2 : Int32) (μ : bwM) : eX1_start d 2 [some (.inr (.inr 24)), some (.inr (.inr 2)), some (.inl x2)] [] μ = if (48 : Int32) ≤ x2 then bw_bV (bw_call d 9 [.inr (.inr 24), .inr (.inr 2)] (bw_si (bw_si μ 24 5 (0 : Int32)) 24 9 (0 : Int32))) none (fun m1 => bw_bL (bw_call d 10 [.inr (.inr 2), .inr (.inr 24), .inl (0 : Int32), .inr (.inl (Int64.ofNat 1))] m1) none (fun r3 m2 => some (none, bw_sl m2 24 10 r3))) else if bw_in x2 48 then eX1_start d 2 [some (.inr (.inr 24)), some (.inr (.inr 2)), some (.inl (x2 + (1 : Int32)))] [] (bw_sl μ 27 x2.toNatClampNeg (Int64.ofNat 0)) else none := by
  exact (bw_ex_go [2] 21 2 _ _ _).trans rfl
noncomputable def eX1_putParentsFirst (d pc : Nat) (ls : List (Option bwV)) (st : List bwV) (μ : bwM) : Option bwR := bw_ex (bw_call d) 0 bw_z 0 tX1_putParentsFirst pc ls st μ
set_option maxRecDepth 20000 in
theorem qX1_putParentsFirst (d : Nat)  (μ : bwM) : bw_call (d + 1) 9 [.inr (.inr 24), .inr (.inr 2)] μ = eX1_putParentsFirst d 7 [some (.inr (.inr 24)), some (.inr (.inr 2)), some (.inl (0 : Int32)), some (.inl (0 : Int32)), some (.inl (0 : Int32)), none] [] μ := by
  exact (bw_ex_go [7, 19, 68] 8 0 _ _ _).trans rfl
set_option maxRecDepth 20000 in
theorem qX1_putParentsFirst_7 (d : Nat)  (x2 x3 x4 : Int32) (o5 : Option bwV) (μ : bwM) : eX1_putParentsFirst d 7 [some (.inr (.inr 24)), some (.inr (.inr 2)), some (.inl x2), some (.inl x3), some (.inl x4), o5] [] μ = if (μ.1 2 0) ≤ x4 then some (none, μ) else eX1_putParentsFirst d 19 [some (.inr (.inr 24)), some (.inr (.inr 2)), some (.inl x2), some (.inl x3), some (.inl x4), some (.inl (0 : Int32))] [] μ := by
  exact (bw_ex_go [7, 19, 68] 8 7 _ _ _).trans rfl
set_option maxRecDepth 20000 in
theorem qX1_putParentsFirst_19 (d : Nat)  (x2 x3 x4 x5 : Int32) (μ : bwM) : eX1_putParentsFirst d 19 [some (.inr (.inr 24)), some (.inr (.inr 2)), some (.inl x2), some (.inl x3), some (.inl x4), some (.inl x5)] [] μ = if (μ.1 2 0) ≤ x5 then eX1_putParentsFirst d 7 [some (.inr (.inr 24)), some (.inr (.inr 2)), some (.inl x2), some (.inl x3), some (.inl (x4 + (1 : Int32))), some (.inl x5)] [] μ else bw_bI (bw_call d 84 [.inl x2, .inl x5] μ) none (fun r2 m1 => if r2 = 0 then bw_bI (bw_call d 32 [.inr (.inr 2), .inl x5] m1) none (fun r4 m3 => if (r4 &&& (x2 ^^^ (-1 : Int32))) = 0 then if bw_in x3 12 then eX1_putParentsFirst d 68 [some (.inr (.inr 24)), some (.inr (.inr 2)), some (.inl (x2 ||| ((1 : Int32) <<< (x5 &&& 31)))), some (.inl (x3 + (1 : Int32))), some (.inl x4), some (.inl x5)] [] (bw_si m3 25 x3.toNatClampNeg x5) else none else eX1_putParentsFirst d 68 [some (.inr (.inr 24)), some (.inr (.inr 2)), some (.inl x2), some (.inl x3), some (.inl x4), some (.inl x5)] [] m3) else eX1_putParentsFirst d 68 [some (.inr (.inr 24)), some (.inr (.inr 2)), some (.inl x2), some (.inl x3), some (.inl x4), some (.inl x5)] [] m1) := by
  exact (bw_ex_go [7, 19, 68] 30 19 _ _ _).trans rfl
set_option maxRecDepth 20000 in
theorem qX1_putParentsFirst_68 (d : Nat)  (x2 x3 x4 x5 : Int32) (μ : bwM) : eX1_putParentsFirst d 68 [some (.inr (.inr 24)), some (.inr (.inr 2)), some (.inl x2), some (.inl x3), some (.inl x4), some (.inl x5)] [] μ = eX1_putParentsFirst d 19 [some (.inr (.inr 24)), some (.inr (.inr 2)), some (.inl x2), some (.inl x3), some (.inl x4), some (.inl (x5 + (1 : Int32)))] [] μ := by
  exact (bw_ex_go [7, 19, 68] 4 68 _ _ _).trans rfl
noncomputable def eX1_spread (d pc : Nat) (ls : List (Option bwV)) (st : List bwV) (μ : bwM) : Option bwR := bw_ex (bw_call d) 0 bw_z 2 tX1_spread pc ls st μ
set_option maxRecDepth 20000 in
theorem qX1_spread (d : Nat)  (x2 : Int32) (y3 : Int64) (μ : bwM) : bw_call (d + 1) 10 [.inr (.inr 2), .inr (.inr 24), .inl x2, .inr (.inl y3)] μ = if (μ.1 2 0) ≤ x2 then eX1_spread d 14 [some (.inr (.inr 2)), some (.inr (.inr 24)), some (.inl x2), some (.inr (.inl y3)), none, none, none, none, none, none, none, none, none, none] [] μ else if x2 < (12 : Int32) then if bw_in x2 12 then bw_bI (bw_call d 27 [.inr (.inr 2), .inl (μ.1 25 x2.toNatClampNeg), .inr (.inr 26)] μ) none (fun r2 m1 => eX1_spread d 48 [some (.inr (.inr 2)), some (.inr (.inr 24)), some (.inl x2), some (.inr (.inl y3)), none, some (.inl (μ.1 25 x2.toNatClampNeg)), some (.inl r2), some (.inr (.inl (Int64.ofNat 0))), none, some (.inl (0 : Int32)), none, none, none, none] [] m1) else none else eX1_spread d 14 [some (.inr (.inr 2)), some (.inr (.inr 24)), some (.inl x2), some (.inr (.inl y3)), none, none, none, none, none, none, none, none, none, none] [] μ := by
  exact (bw_ex_go [14, 48, 100, 145] 24 0 _ _ _).trans rfl
set_option maxRecDepth 20000 in
theorem qX1_spread_14 (d : Nat)  (x2 : Int32) (y3 : Int64) (μ : bwM) : eX1_spread d 14 [some (.inr (.inr 2)), some (.inr (.inr 24)), some (.inl x2), some (.inr (.inl y3)), none, none, none, none, none, none, none, none, none, none] [] μ = bw_bV (bw_call d 11 [.inr (.inr 24), .inr (.inr 2), .inr (.inl y3)] μ) none (fun m1 => some (some (.inr (.inl y3)), m1)) := by
  exact (bw_ex_go [14, 48, 100, 145] 7 14 _ _ _).trans rfl
set_option maxRecDepth 20000 in
theorem qX1_spread_48 (d : Nat)  (x2 x5 x6 x9 : Int32) (y3 y7 : Int64) (o10 : Option bwV) (μ : bwM) : eX1_spread d 48 [some (.inr (.inr 2)), some (.inr (.inr 24)), some (.inl x2), some (.inr (.inl y3)), none, some (.inl x5), some (.inl x6), some (.inr (.inl y7)), none, some (.inl x9), o10, none, none, none] [] μ = if bw_in x5 12 then if (μ.1 3 x5.toNatClampNeg) ≤ x9 then some (some (.inr (.inl y7)), μ) else bw_bI (bw_call d 30 [.inr (.inr 2), .inl x5, .inl x6, .inl x9] μ) none (fun r2 m1 => if (lg_cmp (y3 * (r2.toInt64)) (Int64.ofNat 0)) ≤ 0 then eX1_spread d 145 [some (.inr (.inr 2)), some (.inr (.inr 24)), some (.inl x2), some (.inr (.inl y3)), none, some (.inl x5), some (.inl x6), some (.inr (.inl y7)), none, some (.inl x9), some (.inr (.inl (y3 * (r2.toInt64)))), none, none, none] [] m1 else if x5 = (m1.1 24 7) then if x9 = (m1.1 24 8) then eX1_spread d 100 [some (.inr (.inr 2)), some (.inr (.inr 24)), some (.inl x2), some (.inr (.inl y3)), none, some (.inl x5), some (.inl x6), some (.inr (.inl y7)), none, some (.inl x9), some (.inr (.inl (y3 * (r2.toInt64)))), none, none, none] [] m1 else eX1_spread d 145 [some (.inr (.inr 2)), some (.inr (.inr 24)), some (.inl x2), some (.inr (.inl y3)), none, some (.inl x5), some (.inl x6), some (.inr (.inl y7)), none, some (.inl x9), some (.inr (.inl (y3 * (r2.toInt64)))), none, none, none] [] m1 else eX1_spread d 100 [some (.inr (.inr 2)), some (.inr (.inr 24)), some (.inl x2), some (.inr (.inl y3)), none, some (.inl x5), some (.inl x6), some (.inr (.inl y7)), none, some (.inl x9), some (.inr (.inl (y3 * (r2.toInt64)))), none, none, none] [] m1) else none := by
  exact (bw_ex_go [14, 48, 100, 145] 29 48 _ _ _).trans rfl
set_option maxRecDepth 20000 in
theorem qX1_spread_100 (d : Nat)  (x2 x5 x6 x9 : Int32) (y3 y7 y10 : Int64) (μ : bwM) : eX1_spread d 100 [some (.inr (.inr 2)), some (.inr (.inr 24)), some (.inl x2), some (.inr (.inl y3)), none, some (.inl x5), some (.inl x6), some (.inr (.inl y7)), none, some (.inl x9), some (.inr (.inl y10)), none, none, none] [] μ = if bw_in x5 12 then bw_bL (bw_call d 10 [.inr (.inr 2), .inr (.inr 24), .inl (x2 + (1 : Int32)), .inr (.inl y10)] (bw_si μ 26 x5.toNatClampNeg x9)) none (fun r2 m1 => bw_bI (bw_call d 80 [.inl x5, .inl x9] m1) none (fun r4 m3 => if bw_in r4 48 then if bw_in r4 48 then eX1_spread d 145 [some (.inr (.inr 2)), some (.inr (.inr 24)), some (.inl x2), some (.inr (.inl y3)), none, some (.inl x5), some (.inl x6), some (.inr (.inl (y7 + r2))), none, some (.inl x9), some (.inr (.inl y10)), none, some (.inr (.inl r2)), none] [] (bw_sl m3 27 r4.toNatClampNeg ((m3.2 27 r4.toNatClampNeg) + r2)) else none else none)) else none := by
  exact (bw_ex_go [14, 48, 100, 145] 29 100 _ _ _).trans rfl
set_option maxRecDepth 20000 in
theorem qX1_spread_145 (d : Nat)  (x2 x5 x6 x9 : Int32) (y3 y7 y10 : Int64) (o12 : Option bwV) (μ : bwM) : eX1_spread d 145 [some (.inr (.inr 2)), some (.inr (.inr 24)), some (.inl x2), some (.inr (.inl y3)), none, some (.inl x5), some (.inl x6), some (.inr (.inl y7)), none, some (.inl x9), some (.inr (.inl y10)), none, o12, none] [] μ = eX1_spread d 48 [some (.inr (.inr 2)), some (.inr (.inr 24)), some (.inl x2), some (.inr (.inl y3)), none, some (.inl x5), some (.inl x6), some (.inr (.inl y7)), none, some (.inl (x9 + (1 : Int32))), some (.inr (.inl y10)), none, none, none] [] μ := by
  exact (bw_ex_go [14, 48, 100, 145] 4 145 _ _ _).trans rfl
noncomputable def eX1_meet (d pc : Nat) (ls : List (Option bwV)) (st : List bwV) (μ : bwM) : Option bwR := bw_ex (bw_call d) 0 bw_z 0 tX1_meet pc ls st μ
set_option maxRecDepth 20000 in
theorem qX1_meet (d : Nat)  (y2 : Int64) (μ : bwM) : bw_call (d + 1) 11 [.inr (.inr 24), .inr (.inr 2), .inr (.inl y2)] μ = if ((bw_si μ 24 9 ((μ.1 24 9) + (1 : Int32))).1 24 6) = 0 then some (none, bw_si μ 24 9 ((μ.1 24 9) + (1 : Int32))) else bw_bI (bw_call d 13 [.inr (.inr 24), .inr (.inr 2)] (bw_si μ 24 9 ((μ.1 24 9) + (1 : Int32)))) none (fun r2 m1 => if (m1.1 24 6) ≤ (m1.1 24 5) then bw_bI (bw_call d 12 [.inr (.inr 24), .inr (.inl y2), .inl r2, .inl ((m1.1 24 5) - (1 : Int32))] m1) none (fun r4 m3 => if r4 = 0 then some (none, m3) else eX1_meet d 66 [some (.inr (.inr 24)), some (.inr (.inr 2)), some (.inr (.inl y2)), none, some (.inl r2), none] [] m3) else eX1_meet d 66 [some (.inr (.inr 24)), some (.inr (.inr 2)), some (.inr (.inl y2)), none, some (.inl r2), none] [] (bw_si m1 24 5 ((m1.1 24 5) + (1 : Int32)))) := by
  exact (bw_ex_go [66, 74, 131] 29 0 _ _ _).trans rfl
set_option maxRecDepth 20000 in
theorem qX1_meet_66 (d : Nat)  (x4 : Int32) (y2 : Int64) (μ : bwM) : eX1_meet d 66 [some (.inr (.inr 24)), some (.inr (.inr 2)), some (.inr (.inl y2)), none, some (.inl x4), none] [] μ = eX1_meet d 74 [some (.inr (.inr 24)), some (.inr (.inr 2)), some (.inr (.inl y2)), none, some (.inl x4), some (.inl ((μ.1 24 5) - (1 : Int32)))] [] μ := by
  exact (bw_ex_go [66, 74, 131] 7 66 _ _ _).trans rfl
set_option maxRecDepth 20000 in
theorem qX1_meet_74 (d : Nat)  (x4 x5 : Int32) (y2 : Int64) (μ : bwM) : eX1_meet d 74 [some (.inr (.inr 24)), some (.inr (.inr 2)), some (.inr (.inl y2)), none, some (.inl x4), some (.inl x5)] [] μ = if x5 ≤ 0 then eX1_meet d 131 [some (.inr (.inr 24)), some (.inr (.inr 2)), some (.inr (.inl y2)), none, some (.inl x4), some (.inl x5)] [] μ else bw_bI (bw_call d 12 [.inr (.inr 24), .inr (.inl y2), .inl x4, .inl (x5 - (1 : Int32))] μ) none (fun r2 m1 => if r2 = 0 then eX1_meet d 131 [some (.inr (.inr 24)), some (.inr (.inr 2)), some (.inr (.inl y2)), none, some (.inl x4), some (.inl x5)] [] m1 else if bw_in (x5 - (1 : Int32)) 10 then if bw_in x5 10 then if bw_in (x5 - (1 : Int32)) 10 then if bw_in x5 10 then eX1_meet d 74 [some (.inr (.inr 24)), some (.inr (.inr 2)), some (.inr (.inl y2)), none, some (.inl x4), some (.inl (x5 + (-1 : Int32)))] [] (bw_si (bw_sl m1 28 x5.toNatClampNeg (m1.2 28 (x5 - (1 : Int32)).toNatClampNeg)) 29 x5.toNatClampNeg ((bw_sl m1 28 x5.toNatClampNeg (m1.2 28 (x5 - (1 : Int32)).toNatClampNeg)).1 29 (x5 - (1 : Int32)).toNatClampNeg)) else none else none else none else none) := by
  exact (bw_ex_go [66, 74, 131] 34 74 _ _ _).trans rfl
set_option maxRecDepth 20000 in
theorem qX1_meet_131 (d : Nat)  (x4 x5 : Int32) (y2 : Int64) (μ : bwM) : eX1_meet d 131 [some (.inr (.inr 24)), some (.inr (.inr 2)), some (.inr (.inl y2)), none, some (.inl x4), some (.inl x5)] [] μ = if bw_in x5 10 then if bw_in x5 10 then some (none, bw_si (bw_sl μ 28 x5.toNatClampNeg y2) 29 x5.toNatClampNeg x4) else none else none := by
  exact (bw_ex_go [66, 74, 131] 12 131 _ _ _).trans rfl
noncomputable def eX1_isBefore (d pc : Nat) (ls : List (Option bwV)) (st : List bwV) (μ : bwM) : Option bwR := bw_ex (bw_call d) 0 bw_z 3 tX1_isBefore pc ls st μ
set_option maxRecDepth 20000 in
theorem qX1_isBefore (d : Nat)  (x3 x4 : Int32) (y1 : Int64) (μ : bwM) : bw_call (d + 1) 12 [.inr (.inr 24), .inr (.inl y1), .inl x3, .inl x4] μ = if bw_in x4 10 then if 0 < (lg_cmp y1 (μ.2 28 x4.toNatClampNeg)) then if (1 : Int32) = 0 ∨ (1 : Int32) = 1 then some (some (.inl (1 : Int32)), μ) else none else if (lg_cmp y1 (μ.2 28 x4.toNatClampNeg)) = 0 then if bw_in x4 10 then if (μ.1 29 x4.toNatClampNeg) ≤ x3 then if (0 : Int32) = 0 ∨ (0 : Int32) = 1 then some (some (.inl (0 : Int32)), μ) else none else if (1 : Int32) = 0 ∨ (1 : Int32) = 1 then some (some (.inl (1 : Int32)), μ) else none else none else if (0 : Int32) = 0 ∨ (0 : Int32) = 1 then some (some (.inl (0 : Int32)), μ) else none else none := by
  exact (bw_ex_go [] 23 0 _ _ _).trans rfl
noncomputable def eX1_wholeChosen (d pc : Nat) (ls : List (Option bwV)) (st : List bwV) (μ : bwM) : Option bwR := bw_ex (bw_call d) 0 bw_z 1 tX1_wholeChosen pc ls st μ
set_option maxRecDepth 20000 in
theorem qX1_wholeChosen (d : Nat)  (μ : bwM) : bw_call (d + 1) 13 [.inr (.inr 24), .inr (.inr 2)] μ = eX1_wholeChosen d 4 [some (.inr (.inr 24)), some (.inr (.inr 2)), some (.inl (0 : Int32)), some (.inl (0 : Int32))] [] μ := by
  exact (bw_ex_go [4] 6 0 _ _ _).trans rfl
set_option maxRecDepth 20000 in
theorem qX1_wholeChosen_4 (d : Nat)  (x2 x3 : Int32) (μ : bwM) : eX1_wholeChosen d 4 [some (.inr (.inr 24)), some (.inr (.inr 2)), some (.inl x2), some (.inl x3)] [] μ = if (μ.1 2 0) ≤ x3 then some (some (.inl x2), μ) else if bw_in x3 12 then eX1_wholeChosen d 4 [some (.inr (.inr 24)), some (.inr (.inr 2)), some (.inl ((x2 <<< ((2 : Int32) &&& 31)) ||| (μ.1 26 x3.toNatClampNeg))), some (.inl (x3 + (1 : Int32)))] [] μ else none := by
  exact (bw_ex_go [4] 17 4 _ _ _).trans rfl
noncomputable def eX1_worthSum (d pc : Nat) (ls : List (Option bwV)) (st : List bwV) (μ : bwM) : Option bwR := bw_ex (bw_call d) 0 bw_z 2 tX1_worthSum pc ls st μ
set_option maxRecDepth 20000 in
theorem qX1_worthSum (d : Nat)  (x2 : Int32) (μ : bwM) : bw_call (d + 1) 14 [.inr (.inr 24), .inr (.inr 2), .inl x2] μ = eX1_worthSum d 5 [some (.inr (.inr 24)), some (.inr (.inr 2)), some (.inl x2), some (.inr (.inl (Int64.ofNat 0))), none, some (.inl (0 : Int32)), none] [] μ := by
  exact (bw_ex_go [5, 17] 6 0 _ _ _).trans rfl
set_option maxRecDepth 20000 in
theorem qX1_worthSum_5 (d : Nat)  (x2 x5 : Int32) (y3 : Int64) (o6 : Option bwV) (μ : bwM) : eX1_worthSum d 5 [some (.inr (.inr 24)), some (.inr (.inr 2)), some (.inl x2), some (.inr (.inl y3)), none, some (.inl x5), o6] [] μ = if (μ.1 2 0) ≤ x5 then some (some (.inr (.inl y3)), μ) else eX1_worthSum d 17 [some (.inr (.inr 24)), some (.inr (.inr 2)), some (.inl x2), some (.inr (.inl y3)), none, some (.inl x5), some (.inl (0 : Int32))] [] μ := by
  exact (bw_ex_go [5, 17] 8 5 _ _ _).trans rfl
set_option maxRecDepth 20000 in
theorem qX1_worthSum_17 (d : Nat)  (x2 x5 x6 : Int32) (y3 : Int64) (μ : bwM) : eX1_worthSum d 17 [some (.inr (.inr 24)), some (.inr (.inr 2)), some (.inl x2), some (.inr (.inl y3)), none, some (.inl x5), some (.inl x6)] [] μ = if bw_in x5 12 then if (μ.1 3 x5.toNatClampNeg) ≤ x6 then eX1_worthSum d 5 [some (.inr (.inr 24)), some (.inr (.inr 2)), some (.inl x2), some (.inr (.inl y3)), none, some (.inl (x5 + (1 : Int32))), some (.inl x6)] [] μ else bw_bI (bw_call d 82 [.inl x2, .inl x5, .inl x6] μ) none (fun r2 m1 => if bw_in r2 288 then bw_bI (bw_call d 80 [.inl x5, .inl x6] m1) none (fun r4 m3 => if bw_in r4 48 then eX1_worthSum d 17 [some (.inr (.inr 24)), some (.inr (.inr 2)), some (.inl x2), some (.inr (.inl (y3 + (((m1.1 11 r2.toNatClampNeg).toInt64) * (m3.2 27 r4.toNatClampNeg))))), none, some (.inl x5), some (.inl (x6 + (1 : Int32)))] [] m3 else none) else none) else none := by
  exact (bw_ex_go [5, 17] 28 17 _ _ _).trans rfl
noncomputable def eX1_bestOption (d pc : Nat) (ls : List (Option bwV)) (st : List bwV) (μ : bwM) : Option bwR := bw_ex (bw_call d) 0 bw_z 1 tX1_bestOption pc ls st μ
set_option maxRecDepth 20000 in
theorem qX1_bestOption (d : Nat)  (μ : bwM) : bw_call (d + 1) 15 [.inr (.inr 24), .inr (.inr 2)] μ = eX1_bestOption d 4 [some (.inr (.inr 24)), some (.inr (.inr 2)), some (.inl (0 : Int32)), some (.inl (1 : Int32))] [] μ := by
  exact (bw_ex_go [4, 30] 6 0 _ _ _).trans rfl
set_option maxRecDepth 20000 in
theorem qX1_bestOption_4 (d : Nat)  (x2 x3 : Int32) (μ : bwM) : eX1_bestOption d 4 [some (.inr (.inr 24)), some (.inr (.inr 2)), some (.inl x2), some (.inl x3)] [] μ = if (μ.1 2 1) ≤ x3 then some (some (.inl x2), μ) else bw_bL (bw_call d 14 [.inr (.inr 24), .inr (.inr 2), .inl x3] μ) none (fun r2 m1 => bw_bL (bw_call d 14 [.inr (.inr 24), .inr (.inr 2), .inl x2] m1) none (fun r4 m3 => if (lg_cmp r2 r4) ≤ 0 then eX1_bestOption d 30 [some (.inr (.inr 24)), some (.inr (.inr 2)), some (.inl x2), some (.inl x3)] [] m3 else eX1_bestOption d 30 [some (.inr (.inr 24)), some (.inr (.inr 2)), some (.inl x3), some (.inl x3)] [] m3)) := by
  exact (bw_ex_go [4, 30] 18 4 _ _ _).trans rfl
set_option maxRecDepth 20000 in
theorem qX1_bestOption_30 (d : Nat)  (x2 x3 : Int32) (μ : bwM) : eX1_bestOption d 30 [some (.inr (.inr 24)), some (.inr (.inr 2)), some (.inl x2), some (.inl x3)] [] μ = eX1_bestOption d 4 [some (.inr (.inr 24)), some (.inr (.inr 2)), some (.inl x2), some (.inl (x3 + (1 : Int32)))] [] μ := by
  exact (bw_ex_go [4, 30] 4 30 _ _ _).trans rfl
noncomputable def eX1_greatestWorthSum (d pc : Nat) (ls : List (Option bwV)) (st : List bwV) (μ : bwM) : Option bwR := bw_ex (bw_call d) 0 bw_z 2 tX1_greatestWorthSum pc ls st μ
set_option maxRecDepth 20000 in
theorem qX1_greatestWorthSum (d : Nat)  (μ : bwM) : bw_call (d + 1) 16 [.inr (.inr 24), .inr (.inr 2)] μ = bw_bI (bw_call d 15 [.inr (.inr 24), .inr (.inr 2)] μ) none (fun r2 m1 => bw_bL (bw_call d 14 [.inr (.inr 24), .inr (.inr 2), .inl r2] m1) none (fun r4 m3 => some (some (.inr (.inl r4)), m3))) := by
  exact (bw_ex_go [] 8 0 _ _ _).trans rfl
end
section
noncomputable def eX3_thing (d pc : Nat) (ls : List (Option bwV)) (st : List bwV) (μ : bwM) : Option bwR := bw_ex (bw_call d) 0 bw_z 1 tX3_thing pc ls st μ
set_option maxRecDepth 20000 in
theorem qX3_thing (d : Nat)  (x1 x2 : Int32) (μ : bwM) : bw_call (d + 1) 45 [.inr (.inr 0), .inl x1, .inl x2] μ = if x1 < (2 : Int32) then some (some (.inl (-1 : Int32)), μ) else if (4 : Int32) < x1 then some (some (.inl (-1 : Int32)), μ) else if x2 < (1 : Int32) then some (some (.inl (-1 : Int32)), μ) else if x2 ≤ (100 : Int32) then if (12 : Int32) ≤ (μ.1 2 0) then some (some (.inl (-3 : Int32)), μ) else bw_bI (bw_call d 23 [.inr (.inr 2)] μ) none (fun r2 m1 => if (20000 : Int32) < (r2 * x1) then some (some (.inl (-3 : Int32)), m1) else bw_bL (bw_call d 24 [.inr (.inr 2)] m1) none (fun r4 m3 => if (lg_cmp (r4 * (x2.toInt64)) (Int64.ofNat 1000000000)) ≤ 0 then eX3_thing d 70 [some (.inr (.inr 0)), some (.inl x1), some (.inl x2), none] [] m3 else some (some (.inl (-3 : Int32)), m3))) else some (some (.inl (-1 : Int32)), μ) := by
  exact (bw_ex_go [70] 36 0 _ _ _).trans rfl
set_option maxRecDepth 20000 in
theorem qX3_thing_70 (d : Nat)  (x1 x2 : Int32) (μ : bwM) : eX3_thing d 70 [some (.inr (.inr 0)), some (.inl x1), some (.inl x2), none] [] μ = bw_bV (bw_call d 37 [.inr (.inr 2), .inl x1, .inl x2] μ) none (fun m1 => bw_bV (bw_call d 0 [.inr (.inr 22), .inr (.inr 2)] m1) none (fun m2 => some (some (.inl (μ.1 2 0)), m2))) := by
  exact (bw_ex_go [70] 17 70 _ _ _).trans rfl
noncomputable def eX3_arrow (d pc : Nat) (ls : List (Option bwV)) (st : List bwV) (μ : bwM) : Option bwR := bw_ex (bw_call d) 0 bw_z 1 tX3_arrow pc ls st μ
set_option maxRecDepth 20000 in
theorem qX3_arrow (d : Nat)  (x1 x2 : Int32) (μ : bwM) : bw_call (d + 1) 46 [.inr (.inr 0), .inl x1, .inl x2] μ = bw_bI (bw_call d 17 [.inr (.inr 2), .inl x1] μ) none (fun r2 m1 => if r2 = 0 then some (some (.inl (-1 : Int32)), m1) else bw_bI (bw_call d 17 [.inr (.inr 2), .inl x2] m1) none (fun r4 m3 => if r4 = 0 then some (some (.inl (-1 : Int32)), m3) else if x1 = x2 then some (some (.inl (-1 : Int32)), m3) else bw_bI (bw_call d 31 [.inr (.inr 2), .inl x2, .inl x1] m3) none (fun r6 m5 => if r6 = (-1 : Int32) then bw_bI (bw_call d 33 [.inr (.inr 2), .inl x1] m5) none (fun r8 m7 => bw_bI (bw_call d 84 [.inl r8, .inl x2] m7) none (fun r10 m9 => if r10 = 0 then if bw_in x2 12 then if (m9.1 5 x2.toNatClampNeg) < (3 : Int32) then eX3_arrow d 76 [some (.inr (.inr 0)), some (.inl x1), some (.inl x2)] [] m9 else some (some (.inl (-3 : Int32)), m9) else none else some (some (.inl (-2 : Int32)), m9))) else some (some (.inl (-1 : Int32)), m5)))) := by
  exact (bw_ex_go [76] 37 0 _ _ _).trans rfl
set_option maxRecDepth 20000 in
theorem qX3_arrow_76 (d : Nat)  (x1 x2 : Int32) (μ : bwM) : eX3_arrow d 76 [some (.inr (.inr 0)), some (.inl x1), some (.inl x2)] [] μ = bw_bV (bw_call d 74 [.inr (.inr 0), .inl (0 : Int32), .inl x1, .inl x2, .inl (0 : Int32), .inl (0 : Int32)] μ) none (fun m1 => if bw_in x2 12 then some (some (.inl (m1.1 5 x2.toNatClampNeg)), m1) else none) := by
  exact (bw_ex_go [76] 14 76 _ _ _).trans rfl
noncomputable def eX3_cut (d pc : Nat) (ls : List (Option bwV)) (st : List bwV) (μ : bwM) : Option bwR := bw_ex (bw_call d) 0 bw_z 1 tX3_cut pc ls st μ
set_option maxRecDepth 20000 in
theorem qX3_cut (d : Nat)  (x1 x2 : Int32) (μ : bwM) : bw_call (d + 1) 47 [.inr (.inr 0), .inl x1, .inl x2] μ = bw_bI (bw_call d 17 [.inr (.inr 2), .inl x1] μ) none (fun r2 m1 => if r2 = 0 then some (some (.inl (-1 : Int32)), m1) else bw_bI (bw_call d 17 [.inr (.inr 2), .inl x2] m1) none (fun r4 m3 => if r4 = 0 then some (some (.inl (-1 : Int32)), m3) else bw_bI (bw_call d 31 [.inr (.inr 2), .inl x2, .inl x1] m3) none (fun r6 m5 => if r6 = (-1 : Int32) then some (some (.inl (-1 : Int32)), m5) else bw_bV (bw_call d 74 [.inr (.inr 0), .inl (1 : Int32), .inl x1, .inl x2, .inl (0 : Int32), .inl (0 : Int32)] m5) none (fun m7 => if bw_in x2 12 then some (some (.inl (m7.1 5 x2.toNatClampNeg)), m7) else none)))) := by
  exact (bw_ex_go [] 31 0 _ _ _).trans rfl
noncomputable def eX3_weight (d pc : Nat) (ls : List (Option bwV)) (st : List bwV) (μ : bwM) : Option bwR := bw_ex (bw_call d) 0 bw_z 1 tX3_weight pc ls st μ
set_option maxRecDepth 20000 in
theorem qX3_weight (d : Nat)  (x1 x2 x3 x4 : Int32) (μ : bwM) : bw_call (d + 1) 48 [.inr (.inr 0), .inl x1, .inl x2, .inl x3, .inl x4] μ = bw_bI (bw_call d 20 [.inr (.inr 2), .inl x1, .inl x2, .inl x3] μ) none (fun r2 m1 => if r2 = 0 then some (some (.inl (-1 : Int32)), m1) else if x4 < 0 then some (some (.inl (-1 : Int32)), m1) else if bw_in x1 12 then if x4 ≤ (m1.1 4 x1.toNatClampNeg) then bw_bI (bw_call d 81 [.inl x1, .inl x2, .inl x3] m1) none (fun r4 m3 => if bw_in r4 3072 then eX3_weight d 50 [some (.inr (.inr 0)), some (.inl x1), some (.inl x2), some (.inl x3), some (.inl x4), some (.inl (m3.1 7 r4.toNatClampNeg))] [] m3 else none) else some (some (.inl (-1 : Int32)), m1) else none) := by
  exact (bw_ex_go [50] 27 0 _ _ _).trans rfl
set_option maxRecDepth 20000 in
theorem qX3_weight_50 (d : Nat)  (x1 x2 x3 x4 x5 : Int32) (μ : bwM) : eX3_weight d 50 [some (.inr (.inr 0)), some (.inl x1), some (.inl x2), some (.inl x3), some (.inl x4), some (.inl x5)] [] μ = bw_bV (bw_call d 74 [.inr (.inr 0), .inl (2 : Int32), .inl x1, .inl x2, .inl x3, .inl x4] μ) none (fun m1 => some (some (.inl x5), m1)) := by
  exact (bw_ex_go [50] 10 50 _ _ _).trans rfl
noncomputable def eX3_told (d pc : Nat) (ls : List (Option bwV)) (st : List bwV) (μ : bwM) : Option bwR := bw_ex (bw_call d) 0 bw_z 1 tX3_told pc ls st μ
set_option maxRecDepth 20000 in
theorem qX3_told (d : Nat)  (x1 x2 x3 : Int32) (μ : bwM) : bw_call (d + 1) 49 [.inr (.inr 0), .inl x1, .inl x2, .inl x3] μ = bw_bI (bw_call d 20 [.inr (.inr 2), .inl x1, .inl x2, .inl x3] μ) none (fun r2 m1 => if r2 = 0 then some (some (.inl (-1 : Int32)), m1) else bw_bI (bw_call d 81 [.inl x1, .inl x2, .inl x3] m1) none (fun r4 m3 => if bw_in r4 3072 then some (some (.inl (m3.1 7 r4.toNatClampNeg)), m3) else none)) := by
  exact (bw_ex_go [] 18 0 _ _ _).trans rfl
noncomputable def eX3_about (d pc : Nat) (ls : List (Option bwV)) (st : List bwV) (μ : bwM) : Option bwR := bw_ex (bw_call d) 0 bw_z 1 tX3_about pc ls st μ
set_option maxRecDepth 20000 in
theorem qX3_about (d : Nat)  (x1 x2 : Int32) (μ : bwM) : bw_call (d + 1) 50 [.inr (.inr 0), .inl x1, .inl x2] μ = bw_bI (bw_call d 17 [.inr (.inr 2), .inl x1] μ) none (fun r2 m1 => if r2 = 0 then some (some (.inl (-1 : Int32)), m1) else if x2 = (0 : Int32) then if bw_in x1 12 then some (some (.inl (m1.1 3 x1.toNatClampNeg)), m1) else none else if x2 = (1 : Int32) then if bw_in x1 12 then some (some (.inl (m1.1 4 x1.toNatClampNeg)), m1) else none else if x2 = (2 : Int32) then if bw_in x1 12 then some (some (.inl (m1.1 5 x1.toNatClampNeg)), m1) else none else if x2 = (3 : Int32) then bw_bI (bw_call d 26 [.inr (.inr 2), .inl x1] m1) none (fun r4 m3 => some (some (.inl r4), m3)) else if x2 = (4 : Int32) then bw_bI (bw_call d 29 [.inr (.inr 2), .inl x1] m1) none (fun r6 m5 => if r6 = 0 then some (some (.inl (0 : Int32)), m5) else some (some (.inl (1 : Int32)), m5)) else if x2 = (5 : Int32) then if bw_in x1 12 then some (some (.inl (m1.1 8 x1.toNatClampNeg)), m1) else none else if x2 = (6 : Int32) then if bw_in x1 12 then some (some (.inl (m1.1 9 x1.toNatClampNeg)), m1) else none else some (some (.inl (-1 : Int32)), m1)) := by
  exact (bw_ex_go [] 16 0 _ _ _).trans rfl
noncomputable def eX3_parent (d pc : Nat) (ls : List (Option bwV)) (st : List bwV) (μ : bwM) : Option bwR := bw_ex (bw_call d) 0 bw_z 1 tX3_parent pc ls st μ
set_option maxRecDepth 20000 in
theorem qX3_parent (d : Nat)  (x1 x2 : Int32) (μ : bwM) : bw_call (d + 1) 51 [.inr (.inr 0), .inl x1, .inl x2] μ = bw_bI (bw_call d 17 [.inr (.inr 2), .inl x1] μ) none (fun r2 m1 => if r2 = 0 then some (some (.inl (-2 : Int32)), m1) else if x2 < 0 then some (some (.inl (-2 : Int32)), m1) else if bw_in x1 12 then if x2 < (m1.1 5 x1.toNatClampNeg) then bw_bI (bw_call d 83 [.inl x1, .inl x2] m1) none (fun r4 m3 => if bw_in r4 36 then some (some (.inl (m3.1 6 r4.toNatClampNeg)), m3) else none) else some (some (.inl (-2 : Int32)), m1) else none) := by
  exact (bw_ex_go [] 23 0 _ _ _).trans rfl
noncomputable def eX3_sound (d pc : Nat) (ls : List (Option bwV)) (st : List bwV) (μ : bwM) : Option bwR := bw_ex (bw_call d) 0 bw_z 1 tX3_sound pc ls st μ
set_option maxRecDepth 20000 in
theorem qX3_sound (d : Nat)  (μ : bwM) : bw_call (d + 1) 52 [.inr (.inr 0)] μ = bw_bI (bw_call d 28 [.inr (.inr 2)] μ) none (fun r2 m1 => if r2 = 0 then some (some (.inl (0 : Int32)), m1) else some (some (.inl (1 : Int32)), m1)) := by
  exact (bw_ex_go [] 8 0 _ _ _).trans rfl
noncomputable def eX3_see (d pc : Nat) (ls : List (Option bwV)) (st : List bwV) (μ : bwM) : Option bwR := bw_ex (bw_call d) 0 bw_z 1 tX3_see pc ls st μ
set_option maxRecDepth 20000 in
theorem qX3_see (d : Nat)  (x1 x2 : Int32) (μ : bwM) : bw_call (d + 1) 53 [.inr (.inr 0), .inl x1, .inl x2] μ = bw_bI (bw_call d 19 [.inr (.inr 2), .inl x1, .inl x2] μ) none (fun r2 m1 => if r2 = 0 then some (some (.inl (-1 : Int32)), m1) else bw_bV (bw_call d 74 [.inr (.inr 0), .inl (3 : Int32), .inl x1, .inl x2, .inl (0 : Int32), .inl (0 : Int32)] m1) none (fun m3 => some (some (.inl (1 : Int32)), m3))) := by
  exact (bw_ex_go [] 16 0 _ _ _).trans rfl
noncomputable def eX3_act (d pc : Nat) (ls : List (Option bwV)) (st : List bwV) (μ : bwM) : Option bwR := bw_ex (bw_call d) 0 bw_z 1 tX3_act pc ls st μ
set_option maxRecDepth 20000 in
theorem qX3_act (d : Nat)  (x1 x2 : Int32) (μ : bwM) : bw_call (d + 1) 54 [.inr (.inr 0), .inl x1, .inl x2] μ = bw_bI (bw_call d 19 [.inr (.inr 2), .inl x1, .inl x2] μ) none (fun r2 m1 => if r2 = 0 then some (some (.inl (-1 : Int32)), m1) else bw_bV (bw_call d 74 [.inr (.inr 0), .inl (4 : Int32), .inl x1, .inl x2, .inl (0 : Int32), .inl (0 : Int32)] m1) none (fun m3 => some (some (.inl (1 : Int32)), m3))) := by
  exact (bw_ex_go [] 16 0 _ _ _).trans rfl
noncomputable def eX3_force (d pc : Nat) (ls : List (Option bwV)) (st : List bwV) (μ : bwM) : Option bwR := bw_ex (bw_call d) 0 bw_z 1 tX3_force pc ls st μ
set_option maxRecDepth 20000 in
theorem qX3_force (d : Nat)  (x1 x2 x3 : Int32) (μ : bwM) : bw_call (d + 1) 55 [.inr (.inr 0), .inl x1, .inl x2, .inl x3] μ = bw_bI (bw_call d 18 [.inr (.inr 2), .inl x1, .inl x2] μ) none (fun r2 m1 => if r2 = 0 then some (some (.inl (-1 : Int32)), m1) else if x3 < 0 then some (some (.inl (-1 : Int32)), m1) else if x3 ≤ (3 : Int32) then bw_bI (bw_call d 80 [.inl x1, .inl x2] m1) none (fun r4 m3 => if bw_in r4 48 then eX3_force d 38 [some (.inr (.inr 0)), some (.inl x1), some (.inl x2), some (.inl x3), some (.inl (m3.1 10 r4.toNatClampNeg))] [] m3 else none) else some (some (.inl (-1 : Int32)), m1)) := by
  exact (bw_ex_go [38] 21 0 _ _ _).trans rfl
set_option maxRecDepth 20000 in
theorem qX3_force_38 (d : Nat)  (x1 x2 x3 x4 : Int32) (μ : bwM) : eX3_force d 38 [some (.inr (.inr 0)), some (.inl x1), some (.inl x2), some (.inl x3), some (.inl x4)] [] μ = bw_bV (bw_call d 74 [.inr (.inr 0), .inl (5 : Int32), .inl x1, .inl x2, .inl x3, .inl (0 : Int32)] μ) none (fun m1 => some (some (.inl x4), m1)) := by
  exact (bw_ex_go [38] 10 38 _ _ _).trans rfl
noncomputable def eX3_chance (d pc : Nat) (ls : List (Option bwV)) (st : List bwV) (μ : bwM) : Option bwR := bw_ex (bw_call d) 0 bw_z 1 tX3_chance pc ls st μ
set_option maxRecDepth 20000 in
theorem qX3_chance (d : Nat)  (μ : bwM) : bw_call (d + 1) 56 [.inr (.inr 0)] μ = bw_bI (bw_call d 28 [.inr (.inr 2)] μ) none (fun r2 m1 => if r2 = 0 then some (some (.inl (-4 : Int32)), m1) else bw_bV (bw_call d 5 [.inr (.inr 24), .inr (.inr 2)] m1) none (fun m3 => bw_bL (bw_call d 24 [.inr (.inr 2)] m3) none (fun r5 m4 => bw_bV (bw_call d 76 [.inr (.inr 0), .inr (.inl (m3.2 24 10)), .inr (.inl r5)] m4) none (fun m6 => some (some (.inl (1 : Int32)), m6))))) := by
  exact (bw_ex_go [] 20 0 _ _ _).trans rfl
noncomputable def eX3_ask (d pc : Nat) (ls : List (Option bwV)) (st : List bwV) (μ : bwM) : Option bwR := bw_ex (bw_call d) 0 bw_z 1 tX3_ask pc ls st μ
set_option maxRecDepth 20000 in
theorem qX3_ask (d : Nat)  (x1 x2 : Int32) (μ : bwM) : bw_call (d + 1) 57 [.inr (.inr 0), .inl x1, .inl x2] μ = bw_bI (bw_call d 18 [.inr (.inr 2), .inl x1, .inl x2] μ) none (fun r2 m1 => if r2 = 0 then some (some (.inl (-1 : Int32)), m1) else bw_bI (bw_call d 75 [.inr (.inr 0)] m1) none (fun r4 m3 => if r4 = 0 then bw_bI (bw_call d 80 [.inl x1, .inl x2] m3) none (fun r6 m5 => if bw_in r6 48 then bw_bV (bw_call d 76 [.inr (.inr 0), .inr (.inl (m5.2 27 r6.toNatClampNeg)), .inr (.inl (m5.2 24 10))] m5) none (fun m7 => some (some (.inl (1 : Int32)), m7)) else none) else some (some (.inl r4), m3))) := by
  exact (bw_ex_go [] 26 0 _ _ _).trans rfl
noncomputable def eX3_both (d pc : Nat) (ls : List (Option bwV)) (st : List bwV) (μ : bwM) : Option bwR := bw_ex (bw_call d) 0 bw_z 1 tX3_both pc ls st μ
set_option maxRecDepth 20000 in
theorem qX3_both (d : Nat)  (x1 x2 x3 x4 : Int32) (μ : bwM) : bw_call (d + 1) 58 [.inr (.inr 0), .inl x1, .inl x2, .inl x3, .inl x4] μ = bw_bI (bw_call d 18 [.inr (.inr 2), .inl x1, .inl x2] μ) none (fun r2 m1 => if r2 = 0 then some (some (.inl (-1 : Int32)), m1) else bw_bI (bw_call d 18 [.inr (.inr 2), .inl x3, .inl x4] m1) none (fun r4 m3 => if r4 = 0 then some (some (.inl (-1 : Int32)), m3) else eX3_both d 27 [some (.inr (.inr 0)), some (.inl x1), some (.inl x2), some (.inl x3), some (.inl x4), none, none, none] [] m3)) := by
  exact (bw_ex_go [27, 63] 15 0 _ _ _).trans rfl
set_option maxRecDepth 20000 in
theorem qX3_both_27 (d : Nat)  (x1 x2 x3 x4 : Int32) (μ : bwM) : eX3_both d 27 [some (.inr (.inr 0)), some (.inl x1), some (.inl x2), some (.inl x3), some (.inl x4), none, none, none] [] μ = bw_bI (bw_call d 75 [.inr (.inr 0)] μ) none (fun r2 m1 => if r2 = 0 then bw_bV (bw_call d 6 [.inr (.inr 24), .inr (.inr 2), .inl x1, .inl x2] m1) none (fun m3 => eX3_both d 63 [some (.inr (.inr 0)), some (.inl x1), some (.inl x2), some (.inl x3), some (.inl x4), some (.inl r2), some (.inr (.inl (m1.2 24 10))), none] [] m3) else some (some (.inl r2), m1)) := by
  exact (bw_ex_go [27, 63] 18 27 _ _ _).trans rfl
set_option maxRecDepth 20000 in
theorem qX3_both_63 (d : Nat)  (x1 x2 x3 x4 x5 : Int32) (y6 : Int64) (μ : bwM) : eX3_both d 63 [some (.inr (.inr 0)), some (.inl x1), some (.inl x2), some (.inl x3), some (.inl x4), some (.inl x5), some (.inr (.inl y6)), none] [] μ = bw_bI (bw_call d 80 [.inl x3, .inl x4] μ) none (fun r2 m1 => if bw_in r2 48 then bw_bV (bw_call d 76 [.inr (.inr 0), .inr (.inl (m1.2 27 r2.toNatClampNeg)), .inr (.inl y6)] m1) none (fun m3 => some (some (.inl (1 : Int32)), m3)) else none) := by
  exact (bw_ex_go [27, 63] 13 63 _ _ _).trans rfl
noncomputable def eX3_up (d pc : Nat) (ls : List (Option bwV)) (st : List bwV) (μ : bwM) : Option bwR := bw_ex (bw_call d) 0 bw_z 2 tX3_up pc ls st μ
set_option maxRecDepth 20000 in
theorem qX3_up (d : Nat)  (μ : bwM) : bw_call (d + 1) 59 [.inr (.inr 0)] μ = some (some (.inr (.inl (μ.2 0 5))), μ) := by
  exact (bw_ex_go [] 4 0 _ _ _).trans rfl
noncomputable def eX3_down (d pc : Nat) (ls : List (Option bwV)) (st : List bwV) (μ : bwM) : Option bwR := bw_ex (bw_call d) 0 bw_z 2 tX3_down pc ls st μ
set_option maxRecDepth 20000 in
theorem qX3_down (d : Nat)  (μ : bwM) : bw_call (d + 1) 60 [.inr (.inr 0)] μ = some (some (.inr (.inl (μ.2 0 6))), μ) := by
  exact (bw_ex_go [] 4 0 _ _ _).trans rfl
noncomputable def eX3_most (d pc : Nat) (ls : List (Option bwV)) (st : List bwV) (μ : bwM) : Option bwR := bw_ex (bw_call d) 0 bw_z 1 tX3_most pc ls st μ
set_option maxRecDepth 20000 in
theorem qX3_most (d : Nat)  (x1 : Int32) (μ : bwM) : bw_call (d + 1) 61 [.inr (.inr 0), .inl x1] μ = bw_bI (bw_call d 17 [.inr (.inr 2), .inl x1] μ) none (fun r2 m1 => if r2 = 0 then some (some (.inl (-1 : Int32)), m1) else bw_bI (bw_call d 75 [.inr (.inr 0)] m1) none (fun r4 m3 => if r4 = 0 then eX3_most d 29 [some (.inr (.inr 0)), some (.inl x1), some (.inl r4), some (.inl (0 : Int32)), some (.inl (1 : Int32))] [] m3 else some (some (.inl r4), m3))) := by
  exact (bw_ex_go [29, 74, 77] 16 0 _ _ _).trans rfl
set_option maxRecDepth 20000 in
theorem qX3_most_29 (d : Nat)  (x1 x2 x3 x4 : Int32) (μ : bwM) : eX3_most d 29 [some (.inr (.inr 0)), some (.inl x1), some (.inl x2), some (.inl x3), some (.inl x4)] [] μ = if bw_in x1 12 then if (μ.1 3 x1.toNatClampNeg) ≤ x4 then some (some (.inl x3), μ) else bw_bI (bw_call d 80 [.inl x1, .inl x4] μ) none (fun r2 m1 => if bw_in r2 48 then bw_bI (bw_call d 80 [.inl x1, .inl x3] m1) none (fun r4 m3 => if bw_in r4 48 then if (lg_cmp (m1.2 27 r2.toNatClampNeg) (m3.2 27 r4.toNatClampNeg)) ≤ 0 then eX3_most d 77 [some (.inr (.inr 0)), some (.inl x1), some (.inl x2), some (.inl x3), some (.inl x4)] [] m3 else eX3_most d 74 [some (.inr (.inr 0)), some (.inl x1), some (.inl x2), some (.inl x3), some (.inl x4)] [] m3 else none) else none) else none := by
  exact (bw_ex_go [29, 74, 77] 25 29 _ _ _).trans rfl
set_option maxRecDepth 20000 in
theorem qX3_most_74 (d : Nat)  (x1 x2 x3 x4 : Int32) (μ : bwM) : eX3_most d 74 [some (.inr (.inr 0)), some (.inl x1), some (.inl x2), some (.inl x3), some (.inl x4)] [] μ = eX3_most d 77 [some (.inr (.inr 0)), some (.inl x1), some (.inl x2), some (.inl x4), some (.inl x4)] [] μ := by
  exact (bw_ex_go [29, 74, 77] 4 74 _ _ _).trans rfl
set_option maxRecDepth 20000 in
theorem qX3_most_77 (d : Nat)  (x1 x2 x3 x4 : Int32) (μ : bwM) : eX3_most d 77 [some (.inr (.inr 0)), some (.inl x1), some (.inl x2), some (.inl x3), some (.inl x4)] [] μ = eX3_most d 29 [some (.inr (.inr 0)), some (.inl x1), some (.inl x2), some (.inl x3), some (.inl (x4 + (1 : Int32)))] [] μ := by
  exact (bw_ex_go [29, 74, 77] 4 77 _ _ _).trans rfl
noncomputable def eX3_likeliest (d pc : Nat) (ls : List (Option bwV)) (st : List bwV) (μ : bwM) : Option bwR := bw_ex (bw_call d) 0 bw_z 1 tX3_likeliest pc ls st μ
set_option maxRecDepth 20000 in
theorem qX3_likeliest (d : Nat)  (x1 : Int32) (μ : bwM) : bw_call (d + 1) 62 [.inr (.inr 0), .inl x1] μ = if x1 < 0 then some (some (.inl (-1 : Int32)), μ) else if x1 < (10 : Int32) then bw_bI (bw_call d 28 [.inr (.inr 2)] μ) none (fun r2 m1 => if r2 = 0 then some (some (.inl (-4 : Int32)), m1) else bw_bV (bw_call d 7 [.inr (.inr 24), .inr (.inr 2), .inl (x1 + (1 : Int32))] m1) none (fun m3 => if x1 < (m3.1 24 5) then if bw_in x1 10 then bw_bV (bw_call d 78 [.inr (.inr 0), .inl (m3.1 29 x1.toNatClampNeg)] m3) none (fun m4 => if bw_in x1 10 then bw_bV (bw_call d 76 [.inr (.inr 0), .inr (.inl (m4.2 28 x1.toNatClampNeg)), .inr (.inl (m4.2 24 10))] m4) none (fun m5 => some (some (.inl (1 : Int32)), m5)) else none) else none else some (some (.inl (0 : Int32)), m3))) else some (some (.inl (-1 : Int32)), μ) := by
  exact (bw_ex_go [] 42 0 _ _ _).trans rfl
noncomputable def eX3_at (d pc : Nat) (ls : List (Option bwV)) (st : List bwV) (μ : bwM) : Option bwR := bw_ex (bw_call d) 0 bw_z 1 tX3_at pc ls st μ
set_option maxRecDepth 20000 in
theorem qX3_at (d : Nat)  (x1 : Int32) (μ : bwM) : bw_call (d + 1) 63 [.inr (.inr 0), .inl x1] μ = if x1 < 0 then some (some (.inl (-2 : Int32)), μ) else if (μ.1 0 4) ≤ x1 then some (some (.inl (-2 : Int32)), μ) else if bw_in x1 12 then some (some (.inl (μ.1 1 x1.toNatClampNeg)), μ) else none := by
  exact (bw_ex_go [] 13 0 _ _ _).trans rfl
noncomputable def eX3_wholes (d pc : Nat) (ls : List (Option bwV)) (st : List bwV) (μ : bwM) : Option bwR := bw_ex (bw_call d) 0 bw_z 1 tX3_wholes pc ls st μ
set_option maxRecDepth 20000 in
theorem qX3_wholes (d : Nat)  (μ : bwM) : bw_call (d + 1) 64 [.inr (.inr 0)] μ = bw_bI (bw_call d 28 [.inr (.inr 2)] μ) none (fun r2 m1 => if r2 = 0 then some (some (.inl (-4 : Int32)), m1) else bw_bV (bw_call d 5 [.inr (.inr 24), .inr (.inr 2)] m1) none (fun m3 => some (some (.inl (m3.1 24 9)), m3))) := by
  exact (bw_ex_go [] 14 0 _ _ _).trans rfl
noncomputable def eX3_apart (d pc : Nat) (ls : List (Option bwV)) (st : List bwV) (μ : bwM) : Option bwR := bw_ex (bw_call d) 0 bw_z 1 tX3_apart pc ls st μ
set_option maxRecDepth 20000 in
theorem qX3_apart (d : Nat)  (x1 x2 : Int32) (μ : bwM) : bw_call (d + 1) 65 [.inr (.inr 0), .inl x1, .inl x2] μ = bw_bI (bw_call d 17 [.inr (.inr 2), .inl x1] μ) none (fun r2 m1 => if r2 = 0 then some (some (.inl (-1 : Int32)), m1) else bw_bI (bw_call d 17 [.inr (.inr 2), .inl x2] m1) none (fun r4 m3 => if r4 = 0 then some (some (.inl (-1 : Int32)), m3) else if x1 = x2 then some (some (.inl (0 : Int32)), m3) else bw_bI (bw_call d 36 [.inr (.inr 2), .inl x1, .inl x2] m3) none (fun r6 m5 => if r6 = 0 then some (some (.inl (1 : Int32)), m5) else some (some (.inl (0 : Int32)), m5)))) := by
  exact (bw_ex_go [] 23 0 _ _ _).trans rfl
noncomputable def eX3_options (d pc : Nat) (ls : List (Option bwV)) (st : List bwV) (μ : bwM) : Option bwR := bw_ex (bw_call d) 0 bw_z 1 tX3_options pc ls st μ
set_option maxRecDepth 20000 in
theorem qX3_options (d : Nat)  (x1 : Int32) (μ : bwM) : bw_call (d + 1) 66 [.inr (.inr 0), .inl x1] μ = if x1 < 0 then some (some (.inl (-1 : Int32)), μ) else if x1 ≤ (6 : Int32) then bw_bV (bw_call d 74 [.inr (.inr 0), .inl (6 : Int32), .inl x1, .inl (0 : Int32), .inl (0 : Int32), .inl (0 : Int32)] μ) none (fun m1 => some (some (.inl (μ.1 2 1)), m1)) else some (some (.inl (-1 : Int32)), μ) := by
  exact (bw_ex_go [] 19 0 _ _ _).trans rfl
noncomputable def eX3_worth (d pc : Nat) (ls : List (Option bwV)) (st : List bwV) (μ : bwM) : Option bwR := bw_ex (bw_call d) 0 bw_z 1 tX3_worth pc ls st μ
set_option maxRecDepth 20000 in
theorem qX3_worth (d : Nat)  (x1 x2 x3 x4 : Int32) (μ : bwM) : bw_call (d + 1) 67 [.inr (.inr 0), .inl x1, .inl x2, .inl x3, .inl x4] μ = bw_bI (bw_call d 21 [.inr (.inr 2), .inl x1] μ) none (fun r2 m1 => if r2 = 0 then some (some (.inl (10000 : Int32)), m1) else bw_bI (bw_call d 18 [.inr (.inr 2), .inl x2, .inl x3] m1) none (fun r4 m3 => if r4 = 0 then some (some (.inl (10000 : Int32)), m3) else if x4 < (-500 : Int32) then some (some (.inl (10000 : Int32)), m3) else if x4 ≤ (500 : Int32) then bw_bI (bw_call d 82 [.inl x1, .inl x2, .inl x3] m3) none (fun r6 m5 => if bw_in r6 288 then eX3_worth d 59 [some (.inr (.inr 0)), some (.inl x1), some (.inl x2), some (.inl x3), some (.inl x4), some (.inl (m5.1 11 r6.toNatClampNeg))] [] m5 else none) else some (some (.inl (10000 : Int32)), m3))) := by
  exact (bw_ex_go [59] 28 0 _ _ _).trans rfl
set_option maxRecDepth 20000 in
theorem qX3_worth_59 (d : Nat)  (x1 x2 x3 x4 x5 : Int32) (μ : bwM) : eX3_worth d 59 [some (.inr (.inr 0)), some (.inl x1), some (.inl x2), some (.inl x3), some (.inl x4), some (.inl x5)] [] μ = bw_bV (bw_call d 74 [.inr (.inr 0), .inl (7 : Int32), .inl x1, .inl x2, .inl x3, .inl x4] μ) none (fun m1 => some (some (.inl x5), m1)) := by
  exact (bw_ex_go [59] 10 59 _ _ _).trans rfl
noncomputable def eX3_expected (d pc : Nat) (ls : List (Option bwV)) (st : List bwV) (μ : bwM) : Option bwR := bw_ex (bw_call d) 0 bw_z 1 tX3_expected pc ls st μ
set_option maxRecDepth 20000 in
theorem qX3_expected (d : Nat)  (x1 : Int32) (μ : bwM) : bw_call (d + 1) 68 [.inr (.inr 0), .inl x1] μ = bw_bI (bw_call d 21 [.inr (.inr 2), .inl x1] μ) none (fun r2 m1 => if r2 = 0 then some (some (.inl (-1 : Int32)), m1) else bw_bI (bw_call d 75 [.inr (.inr 0)] m1) none (fun r4 m3 => if r4 = 0 then bw_bL (bw_call d 14 [.inr (.inr 24), .inr (.inr 2), .inl x1] m3) none (fun r6 m5 => bw_bV (bw_call d 76 [.inr (.inr 0), .inr (.inl r6), .inr (.inl (m5.2 24 10))] m5) none (fun m7 => some (some (.inl (1 : Int32)), m7))) else some (some (.inl r4), m3))) := by
  exact (bw_ex_go [] 24 0 _ _ _).trans rfl
noncomputable def eX3_best (d pc : Nat) (ls : List (Option bwV)) (st : List bwV) (μ : bwM) : Option bwR := bw_ex (bw_call d) 0 bw_z 1 tX3_best pc ls st μ
set_option maxRecDepth 20000 in
theorem qX3_best (d : Nat)  (μ : bwM) : bw_call (d + 1) 69 [.inr (.inr 0)] μ = if (μ.1 2 1) = 0 then some (some (.inl (-1 : Int32)), μ) else bw_bI (bw_call d 75 [.inr (.inr 0)] μ) none (fun r2 m1 => if r2 = 0 then bw_bI (bw_call d 15 [.inr (.inr 24), .inr (.inr 2)] m1) none (fun r4 m3 => bw_bL (bw_call d 14 [.inr (.inr 24), .inr (.inr 2), .inl r4] m3) none (fun r6 m5 => bw_bV (bw_call d 76 [.inr (.inr 0), .inr (.inl r6), .inr (.inl (m5.2 24 10))] m5) none (fun m7 => some (some (.inl r4), m7)))) else some (some (.inl r2), m1)) := by
  exact (bw_ex_go [] 29 0 _ _ _).trans rfl
noncomputable def eX3_gain (d pc : Nat) (ls : List (Option bwV)) (st : List bwV) (μ : bwM) : Option bwR := bw_ex (bw_call d) 0 bw_z 1 tX3_gain pc ls st μ
set_option maxRecDepth 20000 in
theorem qX3_gain (d : Nat)  (x1 : Int32) (μ : bwM) : bw_call (d + 1) 70 [.inr (.inr 0), .inl x1] μ = bw_bI (bw_call d 17 [.inr (.inr 2), .inl x1] μ) none (fun r2 m1 => if r2 = 0 then some (some (.inl (-1 : Int32)), m1) else if (m1.1 2 1) = 0 then some (some (.inl (-1 : Int32)), m1) else bw_bI (bw_call d 75 [.inr (.inr 0)] m1) none (fun r4 m3 => eX3_gain d 28 [some (.inr (.inr 0)), some (.inl x1), some (.inl r4), none, none, none, none] [] m3)) := by
  exact (bw_ex_go [28, 55, 78] 14 0 _ _ _).trans rfl
set_option maxRecDepth 20000 in
theorem qX3_gain_28 (d : Nat)  (x1 x2 : Int32) (μ : bwM) : eX3_gain d 28 [some (.inr (.inr 0)), some (.inl x1), some (.inl x2), none, none, none, none] [] μ = if x2 = 0 then bw_bL (bw_call d 16 [.inr (.inr 24), .inr (.inr 2)] μ) none (fun r2 m1 => eX3_gain d 55 [some (.inr (.inr 0)), some (.inl x1), some (.inl x2), some (.inr (.inl (μ.2 24 10))), none, some (.inr (.inl r2)), none] [] m1) else some (some (.inl x2), μ) := by
  exact (bw_ex_go [28, 55, 78] 14 28 _ _ _).trans rfl
set_option maxRecDepth 20000 in
theorem qX3_gain_55 (d : Nat)  (x1 x2 : Int32) (y3 y5 : Int64) (μ : bwM) : eX3_gain d 55 [some (.inr (.inr 0)), some (.inl x1), some (.inl x2), some (.inr (.inl y3)), none, some (.inr (.inl y5)), none] [] μ = bw_bI (bw_call d 22 [.inr (.inr 2), .inl x1] μ) none (fun r2 m1 => if r2 = 0 then eX3_gain d 78 [some (.inr (.inr 0)), some (.inl x1), some (.inl x2), some (.inr (.inl y3)), none, some (.inr (.inl y5)), none] [.inr (.inl (Int64.ofNat 0)), .inr (.inr 0)] m1 else bw_bL (bw_call d 79 [.inr (.inr 0), .inl x1, .inr (.inl y5)] m1) none (fun r4 m3 => eX3_gain d 78 [some (.inr (.inr 0)), some (.inl x1), some (.inl x2), some (.inr (.inl y3)), none, some (.inr (.inl y5)), none] [.inr (.inl r4), .inr (.inr 0)] m3)) := by
  exact (bw_ex_go [28, 55, 78] 13 55 _ _ _).trans rfl
set_option maxRecDepth 20000 in
theorem qX3_gain_78 (d : Nat)  (x1 x2 : Int32) (y3 y5 s1 : Int64) (μ : bwM) : eX3_gain d 78 [some (.inr (.inr 0)), some (.inl x1), some (.inl x2), some (.inr (.inl y3)), none, some (.inr (.inl y5)), none] [.inr (.inl s1), .inr (.inr 0)] μ = bw_bV (bw_call d 76 [.inr (.inr 0), .inr (.inl s1), .inr (.inl y3)] μ) none (fun m1 => some (some (.inl (1 : Int32)), m1)) := by
  exact (bw_ex_go [28, 55, 78] 5 78 _ _ _).trans rfl
noncomputable def eX3_next (d pc : Nat) (ls : List (Option bwV)) (st : List bwV) (μ : bwM) : Option bwR := bw_ex (bw_call d) 0 bw_z 1 tX3_next pc ls st μ
set_option maxRecDepth 20000 in
theorem qX3_next (d : Nat)  (μ : bwM) : bw_call (d + 1) 71 [.inr (.inr 0)] μ = if (μ.1 2 1) = 0 then some (some (.inl (-1 : Int32)), μ) else bw_bI (bw_call d 75 [.inr (.inr 0)] μ) none (fun r2 m1 => if r2 = 0 then eX3_next d 31 [some (.inr (.inr 0)), some (.inl r2), some (.inr (.inl (m1.2 24 10))), none, none, none, none, none, none, none, none, none] [] m1 else some (some (.inl r2), m1)) := by
  exact (bw_ex_go [31, 54, 88, 103, 111] 15 0 _ _ _).trans rfl
set_option maxRecDepth 20000 in
theorem qX3_next_31 (d : Nat)  (x1 : Int32) (y2 : Int64) (μ : bwM) : eX3_next d 31 [some (.inr (.inr 0)), some (.inl x1), some (.inr (.inl y2)), none, none, none, none, none, none, none, none, none] [] μ = bw_bL (bw_call d 16 [.inr (.inr 24), .inr (.inr 2)] μ) none (fun r2 m1 => eX3_next d 54 [some (.inr (.inr 0)), some (.inl x1), some (.inr (.inl y2)), none, some (.inr (.inl r2)), none, some (.inl (-6 : Int32)), some (.inr (.inl (Int64.ofNat 0))), none, some (.inl (0 : Int32)), none, none] [] m1) := by
  exact (bw_ex_go [31, 54, 88, 103, 111] 14 31 _ _ _).trans rfl
set_option maxRecDepth 20000 in
theorem qX3_next_54 (d : Nat)  (x1 x6 x9 : Int32) (y2 y4 y7 : Int64) (μ : bwM) : eX3_next d 54 [some (.inr (.inr 0)), some (.inl x1), some (.inr (.inl y2)), none, some (.inr (.inl y4)), none, some (.inl x6), some (.inr (.inl y7)), none, some (.inl x9), none, none] [] μ = if (μ.1 2 0) ≤ x9 then if x6 = (-6 : Int32) then some (some (.inl x6), μ) else bw_bV (bw_call d 76 [.inr (.inr 0), .inr (.inl y7), .inr (.inl y2)] μ) none (fun m1 => some (some (.inl x6), m1)) else bw_bI (bw_call d 22 [.inr (.inr 2), .inl x9] μ) none (fun r3 m2 => if r3 = 0 then eX3_next d 111 [some (.inr (.inr 0)), some (.inl x1), some (.inr (.inl y2)), none, some (.inr (.inl y4)), none, some (.inl x6), some (.inr (.inl y7)), none, some (.inl x9), none, none] [] m2 else bw_bL (bw_call d 79 [.inr (.inr 0), .inl x9, .inr (.inl y4)] m2) none (fun r5 m4 => eX3_next d 88 [some (.inr (.inr 0)), some (.inl x1), some (.inr (.inl y2)), none, some (.inr (.inl y4)), none, some (.inl x6), some (.inr (.inl y7)), none, some (.inl x9), some (.inr (.inl r5)), none] [] m4)) := by
  exact (bw_ex_go [31, 54, 88, 103, 111] 17 54 _ _ _).trans rfl
set_option maxRecDepth 20000 in
theorem qX3_next_88 (d : Nat)  (x1 x6 x9 : Int32) (y2 y4 y7 y10 : Int64) (μ : bwM) : eX3_next d 88 [some (.inr (.inr 0)), some (.inl x1), some (.inr (.inl y2)), none, some (.inr (.inl y4)), none, some (.inl x6), some (.inr (.inl y7)), none, some (.inl x9), some (.inr (.inl y10)), none] [] μ = if x6 = (-6 : Int32) then eX3_next d 103 [some (.inr (.inr 0)), some (.inl x1), some (.inr (.inl y2)), none, some (.inr (.inl y4)), none, some (.inl x6), some (.inr (.inl y7)), none, some (.inl x9), some (.inr (.inl y10)), none] [] μ else if (lg_cmp y10 y7) ≤ 0 then eX3_next d 111 [some (.inr (.inr 0)), some (.inl x1), some (.inr (.inl y2)), none, some (.inr (.inl y4)), none, some (.inl x6), some (.inr (.inl y7)), none, some (.inl x9), some (.inr (.inl y10)), none] [] μ else eX3_next d 103 [some (.inr (.inr 0)), some (.inl x1), some (.inr (.inl y2)), none, some (.inr (.inl y4)), none, some (.inl x6), some (.inr (.inl y7)), none, some (.inl x9), some (.inr (.inl y10)), none] [] μ := by
  exact (bw_ex_go [31, 54, 88, 103, 111] 9 88 _ _ _).trans rfl
set_option maxRecDepth 20000 in
theorem qX3_next_103 (d : Nat)  (x1 x6 x9 : Int32) (y2 y4 y7 y10 : Int64) (μ : bwM) : eX3_next d 103 [some (.inr (.inr 0)), some (.inl x1), some (.inr (.inl y2)), none, some (.inr (.inl y4)), none, some (.inl x6), some (.inr (.inl y7)), none, some (.inl x9), some (.inr (.inl y10)), none] [] μ = eX3_next d 111 [some (.inr (.inr 0)), some (.inl x1), some (.inr (.inl y2)), none, some (.inr (.inl y4)), none, some (.inl x9), some (.inr (.inl y10)), none, some (.inl x9), some (.inr (.inl y10)), none] [] μ := by
  exact (bw_ex_go [31, 54, 88, 103, 111] 6 103 _ _ _).trans rfl
set_option maxRecDepth 20000 in
theorem qX3_next_111 (d : Nat)  (x1 x6 x9 : Int32) (y2 y4 y7 : Int64) (o10 : Option bwV) (μ : bwM) : eX3_next d 111 [some (.inr (.inr 0)), some (.inl x1), some (.inr (.inl y2)), none, some (.inr (.inl y4)), none, some (.inl x6), some (.inr (.inl y7)), none, some (.inl x9), o10, none] [] μ = eX3_next d 54 [some (.inr (.inr 0)), some (.inl x1), some (.inr (.inl y2)), none, some (.inr (.inl y4)), none, some (.inl x6), some (.inr (.inl y7)), none, some (.inl (x9 + (1 : Int32))), none, none] [] μ := by
  exact (bw_ex_go [31, 54, 88, 103, 111] 4 111 _ _ _).trans rfl
noncomputable def eX3_undo (d pc : Nat) (ls : List (Option bwV)) (st : List bwV) (μ : bwM) : Option bwR := bw_ex (bw_call d) 0 bw_z 1 tX3_undo pc ls st μ
set_option maxRecDepth 20000 in
theorem qX3_undo (d : Nat)  (μ : bwM) : bw_call (d + 1) 72 [.inr (.inr 0)] μ = if (μ.1 22 3) = 0 then some (some (.inl (-1 : Int32)), μ) else bw_bV (bw_call d 2 [.inr (.inr 22), .inr (.inr 2)] μ) none (fun m1 => some (some (.inl (m1.1 22 3)), m1)) := by
  exact (bw_ex_go [] 14 0 _ _ _).trans rfl
noncomputable def eX3_count (d pc : Nat) (ls : List (Option bwV)) (st : List bwV) (μ : bwM) : Option bwR := bw_ex (bw_call d) 0 bw_z 1 tX3_count pc ls st μ
set_option maxRecDepth 20000 in
theorem qX3_count (d : Nat)  (x1 : Int32) (μ : bwM) : bw_call (d + 1) 73 [.inr (.inr 0), .inl x1] μ = if x1 = (0 : Int32) then some (some (.inl (μ.1 2 0)), μ) else if x1 = (1 : Int32) then bw_bI (bw_call d 25 [.inr (.inr 2)] μ) none (fun r2 m1 => some (some (.inl r2), m1)) else if x1 = (2 : Int32) then some (some (.inl (μ.1 2 1)), μ) else if x1 = (3 : Int32) then some (some (.inl (μ.1 22 3)), μ) else some (some (.inl (-1 : Int32)), μ) := by
  exact (bw_ex_go [] 7 0 _ _ _).trans rfl
noncomputable def eX3_carryOut (d pc : Nat) (ls : List (Option bwV)) (st : List bwV) (μ : bwM) : Option bwR := bw_ex (bw_call d) 0 bw_z 0 tX3_carryOut pc ls st μ
set_option maxRecDepth 20000 in
theorem qX3_carryOut (d : Nat)  (x1 x2 x3 x4 x5 : Int32) (μ : bwM) : bw_call (d + 1) 74 [.inr (.inr 0), .inl x1, .inl x2, .inl x3, .inl x4, .inl x5] μ = bw_bV (bw_call d 1 [.inr (.inr 22), .inl x1, .inl x2, .inl x3, .inl x4, .inl x5] μ) none (fun m1 => bw_bV (bw_call d 38 [.inr (.inr 2), .inl x1, .inl x2, .inl x3, .inl x4, .inl x5] m1) none (fun m2 => some (none, m2))) := by
  exact (bw_ex_go [] 18 0 _ _ _).trans rfl
noncomputable def eX3_trouble (d pc : Nat) (ls : List (Option bwV)) (st : List bwV) (μ : bwM) : Option bwR := bw_ex (bw_call d) 0 bw_z 1 tX3_trouble pc ls st μ
set_option maxRecDepth 20000 in
theorem qX3_trouble (d : Nat)  (μ : bwM) : bw_call (d + 1) 75 [.inr (.inr 0)] μ = bw_bI (bw_call d 28 [.inr (.inr 2)] μ) none (fun r2 m1 => if r2 = 0 then some (some (.inl (-4 : Int32)), m1) else bw_bV (bw_call d 5 [.inr (.inr 24), .inr (.inr 2)] m1) none (fun m3 => if (lg_cmp (m3.2 24 10) (Int64.ofNat 0)) = 0 then some (some (.inl (-5 : Int32)), m3) else some (some (.inl (0 : Int32)), m3))) := by
  exact (bw_ex_go [] 19 0 _ _ _).trans rfl
noncomputable def eX3_tell (d pc : Nat) (ls : List (Option bwV)) (st : List bwV) (μ : bwM) : Option bwR := bw_ex (bw_call d) 0 bw_z 0 tX3_tell pc ls st μ
set_option maxRecDepth 20000 in
theorem qX3_tell (d : Nat)  (y1 y3 : Int64) (μ : bwM) : bw_call (d + 1) 76 [.inr (.inr 0), .inr (.inl y1), .inr (.inl y3)] μ = if 0 < (lg_cmp y3 (Int64.ofNat 0)) then bw_bL (bw_call d 77 [.inr (.inl (if 0 < y1 then y1 else -y1)), .inr (.inl y3)] μ) none (fun r2 m1 => if (lg_cmp r2 (Int64.ofNat 0)) ≤ 0 then some (none, m1) else eX3_tell d 24 [some (.inr (.inr 0)), some (.inr (.inl y1)), none, some (.inr (.inl y3)), none, some (.inr (.inl r2)), none] [] m1) else some (none, μ) := by
  exact (bw_ex_go [24] 15 0 _ _ _).trans rfl
set_option maxRecDepth 20000 in
theorem qX3_tell_24 (d : Nat)  (y1 y3 y5 : Int64) (μ : bwM) : eX3_tell d 24 [some (.inr (.inr 0)), some (.inr (.inl y1)), none, some (.inr (.inl y3)), none, some (.inr (.inl y5)), none] [] μ = if y5 = 0 then none else if y5 = 0 then none else some (none, bw_sl (bw_sl μ 0 5 (y1 / y5)) 0 6 (y3 / y5)) := by
  exact (bw_ex_go [24] 12 24 _ _ _).trans rfl
noncomputable def eX3_commonDivisor (d pc : Nat) (ls : List (Option bwV)) (st : List bwV) (μ : bwM) : Option bwR := bw_ex (bw_call d) 0 bw_z 2 tX3_commonDivisor pc ls st μ
set_option maxRecDepth 20000 in
theorem qX3_commonDivisor (d : Nat)  (y0 y2 : Int64) (μ : bwM) : bw_call (d + 1) 77 [.inr (.inl y0), .inr (.inl y2)] μ = eX3_commonDivisor d 9 [some (.inr (.inl y0)), none, some (.inr (.inl y2)), none, some (.inr (.inl y0)), none, some (.inr (.inl y2)), none, some (.inl (0 : Int32)), none, none] [] μ := by
  exact (bw_ex_go [9, 34] 8 0 _ _ _).trans rfl
set_option maxRecDepth 20000 in
theorem qX3_commonDivisor_9 (d : Nat)  (x8 : Int32) (y0 y2 y4 y6 : Int64) (o9 : Option bwV) (μ : bwM) : eX3_commonDivisor d 9 [some (.inr (.inl y0)), none, some (.inr (.inl y2)), none, some (.inr (.inl y4)), none, some (.inr (.inl y6)), none, some (.inl x8), o9, none] [] μ = if (100 : Int32) ≤ x8 then some (some (.inr (.inl y4)), μ) else if (lg_cmp y6 (Int64.ofNat 0)) = 0 then some (some (.inr (.inl y4)), μ) else if y6 = 0 then none else eX3_commonDivisor d 34 [some (.inr (.inl y0)), none, some (.inr (.inl y2)), none, some (.inr (.inl y6)), none, some (.inr (.inl y6)), none, some (.inl x8), some (.inr (.inl (y4 - y4 / y6 * y6))), none] [] μ := by
  exact (bw_ex_go [9, 34] 15 9 _ _ _).trans rfl
set_option maxRecDepth 20000 in
theorem qX3_commonDivisor_34 (d : Nat)  (x8 : Int32) (y0 y2 y4 y6 y9 : Int64) (μ : bwM) : eX3_commonDivisor d 34 [some (.inr (.inl y0)), none, some (.inr (.inl y2)), none, some (.inr (.inl y4)), none, some (.inr (.inl y6)), none, some (.inl x8), some (.inr (.inl y9)), none] [] μ = eX3_commonDivisor d 9 [some (.inr (.inl y0)), none, some (.inr (.inl y2)), none, some (.inr (.inl y4)), none, some (.inr (.inl y9)), none, some (.inl (x8 + (1 : Int32))), some (.inr (.inl y9)), none] [] μ := by
  exact (bw_ex_go [9, 34] 6 34 _ _ _).trans rfl
noncomputable def eX3_show (d pc : Nat) (ls : List (Option bwV)) (st : List bwV) (μ : bwM) : Option bwR := bw_ex (bw_call d) 0 bw_z 0 tX3_show pc ls st μ
set_option maxRecDepth 20000 in
theorem qX3_show (d : Nat)  (x1 : Int32) (μ : bwM) : bw_call (d + 1) 78 [.inr (.inr 0), .inl x1] μ = eX3_show d 20 [some (.inr (.inr 0)), some (.inl x1), some (.inl x1), some (.inl (((bw_si μ 0 4 (μ.1 2 0)).1 0 4) - (1 : Int32)))] [] (bw_si μ 0 4 (μ.1 2 0)) := by
  exact (bw_ex_go [20] 14 0 _ _ _).trans rfl
set_option maxRecDepth 20000 in
theorem qX3_show_20 (d : Nat)  (x1 x2 x3 : Int32) (μ : bwM) : eX3_show d 20 [some (.inr (.inr 0)), some (.inl x1), some (.inl x2), some (.inl x3)] [] μ = if x3 < 0 then some (none, μ) else if bw_in x3 12 then eX3_show d 20 [some (.inr (.inr 0)), some (.inl x1), some (.inl (x2 >>> ((2 : Int32) &&& 31))), some (.inl (x3 + (-1 : Int32)))] [] (bw_si μ 1 x3.toNatClampNeg (x2 &&& (3 : Int32))) else none := by
  exact (bw_ex_go [20] 17 20 _ _ _).trans rfl
noncomputable def eX3_gainSum (d pc : Nat) (ls : List (Option bwV)) (st : List bwV) (μ : bwM) : Option bwR := bw_ex (bw_call d) 0 bw_z 2 tX3_gainSum pc ls st μ
set_option maxRecDepth 20000 in
theorem qX3_gainSum (d : Nat)  (x1 : Int32) (y2 : Int64) (μ : bwM) : bw_call (d + 1) 79 [.inr (.inr 0), .inl x1, .inr (.inl y2)] μ = eX3_gainSum d 6 [some (.inr (.inr 0)), some (.inl x1), some (.inr (.inl y2)), none, some (.inr (.inl (Int64.ofNat 0))), none, some (.inl (0 : Int32))] [] μ := by
  exact (bw_ex_go [6, 34] 6 0 _ _ _).trans rfl
set_option maxRecDepth 20000 in
theorem qX3_gainSum_6 (d : Nat)  (x1 x6 : Int32) (y2 y4 : Int64) (μ : bwM) : eX3_gainSum d 6 [some (.inr (.inr 0)), some (.inl x1), some (.inr (.inl y2)), none, some (.inr (.inl y4)), none, some (.inl x6)] [] μ = if bw_in x1 12 then if (μ.1 3 x1.toNatClampNeg) ≤ x6 then some (some (.inr (.inl (y4 - y2))), μ) else bw_bV (bw_call d 6 [.inr (.inr 24), .inr (.inr 2), .inl x1, .inl x6] μ) none (fun m1 => eX3_gainSum d 34 [some (.inr (.inr 0)), some (.inl x1), some (.inr (.inl y2)), none, some (.inr (.inl y4)), none, some (.inl x6)] [] m1) else none := by
  exact (bw_ex_go [6, 34] 16 6 _ _ _).trans rfl
set_option maxRecDepth 20000 in
theorem qX3_gainSum_34 (d : Nat)  (x1 x6 : Int32) (y2 y4 : Int64) (μ : bwM) : eX3_gainSum d 34 [some (.inr (.inr 0)), some (.inl x1), some (.inr (.inl y2)), none, some (.inr (.inl y4)), none, some (.inl x6)] [] μ = bw_bL (bw_call d 16 [.inr (.inr 24), .inr (.inr 2)] μ) none (fun r2 m1 => eX3_gainSum d 6 [some (.inr (.inr 0)), some (.inl x1), some (.inr (.inl y2)), none, some (.inr (.inl (y4 + r2))), none, some (.inl (x6 + (1 : Int32)))] [] m1) := by
  exact (bw_ex_go [6, 34] 12 34 _ _ _).trans rfl
noncomputable def eX3_slot (d pc : Nat) (ls : List (Option bwV)) (st : List bwV) (μ : bwM) : Option bwR := bw_ex (bw_call d) 0 bw_z 1 tX3_slot pc ls st μ
set_option maxRecDepth 20000 in
theorem qX3_slot (d : Nat)  (x0 x1 : Int32) (μ : bwM) : bw_call (d + 1) 80 [.inl x0, .inl x1] μ = some (some (.inl ((x0 * (4 : Int32)) + x1)), μ) := by
  exact (bw_ex_go [] 7 0 _ _ _).trans rfl
noncomputable def eX3_weightSlot (d pc : Nat) (ls : List (Option bwV)) (st : List bwV) (μ : bwM) : Option bwR := bw_ex (bw_call d) 0 bw_z 1 tX3_weightSlot pc ls st μ
set_option maxRecDepth 20000 in
theorem qX3_weightSlot (d : Nat)  (x0 x1 x2 : Int32) (μ : bwM) : bw_call (d + 1) 81 [.inl x0, .inl x1, .inl x2] μ = some (some (.inl (((x0 * (256 : Int32)) + (x1 * (4 : Int32))) + x2)), μ) := by
  exact (bw_ex_go [] 11 0 _ _ _).trans rfl
noncomputable def eX3_worthSlot (d pc : Nat) (ls : List (Option bwV)) (st : List bwV) (μ : bwM) : Option bwR := bw_ex (bw_call d) 0 bw_z 1 tX3_worthSlot pc ls st μ
set_option maxRecDepth 20000 in
theorem qX3_worthSlot (d : Nat)  (x0 x1 x2 : Int32) (μ : bwM) : bw_call (d + 1) 82 [.inl x0, .inl x1, .inl x2] μ = bw_bI (bw_call d 80 [.inl x1, .inl x2] μ) none (fun r2 m1 => some (some (.inl ((x0 * (48 : Int32)) + r2)), m1)) := by
  exact (bw_ex_go [] 9 0 _ _ _).trans rfl
noncomputable def eX3_parentSlot (d pc : Nat) (ls : List (Option bwV)) (st : List bwV) (μ : bwM) : Option bwR := bw_ex (bw_call d) 0 bw_z 1 tX3_parentSlot pc ls st μ
set_option maxRecDepth 20000 in
theorem qX3_parentSlot (d : Nat)  (x0 x1 : Int32) (μ : bwM) : bw_call (d + 1) 83 [.inl x0, .inl x1] μ = some (some (.inl ((x0 * (3 : Int32)) + x1)), μ) := by
  exact (bw_ex_go [] 7 0 _ _ _).trans rfl
noncomputable def eX3_isIn (d pc : Nat) (ls : List (Option bwV)) (st : List bwV) (μ : bwM) : Option bwR := bw_ex (bw_call d) 0 bw_z 3 tX3_isIn pc ls st μ
set_option maxRecDepth 20000 in
theorem qX3_isIn (d : Nat)  (x0 x1 : Int32) (μ : bwM) : bw_call (d + 1) 84 [.inl x0, .inl x1] μ = if ((x0 >>> (x1 &&& 31)) &&& (1 : Int32)) = 0 then if (0 : Int32) = 0 ∨ (0 : Int32) = 1 then some (some (.inl (0 : Int32)), μ) else none else if (1 : Int32) = 0 ∨ (1 : Int32) = 1 then some (some (.inl (1 : Int32)), μ) else none := by
  exact (bw_ex_go [] 10 0 _ _ _).trans rfl
end
section
noncomputable def eX4_isThing (d pc : Nat) (ls : List (Option bwV)) (st : List bwV) (μ : bwM) : Option bwR := bw_ex (bw_call d) 0 bw_z 3 tX4_isThing pc ls st μ
set_option maxRecDepth 20000 in
theorem qX4_isThing (d : Nat)  (x1 : Int32) (μ : bwM) : bw_call (d + 1) 85 [.inr (.inr 30), .inl x1] μ = if x1 < 0 then if (0 : Int32) = 0 ∨ (0 : Int32) = 1 then some (some (.inl (0 : Int32)), μ) else none else if (μ.1 30 1) ≤ x1 then if (0 : Int32) = 0 ∨ (0 : Int32) = 1 then some (some (.inl (0 : Int32)), μ) else none else if (1 : Int32) = 0 ∨ (1 : Int32) = 1 then some (some (.inl (1 : Int32)), μ) else none := by
  exact (bw_ex_go [] 10 0 _ _ _).trans rfl
noncomputable def eX4_isValue (d pc : Nat) (ls : List (Option bwV)) (st : List bwV) (μ : bwM) : Option bwR := bw_ex (bw_call d) 0 bw_z 3 tX4_isValue pc ls st μ
set_option maxRecDepth 20000 in
theorem qX4_isValue (d : Nat)  (x1 x2 : Int32) (μ : bwM) : bw_call (d + 1) 86 [.inr (.inr 30), .inl x1, .inl x2] μ = bw_bI (bw_call d 85 [.inr (.inr 30), .inl x1] μ) none (fun r2 m1 => if r2 = 0 then if (0 : Int32) = 0 ∨ (0 : Int32) = 1 then some (some (.inl (0 : Int32)), m1) else none else if x2 < 0 then if (0 : Int32) = 0 ∨ (0 : Int32) = 1 then some (some (.inl (0 : Int32)), m1) else none else if bw_in x1 12 then if (m1.1 31 x1.toNatClampNeg) ≤ x2 then if (0 : Int32) = 0 ∨ (0 : Int32) = 1 then some (some (.inl (0 : Int32)), m1) else none else if (1 : Int32) = 0 ∨ (1 : Int32) = 1 then some (some (.inl (1 : Int32)), m1) else none else none) := by
  exact (bw_ex_go [] 16 0 _ _ _).trans rfl
noncomputable def eX4_rows (d pc : Nat) (ls : List (Option bwV)) (st : List bwV) (μ : bwM) : Option bwR := bw_ex (bw_call d) 0 bw_z 1 tX4_rows pc ls st μ
set_option maxRecDepth 20000 in
theorem qX4_rows (d : Nat)  (x1 : Int32) (μ : bwM) : bw_call (d + 1) 87 [.inr (.inr 30), .inl x1] μ = eX4_rows d 4 [some (.inr (.inr 30)), some (.inl x1), some (.inl (1 : Int32)), some (.inl (0 : Int32))] [] μ := by
  exact (bw_ex_go [4] 6 0 _ _ _).trans rfl
set_option maxRecDepth 20000 in
theorem qX4_rows_4 (d : Nat)  (x1 x2 x3 : Int32) (μ : bwM) : eX4_rows d 4 [some (.inr (.inr 30)), some (.inl x1), some (.inl x2), some (.inl x3)] [] μ = if bw_in x1 12 then if (μ.1 33 x1.toNatClampNeg) ≤ x3 then some (some (.inl x2), μ) else if bw_in (((3 : Int32) * x1) + x3) 36 then if bw_in (μ.1 34 (((3 : Int32) * x1) + x3).toNatClampNeg) 12 then eX4_rows d 4 [some (.inr (.inr 30)), some (.inl x1), some (.inl (x2 * (μ.1 31 (μ.1 34 (((3 : Int32) * x1) + x3).toNatClampNeg).toNatClampNeg))), some (.inl (x3 + (1 : Int32)))] [] μ else none else none else none := by
  exact (bw_ex_go [4] 24 4 _ _ _).trans rfl
noncomputable def eX4_thing (d pc : Nat) (ls : List (Option bwV)) (st : List bwV) (μ : bwM) : Option bwR := bw_ex (bw_call d) 0 bw_z 1 tX4_thing pc ls st μ
set_option maxRecDepth 20000 in
theorem qX4_thing (d : Nat)  (x1 x2 : Int32) (μ : bwM) : bw_call (d + 1) 88 [.inr (.inr 30), .inl x1, .inl x2] μ = if x1 < (2 : Int32) then some (some (.inl (-1 : Int32)), μ) else if (4 : Int32) < x1 then some (some (.inl (-1 : Int32)), μ) else if x2 < (1 : Int32) then some (some (.inl (-1 : Int32)), μ) else if x2 ≤ (100 : Int32) then eX4_thing d 23 [some (.inr (.inr 30)), some (.inl x1), some (.inl x2), none, none, none, none, none, none, none] [] μ else some (some (.inl (-1 : Int32)), μ) := by
  exact (bw_ex_go [23, 33, 53, 89, 115, 139, 150, 169, 178, 188, 213, 241] 15 0 _ _ _).trans rfl
set_option maxRecDepth 20000 in
theorem qX4_thing_23 (d : Nat)  (x1 x2 : Int32) (μ : bwM) : eX4_thing d 23 [some (.inr (.inr 30)), some (.inl x1), some (.inl x2), none, none, none, none, none, none, none] [] μ = eX4_thing d 33 [some (.inr (.inr 30)), some (.inl x1), some (.inl x2), some (.inr (.inl (x1.toInt64))), none, some (.inr (.inl (x2.toInt64))), none, some (.inl (0 : Int32)), none, none] [] μ := by
  exact (bw_ex_go [23, 33, 53, 89, 115, 139, 150, 169, 178, 188, 213, 241] 10 23 _ _ _).trans rfl
set_option maxRecDepth 20000 in
theorem qX4_thing_33 (d : Nat)  (x1 x2 x7 : Int32) (y3 y5 : Int64) (μ : bwM) : eX4_thing d 33 [some (.inr (.inr 30)), some (.inl x1), some (.inl x2), some (.inr (.inl y3)), none, some (.inr (.inl y5)), none, some (.inl x7), none, none] [] μ = if (μ.1 30 1) ≤ x7 then if (μ.1 30 1) = (12 : Int32) then some (some (.inl (-3 : Int32)), μ) else if 0 < (lg_cmp y3 (Int64.ofNat 20000)) then some (some (.inl (-3 : Int32)), μ) else eX4_thing d 89 [some (.inr (.inr 30)), some (.inl x1), some (.inl x2), some (.inr (.inl y3)), none, some (.inr (.inl y5)), none, some (.inl x7), none, none] [] μ else if bw_in x7 12 then eX4_thing d 53 [some (.inr (.inr 30)), some (.inl x1), some (.inl x2), some (.inr (.inl (y3 * ((μ.1 31 x7.toNatClampNeg).toInt64)))), none, some (.inr (.inl y5)), none, some (.inl x7), none, none] [] μ else none := by
  exact (bw_ex_go [23, 33, 53, 89, 115, 139, 150, 169, 178, 188, 213, 241] 15 33 _ _ _).trans rfl
set_option maxRecDepth 20000 in
theorem qX4_thing_53 (d : Nat)  (x1 x2 x7 : Int32) (y3 y5 : Int64) (μ : bwM) : eX4_thing d 53 [some (.inr (.inr 30)), some (.inl x1), some (.inl x2), some (.inr (.inl y3)), none, some (.inr (.inl y5)), none, some (.inl x7), none, none] [] μ = if bw_in x7 12 then eX4_thing d 33 [some (.inr (.inr 30)), some (.inl x1), some (.inl x2), some (.inr (.inl y3)), none, some (.inr (.inl (y5 * ((μ.1 32 x7.toNatClampNeg).toInt64)))), none, some (.inl (x7 + (1 : Int32))), none, none] [] μ else none := by
  exact (bw_ex_go [23, 33, 53, 89, 115, 139, 150, 169, 178, 188, 213, 241] 12 53 _ _ _).trans rfl
set_option maxRecDepth 20000 in
theorem qX4_thing_89 (d : Nat)  (x1 x2 x7 : Int32) (y3 y5 : Int64) (μ : bwM) : eX4_thing d 89 [some (.inr (.inr 30)), some (.inl x1), some (.inl x2), some (.inr (.inl y3)), none, some (.inr (.inl y5)), none, some (.inl x7), none, none] [] μ = if (lg_cmp y5 (Int64.ofNat 1000000000)) ≤ 0 then if bw_in (μ.1 30 1) 12 then eX4_thing d 115 [some (.inr (.inr 30)), some (.inl x1), some (.inl x2), some (.inr (.inl y3)), none, some (.inr (.inl y5)), none, some (.inl (μ.1 30 1)), none, none] [] (bw_si μ 31 (μ.1 30 1).toNatClampNeg x1) else none else some (some (.inl (-3 : Int32)), μ) := by
  exact (bw_ex_go [23, 33, 53, 89, 115, 139, 150, 169, 178, 188, 213, 241] 14 89 _ _ _).trans rfl
set_option maxRecDepth 20000 in
theorem qX4_thing_115 (d : Nat)  (x1 x2 x7 : Int32) (y3 y5 : Int64) (μ : bwM) : eX4_thing d 115 [some (.inr (.inr 30)), some (.inl x1), some (.inl x2), some (.inr (.inl y3)), none, some (.inr (.inl y5)), none, some (.inl x7), none, none] [] μ = if bw_in x7 12 then if bw_in x7 12 then if bw_in x7 12 then eX4_thing d 139 [some (.inr (.inr 30)), some (.inl x1), some (.inl x2), some (.inr (.inl y3)), none, some (.inr (.inl y5)), none, some (.inl x7), none, none] [] (bw_si (bw_si (bw_si μ 32 x7.toNatClampNeg x2) 33 x7.toNatClampNeg (0 : Int32)) 36 x7.toNatClampNeg (-1 : Int32)) else none else none else none := by
  exact (bw_ex_go [23, 33, 53, 89, 115, 139, 150, 169, 178, 188, 213, 241] 17 115 _ _ _).trans rfl
set_option maxRecDepth 20000 in
theorem qX4_thing_139 (d : Nat)  (x1 x2 x7 : Int32) (y3 y5 : Int64) (μ : bwM) : eX4_thing d 139 [some (.inr (.inr 30)), some (.inl x1), some (.inl x2), some (.inr (.inl y3)), none, some (.inr (.inl y5)), none, some (.inl x7), none, none] [] μ = if bw_in x7 12 then eX4_thing d 150 [some (.inr (.inr 30)), some (.inl x1), some (.inl x2), some (.inr (.inl y3)), none, some (.inr (.inl y5)), none, some (.inl x7), some (.inl (0 : Int32)), none] [] (bw_si μ 37 x7.toNatClampNeg (-1 : Int32)) else none := by
  exact (bw_ex_go [23, 33, 53, 89, 115, 139, 150, 169, 178, 188, 213, 241] 9 139 _ _ _).trans rfl
set_option maxRecDepth 20000 in
theorem qX4_thing_150 (d : Nat)  (x1 x2 x7 x8 : Int32) (y3 y5 : Int64) (μ : bwM) : eX4_thing d 150 [some (.inr (.inr 30)), some (.inl x1), some (.inl x2), some (.inr (.inl y3)), none, some (.inr (.inl y5)), none, some (.inl x7), some (.inl x8), none] [] μ = if (4 : Int32) ≤ x8 then eX4_thing d 178 [some (.inr (.inr 30)), some (.inl x1), some (.inl x2), some (.inr (.inl y3)), none, some (.inr (.inl y5)), none, some (.inl x7), some (.inl (0 : Int32)), none] [] μ else if bw_in (((4 : Int32) * x7) + x8) 48 then eX4_thing d 169 [some (.inr (.inr 30)), some (.inl x1), some (.inl x2), some (.inr (.inl y3)), none, some (.inr (.inl y5)), none, some (.inl x7), some (.inl x8), none] [] (bw_si μ 38 (((4 : Int32) * x7) + x8).toNatClampNeg (1 : Int32)) else none := by
  exact (bw_ex_go [23, 33, 53, 89, 115, 139, 150, 169, 178, 188, 213, 241] 14 150 _ _ _).trans rfl
set_option maxRecDepth 20000 in
theorem qX4_thing_169 (d : Nat)  (x1 x2 x7 x8 : Int32) (y3 y5 : Int64) (μ : bwM) : eX4_thing d 169 [some (.inr (.inr 30)), some (.inl x1), some (.inl x2), some (.inr (.inl y3)), none, some (.inr (.inl y5)), none, some (.inl x7), some (.inl x8), none] [] μ = eX4_thing d 150 [some (.inr (.inr 30)), some (.inl x1), some (.inl x2), some (.inr (.inl y3)), none, some (.inr (.inl y5)), none, some (.inl x7), some (.inl (x8 + (1 : Int32))), none] [] μ := by
  exact (bw_ex_go [23, 33, 53, 89, 115, 139, 150, 169, 178, 188, 213, 241] 4 169 _ _ _).trans rfl
set_option maxRecDepth 20000 in
theorem qX4_thing_178 (d : Nat)  (x1 x2 x7 x8 : Int32) (y3 y5 : Int64) (o9 : Option bwV) (μ : bwM) : eX4_thing d 178 [some (.inr (.inr 30)), some (.inl x1), some (.inl x2), some (.inr (.inl y3)), none, some (.inr (.inl y5)), none, some (.inl x7), some (.inl x8), o9] [] μ = if (6 : Int32) ≤ x8 then bw_bV (bw_call d 89 [.inr (.inr 30), .inl x7] (bw_si μ 30 1 ((μ.1 30 1) + (1 : Int32)))) none (fun m1 => eX4_thing d 241 [some (.inr (.inr 30)), some (.inl x1), some (.inl x2), some (.inr (.inl y3)), none, some (.inr (.inl y5)), none, some (.inl x7), some (.inl x8), none] [] m1) else eX4_thing d 188 [some (.inr (.inr 30)), some (.inl x1), some (.inl x2), some (.inr (.inl y3)), none, some (.inr (.inl y5)), none, some (.inl x7), some (.inl x8), some (.inl (0 : Int32))] [] μ := by
  exact (bw_ex_go [23, 33, 53, 89, 115, 139, 150, 169, 178, 188, 213, 241] 14 178 _ _ _).trans rfl
set_option maxRecDepth 20000 in
theorem qX4_thing_188 (d : Nat)  (x1 x2 x7 x8 x9 : Int32) (y3 y5 : Int64) (μ : bwM) : eX4_thing d 188 [some (.inr (.inr 30)), some (.inl x1), some (.inl x2), some (.inr (.inl y3)), none, some (.inr (.inl y5)), none, some (.inl x7), some (.inl x8), some (.inl x9)] [] μ = if (4 : Int32) ≤ x9 then eX4_thing d 178 [some (.inr (.inr 30)), some (.inl x1), some (.inl x2), some (.inr (.inl y3)), none, some (.inr (.inl y5)), none, some (.inl x7), some (.inl (x8 + (1 : Int32))), some (.inl x9)] [] μ else if bw_in ((((48 : Int32) * x8) + ((4 : Int32) * x7)) + x9) 288 then eX4_thing d 213 [some (.inr (.inr 30)), some (.inl x1), some (.inl x2), some (.inr (.inl y3)), none, some (.inr (.inl y5)), none, some (.inl x7), some (.inl x8), some (.inl x9)] [] (bw_si μ 39 ((((48 : Int32) * x8) + ((4 : Int32) * x7)) + x9).toNatClampNeg (0 : Int32)) else none := by
  exact (bw_ex_go [23, 33, 53, 89, 115, 139, 150, 169, 178, 188, 213, 241] 18 188 _ _ _).trans rfl
set_option maxRecDepth 20000 in
theorem qX4_thing_213 (d : Nat)  (x1 x2 x7 x8 x9 : Int32) (y3 y5 : Int64) (μ : bwM) : eX4_thing d 213 [some (.inr (.inr 30)), some (.inl x1), some (.inl x2), some (.inr (.inl y3)), none, some (.inr (.inl y5)), none, some (.inl x7), some (.inl x8), some (.inl x9)] [] μ = eX4_thing d 188 [some (.inr (.inr 30)), some (.inl x1), some (.inl x2), some (.inr (.inl y3)), none, some (.inr (.inl y5)), none, some (.inl x7), some (.inl x8), some (.inl (x9 + (1 : Int32)))] [] μ := by
  exact (bw_ex_go [23, 33, 53, 89, 115, 139, 150, 169, 178, 188, 213, 241] 4 213 _ _ _).trans rfl
set_option maxRecDepth 20000 in
theorem qX4_thing_241 (d : Nat)  (x1 x2 x7 x8 : Int32) (y3 y5 : Int64) (μ : bwM) : eX4_thing d 241 [some (.inr (.inr 30)), some (.inl x1), some (.inl x2), some (.inr (.inl y3)), none, some (.inr (.inl y5)), none, some (.inl x7), some (.inl x8), none] [] μ = some (some (.inl x7), bw_si μ 30 25 (0 : Int32)) := by
  exact (bw_ex_go [23, 33, 53, 89, 115, 139, 150, 169, 178, 188, 213, 241] 6 241 _ _ _).trans rfl
noncomputable def eX4_plainTable (d pc : Nat) (ls : List (Option bwV)) (st : List bwV) (μ : bwM) : Option bwR := bw_ex (bw_call d) 0 bw_z 0 tX4_plainTable pc ls st μ
set_option maxRecDepth 20000 in
theorem qX4_plainTable (d : Nat)  (x1 : Int32) (μ : bwM) : bw_call (d + 1) 89 [.inr (.inr 30), .inl x1] μ = eX4_plainTable d 2 [some (.inr (.inr 30)), some (.inl x1), some (.inl (0 : Int32)), none] [] μ := by
  exact (bw_ex_go [2, 10, 44] 4 0 _ _ _).trans rfl
set_option maxRecDepth 20000 in
theorem qX4_plainTable_2 (d : Nat)  (x1 x2 : Int32) (o3 : Option bwV) (μ : bwM) : eX4_plainTable d 2 [some (.inr (.inr 30)), some (.inl x1), some (.inl x2), o3] [] μ = if (64 : Int32) ≤ x2 then some (none, μ) else eX4_plainTable d 10 [some (.inr (.inr 30)), some (.inl x1), some (.inl x2), some (.inl (0 : Int32))] [] μ := by
  exact (bw_ex_go [2, 10, 44] 7 2 _ _ _).trans rfl
set_option maxRecDepth 20000 in
theorem qX4_plainTable_10 (d : Nat)  (x1 x2 x3 : Int32) (μ : bwM) : eX4_plainTable d 10 [some (.inr (.inr 30)), some (.inl x1), some (.inl x2), some (.inl x3)] [] μ = if (4 : Int32) ≤ x3 then eX4_plainTable d 2 [some (.inr (.inr 30)), some (.inl x1), some (.inl (x2 + (1 : Int32))), some (.inl x3)] [] μ else if x3 = 0 then if bw_in x1 12 then eX4_plainTable d 44 [some (.inr (.inr 30)), some (.inl x1), some (.inl x2), some (.inl x3)] [.inl (μ.1 32 x1.toNatClampNeg), .inl ((((256 : Int32) * x1) + ((4 : Int32) * x2)) + x3), .inr (.inr 35)] μ else none else eX4_plainTable d 44 [some (.inr (.inr 30)), some (.inl x1), some (.inl x2), some (.inl x3)] [.inl (0 : Int32), .inl ((((256 : Int32) * x1) + ((4 : Int32) * x2)) + x3), .inr (.inr 35)] μ := by
  exact (bw_ex_go [2, 10, 44] 23 10 _ _ _).trans rfl
set_option maxRecDepth 20000 in
theorem qX4_plainTable_44 (d : Nat)  (x1 x2 x3 s1 s2 : Int32) (μ : bwM) : eX4_plainTable d 44 [some (.inr (.inr 30)), some (.inl x1), some (.inl x2), some (.inl x3)] [.inl s2, .inl s1, .inr (.inr 35)] μ = if bw_in s1 3072 then eX4_plainTable d 10 [some (.inr (.inr 30)), some (.inl x1), some (.inl x2), some (.inl (x3 + (1 : Int32)))] [] (bw_si μ 35 s1.toNatClampNeg s2) else none := by
  exact (bw_ex_go [2, 10, 44] 5 44 _ _ _).trans rfl
noncomputable def eX4_isParent (d pc : Nat) (ls : List (Option bwV)) (st : List bwV) (μ : bwM) : Option bwR := bw_ex (bw_call d) 0 bw_z 3 tX4_isParent pc ls st μ
set_option maxRecDepth 20000 in
theorem qX4_isParent (d : Nat)  (x1 x2 : Int32) (μ : bwM) : bw_call (d + 1) 90 [.inr (.inr 30), .inl x1, .inl x2] μ = eX4_isParent d 2 [some (.inr (.inr 30)), some (.inl x1), some (.inl x2), some (.inl (0 : Int32))] [] μ := by
  exact (bw_ex_go [2] 4 0 _ _ _).trans rfl
set_option maxRecDepth 20000 in
theorem qX4_isParent_2 (d : Nat)  (x1 x2 x3 : Int32) (μ : bwM) : eX4_isParent d 2 [some (.inr (.inr 30)), some (.inl x1), some (.inl x2), some (.inl x3)] [] μ = if bw_in x2 12 then if (μ.1 33 x2.toNatClampNeg) ≤ x3 then if (0 : Int32) = 0 ∨ (0 : Int32) = 1 then some (some (.inl (0 : Int32)), μ) else none else if bw_in (((3 : Int32) * x2) + x3) 36 then if (μ.1 34 (((3 : Int32) * x2) + x3).toNatClampNeg) = x1 then if (1 : Int32) = 0 ∨ (1 : Int32) = 1 then some (some (.inl (1 : Int32)), μ) else none else eX4_isParent d 2 [some (.inr (.inr 30)), some (.inl x1), some (.inl x2), some (.inl (x3 + (1 : Int32)))] [] μ else none else none := by
  exact (bw_ex_go [2] 20 2 _ _ _).trans rfl
noncomputable def eX4_reach (d pc : Nat) (ls : List (Option bwV)) (st : List bwV) (μ : bwM) : Option bwR := bw_ex (bw_call d) 0 bw_z 0 tX4_reach pc ls st μ
set_option maxRecDepth 20000 in
theorem qX4_reach (d : Nat)  (x1 x2 : Int32) (μ : bwM) : bw_call (d + 1) 91 [.inr (.inr 30), .inl x1, .inl x2] μ = eX4_reach d 2 [some (.inr (.inr 30)), some (.inl x1), some (.inl x2), some (.inl (0 : Int32)), none, none] [] μ := by
  exact (bw_ex_go [2, 25, 34, 43, 79, 82, 114, 117, 127, 133] 4 0 _ _ _).trans rfl
set_option maxRecDepth 20000 in
theorem qX4_reach_2 (d : Nat)  (x1 x2 x3 : Int32) (μ : bwM) : eX4_reach d 2 [some (.inr (.inr 30)), some (.inl x1), some (.inl x2), some (.inl x3), none, none] [] μ = if (μ.1 30 1) ≤ x3 then eX4_reach d 34 [some (.inr (.inr 30)), some (.inl x1), some (.inl x2), some (.inl (1 : Int32)), none, none] [] μ else if x3 = x1 then eX4_reach d 25 [some (.inr (.inr 30)), some (.inl x1), some (.inl x2), some (.inl x3), none, none] [.inl (1 : Int32), .inl x3, .inr (.inr 40)] μ else eX4_reach d 25 [some (.inr (.inr 30)), some (.inl x1), some (.inl x2), some (.inl x3), none, none] [.inl (0 : Int32), .inl x3, .inr (.inr 40)] μ := by
  exact (bw_ex_go [2, 25, 34, 43, 79, 82, 114, 117, 127, 133] 14 2 _ _ _).trans rfl
set_option maxRecDepth 20000 in
theorem qX4_reach_25 (d : Nat)  (x1 x2 x3 s1 s2 : Int32) (μ : bwM) : eX4_reach d 25 [some (.inr (.inr 30)), some (.inl x1), some (.inl x2), some (.inl x3), none, none] [.inl s2, .inl s1, .inr (.inr 40)] μ = if bw_in s1 12 then eX4_reach d 2 [some (.inr (.inr 30)), some (.inl x1), some (.inl x2), some (.inl (x3 + (1 : Int32))), none, none] [] (bw_si μ 40 s1.toNatClampNeg (vp_nar .boolean s2)) else none := by
  exact (bw_ex_go [2, 25, 34, 43, 79, 82, 114, 117, 127, 133] 5 25 _ _ _).trans rfl
set_option maxRecDepth 20000 in
theorem qX4_reach_34 (d : Nat)  (x1 x2 x3 : Int32) (o4 : Option bwV) (μ : bwM) : eX4_reach d 34 [some (.inr (.inr 30)), some (.inl x1), some (.inl x2), some (.inl x3), o4, none] [] μ = if x3 = 0 then some (none, μ) else eX4_reach d 43 [some (.inr (.inr 30)), some (.inl x1), some (.inl x2), some (.inl (0 : Int32)), some (.inl (0 : Int32)), none] [] μ := by
  exact (bw_ex_go [2, 25, 34, 43, 79, 82, 114, 117, 127, 133] 8 34 _ _ _).trans rfl
set_option maxRecDepth 20000 in
theorem qX4_reach_43 (d : Nat)  (x1 x2 x3 x4 : Int32) (μ : bwM) : eX4_reach d 43 [some (.inr (.inr 30)), some (.inl x1), some (.inl x2), some (.inl x3), some (.inl x4), none] [] μ = if (μ.1 30 1) ≤ x4 then eX4_reach d 34 [some (.inr (.inr 30)), some (.inl x1), some (.inl x2), some (.inl x3), some (.inl x4), none] [] μ else if bw_in x4 12 then if (μ.1 40 x4.toNatClampNeg) = 0 then if x2 = 0 then eX4_reach d 79 [some (.inr (.inr 30)), some (.inl x1), some (.inl x2), some (.inl x3), some (.inl x4), none] [] μ else if bw_in x4 12 then if (μ.1 37 x4.toNatClampNeg) < 0 then eX4_reach d 79 [some (.inr (.inr 30)), some (.inl x1), some (.inl x2), some (.inl x3), some (.inl x4), none] [] μ else eX4_reach d 133 [some (.inr (.inr 30)), some (.inl x1), some (.inl x2), some (.inl x3), some (.inl x4), none] [] μ else none else eX4_reach d 133 [some (.inr (.inr 30)), some (.inl x1), some (.inl x2), some (.inl x3), some (.inl x4), none] [] μ else none := by
  exact (bw_ex_go [2, 25, 34, 43, 79, 82, 114, 117, 127, 133] 19 43 _ _ _).trans rfl
set_option maxRecDepth 20000 in
theorem qX4_reach_79 (d : Nat)  (x1 x2 x3 x4 : Int32) (μ : bwM) : eX4_reach d 79 [some (.inr (.inr 30)), some (.inl x1), some (.inl x2), some (.inl x3), some (.inl x4), none] [] μ = eX4_reach d 82 [some (.inr (.inr 30)), some (.inl x1), some (.inl x2), some (.inl x3), some (.inl x4), some (.inl (0 : Int32))] [] μ := by
  exact (bw_ex_go [2, 25, 34, 43, 79, 82, 114, 117, 127, 133] 4 79 _ _ _).trans rfl
set_option maxRecDepth 20000 in
theorem qX4_reach_82 (d : Nat)  (x1 x2 x3 x4 x5 : Int32) (μ : bwM) : eX4_reach d 82 [some (.inr (.inr 30)), some (.inl x1), some (.inl x2), some (.inl x3), some (.inl x4), some (.inl x5)] [] μ = if bw_in x4 12 then if (μ.1 33 x4.toNatClampNeg) ≤ x5 then eX4_reach d 133 [some (.inr (.inr 30)), some (.inl x1), some (.inl x2), some (.inl x3), some (.inl x4), some (.inl x5)] [] μ else if bw_in (((3 : Int32) * x4) + x5) 36 then if bw_in (μ.1 34 (((3 : Int32) * x4) + x5).toNatClampNeg) 12 then if (μ.1 40 (μ.1 34 (((3 : Int32) * x4) + x5).toNatClampNeg).toNatClampNeg) = 0 then eX4_reach d 114 [some (.inr (.inr 30)), some (.inl x1), some (.inl x2), some (.inl x3), some (.inl x4), some (.inl x5)] [] μ else eX4_reach d 117 [some (.inr (.inr 30)), some (.inl x1), some (.inl x2), some (.inl x3), some (.inl x4), some (.inl x5)] [] μ else none else none else none := by
  exact (bw_ex_go [2, 25, 34, 43, 79, 82, 114, 117, 127, 133] 20 82 _ _ _).trans rfl
set_option maxRecDepth 20000 in
theorem qX4_reach_114 (d : Nat)  (x1 x2 x3 x4 x5 : Int32) (μ : bwM) : eX4_reach d 114 [some (.inr (.inr 30)), some (.inl x1), some (.inl x2), some (.inl x3), some (.inl x4), some (.inl x5)] [] μ = eX4_reach d 127 [some (.inr (.inr 30)), some (.inl x1), some (.inl x2), some (.inl x3), some (.inl x4), some (.inl x5)] [] μ := by
  exact (bw_ex_go [2, 25, 34, 43, 79, 82, 114, 117, 127, 133] 3 114 _ _ _).trans rfl
set_option maxRecDepth 20000 in
theorem qX4_reach_117 (d : Nat)  (x1 x2 x3 x4 x5 : Int32) (μ : bwM) : eX4_reach d 117 [some (.inr (.inr 30)), some (.inl x1), some (.inl x2), some (.inl x3), some (.inl x4), some (.inl x5)] [] μ = if bw_in x4 12 then eX4_reach d 127 [some (.inr (.inr 30)), some (.inl x1), some (.inl x2), some (.inl (1 : Int32)), some (.inl x4), some (.inl x5)] [] (bw_si μ 40 x4.toNatClampNeg (vp_nar .boolean (1 : Int32))) else none := by
  exact (bw_ex_go [2, 25, 34, 43, 79, 82, 114, 117, 127, 133] 9 117 _ _ _).trans rfl
set_option maxRecDepth 20000 in
theorem qX4_reach_127 (d : Nat)  (x1 x2 x3 x4 x5 : Int32) (μ : bwM) : eX4_reach d 127 [some (.inr (.inr 30)), some (.inl x1), some (.inl x2), some (.inl x3), some (.inl x4), some (.inl x5)] [] μ = eX4_reach d 82 [some (.inr (.inr 30)), some (.inl x1), some (.inl x2), some (.inl x3), some (.inl x4), some (.inl (x5 + (1 : Int32)))] [] μ := by
  exact (bw_ex_go [2, 25, 34, 43, 79, 82, 114, 117, 127, 133] 4 127 _ _ _).trans rfl
set_option maxRecDepth 20000 in
theorem qX4_reach_133 (d : Nat)  (x1 x2 x3 x4 : Int32) (o5 : Option bwV) (μ : bwM) : eX4_reach d 133 [some (.inr (.inr 30)), some (.inl x1), some (.inl x2), some (.inl x3), some (.inl x4), o5] [] μ = eX4_reach d 43 [some (.inr (.inr 30)), some (.inl x1), some (.inl x2), some (.inl x3), some (.inl (x4 + (1 : Int32))), none] [] μ := by
  exact (bw_ex_go [2, 25, 34, 43, 79, 82, 114, 117, 127, 133] 4 133 _ _ _).trans rfl
noncomputable def eX4_arrow (d pc : Nat) (ls : List (Option bwV)) (st : List bwV) (μ : bwM) : Option bwR := bw_ex (bw_call d) 0 bw_z 1 tX4_arrow pc ls st μ
set_option maxRecDepth 20000 in
theorem qX4_arrow (d : Nat)  (x1 x2 : Int32) (μ : bwM) : bw_call (d + 1) 92 [.inr (.inr 30), .inl x1, .inl x2] μ = bw_bI (bw_call d 85 [.inr (.inr 30), .inl x1] μ) none (fun r2 m1 => if r2 = 0 then some (some (.inl (-1 : Int32)), m1) else bw_bI (bw_call d 85 [.inr (.inr 30), .inl x2] m1) none (fun r4 m3 => if r4 = 0 then some (some (.inl (-1 : Int32)), m3) else if x1 = x2 then some (some (.inl (-1 : Int32)), m3) else bw_bI (bw_call d 90 [.inr (.inr 30), .inl x1, .inl x2] m3) none (fun r6 m5 => if r6 = 0 then bw_bV (bw_call d 91 [.inr (.inr 30), .inl x2, .inl (0 : Int32)] m5) none (fun m7 => if bw_in x1 12 then if (m7.1 40 x1.toNatClampNeg) = 0 then if bw_in x2 12 then if (m7.1 33 x2.toNatClampNeg) = (3 : Int32) then some (some (.inl (-3 : Int32)), m7) else eX4_arrow d 63 [some (.inr (.inr 30)), some (.inl x1), some (.inl x2)] [] m7 else none else some (some (.inl (-2 : Int32)), m7) else none) else some (some (.inl (-1 : Int32)), m5)))) := by
  exact (bw_ex_go [63] 34 0 _ _ _).trans rfl
set_option maxRecDepth 20000 in
theorem qX4_arrow_63 (d : Nat)  (x1 x2 : Int32) (μ : bwM) : eX4_arrow d 63 [some (.inr (.inr 30)), some (.inl x1), some (.inl x2)] [] μ = bw_bV (bw_call d 139 [.inr (.inr 30), .inl (1 : Int32), .inl x2] μ) none (fun m1 => if bw_in x2 12 then if bw_in (((3 : Int32) * x2) + (m1.1 33 x2.toNatClampNeg)) 36 then if bw_in x2 12 then if bw_in x2 12 then bw_bV (bw_call d 89 [.inr (.inr 30), .inl x2] (bw_si (bw_si m1 34 (((3 : Int32) * x2) + (m1.1 33 x2.toNatClampNeg)).toNatClampNeg x1) 33 x2.toNatClampNeg (((bw_si m1 34 (((3 : Int32) * x2) + (m1.1 33 x2.toNatClampNeg)).toNatClampNeg x1).1 33 x2.toNatClampNeg) + (1 : Int32)))) none (fun m2 => if bw_in x2 12 then some (some (.inl (m2.1 33 x2.toNatClampNeg)), m2) else none) else none else none else none else none) := by
  exact (bw_ex_go [63] 33 63 _ _ _).trans rfl
noncomputable def eX4_cut (d pc : Nat) (ls : List (Option bwV)) (st : List bwV) (μ : bwM) : Option bwR := bw_ex (bw_call d) 0 bw_z 1 tX4_cut pc ls st μ
set_option maxRecDepth 20000 in
theorem qX4_cut (d : Nat)  (x1 x2 : Int32) (μ : bwM) : bw_call (d + 1) 93 [.inr (.inr 30), .inl x1, .inl x2] μ = bw_bI (bw_call d 85 [.inr (.inr 30), .inl x1] μ) none (fun r2 m1 => if r2 = 0 then some (some (.inl (-1 : Int32)), m1) else bw_bI (bw_call d 85 [.inr (.inr 30), .inl x2] m1) none (fun r4 m3 => if r4 = 0 then some (some (.inl (-1 : Int32)), m3) else bw_bI (bw_call d 90 [.inr (.inr 30), .inl x1, .inl x2] m3) none (fun r6 m5 => if r6 = 0 then some (some (.inl (-1 : Int32)), m5) else bw_bV (bw_call d 139 [.inr (.inr 30), .inl (1 : Int32), .inl x2] m5) none (fun m7 => eX4_cut d 35 [some (.inr (.inr 30)), some (.inl x1), some (.inl x2), some (.inl (0 : Int32)), none] [] m7)))) := by
  exact (bw_ex_go [35, 38, 88, 91] 21 0 _ _ _).trans rfl
set_option maxRecDepth 20000 in
theorem qX4_cut_35 (d : Nat)  (x1 x2 x3 : Int32) (μ : bwM) : eX4_cut d 35 [some (.inr (.inr 30)), some (.inl x1), some (.inl x2), some (.inl x3), none] [] μ = eX4_cut d 38 [some (.inr (.inr 30)), some (.inl x1), some (.inl x2), some (.inl x3), some (.inl (0 : Int32))] [] μ := by
  exact (bw_ex_go [35, 38, 88, 91] 4 35 _ _ _).trans rfl
set_option maxRecDepth 20000 in
theorem qX4_cut_38 (d : Nat)  (x1 x2 x3 x4 : Int32) (μ : bwM) : eX4_cut d 38 [some (.inr (.inr 30)), some (.inl x1), some (.inl x2), some (.inl x3), some (.inl x4)] [] μ = if bw_in x2 12 then if (μ.1 33 x2.toNatClampNeg) ≤ x4 then if bw_in x2 12 then bw_bV (bw_call d 89 [.inr (.inr 30), .inl x2] (bw_si μ 33 x2.toNatClampNeg x3)) none (fun m1 => some (some (.inl x3), m1)) else none else if bw_in (((3 : Int32) * x2) + x4) 36 then if (μ.1 34 (((3 : Int32) * x2) + x4).toNatClampNeg) = x1 then eX4_cut d 91 [some (.inr (.inr 30)), some (.inl x1), some (.inl x2), some (.inl x3), some (.inl x4)] [] μ else if bw_in (((3 : Int32) * x2) + x4) 36 then if bw_in (((3 : Int32) * x2) + x3) 36 then eX4_cut d 88 [some (.inr (.inr 30)), some (.inl x1), some (.inl x2), some (.inl x3), some (.inl x4)] [] (bw_si μ 34 (((3 : Int32) * x2) + x3).toNatClampNeg (μ.1 34 (((3 : Int32) * x2) + x4).toNatClampNeg)) else none else none else none else none := by
  exact (bw_ex_go [35, 38, 88, 91] 34 38 _ _ _).trans rfl
set_option maxRecDepth 20000 in
theorem qX4_cut_88 (d : Nat)  (x1 x2 x3 x4 : Int32) (μ : bwM) : eX4_cut d 88 [some (.inr (.inr 30)), some (.inl x1), some (.inl x2), some (.inl x3), some (.inl x4)] [] μ = eX4_cut d 91 [some (.inr (.inr 30)), some (.inl x1), some (.inl x2), some (.inl (x3 + (1 : Int32))), some (.inl x4)] [] μ := by
  exact (bw_ex_go [35, 38, 88, 91] 3 88 _ _ _).trans rfl
set_option maxRecDepth 20000 in
theorem qX4_cut_91 (d : Nat)  (x1 x2 x3 x4 : Int32) (μ : bwM) : eX4_cut d 91 [some (.inr (.inr 30)), some (.inl x1), some (.inl x2), some (.inl x3), some (.inl x4)] [] μ = eX4_cut d 38 [some (.inr (.inr 30)), some (.inl x1), some (.inl x2), some (.inl x3), some (.inl (x4 + (1 : Int32)))] [] μ := by
  exact (bw_ex_go [35, 38, 88, 91] 4 91 _ _ _).trans rfl
noncomputable def eX4_isWeight (d pc : Nat) (ls : List (Option bwV)) (st : List bwV) (μ : bwM) : Option bwR := bw_ex (bw_call d) 0 bw_z 3 tX4_isWeight pc ls st μ
set_option maxRecDepth 20000 in
theorem qX4_isWeight (d : Nat)  (x1 x2 x3 : Int32) (μ : bwM) : bw_call (d + 1) 94 [.inr (.inr 30), .inl x1, .inl x2, .inl x3] μ = bw_bI (bw_call d 86 [.inr (.inr 30), .inl x1, .inl x3] μ) none (fun r2 m1 => if r2 = 0 then if (0 : Int32) = 0 ∨ (0 : Int32) = 1 then some (some (.inl (0 : Int32)), m1) else none else if x2 < 0 then if (0 : Int32) = 0 ∨ (0 : Int32) = 1 then some (some (.inl (0 : Int32)), m1) else none else bw_bI (bw_call d 87 [.inr (.inr 30), .inl x1] m1) none (fun r4 m3 => if r4 ≤ x2 then if (0 : Int32) = 0 ∨ (0 : Int32) = 1 then some (some (.inl (0 : Int32)), m3) else none else if (1 : Int32) = 0 ∨ (1 : Int32) = 1 then some (some (.inl (1 : Int32)), m3) else none)) := by
  exact (bw_ex_go [] 16 0 _ _ _).trans rfl
noncomputable def eX4_weight (d pc : Nat) (ls : List (Option bwV)) (st : List bwV) (μ : bwM) : Option bwR := bw_ex (bw_call d) 0 bw_z 1 tX4_weight pc ls st μ
set_option maxRecDepth 20000 in
theorem qX4_weight (d : Nat)  (x1 x2 x3 x4 : Int32) (μ : bwM) : bw_call (d + 1) 95 [.inr (.inr 30), .inl x1, .inl x2, .inl x3, .inl x4] μ = bw_bI (bw_call d 94 [.inr (.inr 30), .inl x1, .inl x2, .inl x3] μ) none (fun r2 m1 => if r2 = 0 then some (some (.inl (-1 : Int32)), m1) else if x4 < 0 then some (some (.inl (-1 : Int32)), m1) else if bw_in x1 12 then if x4 ≤ (m1.1 32 x1.toNatClampNeg) then eX4_weight d 28 [some (.inr (.inr 30)), some (.inl x1), some (.inl x2), some (.inl x3), some (.inl x4), none, none] [] m1 else some (some (.inl (-1 : Int32)), m1) else none) := by
  exact (bw_ex_go [28, 48, 70] 17 0 _ _ _).trans rfl
set_option maxRecDepth 20000 in
theorem qX4_weight_28 (d : Nat)  (x1 x2 x3 x4 : Int32) (μ : bwM) : eX4_weight d 28 [some (.inr (.inr 30)), some (.inl x1), some (.inl x2), some (.inl x3), some (.inl x4), none, none] [] μ = bw_bV (bw_call d 139 [.inr (.inr 30), .inl (2 : Int32), .inl ((((256 : Int32) * x1) + ((4 : Int32) * x2)) + x3)] μ) none (fun m1 => eX4_weight d 48 [some (.inr (.inr 30)), some (.inl x1), some (.inl x2), some (.inl x3), some (.inl x4), some (.inl ((((256 : Int32) * x1) + ((4 : Int32) * x2)) + x3)), none] [] m1) := by
  exact (bw_ex_go [28, 48, 70] 16 28 _ _ _).trans rfl
set_option maxRecDepth 20000 in
theorem qX4_weight_48 (d : Nat)  (x1 x2 x3 x4 x5 : Int32) (μ : bwM) : eX4_weight d 48 [some (.inr (.inr 30)), some (.inl x1), some (.inl x2), some (.inl x3), some (.inl x4), some (.inl x5), none] [] μ = if bw_in x5 3072 then if bw_in ((μ.1 30 25) - (1 : Int32)) 100 then eX4_weight d 70 [some (.inr (.inr 30)), some (.inl x1), some (.inl x2), some (.inl x3), some (.inl x4), some (.inl x5), some (.inl (μ.1 35 x5.toNatClampNeg))] [] (bw_si μ 50 ((μ.1 30 25) - (1 : Int32)).toNatClampNeg (μ.1 35 x5.toNatClampNeg)) else none else none := by
  exact (bw_ex_go [28, 48, 70] 15 48 _ _ _).trans rfl
set_option maxRecDepth 20000 in
theorem qX4_weight_70 (d : Nat)  (x1 x2 x3 x4 x5 x6 : Int32) (μ : bwM) : eX4_weight d 70 [some (.inr (.inr 30)), some (.inl x1), some (.inl x2), some (.inl x3), some (.inl x4), some (.inl x5), some (.inl x6)] [] μ = if bw_in x5 3072 then some (some (.inl x6), bw_si μ 35 x5.toNatClampNeg x4) else none := by
  exact (bw_ex_go [28, 48, 70] 8 70 _ _ _).trans rfl
noncomputable def eX4_told (d pc : Nat) (ls : List (Option bwV)) (st : List bwV) (μ : bwM) : Option bwR := bw_ex (bw_call d) 0 bw_z 1 tX4_told pc ls st μ
set_option maxRecDepth 20000 in
theorem qX4_told (d : Nat)  (x1 x2 x3 : Int32) (μ : bwM) : bw_call (d + 1) 96 [.inr (.inr 30), .inl x1, .inl x2, .inl x3] μ = bw_bI (bw_call d 94 [.inr (.inr 30), .inl x1, .inl x2, .inl x3] μ) none (fun r2 m1 => if r2 = 0 then some (some (.inl (-1 : Int32)), m1) else if bw_in ((((256 : Int32) * x1) + ((4 : Int32) * x2)) + x3) 3072 then some (some (.inl (m1.1 35 ((((256 : Int32) * x1) + ((4 : Int32) * x2)) + x3).toNatClampNeg)), m1) else none) := by
  exact (bw_ex_go [] 21 0 _ _ _).trans rfl
noncomputable def eX4_isSound (d pc : Nat) (ls : List (Option bwV)) (st : List bwV) (μ : bwM) : Option bwR := bw_ex (bw_call d) 0 bw_z 3 tX4_isSound pc ls st μ
set_option maxRecDepth 20000 in
theorem qX4_isSound (d : Nat)  (x1 : Int32) (μ : bwM) : bw_call (d + 1) 97 [.inr (.inr 30), .inl x1] μ = eX4_isSound d 2 [some (.inr (.inr 30)), some (.inl x1), some (.inl (0 : Int32)), none, none] [] μ := by
  exact (bw_ex_go [2, 16, 47] 4 0 _ _ _).trans rfl
set_option maxRecDepth 20000 in
theorem qX4_isSound_2 (d : Nat)  (x1 x2 : Int32) (o3 o4 : Option bwV) (μ : bwM) : eX4_isSound d 2 [some (.inr (.inr 30)), some (.inl x1), some (.inl x2), o3, o4] [] μ = bw_bI (bw_call d 87 [.inr (.inr 30), .inl x1] μ) none (fun r2 m1 => if r2 ≤ x2 then if (1 : Int32) = 0 ∨ (1 : Int32) = 1 then some (some (.inl (1 : Int32)), m1) else none else eX4_isSound d 16 [some (.inr (.inr 30)), some (.inl x1), some (.inl x2), some (.inl (0 : Int32)), some (.inl (0 : Int32))] [] m1) := by
  exact (bw_ex_go [2, 16, 47] 11 2 _ _ _).trans rfl
set_option maxRecDepth 20000 in
theorem qX4_isSound_16 (d : Nat)  (x1 x2 x3 x4 : Int32) (μ : bwM) : eX4_isSound d 16 [some (.inr (.inr 30)), some (.inl x1), some (.inl x2), some (.inl x3), some (.inl x4)] [] μ = if bw_in x1 12 then if (μ.1 31 x1.toNatClampNeg) ≤ x4 then if bw_in x1 12 then if x3 = (μ.1 32 x1.toNatClampNeg) then eX4_isSound d 2 [some (.inr (.inr 30)), some (.inl x1), some (.inl (x2 + (1 : Int32))), some (.inl x3), some (.inl x4)] [] μ else if (0 : Int32) = 0 ∨ (0 : Int32) = 1 then some (some (.inl (0 : Int32)), μ) else none else none else if bw_in ((((256 : Int32) * x1) + ((4 : Int32) * x2)) + x4) 3072 then eX4_isSound d 47 [some (.inr (.inr 30)), some (.inl x1), some (.inl x2), some (.inl (x3 + (μ.1 35 ((((256 : Int32) * x1) + ((4 : Int32) * x2)) + x4).toNatClampNeg))), some (.inl x4)] [] μ else none else none := by
  exact (bw_ex_go [2, 16, 47] 23 16 _ _ _).trans rfl
set_option maxRecDepth 20000 in
theorem qX4_isSound_47 (d : Nat)  (x1 x2 x3 x4 : Int32) (μ : bwM) : eX4_isSound d 47 [some (.inr (.inr 30)), some (.inl x1), some (.inl x2), some (.inl x3), some (.inl x4)] [] μ = eX4_isSound d 16 [some (.inr (.inr 30)), some (.inl x1), some (.inl x2), some (.inl x3), some (.inl (x4 + (1 : Int32)))] [] μ := by
  exact (bw_ex_go [2, 16, 47] 4 47 _ _ _).trans rfl
noncomputable def eX4_about (d pc : Nat) (ls : List (Option bwV)) (st : List bwV) (μ : bwM) : Option bwR := bw_ex (bw_call d) 0 bw_z 1 tX4_about pc ls st μ
set_option maxRecDepth 20000 in
theorem qX4_about (d : Nat)  (x1 x2 : Int32) (μ : bwM) : bw_call (d + 1) 98 [.inr (.inr 30), .inl x1, .inl x2] μ = bw_bI (bw_call d 85 [.inr (.inr 30), .inl x1] μ) none (fun r2 m1 => if r2 = 0 then some (some (.inl (-1 : Int32)), m1) else if x2 = (0 : Int32) then if bw_in x1 12 then some (some (.inl (m1.1 31 x1.toNatClampNeg)), m1) else none else if x2 = (1 : Int32) then if bw_in x1 12 then some (some (.inl (m1.1 32 x1.toNatClampNeg)), m1) else none else if x2 = (2 : Int32) then if bw_in x1 12 then some (some (.inl (m1.1 33 x1.toNatClampNeg)), m1) else none else if x2 = (3 : Int32) then bw_bI (bw_call d 87 [.inr (.inr 30), .inl x1] m1) none (fun r4 m3 => some (some (.inl r4), m3)) else if x2 = (4 : Int32) then bw_bI (bw_call d 97 [.inr (.inr 30), .inl x1] m1) none (fun r6 m5 => if r6 = 0 then some (some (.inl (0 : Int32)), m5) else some (some (.inl (1 : Int32)), m5)) else if x2 = (5 : Int32) then if bw_in x1 12 then some (some (.inl (m1.1 36 x1.toNatClampNeg)), m1) else none else if x2 = (6 : Int32) then if bw_in x1 12 then some (some (.inl (m1.1 37 x1.toNatClampNeg)), m1) else none else some (some (.inl (-1 : Int32)), m1)) := by
  exact (bw_ex_go [] 14 0 _ _ _).trans rfl
noncomputable def eX4_parent (d pc : Nat) (ls : List (Option bwV)) (st : List bwV) (μ : bwM) : Option bwR := bw_ex (bw_call d) 0 bw_z 1 tX4_parent pc ls st μ
set_option maxRecDepth 20000 in
theorem qX4_parent (d : Nat)  (x1 x2 : Int32) (μ : bwM) : bw_call (d + 1) 99 [.inr (.inr 30), .inl x1, .inl x2] μ = bw_bI (bw_call d 85 [.inr (.inr 30), .inl x1] μ) none (fun r2 m1 => if r2 = 0 then some (some (.inl (-2 : Int32)), m1) else if x2 < 0 then some (some (.inl (-2 : Int32)), m1) else if bw_in x1 12 then if (m1.1 33 x1.toNatClampNeg) ≤ x2 then some (some (.inl (-2 : Int32)), m1) else if bw_in (((3 : Int32) * x1) + x2) 36 then some (some (.inl (m1.1 34 (((3 : Int32) * x1) + x2).toNatClampNeg)), m1) else none else none) := by
  exact (bw_ex_go [] 23 0 _ _ _).trans rfl
noncomputable def eX4_isRough (d pc : Nat) (ls : List (Option bwV)) (st : List bwV) (μ : bwM) : Option bwR := bw_ex (bw_call d) 0 bw_z 3 tX4_isRough pc ls st μ
set_option maxRecDepth 20000 in
theorem qX4_isRough (d : Nat)  (μ : bwM) : bw_call (d + 1) 100 [.inr (.inr 30)] μ = eX4_isRough d 2 [some (.inr (.inr 30)), some (.inl (0 : Int32))] [] μ := by
  exact (bw_ex_go [2, 29] 4 0 _ _ _).trans rfl
set_option maxRecDepth 20000 in
theorem qX4_isRough_2 (d : Nat)  (x1 : Int32) (μ : bwM) : eX4_isRough d 2 [some (.inr (.inr 30)), some (.inl x1)] [] μ = if (μ.1 30 1) ≤ x1 then if (μ.1 30 1) = 0 then if (1 : Int32) = 0 ∨ (1 : Int32) = 1 then some (some (.inl (1 : Int32)), μ) else none else if (0 : Int32) = 0 ∨ (0 : Int32) = 1 then some (some (.inl (0 : Int32)), μ) else none else if bw_in x1 12 then if 0 ≤ (μ.1 37 x1.toNatClampNeg) then eX4_isRough d 29 [some (.inr (.inr 30)), some (.inl x1)] [] μ else bw_bI (bw_call d 97 [.inr (.inr 30), .inl x1] μ) none (fun r2 m1 => if r2 = 0 then if (1 : Int32) = 0 ∨ (1 : Int32) = 1 then some (some (.inl (1 : Int32)), m1) else none else eX4_isRough d 29 [some (.inr (.inr 30)), some (.inl x1)] [] m1) else none := by
  exact (bw_ex_go [2, 29] 16 2 _ _ _).trans rfl
set_option maxRecDepth 20000 in
theorem qX4_isRough_29 (d : Nat)  (x1 : Int32) (μ : bwM) : eX4_isRough d 29 [some (.inr (.inr 30)), some (.inl x1)] [] μ = eX4_isRough d 2 [some (.inr (.inr 30)), some (.inl (x1 + (1 : Int32)))] [] μ := by
  exact (bw_ex_go [2, 29] 4 29 _ _ _).trans rfl
noncomputable def eX4_sound (d pc : Nat) (ls : List (Option bwV)) (st : List bwV) (μ : bwM) : Option bwR := bw_ex (bw_call d) 0 bw_z 1 tX4_sound pc ls st μ
set_option maxRecDepth 20000 in
theorem qX4_sound (d : Nat)  (μ : bwM) : bw_call (d + 1) 101 [.inr (.inr 30)] μ = bw_bI (bw_call d 100 [.inr (.inr 30)] μ) none (fun r2 m1 => if r2 = 0 then some (some (.inl (1 : Int32)), m1) else some (some (.inl (0 : Int32)), m1)) := by
  exact (bw_ex_go [] 7 0 _ _ _).trans rfl
noncomputable def eX4_mayBe (d pc : Nat) (ls : List (Option bwV)) (st : List bwV) (μ : bwM) : Option bwR := bw_ex (bw_call d) 0 bw_z 3 tX4_mayBe pc ls st μ
set_option maxRecDepth 20000 in
theorem qX4_mayBe (d : Nat)  (x1 x2 : Int32) (μ : bwM) : bw_call (d + 1) 102 [.inr (.inr 30), .inl x1, .inl x2] μ = bw_bI (bw_call d 85 [.inr (.inr 30), .inl x1] μ) none (fun r2 m1 => if r2 = 0 then if (0 : Int32) = 0 ∨ (0 : Int32) = 1 then some (some (.inl (0 : Int32)), m1) else none else if x2 = (-1 : Int32) then if (1 : Int32) = 0 ∨ (1 : Int32) = 1 then some (some (.inl (1 : Int32)), m1) else none else bw_bI (bw_call d 86 [.inr (.inr 30), .inl x1, .inl x2] m1) none (fun r4 m3 => if r4 = 0 then if (0 : Int32) = 0 ∨ (0 : Int32) = 1 then some (some (.inl (0 : Int32)), m3) else none else if (1 : Int32) = 0 ∨ (1 : Int32) = 1 then some (some (.inl (1 : Int32)), m3) else none)) := by
  exact (bw_ex_go [] 16 0 _ _ _).trans rfl
noncomputable def eX4_becomes (d pc : Nat) (ls : List (Option bwV)) (st : List bwV) (μ : bwM) : Option bwR := bw_ex (bw_call d) 0 bw_z 1 tX4_becomes pc ls st μ
set_option maxRecDepth 20000 in
theorem qX4_becomes (d : Nat)  (x1 x2 x3 : Int32) (μ : bwM) : bw_call (d + 1) 103 [.inr (.inr 30), .inl x1, .inl x2, .inl x3] μ = bw_bV (bw_call d 139 [.inr (.inr 30), .inl (3 : Int32), .inl x1] μ) none (fun m1 => if bw_in x1 12 then if bw_in ((m1.1 30 25) - (1 : Int32)) 100 then if bw_in x1 12 then if bw_in (((bw_si m1 50 ((m1.1 30 25) - (1 : Int32)).toNatClampNeg (m1.1 36 x1.toNatClampNeg)).1 30 25) - (1 : Int32)) 100 then if bw_in x1 12 then eX4_becomes d 47 [some (.inr (.inr 30)), some (.inl x1), some (.inl x2), some (.inl x3)] [] (bw_si (bw_si (bw_si m1 50 ((m1.1 30 25) - (1 : Int32)).toNatClampNeg (m1.1 36 x1.toNatClampNeg)) 51 (((bw_si m1 50 ((m1.1 30 25) - (1 : Int32)).toNatClampNeg (m1.1 36 x1.toNatClampNeg)).1 30 25) - (1 : Int32)).toNatClampNeg ((bw_si m1 50 ((m1.1 30 25) - (1 : Int32)).toNatClampNeg (m1.1 36 x1.toNatClampNeg)).1 37 x1.toNatClampNeg)) 36 x1.toNatClampNeg x2) else none else none else none else none else none) := by
  exact (bw_ex_go [47] 33 0 _ _ _).trans rfl
set_option maxRecDepth 20000 in
theorem qX4_becomes_47 (d : Nat)  (x1 x2 x3 : Int32) (μ : bwM) : eX4_becomes d 47 [some (.inr (.inr 30)), some (.inl x1), some (.inl x2), some (.inl x3)] [] μ = if bw_in x1 12 then some (some (.inl (1 : Int32)), bw_si μ 37 x1.toNatClampNeg x3) else none := by
  exact (bw_ex_go [47] 8 47 _ _ _).trans rfl
noncomputable def eX4_see (d pc : Nat) (ls : List (Option bwV)) (st : List bwV) (μ : bwM) : Option bwR := bw_ex (bw_call d) 0 bw_z 1 tX4_see pc ls st μ
set_option maxRecDepth 20000 in
theorem qX4_see (d : Nat)  (x1 x2 : Int32) (μ : bwM) : bw_call (d + 1) 104 [.inr (.inr 30), .inl x1, .inl x2] μ = bw_bI (bw_call d 102 [.inr (.inr 30), .inl x1, .inl x2] μ) none (fun r2 m1 => if r2 = 0 then some (some (.inl (-1 : Int32)), m1) else bw_bI (bw_call d 103 [.inr (.inr 30), .inl x1, .inl x2, .inl (-1 : Int32)] m1) none (fun r4 m3 => some (some (.inl r4), m3))) := by
  exact (bw_ex_go [] 13 0 _ _ _).trans rfl
noncomputable def eX4_act (d pc : Nat) (ls : List (Option bwV)) (st : List bwV) (μ : bwM) : Option bwR := bw_ex (bw_call d) 0 bw_z 1 tX4_act pc ls st μ
set_option maxRecDepth 20000 in
theorem qX4_act (d : Nat)  (x1 x2 : Int32) (μ : bwM) : bw_call (d + 1) 105 [.inr (.inr 30), .inl x1, .inl x2] μ = bw_bI (bw_call d 102 [.inr (.inr 30), .inl x1, .inl x2] μ) none (fun r2 m1 => if r2 = 0 then some (some (.inl (-1 : Int32)), m1) else bw_bI (bw_call d 103 [.inr (.inr 30), .inl x1, .inl (-1 : Int32), .inl x2] m1) none (fun r4 m3 => some (some (.inl r4), m3))) := by
  exact (bw_ex_go [] 13 0 _ _ _).trans rfl
noncomputable def eX4_force (d pc : Nat) (ls : List (Option bwV)) (st : List bwV) (μ : bwM) : Option bwR := bw_ex (bw_call d) 0 bw_z 1 tX4_force pc ls st μ
set_option maxRecDepth 20000 in
theorem qX4_force (d : Nat)  (x1 x2 x3 : Int32) (μ : bwM) : bw_call (d + 1) 106 [.inr (.inr 30), .inl x1, .inl x2, .inl x3] μ = bw_bI (bw_call d 86 [.inr (.inr 30), .inl x1, .inl x2] μ) none (fun r2 m1 => if r2 = 0 then some (some (.inl (-1 : Int32)), m1) else if x3 < 0 then some (some (.inl (-1 : Int32)), m1) else if x3 ≤ (3 : Int32) then bw_bV (bw_call d 139 [.inr (.inr 30), .inl (4 : Int32), .inl (((4 : Int32) * x1) + x2)] m1) none (fun m3 => eX4_force d 30 [some (.inr (.inr 30)), some (.inl x1), some (.inl x2), some (.inl x3), none] [] m3) else some (some (.inl (-1 : Int32)), m1)) := by
  exact (bw_ex_go [30] 20 0 _ _ _).trans rfl
set_option maxRecDepth 20000 in
theorem qX4_force_30 (d : Nat)  (x1 x2 x3 : Int32) (μ : bwM) : eX4_force d 30 [some (.inr (.inr 30)), some (.inl x1), some (.inl x2), some (.inl x3), none] [] μ = if bw_in (((4 : Int32) * x1) + x2) 48 then if bw_in ((μ.1 30 25) - (1 : Int32)) 100 then if bw_in (((4 : Int32) * x1) + x2) 48 then some (some (.inl (μ.1 38 (((4 : Int32) * x1) + x2).toNatClampNeg)), bw_si (bw_si μ 50 ((μ.1 30 25) - (1 : Int32)).toNatClampNeg (μ.1 38 (((4 : Int32) * x1) + x2).toNatClampNeg)) 38 (((4 : Int32) * x1) + x2).toNatClampNeg x3) else none else none else none := by
  exact (bw_ex_go [30] 29 30 _ _ _).trans rfl
noncomputable def eX4_firstWhole (d pc : Nat) (ls : List (Option bwV)) (st : List bwV) (μ : bwM) : Option bwR := bw_ex (bw_call d) 0 bw_z 0 tX4_firstWhole pc ls st μ
set_option maxRecDepth 20000 in
theorem qX4_firstWhole (d : Nat)  (μ : bwM) : bw_call (d + 1) 107 [.inr (.inr 30)] μ = eX4_firstWhole d 2 [some (.inr (.inr 30)), some (.inl (0 : Int32))] [] μ := by
  exact (bw_ex_go [2] 4 0 _ _ _).trans rfl
set_option maxRecDepth 20000 in
theorem qX4_firstWhole_2 (d : Nat)  (x1 : Int32) (μ : bwM) : eX4_firstWhole d 2 [some (.inr (.inr 30)), some (.inl x1)] [] μ = if (μ.1 30 1) ≤ x1 then some (none, μ) else if bw_in x1 12 then eX4_firstWhole d 2 [some (.inr (.inr 30)), some (.inl (x1 + (1 : Int32)))] [] (bw_si μ 41 x1.toNatClampNeg (0 : Int32)) else none := by
  exact (bw_ex_go [2] 13 2 _ _ _).trans rfl
noncomputable def eX4_nextWhole (d pc : Nat) (ls : List (Option bwV)) (st : List bwV) (μ : bwM) : Option bwR := bw_ex (bw_call d) 0 bw_z 3 tX4_nextWhole pc ls st μ
set_option maxRecDepth 20000 in
theorem qX4_nextWhole (d : Nat)  (μ : bwM) : bw_call (d + 1) 108 [.inr (.inr 30)] μ = eX4_nextWhole d 7 [some (.inr (.inr 30)), some (.inl ((μ.1 30 1) - (1 : Int32)))] [] μ := by
  exact (bw_ex_go [7, 41] 7 0 _ _ _).trans rfl
set_option maxRecDepth 20000 in
theorem qX4_nextWhole_7 (d : Nat)  (x1 : Int32) (μ : bwM) : eX4_nextWhole d 7 [some (.inr (.inr 30)), some (.inl x1)] [] μ = if x1 < 0 then eX4_nextWhole d 41 [some (.inr (.inr 30)), some (.inl x1)] [] μ else if bw_in x1 12 then if bw_in x1 12 then if (μ.1 41 x1.toNatClampNeg) = ((μ.1 31 x1.toNatClampNeg) - (1 : Int32)) then if bw_in x1 12 then eX4_nextWhole d 7 [some (.inr (.inr 30)), some (.inl (x1 + (-1 : Int32)))] [] (bw_si μ 41 x1.toNatClampNeg (0 : Int32)) else none else eX4_nextWhole d 41 [some (.inr (.inr 30)), some (.inl x1)] [] μ else none else none := by
  exact (bw_ex_go [7, 41] 22 7 _ _ _).trans rfl
set_option maxRecDepth 20000 in
theorem qX4_nextWhole_41 (d : Nat)  (x1 : Int32) (μ : bwM) : eX4_nextWhole d 41 [some (.inr (.inr 30)), some (.inl x1)] [] μ = if 0 ≤ x1 then if bw_in x1 12 then if bw_in x1 12 then if (1 : Int32) = 0 ∨ (1 : Int32) = 1 then some (some (.inl (1 : Int32)), bw_si μ 41 x1.toNatClampNeg ((μ.1 41 x1.toNatClampNeg) + (1 : Int32))) else none else none else none else if (0 : Int32) = 0 ∨ (0 : Int32) = 1 then some (some (.inl (0 : Int32)), μ) else none := by
  exact (bw_ex_go [7, 41] 13 41 _ _ _).trans rfl
noncomputable def eX4_weigh (d pc : Nat) (ls : List (Option bwV)) (st : List bwV) (μ : bwM) : Option bwR := bw_ex (bw_call d) 0 bw_z 0 tX4_weigh pc ls st μ
set_option maxRecDepth 20000 in
theorem qX4_weigh (d : Nat)  (μ : bwM) : bw_call (d + 1) 109 [.inr (.inr 30)] μ = eX4_weigh d 7 [some (.inr (.inr 30)), some (.inl (0 : Int32)), none, none, none] [] (bw_sl μ 30 14 (Int64.ofNat 1)) := by
  exact (bw_ex_go [7, 51, 86, 98, 145, 179, 196, 200] 7 0 _ _ _).trans rfl
set_option maxRecDepth 20000 in
theorem qX4_weigh_7 (d : Nat)  (x1 : Int32) (o2 : Option bwV) (μ : bwM) : eX4_weigh d 7 [some (.inr (.inr 30)), some (.inl x1), o2, none, none] [] μ = if (μ.1 30 1) ≤ x1 then some (none, μ) else if (lg_cmp (μ.2 30 14) (Int64.ofNat 0)) ≤ 0 then some (none, μ) else if bw_in x1 12 then if bw_in (((4 : Int32) * x1) + (μ.1 41 x1.toNatClampNeg)) 48 then eX4_weigh d 51 [some (.inr (.inr 30)), some (.inl x1), some (.inl (μ.1 41 x1.toNatClampNeg)), none, none] [] (bw_sl μ 30 14 ((μ.2 30 14) * ((μ.1 38 (((4 : Int32) * x1) + (μ.1 41 x1.toNatClampNeg)).toNatClampNeg).toInt64))) else none else none := by
  exact (bw_ex_go [7, 51, 86, 98, 145, 179, 196, 200] 30 7 _ _ _).trans rfl
set_option maxRecDepth 20000 in
theorem qX4_weigh_51 (d : Nat)  (x1 x2 : Int32) (μ : bwM) : eX4_weigh d 51 [some (.inr (.inr 30)), some (.inl x1), some (.inl x2), none, none] [] μ = if bw_in x1 12 then if (μ.1 37 x1.toNatClampNeg) < 0 then eX4_weigh d 98 [some (.inr (.inr 30)), some (.inl x1), some (.inl x2), some (.inl (0 : Int32)), some (.inl (0 : Int32))] [] μ else if bw_in x1 12 then if (μ.1 37 x1.toNatClampNeg) = x2 then if bw_in x1 12 then eX4_weigh d 86 [some (.inr (.inr 30)), some (.inl x1), some (.inl x2), none, none] [.inr (.inl ((μ.1 32 x1.toNatClampNeg).toInt64)), .inr (.inl (μ.2 30 14)), .inr (.inr 30)] μ else none else eX4_weigh d 86 [some (.inr (.inr 30)), some (.inl x1), some (.inl x2), none, none] [.inr (.inl (Int64.ofNat 0)), .inr (.inl (μ.2 30 14)), .inr (.inr 30)] μ else none else none := by
  exact (bw_ex_go [7, 51, 86, 98, 145, 179, 196, 200] 22 51 _ _ _).trans rfl
set_option maxRecDepth 20000 in
theorem qX4_weigh_86 (d : Nat)  (x1 x2 : Int32) (s1 s2 : Int64) (μ : bwM) : eX4_weigh d 86 [some (.inr (.inr 30)), some (.inl x1), some (.inl x2), none, none] [.inr (.inl s2), .inr (.inl s1), .inr (.inr 30)] μ = eX4_weigh d 200 [some (.inr (.inr 30)), some (.inl x1), some (.inl x2), none, none] [] (bw_sl μ 30 14 (s1 * s2)) := by
  exact (bw_ex_go [7, 51, 86, 98, 145, 179, 196, 200] 5 86 _ _ _).trans rfl
set_option maxRecDepth 20000 in
theorem qX4_weigh_98 (d : Nat)  (x1 x2 x3 x4 : Int32) (μ : bwM) : eX4_weigh d 98 [some (.inr (.inr 30)), some (.inl x1), some (.inl x2), some (.inl x3), some (.inl x4)] [] μ = if bw_in x1 12 then if (μ.1 33 x1.toNatClampNeg) ≤ x4 then if bw_in x1 12 then if (μ.1 36 x1.toNatClampNeg) < 0 then eX4_weigh d 179 [some (.inr (.inr 30)), some (.inl x1), some (.inl x2), some (.inl x3), some (.inl x4)] [.inr (.inl (μ.2 30 14)), .inr (.inr 30)] μ else if bw_in x1 12 then if (μ.1 36 x1.toNatClampNeg) = x2 then eX4_weigh d 179 [some (.inr (.inr 30)), some (.inl x1), some (.inl x2), some (.inl x3), some (.inl x4)] [.inr (.inl (μ.2 30 14)), .inr (.inr 30)] μ else eX4_weigh d 196 [some (.inr (.inr 30)), some (.inl x1), some (.inl x2), some (.inl x3), some (.inl x4)] [.inr (.inl (Int64.ofNat 0)), .inr (.inl (μ.2 30 14)), .inr (.inr 30)] μ else none else none else if bw_in (((3 : Int32) * x1) + x4) 36 then if bw_in (μ.1 34 (((3 : Int32) * x1) + x4).toNatClampNeg) 12 then if bw_in (((3 : Int32) * x1) + x4) 36 then if bw_in (μ.1 34 (((3 : Int32) * x1) + x4).toNatClampNeg) 12 then eX4_weigh d 145 [some (.inr (.inr 30)), some (.inl x1), some (.inl x2), some (.inl ((x3 * (μ.1 31 (μ.1 34 (((3 : Int32) * x1) + x4).toNatClampNeg).toNatClampNeg)) + (μ.1 41 (μ.1 34 (((3 : Int32) * x1) + x4).toNatClampNeg).toNatClampNeg))), some (.inl x4)] [] μ else none else none else none else none else none := by
  exact (bw_ex_go [7, 51, 86, 98, 145, 179, 196, 200] 34 98 _ _ _).trans rfl
set_option maxRecDepth 20000 in
theorem qX4_weigh_145 (d : Nat)  (x1 x2 x3 x4 : Int32) (μ : bwM) : eX4_weigh d 145 [some (.inr (.inr 30)), some (.inl x1), some (.inl x2), some (.inl x3), some (.inl x4)] [] μ = eX4_weigh d 98 [some (.inr (.inr 30)), some (.inl x1), some (.inl x2), some (.inl x3), some (.inl (x4 + (1 : Int32)))] [] μ := by
  exact (bw_ex_go [7, 51, 86, 98, 145, 179, 196, 200] 4 145 _ _ _).trans rfl
set_option maxRecDepth 20000 in
theorem qX4_weigh_179 (d : Nat)  (x1 x2 x3 x4 : Int32) (s1 : Int64) (μ : bwM) : eX4_weigh d 179 [some (.inr (.inr 30)), some (.inl x1), some (.inl x2), some (.inl x3), some (.inl x4)] [.inr (.inl s1), .inr (.inr 30)] μ = if bw_in ((((256 : Int32) * x1) + ((4 : Int32) * x3)) + x2) 3072 then eX4_weigh d 196 [some (.inr (.inr 30)), some (.inl x1), some (.inl x2), some (.inl x3), some (.inl x4)] [.inr (.inl ((μ.1 35 ((((256 : Int32) * x1) + ((4 : Int32) * x3)) + x2).toNatClampNeg).toInt64)), .inr (.inl s1), .inr (.inr 30)] μ else none := by
  exact (bw_ex_go [7, 51, 86, 98, 145, 179, 196, 200] 15 179 _ _ _).trans rfl
set_option maxRecDepth 20000 in
theorem qX4_weigh_196 (d : Nat)  (x1 x2 x3 x4 : Int32) (s1 s2 : Int64) (μ : bwM) : eX4_weigh d 196 [some (.inr (.inr 30)), some (.inl x1), some (.inl x2), some (.inl x3), some (.inl x4)] [.inr (.inl s2), .inr (.inl s1), .inr (.inr 30)] μ = eX4_weigh d 200 [some (.inr (.inr 30)), some (.inl x1), some (.inl x2), some (.inl x3), some (.inl x4)] [] (bw_sl μ 30 14 (s1 * s2)) := by
  exact (bw_ex_go [7, 51, 86, 98, 145, 179, 196, 200] 4 196 _ _ _).trans rfl
set_option maxRecDepth 20000 in
theorem qX4_weigh_200 (d : Nat)  (x1 x2 : Int32) (o3 o4 : Option bwV) (μ : bwM) : eX4_weigh d 200 [some (.inr (.inr 30)), some (.inl x1), some (.inl x2), o3, o4] [] μ = eX4_weigh d 7 [some (.inr (.inr 30)), some (.inl (x1 + (1 : Int32))), some (.inl x2), none, none] [] μ := by
  exact (bw_ex_go [7, 51, 86, 98, 145, 179, 196, 200] 4 200 _ _ _).trans rfl
noncomputable def eX4_sum (d pc : Nat) (ls : List (Option bwV)) (st : List bwV) (μ : bwM) : Option bwR := bw_ex (bw_call d) 0 bw_z 2 tX4_sum pc ls st μ
set_option maxRecDepth 20000 in
theorem qX4_sum (d : Nat)  (x1 x2 x3 x4 : Int32) (μ : bwM) : bw_call (d + 1) 110 [.inr (.inr 30), .inl x1, .inl x2, .inl x3, .inl x4] μ = bw_bV (bw_call d 107 [.inr (.inr 30)] μ) none (fun m1 => eX4_sum d 10 [some (.inr (.inr 30)), some (.inl x1), some (.inl x2), some (.inl x3), some (.inl x4), some (.inr (.inl (Int64.ofNat 0))), none, some (.inl (1 : Int32))] [] m1) := by
  exact (bw_ex_go [10, 29, 44, 57] 8 0 _ _ _).trans rfl
set_option maxRecDepth 20000 in
theorem qX4_sum_10 (d : Nat)  (x1 x2 x3 x4 x7 : Int32) (y5 : Int64) (μ : bwM) : eX4_sum d 10 [some (.inr (.inr 30)), some (.inl x1), some (.inl x2), some (.inl x3), some (.inl x4), some (.inr (.inl y5)), none, some (.inl x7)] [] μ = if x7 = 0 then some (some (.inr (.inl y5)), μ) else if x1 < 0 then eX4_sum d 29 [some (.inr (.inr 30)), some (.inl x1), some (.inl x2), some (.inl x3), some (.inl x4), some (.inr (.inl y5)), none, some (.inl x7)] [] μ else if bw_in x1 12 then if (μ.1 41 x1.toNatClampNeg) = x2 then eX4_sum d 29 [some (.inr (.inr 30)), some (.inl x1), some (.inl x2), some (.inl x3), some (.inl x4), some (.inr (.inl y5)), none, some (.inl x7)] [] μ else eX4_sum d 57 [some (.inr (.inr 30)), some (.inl x1), some (.inl x2), some (.inl x3), some (.inl x4), some (.inr (.inl y5)), none, some (.inl x7)] [] μ else none := by
  exact (bw_ex_go [10, 29, 44, 57] 12 10 _ _ _).trans rfl
set_option maxRecDepth 20000 in
theorem qX4_sum_29 (d : Nat)  (x1 x2 x3 x4 x7 : Int32) (y5 : Int64) (μ : bwM) : eX4_sum d 29 [some (.inr (.inr 30)), some (.inl x1), some (.inl x2), some (.inl x3), some (.inl x4), some (.inr (.inl y5)), none, some (.inl x7)] [] μ = if x3 < 0 then eX4_sum d 44 [some (.inr (.inr 30)), some (.inl x1), some (.inl x2), some (.inl x3), some (.inl x4), some (.inr (.inl y5)), none, some (.inl x7)] [] μ else if bw_in x3 12 then if (μ.1 41 x3.toNatClampNeg) = x4 then eX4_sum d 44 [some (.inr (.inr 30)), some (.inl x1), some (.inl x2), some (.inl x3), some (.inl x4), some (.inr (.inl y5)), none, some (.inl x7)] [] μ else eX4_sum d 57 [some (.inr (.inr 30)), some (.inl x1), some (.inl x2), some (.inl x3), some (.inl x4), some (.inr (.inl y5)), none, some (.inl x7)] [] μ else none := by
  exact (bw_ex_go [10, 29, 44, 57] 10 29 _ _ _).trans rfl
set_option maxRecDepth 20000 in
theorem qX4_sum_44 (d : Nat)  (x1 x2 x3 x4 x7 : Int32) (y5 : Int64) (μ : bwM) : eX4_sum d 44 [some (.inr (.inr 30)), some (.inl x1), some (.inl x2), some (.inl x3), some (.inl x4), some (.inr (.inl y5)), none, some (.inl x7)] [] μ = bw_bV (bw_call d 109 [.inr (.inr 30)] μ) none (fun m1 => eX4_sum d 57 [some (.inr (.inr 30)), some (.inl x1), some (.inl x2), some (.inl x3), some (.inl x4), some (.inr (.inl (y5 + (m1.2 30 14)))), none, some (.inl x7)] [] m1) := by
  exact (bw_ex_go [10, 29, 44, 57] 9 44 _ _ _).trans rfl
set_option maxRecDepth 20000 in
theorem qX4_sum_57 (d : Nat)  (x1 x2 x3 x4 x7 : Int32) (y5 : Int64) (μ : bwM) : eX4_sum d 57 [some (.inr (.inr 30)), some (.inl x1), some (.inl x2), some (.inl x3), some (.inl x4), some (.inr (.inl y5)), none, some (.inl x7)] [] μ = bw_bI (bw_call d 108 [.inr (.inr 30)] μ) none (fun r2 m1 => eX4_sum d 10 [some (.inr (.inr 30)), some (.inl x1), some (.inl x2), some (.inl x3), some (.inl x4), some (.inr (.inl y5)), none, some (.inl r2)] [] m1) := by
  exact (bw_ex_go [10, 29, 44, 57] 6 57 _ _ _).trans rfl
noncomputable def eX4_all (d pc : Nat) (ls : List (Option bwV)) (st : List bwV) (μ : bwM) : Option bwR := bw_ex (bw_call d) 0 bw_z 2 tX4_all pc ls st μ
set_option maxRecDepth 20000 in
theorem qX4_all (d : Nat)  (μ : bwM) : bw_call (d + 1) 111 [.inr (.inr 30)] μ = bw_bL (bw_call d 110 [.inr (.inr 30), .inl (-1 : Int32), .inl (0 : Int32), .inl (-1 : Int32), .inl (0 : Int32)] μ) none (fun r2 m1 => some (some (.inr (.inl r2)), m1)) := by
  exact (bw_ex_go [] 8 0 _ _ _).trans rfl
noncomputable def eX4_common (d pc : Nat) (ls : List (Option bwV)) (st : List bwV) (μ : bwM) : Option bwR := bw_ex (bw_call d) 0 bw_z 2 tX4_common pc ls st μ
set_option maxRecDepth 20000 in
theorem qX4_common (d : Nat)  (y0 y2 : Int64) (μ : bwM) : bw_call (d + 1) 112 [.inr (.inl y0), .inr (.inl y2)] μ = if 0 ≤ (lg_cmp y0 (Int64.ofNat 0)) then eX4_common d 12 [some (.inr (.inl y0)), none, some (.inr (.inl y2)), none, none, none, none, none, none, none] [.inr (.inl y0)] μ else eX4_common d 12 [some (.inr (.inl y0)), none, some (.inr (.inl y2)), none, none, none, none, none, none, none] [.inr (.inl (-y0))] μ := by
  exact (bw_ex_go [12, 17, 39] 9 0 _ _ _).trans rfl
set_option maxRecDepth 20000 in
theorem qX4_common_12 (d : Nat)  (y0 y2 s0 : Int64) (μ : bwM) : eX4_common d 12 [some (.inr (.inl y0)), none, some (.inr (.inl y2)), none, none, none, none, none, none, none] [.inr (.inl s0)] μ = eX4_common d 17 [some (.inr (.inl y0)), none, some (.inr (.inl y2)), none, some (.inr (.inl s0)), none, some (.inr (.inl y2)), none, none, none] [] μ := by
  exact (bw_ex_go [12, 17, 39] 5 12 _ _ _).trans rfl
set_option maxRecDepth 20000 in
theorem qX4_common_17 (d : Nat)  (y0 y2 y4 y6 : Int64) (o8 : Option bwV) (μ : bwM) : eX4_common d 17 [some (.inr (.inl y0)), none, some (.inr (.inl y2)), none, some (.inr (.inl y4)), none, some (.inr (.inl y6)), none, o8, none] [] μ = if (lg_cmp y6 (Int64.ofNat 0)) = 0 then some (some (.inr (.inl y4)), μ) else if y6 = 0 then none else eX4_common d 39 [some (.inr (.inl y0)), none, some (.inr (.inl y2)), none, some (.inr (.inl y6)), none, some (.inr (.inl (y4 - y4 / y6 * y6))), none, some (.inr (.inl (y4 - y4 / y6 * y6))), none] [] μ := by
  exact (bw_ex_go [12, 17, 39] 14 17 _ _ _).trans rfl
set_option maxRecDepth 20000 in
theorem qX4_common_39 (d : Nat)  (y0 y2 y4 y6 y8 : Int64) (μ : bwM) : eX4_common d 39 [some (.inr (.inl y0)), none, some (.inr (.inl y2)), none, some (.inr (.inl y4)), none, some (.inr (.inl y6)), none, some (.inr (.inl y8)), none] [] μ = eX4_common d 17 [some (.inr (.inl y0)), none, some (.inr (.inl y2)), none, some (.inr (.inl y4)), none, some (.inr (.inl y6)), none, some (.inr (.inl y8)), none] [] μ := by
  exact (bw_ex_go [12, 17, 39] 3 39 _ _ _).trans rfl
noncomputable def eX4_tell (d pc : Nat) (ls : List (Option bwV)) (st : List bwV) (μ : bwM) : Option bwR := bw_ex (bw_call d) 0 bw_z 1 tX4_tell pc ls st μ
set_option maxRecDepth 20000 in
theorem qX4_tell (d : Nat)  (y1 y3 : Int64) (μ : bwM) : bw_call (d + 1) 113 [.inr (.inr 30), .inr (.inl y1), .inr (.inl y3)] μ = bw_bL (bw_call d 112 [.inr (.inl y1), .inr (.inl y3)] μ) none (fun r2 m1 => if r2 = 0 then none else if r2 = 0 then none else some (some (.inl (1 : Int32)), bw_sl (bw_sl m1 30 15 (y1 / r2)) 30 16 (y3 / r2))) := by
  exact (bw_ex_go [] 17 0 _ _ _).trans rfl
noncomputable def eX4_up (d pc : Nat) (ls : List (Option bwV)) (st : List bwV) (μ : bwM) : Option bwR := bw_ex (bw_call d) 0 bw_z 2 tX4_up pc ls st μ
set_option maxRecDepth 20000 in
theorem qX4_up (d : Nat)  (μ : bwM) : bw_call (d + 1) 114 [.inr (.inr 30)] μ = some (some (.inr (.inl (μ.2 30 15))), μ) := by
  exact (bw_ex_go [] 4 0 _ _ _).trans rfl
noncomputable def eX4_down (d pc : Nat) (ls : List (Option bwV)) (st : List bwV) (μ : bwM) : Option bwR := bw_ex (bw_call d) 0 bw_z 2 tX4_down pc ls st μ
set_option maxRecDepth 20000 in
theorem qX4_down (d : Nat)  (μ : bwM) : bw_call (d + 1) 115 [.inr (.inr 30)] μ = some (some (.inr (.inl (μ.2 30 16))), μ) := by
  exact (bw_ex_go [] 4 0 _ _ _).trans rfl
noncomputable def eX4_chance (d pc : Nat) (ls : List (Option bwV)) (st : List bwV) (μ : bwM) : Option bwR := bw_ex (bw_call d) 0 bw_z 1 tX4_chance pc ls st μ
set_option maxRecDepth 20000 in
theorem qX4_chance (d : Nat)  (μ : bwM) : bw_call (d + 1) 116 [.inr (.inr 30)] μ = bw_bI (bw_call d 100 [.inr (.inr 30)] μ) none (fun r2 m1 => if r2 = 0 then eX4_chance d 14 [some (.inr (.inr 30)), some (.inr (.inl (Int64.ofNat 1))), none, some (.inl (0 : Int32))] [] m1 else some (some (.inl (-4 : Int32)), m1)) := by
  exact (bw_ex_go [14] 9 0 _ _ _).trans rfl
set_option maxRecDepth 20000 in
theorem qX4_chance_14 (d : Nat)  (x3 : Int32) (y1 : Int64) (μ : bwM) : eX4_chance d 14 [some (.inr (.inr 30)), some (.inr (.inl y1)), none, some (.inl x3)] [] μ = if (μ.1 30 1) ≤ x3 then bw_bL (bw_call d 111 [.inr (.inr 30)] μ) none (fun r2 m1 => bw_bI (bw_call d 113 [.inr (.inr 30), .inr (.inl r2), .inr (.inl y1)] m1) none (fun r4 m3 => some (some (.inl r4), m3))) else if bw_in x3 12 then eX4_chance d 14 [some (.inr (.inr 30)), some (.inr (.inl (y1 * ((μ.1 32 x3.toNatClampNeg).toInt64)))), none, some (.inl (x3 + (1 : Int32)))] [] μ else none := by
  exact (bw_ex_go [14] 16 14 _ _ _).trans rfl
noncomputable def eX4_refused (d pc : Nat) (ls : List (Option bwV)) (st : List bwV) (μ : bwM) : Option bwR := bw_ex (bw_call d) 0 bw_z 1 tX4_refused pc ls st μ
set_option maxRecDepth 20000 in
theorem qX4_refused (d : Nat)  (μ : bwM) : bw_call (d + 1) 117 [.inr (.inr 30)] μ = bw_bI (bw_call d 100 [.inr (.inr 30)] μ) none (fun r2 m1 => if r2 = 0 then bw_bL (bw_call d 111 [.inr (.inr 30)] m1) none (fun r4 m3 => if (lg_cmp r4 (Int64.ofNat 0)) = 0 then some (some (.inl (-5 : Int32)), m3) else some (some (.inl (0 : Int32)), m3)) else some (some (.inl (-4 : Int32)), m1)) := by
  exact (bw_ex_go [] 12 0 _ _ _).trans rfl
noncomputable def eX4_ask (d pc : Nat) (ls : List (Option bwV)) (st : List bwV) (μ : bwM) : Option bwR := bw_ex (bw_call d) 0 bw_z 1 tX4_ask pc ls st μ
set_option maxRecDepth 20000 in
theorem qX4_ask (d : Nat)  (x1 x2 : Int32) (μ : bwM) : bw_call (d + 1) 118 [.inr (.inr 30), .inl x1, .inl x2] μ = bw_bI (bw_call d 86 [.inr (.inr 30), .inl x1, .inl x2] μ) none (fun r2 m1 => if r2 = 0 then some (some (.inl (-1 : Int32)), m1) else bw_bI (bw_call d 117 [.inr (.inr 30)] m1) none (fun r4 m3 => if 0 ≤ r4 then bw_bL (bw_call d 110 [.inr (.inr 30), .inl x1, .inl x2, .inl (-1 : Int32), .inl (0 : Int32)] m3) none (fun r6 m5 => bw_bL (bw_call d 111 [.inr (.inr 30)] m5) none (fun r8 m7 => bw_bI (bw_call d 113 [.inr (.inr 30), .inr (.inl r6), .inr (.inl r8)] m7) none (fun r10 m9 => some (some (.inl r10), m9)))) else some (some (.inl r4), m3))) := by
  exact (bw_ex_go [] 22 0 _ _ _).trans rfl
noncomputable def eX4_both (d pc : Nat) (ls : List (Option bwV)) (st : List bwV) (μ : bwM) : Option bwR := bw_ex (bw_call d) 0 bw_z 1 tX4_both pc ls st μ
set_option maxRecDepth 20000 in
theorem qX4_both (d : Nat)  (x1 x2 x3 x4 : Int32) (μ : bwM) : bw_call (d + 1) 119 [.inr (.inr 30), .inl x1, .inl x2, .inl x3, .inl x4] μ = bw_bI (bw_call d 86 [.inr (.inr 30), .inl x1, .inl x2] μ) none (fun r2 m1 => if r2 = 0 then some (some (.inl (-1 : Int32)), m1) else bw_bI (bw_call d 86 [.inr (.inr 30), .inl x3, .inl x4] m1) none (fun r4 m3 => if r4 = 0 then some (some (.inl (-1 : Int32)), m3) else bw_bI (bw_call d 117 [.inr (.inr 30)] m3) none (fun r6 m5 => if 0 ≤ r6 then bw_bL (bw_call d 110 [.inr (.inr 30), .inl x1, .inl x2, .inl x3, .inl x4] m5) none (fun r8 m7 => bw_bL (bw_call d 111 [.inr (.inr 30)] m7) none (fun r10 m9 => bw_bI (bw_call d 113 [.inr (.inr 30), .inr (.inl r8), .inr (.inl r10)] m9) none (fun r12 m11 => some (some (.inl r12), m11)))) else some (some (.inl r6), m5)))) := by
  exact (bw_ex_go [] 27 0 _ _ _).trans rfl
noncomputable def eX4_most (d pc : Nat) (ls : List (Option bwV)) (st : List bwV) (μ : bwM) : Option bwR := bw_ex (bw_call d) 0 bw_z 1 tX4_most pc ls st μ
set_option maxRecDepth 20000 in
theorem qX4_most (d : Nat)  (x1 : Int32) (μ : bwM) : bw_call (d + 1) 120 [.inr (.inr 30), .inl x1] μ = bw_bI (bw_call d 85 [.inr (.inr 30), .inl x1] μ) none (fun r2 m1 => if r2 = 0 then some (some (.inl (-1 : Int32)), m1) else bw_bI (bw_call d 117 [.inr (.inr 30)] m1) none (fun r4 m3 => if 0 ≤ r4 then bw_bL (bw_call d 110 [.inr (.inr 30), .inl x1, .inl (0 : Int32), .inl (-1 : Int32), .inl (0 : Int32)] m3) none (fun r6 m5 => eX4_most d 33 [some (.inr (.inr 30)), some (.inl x1), some (.inl r4), some (.inl (0 : Int32)), some (.inr (.inl r6)), none, none, none, none] [] m5) else some (some (.inl r4), m3))) := by
  exact (bw_ex_go [33, 36, 58, 76] 20 0 _ _ _).trans rfl
set_option maxRecDepth 20000 in
theorem qX4_most_33 (d : Nat)  (x1 x2 x3 : Int32) (y4 : Int64) (μ : bwM) : eX4_most d 33 [some (.inr (.inr 30)), some (.inl x1), some (.inl x2), some (.inl x3), some (.inr (.inl y4)), none, none, none, none] [] μ = eX4_most d 36 [some (.inr (.inr 30)), some (.inl x1), some (.inl x2), some (.inl x3), some (.inr (.inl y4)), none, some (.inl (1 : Int32)), none, none] [] μ := by
  exact (bw_ex_go [33, 36, 58, 76] 4 33 _ _ _).trans rfl
set_option maxRecDepth 20000 in
theorem qX4_most_36 (d : Nat)  (x1 x2 x3 x6 : Int32) (y4 : Int64) (o7 : Option bwV) (μ : bwM) : eX4_most d 36 [some (.inr (.inr 30)), some (.inl x1), some (.inl x2), some (.inl x3), some (.inr (.inl y4)), none, some (.inl x6), o7, none] [] μ = if bw_in x1 12 then if (μ.1 31 x1.toNatClampNeg) ≤ x6 then some (some (.inl x3), μ) else bw_bL (bw_call d 110 [.inr (.inr 30), .inl x1, .inl x6, .inl (-1 : Int32), .inl (0 : Int32)] μ) none (fun r2 m1 => eX4_most d 58 [some (.inr (.inr 30)), some (.inl x1), some (.inl x2), some (.inl x3), some (.inr (.inl y4)), none, some (.inl x6), some (.inr (.inl r2)), none] [] m1) else none := by
  exact (bw_ex_go [33, 36, 58, 76] 15 36 _ _ _).trans rfl
set_option maxRecDepth 20000 in
theorem qX4_most_58 (d : Nat)  (x1 x2 x3 x6 : Int32) (y4 y7 : Int64) (μ : bwM) : eX4_most d 58 [some (.inr (.inr 30)), some (.inl x1), some (.inl x2), some (.inl x3), some (.inr (.inl y4)), none, some (.inl x6), some (.inr (.inl y7)), none] [] μ = if 0 < (lg_cmp y7 y4) then eX4_most d 76 [some (.inr (.inr 30)), some (.inl x1), some (.inl x2), some (.inl x6), some (.inr (.inl y7)), none, some (.inl x6), some (.inr (.inl y7)), none] [] μ else eX4_most d 76 [some (.inr (.inr 30)), some (.inl x1), some (.inl x2), some (.inl x3), some (.inr (.inl y4)), none, some (.inl x6), some (.inr (.inl y7)), none] [] μ := by
  exact (bw_ex_go [33, 36, 58, 76] 10 58 _ _ _).trans rfl
set_option maxRecDepth 20000 in
theorem qX4_most_76 (d : Nat)  (x1 x2 x3 x6 : Int32) (y4 y7 : Int64) (μ : bwM) : eX4_most d 76 [some (.inr (.inr 30)), some (.inl x1), some (.inl x2), some (.inl x3), some (.inr (.inl y4)), none, some (.inl x6), some (.inr (.inl y7)), none] [] μ = eX4_most d 36 [some (.inr (.inr 30)), some (.inl x1), some (.inl x2), some (.inl x3), some (.inr (.inl y4)), none, some (.inl (x6 + (1 : Int32))), some (.inr (.inl y7)), none] [] μ := by
  exact (bw_ex_go [33, 36, 58, 76] 4 76 _ _ _).trans rfl
noncomputable def eX4_likeliest (d pc : Nat) (ls : List (Option bwV)) (st : List bwV) (μ : bwM) : Option bwR := bw_ex (bw_call d) 0 bw_z 1 tX4_likeliest pc ls st μ
set_option maxRecDepth 20000 in
theorem qX4_likeliest (d : Nat)  (x1 : Int32) (μ : bwM) : bw_call (d + 1) 121 [.inr (.inr 30), .inl x1] μ = if x1 < 0 then some (some (.inl (-1 : Int32)), μ) else if x1 ≤ (9 : Int32) then bw_bI (bw_call d 100 [.inr (.inr 30)] μ) none (fun r2 m1 => if r2 = 0 then bw_bV (bw_call d 107 [.inr (.inr 30)] m1) none (fun m3 => eX4_likeliest d 30 [some (.inr (.inr 30)), some (.inl x1), some (.inl (0 : Int32)), some (.inl (1 : Int32)), none] [] m3) else some (some (.inl (-4 : Int32)), m1)) else some (some (.inl (-1 : Int32)), μ) := by
  exact (bw_ex_go [30, 66, 73, 99] 16 0 _ _ _).trans rfl
set_option maxRecDepth 20000 in
theorem qX4_likeliest_30 (d : Nat)  (x1 x2 x3 : Int32) (μ : bwM) : eX4_likeliest d 30 [some (.inr (.inr 30)), some (.inl x1), some (.inl x2), some (.inl x3), none] [] μ = if x3 = 0 then if x1 < x2 then eX4_likeliest d 99 [some (.inr (.inr 30)), some (.inl x1), some (.inl x2), some (.inl x3), some (.inl (0 : Int32))] [] (bw_si μ 30 18 (μ.1 30 1)) else some (some (.inl (0 : Int32)), μ) else bw_bV (bw_call d 109 [.inr (.inr 30)] μ) none (fun m1 => if (lg_cmp (m1.2 30 14) (Int64.ofNat 0)) ≤ 0 then eX4_likeliest d 73 [some (.inr (.inr 30)), some (.inl x1), some (.inl x2), some (.inl x3), none] [] m1 else if x2 ≤ x1 then eX4_likeliest d 66 [some (.inr (.inr 30)), some (.inl x1), some (.inl x2), some (.inl x3), none] [] m1 else if bw_in x1 10 then if (lg_cmp (m1.2 30 14) (m1.2 43 x1.toNatClampNeg)) ≤ 0 then eX4_likeliest d 73 [some (.inr (.inr 30)), some (.inl x1), some (.inl x2), some (.inl x3), none] [] m1 else eX4_likeliest d 66 [some (.inr (.inr 30)), some (.inl x1), some (.inl x2), some (.inl x3), none] [] m1 else none) := by
  exact (bw_ex_go [30, 66, 73, 99] 22 30 _ _ _).trans rfl
set_option maxRecDepth 20000 in
theorem qX4_likeliest_66 (d : Nat)  (x1 x2 x3 : Int32) (μ : bwM) : eX4_likeliest d 66 [some (.inr (.inr 30)), some (.inl x1), some (.inl x2), some (.inl x3), none] [] μ = bw_bI (bw_call d 122 [.inr (.inr 30), .inl x2, .inl x1] μ) none (fun r2 m1 => eX4_likeliest d 73 [some (.inr (.inr 30)), some (.inl x1), some (.inl r2), some (.inl x3), none] [] m1) := by
  exact (bw_ex_go [30, 66, 73, 99] 7 66 _ _ _).trans rfl
set_option maxRecDepth 20000 in
theorem qX4_likeliest_73 (d : Nat)  (x1 x2 x3 : Int32) (μ : bwM) : eX4_likeliest d 73 [some (.inr (.inr 30)), some (.inl x1), some (.inl x2), some (.inl x3), none] [] μ = bw_bI (bw_call d 108 [.inr (.inr 30)] μ) none (fun r2 m1 => eX4_likeliest d 30 [some (.inr (.inr 30)), some (.inl x1), some (.inl x2), some (.inl r2), none] [] m1) := by
  exact (bw_ex_go [30, 66, 73, 99] 6 73 _ _ _).trans rfl
set_option maxRecDepth 20000 in
theorem qX4_likeliest_99 (d : Nat)  (x1 x2 x3 x4 : Int32) (μ : bwM) : eX4_likeliest d 99 [some (.inr (.inr 30)), some (.inl x1), some (.inl x2), some (.inl x3), some (.inl x4)] [] μ = if (μ.1 30 1) ≤ x4 then if bw_in x1 10 then bw_bL (bw_call d 111 [.inr (.inr 30)] μ) none (fun r2 m1 => bw_bI (bw_call d 113 [.inr (.inr 30), .inr (.inl (μ.2 43 x1.toNatClampNeg)), .inr (.inl r2)] m1) none (fun r4 m3 => some (some (.inl r4), m3))) else none else if bw_in (((12 : Int32) * x1) + x4) 120 then if bw_in x4 12 then eX4_likeliest d 99 [some (.inr (.inr 30)), some (.inl x1), some (.inl x2), some (.inl x3), some (.inl (x4 + (1 : Int32)))] [] (bw_si μ 42 x4.toNatClampNeg (μ.1 44 (((12 : Int32) * x1) + x4).toNatClampNeg)) else none else none := by
  exact (bw_ex_go [30, 66, 73, 99] 20 99 _ _ _).trans rfl
noncomputable def eX4_insert (d pc : Nat) (ls : List (Option bwV)) (st : List bwV) (μ : bwM) : Option bwR := bw_ex (bw_call d) 0 bw_z 1 tX4_insert pc ls st μ
set_option maxRecDepth 20000 in
theorem qX4_insert (d : Nat)  (x1 x2 : Int32) (μ : bwM) : bw_call (d + 1) 122 [.inr (.inr 30), .inl x1, .inl x2] μ = if x2 < x1 then eX4_insert d 10 [some (.inr (.inr 30)), some (.inl x1), some (.inl x2), none, none] [.inl x2] μ else eX4_insert d 10 [some (.inr (.inr 30)), some (.inl x1), some (.inl x2), none, none] [.inl x1] μ := by
  exact (bw_ex_go [10, 11, 45, 48, 83, 95, 108] 7 0 _ _ _).trans rfl
set_option maxRecDepth 20000 in
theorem qX4_insert_10 (d : Nat)  (x1 x2 s0 : Int32) (μ : bwM) : eX4_insert d 10 [some (.inr (.inr 30)), some (.inl x1), some (.inl x2), none, none] [.inl s0] μ = eX4_insert d 11 [some (.inr (.inr 30)), some (.inl x1), some (.inl x2), some (.inl s0), none] [] μ := by
  exact (bw_ex_go [10, 11, 45, 48, 83, 95, 108] 3 10 _ _ _).trans rfl
set_option maxRecDepth 20000 in
theorem qX4_insert_11 (d : Nat)  (x1 x2 x3 : Int32) (o4 : Option bwV) (μ : bwM) : eX4_insert d 11 [some (.inr (.inr 30)), some (.inl x1), some (.inl x2), some (.inl x3), o4] [] μ = if x3 ≤ 0 then eX4_insert d 95 [some (.inr (.inr 30)), some (.inl x1), some (.inl x2), some (.inl x3), none] [] μ else if bw_in (x3 - (1 : Int32)) 10 then if 0 ≤ (lg_cmp (μ.2 43 (x3 - (1 : Int32)).toNatClampNeg) (μ.2 30 14)) then eX4_insert d 95 [some (.inr (.inr 30)), some (.inl x1), some (.inl x2), some (.inl x3), none] [] μ else if bw_in (x3 - (1 : Int32)) 10 then if bw_in x3 10 then eX4_insert d 45 [some (.inr (.inr 30)), some (.inl x1), some (.inl x2), some (.inl x3), none] [] (bw_sl μ 43 x3.toNatClampNeg (μ.2 43 (x3 - (1 : Int32)).toNatClampNeg)) else none else none else none := by
  exact (bw_ex_go [10, 11, 45, 48, 83, 95, 108] 24 11 _ _ _).trans rfl
set_option maxRecDepth 20000 in
theorem qX4_insert_45 (d : Nat)  (x1 x2 x3 : Int32) (μ : bwM) : eX4_insert d 45 [some (.inr (.inr 30)), some (.inl x1), some (.inl x2), some (.inl x3), none] [] μ = eX4_insert d 48 [some (.inr (.inr 30)), some (.inl x1), some (.inl x2), some (.inl x3), some (.inl (0 : Int32))] [] μ := by
  exact (bw_ex_go [10, 11, 45, 48, 83, 95, 108] 4 45 _ _ _).trans rfl
set_option maxRecDepth 20000 in
theorem qX4_insert_48 (d : Nat)  (x1 x2 x3 x4 : Int32) (μ : bwM) : eX4_insert d 48 [some (.inr (.inr 30)), some (.inl x1), some (.inl x2), some (.inl x3), some (.inl x4)] [] μ = if (μ.1 30 1) ≤ x4 then eX4_insert d 11 [some (.inr (.inr 30)), some (.inl x1), some (.inl x2), some (.inl (x3 + (-1 : Int32))), some (.inl x4)] [] μ else if bw_in (((12 : Int32) * (x3 - (1 : Int32))) + x4) 120 then if bw_in (((12 : Int32) * x3) + x4) 120 then eX4_insert d 83 [some (.inr (.inr 30)), some (.inl x1), some (.inl x2), some (.inl x3), some (.inl x4)] [] (bw_si μ 44 (((12 : Int32) * x3) + x4).toNatClampNeg (μ.1 44 (((12 : Int32) * (x3 - (1 : Int32))) + x4).toNatClampNeg)) else none else none := by
  exact (bw_ex_go [10, 11, 45, 48, 83, 95, 108] 24 48 _ _ _).trans rfl
set_option maxRecDepth 20000 in
theorem qX4_insert_83 (d : Nat)  (x1 x2 x3 x4 : Int32) (μ : bwM) : eX4_insert d 83 [some (.inr (.inr 30)), some (.inl x1), some (.inl x2), some (.inl x3), some (.inl x4)] [] μ = eX4_insert d 48 [some (.inr (.inr 30)), some (.inl x1), some (.inl x2), some (.inl x3), some (.inl (x4 + (1 : Int32)))] [] μ := by
  exact (bw_ex_go [10, 11, 45, 48, 83, 95, 108] 4 83 _ _ _).trans rfl
set_option maxRecDepth 20000 in
theorem qX4_insert_95 (d : Nat)  (x1 x2 x3 : Int32) (μ : bwM) : eX4_insert d 95 [some (.inr (.inr 30)), some (.inl x1), some (.inl x2), some (.inl x3), none] [] μ = if bw_in x3 10 then eX4_insert d 108 [some (.inr (.inr 30)), some (.inl x1), some (.inl x2), some (.inl x3), some (.inl (0 : Int32))] [] (bw_sl μ 43 x3.toNatClampNeg (μ.2 30 14)) else none := by
  exact (bw_ex_go [10, 11, 45, 48, 83, 95, 108] 10 95 _ _ _).trans rfl
set_option maxRecDepth 20000 in
theorem qX4_insert_108 (d : Nat)  (x1 x2 x3 x4 : Int32) (μ : bwM) : eX4_insert d 108 [some (.inr (.inr 30)), some (.inl x1), some (.inl x2), some (.inl x3), some (.inl x4)] [] μ = if (μ.1 30 1) ≤ x4 then if x2 < x1 then some (some (.inl x1), μ) else some (some (.inl (x1 + (1 : Int32))), μ) else if bw_in x4 12 then if bw_in (((12 : Int32) * x3) + x4) 120 then eX4_insert d 108 [some (.inr (.inr 30)), some (.inl x1), some (.inl x2), some (.inl x3), some (.inl (x4 + (1 : Int32)))] [] (bw_si μ 44 (((12 : Int32) * x3) + x4).toNatClampNeg (μ.1 41 x4.toNatClampNeg)) else none else none := by
  exact (bw_ex_go [10, 11, 45, 48, 83, 95, 108] 20 108 _ _ _).trans rfl
noncomputable def eX4_at (d pc : Nat) (ls : List (Option bwV)) (st : List bwV) (μ : bwM) : Option bwR := bw_ex (bw_call d) 0 bw_z 1 tX4_at pc ls st μ
set_option maxRecDepth 20000 in
theorem qX4_at (d : Nat)  (x1 : Int32) (μ : bwM) : bw_call (d + 1) 123 [.inr (.inr 30), .inl x1] μ = if x1 < 0 then some (some (.inl (-2 : Int32)), μ) else if (μ.1 30 18) ≤ x1 then some (some (.inl (-2 : Int32)), μ) else if bw_in x1 12 then some (some (.inl (μ.1 42 x1.toNatClampNeg)), μ) else none := by
  exact (bw_ex_go [] 13 0 _ _ _).trans rfl
noncomputable def eX4_wholes (d pc : Nat) (ls : List (Option bwV)) (st : List bwV) (μ : bwM) : Option bwR := bw_ex (bw_call d) 0 bw_z 1 tX4_wholes pc ls st μ
set_option maxRecDepth 20000 in
theorem qX4_wholes (d : Nat)  (μ : bwM) : bw_call (d + 1) 124 [.inr (.inr 30)] μ = bw_bI (bw_call d 100 [.inr (.inr 30)] μ) none (fun r2 m1 => if r2 = 0 then bw_bV (bw_call d 107 [.inr (.inr 30)] m1) none (fun m3 => eX4_wholes d 18 [some (.inr (.inr 30)), some (.inl (0 : Int32)), some (.inl (1 : Int32))] [] m3) else some (some (.inl (-4 : Int32)), m1)) := by
  exact (bw_ex_go [18, 41] 11 0 _ _ _).trans rfl
set_option maxRecDepth 20000 in
theorem qX4_wholes_18 (d : Nat)  (x1 x2 : Int32) (μ : bwM) : eX4_wholes d 18 [some (.inr (.inr 30)), some (.inl x1), some (.inl x2)] [] μ = if x2 = 0 then some (some (.inl x1), μ) else bw_bV (bw_call d 109 [.inr (.inr 30)] μ) none (fun m1 => if (lg_cmp (m1.2 30 14) (Int64.ofNat 0)) ≤ 0 then eX4_wholes d 41 [some (.inr (.inr 30)), some (.inl x1), some (.inl x2)] [.inl (0 : Int32), .inl x1] m1 else eX4_wholes d 41 [some (.inr (.inr 30)), some (.inl x1), some (.inl x2)] [.inl (1 : Int32), .inl x1] m1) := by
  exact (bw_ex_go [18, 41] 14 18 _ _ _).trans rfl
set_option maxRecDepth 20000 in
theorem qX4_wholes_41 (d : Nat)  (x1 x2 s0 s1 : Int32) (μ : bwM) : eX4_wholes d 41 [some (.inr (.inr 30)), some (.inl x1), some (.inl x2)] [.inl s1, .inl s0] μ = bw_bI (bw_call d 108 [.inr (.inr 30)] μ) none (fun r2 m1 => eX4_wholes d 18 [some (.inr (.inr 30)), some (.inl (s0 + s1)), some (.inl r2)] [] m1) := by
  exact (bw_ex_go [18, 41] 8 41 _ _ _).trans rfl
noncomputable def eX4_leads (d pc : Nat) (ls : List (Option bwV)) (st : List bwV) (μ : bwM) : Option bwR := bw_ex (bw_call d) 0 bw_z 3 tX4_leads pc ls st μ
set_option maxRecDepth 20000 in
theorem qX4_leads (d : Nat)  (x1 x2 : Int32) (μ : bwM) : bw_call (d + 1) 125 [.inr (.inr 30), .inl x1, .inl x2] μ = if bw_in x2 12 then if 0 ≤ (μ.1 37 x2.toNatClampNeg) then if (0 : Int32) = 0 ∨ (0 : Int32) = 1 then some (some (.inl (0 : Int32)), μ) else none else bw_bI (bw_call d 90 [.inr (.inr 30), .inl x1, .inl x2] μ) none (fun r2 m1 => if r2 = 0 then if (0 : Int32) = 0 ∨ (0 : Int32) = 1 then some (some (.inl (0 : Int32)), m1) else none else if (1 : Int32) = 0 ∨ (1 : Int32) = 1 then some (some (.inl (1 : Int32)), m1) else none) else none := by
  exact (bw_ex_go [] 14 0 _ _ _).trans rfl
noncomputable def eX4_passes (d pc : Nat) (ls : List (Option bwV)) (st : List bwV) (μ : bwM) : Option bwR := bw_ex (bw_call d) 0 bw_z 3 tX4_passes pc ls st μ
set_option maxRecDepth 20000 in
theorem qX4_passes (d : Nat)  (x1 x2 x3 : Int32) (μ : bwM) : bw_call (d + 1) 126 [.inr (.inr 30), .inl x1, .inl x2, .inl x3] μ = bw_bI (bw_call d 125 [.inr (.inr 30), .inl x1, .inl x2] μ) none (fun r2 m1 => if r2 = 0 then eX4_passes d 66 [some (.inr (.inr 30)), some (.inl x1), some (.inl x2), some (.inl x3), none] [] m1 else bw_bI (bw_call d 125 [.inr (.inr 30), .inl x3, .inl x2] m1) none (fun r4 m3 => if r4 = 0 then eX4_passes d 66 [some (.inr (.inr 30)), some (.inl x1), some (.inl x2), some (.inl x3), none] [] m3 else bw_bV (bw_call d 91 [.inr (.inr 30), .inl x2, .inl (1 : Int32)] m3) none (fun m5 => eX4_passes d 27 [some (.inr (.inr 30)), some (.inl x1), some (.inl x2), some (.inl x3), some (.inl (0 : Int32))] [] m5))) := by
  exact (bw_ex_go [27, 58, 66] 18 0 _ _ _).trans rfl
set_option maxRecDepth 20000 in
theorem qX4_passes_27 (d : Nat)  (x1 x2 x3 x4 : Int32) (μ : bwM) : eX4_passes d 27 [some (.inr (.inr 30)), some (.inl x1), some (.inl x2), some (.inl x3), some (.inl x4)] [] μ = if (μ.1 30 1) ≤ x4 then if (0 : Int32) = 0 ∨ (0 : Int32) = 1 then some (some (.inl (0 : Int32)), μ) else none else if bw_in x4 12 then if (μ.1 40 x4.toNatClampNeg) = 0 then eX4_passes d 58 [some (.inr (.inr 30)), some (.inl x1), some (.inl x2), some (.inl x3), some (.inl x4)] [] μ else if bw_in x4 12 then if (μ.1 36 x4.toNatClampNeg) < 0 then eX4_passes d 58 [some (.inr (.inr 30)), some (.inl x1), some (.inl x2), some (.inl x3), some (.inl x4)] [] μ else if (1 : Int32) = 0 ∨ (1 : Int32) = 1 then some (some (.inl (1 : Int32)), μ) else none else none else none := by
  exact (bw_ex_go [27, 58, 66] 17 27 _ _ _).trans rfl
set_option maxRecDepth 20000 in
theorem qX4_passes_58 (d : Nat)  (x1 x2 x3 x4 : Int32) (μ : bwM) : eX4_passes d 58 [some (.inr (.inr 30)), some (.inl x1), some (.inl x2), some (.inl x3), some (.inl x4)] [] μ = eX4_passes d 27 [some (.inr (.inr 30)), some (.inl x1), some (.inl x2), some (.inl x3), some (.inl (x4 + (1 : Int32)))] [] μ := by
  exact (bw_ex_go [27, 58, 66] 4 58 _ _ _).trans rfl
set_option maxRecDepth 20000 in
theorem qX4_passes_66 (d : Nat)  (x1 x2 x3 : Int32) (μ : bwM) : eX4_passes d 66 [some (.inr (.inr 30)), some (.inl x1), some (.inl x2), some (.inl x3), none] [] μ = if bw_in x2 12 then if 0 ≤ (μ.1 36 x2.toNatClampNeg) then if (0 : Int32) = 0 ∨ (0 : Int32) = 1 then some (some (.inl (0 : Int32)), μ) else none else if bw_in x2 12 then if 0 ≤ (μ.1 37 x2.toNatClampNeg) then if (0 : Int32) = 0 ∨ (0 : Int32) = 1 then some (some (.inl (0 : Int32)), μ) else none else if (1 : Int32) = 0 ∨ (1 : Int32) = 1 then some (some (.inl (1 : Int32)), μ) else none else none else none := by
  exact (bw_ex_go [27, 58, 66] 14 66 _ _ _).trans rfl
noncomputable def eX4_apart (d pc : Nat) (ls : List (Option bwV)) (st : List bwV) (μ : bwM) : Option bwR := bw_ex (bw_call d) 0 bw_z 1 tX4_apart pc ls st μ
set_option maxRecDepth 20000 in
theorem qX4_apart (d : Nat)  (x1 x2 : Int32) (μ : bwM) : bw_call (d + 1) 127 [.inr (.inr 30), .inl x1, .inl x2] μ = bw_bI (bw_call d 85 [.inr (.inr 30), .inl x1] μ) none (fun r2 m1 => if r2 = 0 then some (some (.inl (-1 : Int32)), m1) else bw_bI (bw_call d 85 [.inr (.inr 30), .inl x2] m1) none (fun r4 m3 => if r4 = 0 then some (some (.inl (-1 : Int32)), m3) else if x1 = x2 then some (some (.inl (0 : Int32)), m3) else eX4_apart d 27 [some (.inr (.inr 30)), some (.inl x1), some (.inl x2), some (.inl (0 : Int32)), none, none] [] m3)) := by
  exact (bw_ex_go [27, 50, 73, 95, 136, 159, 165, 201, 215] 15 0 _ _ _).trans rfl
set_option maxRecDepth 20000 in
theorem qX4_apart_27 (d : Nat)  (x1 x2 x3 : Int32) (μ : bwM) : eX4_apart d 27 [some (.inr (.inr 30)), some (.inl x1), some (.inl x2), some (.inl x3), none, none] [] μ = if (μ.1 30 1) ≤ x3 then if bw_in (0 : Int32) 13 then if bw_in (0 : Int32) 13 then eX4_apart d 73 [some (.inr (.inr 30)), some (.inl x1), some (.inl x2), some (.inl (0 : Int32)), none, none] [] (bw_si (bw_si μ 45 (0 : Int32).toNatClampNeg x1) 46 (0 : Int32).toNatClampNeg (-1 : Int32)) else none else none else if x3 = x1 then eX4_apart d 50 [some (.inr (.inr 30)), some (.inl x1), some (.inl x2), some (.inl x3), none, none] [.inl (1 : Int32), .inl x3, .inr (.inr 47)] μ else eX4_apart d 50 [some (.inr (.inr 30)), some (.inl x1), some (.inl x2), some (.inl x3), none, none] [.inl (0 : Int32), .inl x3, .inr (.inr 47)] μ := by
  exact (bw_ex_go [27, 50, 73, 95, 136, 159, 165, 201, 215] 18 27 _ _ _).trans rfl
set_option maxRecDepth 20000 in
theorem qX4_apart_50 (d : Nat)  (x1 x2 x3 s1 s2 : Int32) (μ : bwM) : eX4_apart d 50 [some (.inr (.inr 30)), some (.inl x1), some (.inl x2), some (.inl x3), none, none] [.inl s2, .inl s1, .inr (.inr 47)] μ = if bw_in s1 12 then eX4_apart d 27 [some (.inr (.inr 30)), some (.inl x1), some (.inl x2), some (.inl (x3 + (1 : Int32))), none, none] [] (bw_si μ 47 s1.toNatClampNeg (vp_nar .boolean s2)) else none := by
  exact (bw_ex_go [27, 50, 73, 95, 136, 159, 165, 201, 215] 5 50 _ _ _).trans rfl
set_option maxRecDepth 20000 in
theorem qX4_apart_73 (d : Nat)  (x1 x2 x3 : Int32) (o4 o5 : Option bwV) (μ : bwM) : eX4_apart d 73 [some (.inr (.inr 30)), some (.inl x1), some (.inl x2), some (.inl x3), o4, o5] [] μ = if x3 < 0 then some (some (.inl (1 : Int32)), μ) else if bw_in x3 13 then if bw_in x3 13 then eX4_apart d 95 [some (.inr (.inr 30)), some (.inl x1), some (.inl x2), some (.inl x3), some (.inl (μ.1 45 x3.toNatClampNeg)), some (.inl ((μ.1 46 x3.toNatClampNeg) + (1 : Int32)))] [] μ else none else none := by
  exact (bw_ex_go [27, 50, 73, 95, 136, 159, 165, 201, 215] 16 73 _ _ _).trans rfl
set_option maxRecDepth 20000 in
theorem qX4_apart_95 (d : Nat)  (x1 x2 x3 x4 x5 : Int32) (μ : bwM) : eX4_apart d 95 [some (.inr (.inr 30)), some (.inl x1), some (.inl x2), some (.inl x3), some (.inl x4), some (.inl x5)] [] μ = if (μ.1 30 1) ≤ x5 then eX4_apart d 165 [some (.inr (.inr 30)), some (.inl x1), some (.inl x2), some (.inl x3), some (.inl x4), some (.inl x5)] [] μ else if bw_in x5 12 then if (μ.1 47 x5.toNatClampNeg) = 0 then bw_bI (bw_call d 125 [.inr (.inr 30), .inl x4, .inl x5] μ) none (fun r2 m1 => if r2 = 0 then bw_bI (bw_call d 125 [.inr (.inr 30), .inl x5, .inl x4] m1) none (fun r4 m3 => if r4 = 0 then eX4_apart d 159 [some (.inr (.inr 30)), some (.inl x1), some (.inl x2), some (.inl x3), some (.inl x4), some (.inl x5)] [] m3 else eX4_apart d 136 [some (.inr (.inr 30)), some (.inl x1), some (.inl x2), some (.inl x3), some (.inl x4), some (.inl x5)] [] m3) else eX4_apart d 136 [some (.inr (.inr 30)), some (.inl x1), some (.inl x2), some (.inl x3), some (.inl x4), some (.inl x5)] [] m1) else eX4_apart d 159 [some (.inr (.inr 30)), some (.inl x1), some (.inl x2), some (.inl x3), some (.inl x4), some (.inl x5)] [] μ else none := by
  exact (bw_ex_go [27, 50, 73, 95, 136, 159, 165, 201, 215] 21 95 _ _ _).trans rfl
set_option maxRecDepth 20000 in
theorem qX4_apart_136 (d : Nat)  (x1 x2 x3 x4 x5 : Int32) (μ : bwM) : eX4_apart d 136 [some (.inr (.inr 30)), some (.inl x1), some (.inl x2), some (.inl x3), some (.inl x4), some (.inl x5)] [] μ = if x3 = 0 then eX4_apart d 165 [some (.inr (.inr 30)), some (.inl x1), some (.inl x2), some (.inl x3), some (.inl x4), some (.inl x5)] [] μ else if bw_in (x3 - (1 : Int32)) 13 then bw_bI (bw_call d 126 [.inr (.inr 30), .inl (μ.1 45 (x3 - (1 : Int32)).toNatClampNeg), .inl x4, .inl x5] μ) none (fun r2 m1 => if r2 = 0 then eX4_apart d 159 [some (.inr (.inr 30)), some (.inl x1), some (.inl x2), some (.inl x3), some (.inl x4), some (.inl x5)] [] m1 else eX4_apart d 165 [some (.inr (.inr 30)), some (.inl x1), some (.inl x2), some (.inl x3), some (.inl x4), some (.inl x5)] [] m1) else none := by
  exact (bw_ex_go [27, 50, 73, 95, 136, 159, 165, 201, 215] 15 136 _ _ _).trans rfl
set_option maxRecDepth 20000 in
theorem qX4_apart_159 (d : Nat)  (x1 x2 x3 x4 x5 : Int32) (μ : bwM) : eX4_apart d 159 [some (.inr (.inr 30)), some (.inl x1), some (.inl x2), some (.inl x3), some (.inl x4), some (.inl x5)] [] μ = eX4_apart d 95 [some (.inr (.inr 30)), some (.inl x1), some (.inl x2), some (.inl x3), some (.inl x4), some (.inl (x5 + (1 : Int32)))] [] μ := by
  exact (bw_ex_go [27, 50, 73, 95, 136, 159, 165, 201, 215] 4 159 _ _ _).trans rfl
set_option maxRecDepth 20000 in
theorem qX4_apart_165 (d : Nat)  (x1 x2 x3 x4 x5 : Int32) (μ : bwM) : eX4_apart d 165 [some (.inr (.inr 30)), some (.inl x1), some (.inl x2), some (.inl x3), some (.inl x4), some (.inl x5)] [] μ = if bw_in x3 13 then if x5 = x2 then some (some (.inl (0 : Int32)), bw_si μ 46 x3.toNatClampNeg x5) else if x5 < ((bw_si μ 46 x3.toNatClampNeg x5).1 30 1) then if bw_in (x3 + (1 : Int32)) 13 then eX4_apart d 215 [some (.inr (.inr 30)), some (.inl x1), some (.inl x2), some (.inl (x3 + (1 : Int32))), some (.inl x4), some (.inl x5)] [] (bw_si (bw_si μ 46 x3.toNatClampNeg x5) 45 (x3 + (1 : Int32)).toNatClampNeg x5) else none else if bw_in x4 12 then eX4_apart d 201 [some (.inr (.inr 30)), some (.inl x1), some (.inl x2), some (.inl (x3 + (-1 : Int32))), some (.inl x4), some (.inl x5)] [] (bw_si (bw_si μ 46 x3.toNatClampNeg x5) 47 x4.toNatClampNeg (vp_nar .boolean (0 : Int32))) else none else none := by
  exact (bw_ex_go [27, 50, 73, 95, 136, 159, 165, 201, 215] 20 165 _ _ _).trans rfl
set_option maxRecDepth 20000 in
theorem qX4_apart_201 (d : Nat)  (x1 x2 x3 x4 x5 : Int32) (μ : bwM) : eX4_apart d 201 [some (.inr (.inr 30)), some (.inl x1), some (.inl x2), some (.inl x3), some (.inl x4), some (.inl x5)] [] μ = eX4_apart d 73 [some (.inr (.inr 30)), some (.inl x1), some (.inl x2), some (.inl x3), some (.inl x4), some (.inl x5)] [] μ := by
  exact (bw_ex_go [27, 50, 73, 95, 136, 159, 165, 201, 215] 3 201 _ _ _).trans rfl
set_option maxRecDepth 20000 in
theorem qX4_apart_215 (d : Nat)  (x1 x2 x3 x4 x5 : Int32) (μ : bwM) : eX4_apart d 215 [some (.inr (.inr 30)), some (.inl x1), some (.inl x2), some (.inl x3), some (.inl x4), some (.inl x5)] [] μ = if bw_in x3 13 then if bw_in x5 12 then eX4_apart d 73 [some (.inr (.inr 30)), some (.inl x1), some (.inl x2), some (.inl x3), some (.inl x4), some (.inl x5)] [] (bw_si (bw_si μ 46 x3.toNatClampNeg (-1 : Int32)) 47 x5.toNatClampNeg (vp_nar .boolean (1 : Int32))) else none else none := by
  exact (bw_ex_go [27, 50, 73, 95, 136, 159, 165, 201, 215] 13 215 _ _ _).trans rfl
noncomputable def eX4_options (d pc : Nat) (ls : List (Option bwV)) (st : List bwV) (μ : bwM) : Option bwR := bw_ex (bw_call d) 0 bw_z 1 tX4_options pc ls st μ
set_option maxRecDepth 20000 in
theorem qX4_options (d : Nat)  (x1 : Int32) (μ : bwM) : bw_call (d + 1) 128 [.inr (.inr 30), .inl x1] μ = if x1 < 0 then some (some (.inl (-1 : Int32)), μ) else if x1 ≤ (6 : Int32) then bw_bV (bw_call d 139 [.inr (.inr 30), .inl (5 : Int32), .inl (0 : Int32)] μ) none (fun m1 => eX4_options d 25 [some (.inr (.inr 30)), some (.inl x1), some (.inl (m1.1 30 10)), some (.inl (m1.1 30 10)), none] [] m1) else some (some (.inl (-1 : Int32)), μ) := by
  exact (bw_ex_go [25, 33] 16 0 _ _ _).trans rfl
set_option maxRecDepth 20000 in
theorem qX4_options_25 (d : Nat)  (x1 x2 x3 : Int32) (o4 : Option bwV) (μ : bwM) : eX4_options d 25 [some (.inr (.inr 30)), some (.inl x1), some (.inl x2), some (.inl x3), o4] [] μ = if x1 ≤ x3 then some (some (.inl x2), bw_si μ 30 10 x1) else eX4_options d 33 [some (.inr (.inr 30)), some (.inl x1), some (.inl x2), some (.inl x3), some (.inl (0 : Int32))] [] μ := by
  exact (bw_ex_go [25, 33] 9 25 _ _ _).trans rfl
set_option maxRecDepth 20000 in
theorem qX4_options_33 (d : Nat)  (x1 x2 x3 x4 : Int32) (μ : bwM) : eX4_options d 33 [some (.inr (.inr 30)), some (.inl x1), some (.inl x2), some (.inl x3), some (.inl x4)] [] μ = if (48 : Int32) ≤ x4 then eX4_options d 25 [some (.inr (.inr 30)), some (.inl x1), some (.inl x2), some (.inl (x3 + (1 : Int32))), some (.inl x4)] [] μ else if bw_in (((48 : Int32) * x3) + x4) 288 then eX4_options d 33 [some (.inr (.inr 30)), some (.inl x1), some (.inl x2), some (.inl x3), some (.inl (x4 + (1 : Int32)))] [] (bw_si μ 39 (((48 : Int32) * x3) + x4).toNatClampNeg (0 : Int32)) else none := by
  exact (bw_ex_go [25, 33] 16 33 _ _ _).trans rfl
noncomputable def eX4_isOption (d pc : Nat) (ls : List (Option bwV)) (st : List bwV) (μ : bwM) : Option bwR := bw_ex (bw_call d) 0 bw_z 3 tX4_isOption pc ls st μ
set_option maxRecDepth 20000 in
theorem qX4_isOption (d : Nat)  (x1 : Int32) (μ : bwM) : bw_call (d + 1) 129 [.inr (.inr 30), .inl x1] μ = if x1 < 0 then if (0 : Int32) = 0 ∨ (0 : Int32) = 1 then some (some (.inl (0 : Int32)), μ) else none else if (μ.1 30 10) ≤ x1 then if (0 : Int32) = 0 ∨ (0 : Int32) = 1 then some (some (.inl (0 : Int32)), μ) else none else if (1 : Int32) = 0 ∨ (1 : Int32) = 1 then some (some (.inl (1 : Int32)), μ) else none := by
  exact (bw_ex_go [] 10 0 _ _ _).trans rfl
noncomputable def eX4_worth (d pc : Nat) (ls : List (Option bwV)) (st : List bwV) (μ : bwM) : Option bwR := bw_ex (bw_call d) 0 bw_z 1 tX4_worth pc ls st μ
set_option maxRecDepth 20000 in
theorem qX4_worth (d : Nat)  (x1 x2 x3 x4 : Int32) (μ : bwM) : bw_call (d + 1) 130 [.inr (.inr 30), .inl x1, .inl x2, .inl x3, .inl x4] μ = bw_bI (bw_call d 129 [.inr (.inr 30), .inl x1] μ) none (fun r2 m1 => if r2 = 0 then some (some (.inl (10000 : Int32)), m1) else bw_bI (bw_call d 86 [.inr (.inr 30), .inl x2, .inl x3] m1) none (fun r4 m3 => if r4 = 0 then some (some (.inl (10000 : Int32)), m3) else if x4 < (-500 : Int32) then some (some (.inl (10000 : Int32)), m3) else eX4_worth d 25 [some (.inr (.inr 30)), some (.inl x1), some (.inl x2), some (.inl x3), some (.inl x4), none, none] [] m3)) := by
  exact (bw_ex_go [25, 49, 79] 15 0 _ _ _).trans rfl
set_option maxRecDepth 20000 in
theorem qX4_worth_25 (d : Nat)  (x1 x2 x3 x4 : Int32) (μ : bwM) : eX4_worth d 25 [some (.inr (.inr 30)), some (.inl x1), some (.inl x2), some (.inl x3), some (.inl x4), none, none] [] μ = if x4 ≤ (500 : Int32) then eX4_worth d 49 [some (.inr (.inr 30)), some (.inl x1), some (.inl x2), some (.inl x3), some (.inl x4), some (.inl ((((48 : Int32) * x1) + ((4 : Int32) * x2)) + x3)), none] [] μ else some (some (.inl (10000 : Int32)), μ) := by
  exact (bw_ex_go [25, 49, 79] 15 25 _ _ _).trans rfl
set_option maxRecDepth 20000 in
theorem qX4_worth_49 (d : Nat)  (x1 x2 x3 x4 x5 : Int32) (μ : bwM) : eX4_worth d 49 [some (.inr (.inr 30)), some (.inl x1), some (.inl x2), some (.inl x3), some (.inl x4), some (.inl x5), none] [] μ = bw_bV (bw_call d 139 [.inr (.inr 30), .inl (6 : Int32), .inl x5] μ) none (fun m1 => if bw_in x5 288 then if bw_in ((m1.1 30 25) - (1 : Int32)) 100 then eX4_worth d 79 [some (.inr (.inr 30)), some (.inl x1), some (.inl x2), some (.inl x3), some (.inl x4), some (.inl x5), some (.inl (m1.1 39 x5.toNatClampNeg))] [] (bw_si m1 50 ((m1.1 30 25) - (1 : Int32)).toNatClampNeg (m1.1 39 x5.toNatClampNeg)) else none else none) := by
  exact (bw_ex_go [25, 49, 79] 19 49 _ _ _).trans rfl
set_option maxRecDepth 20000 in
theorem qX4_worth_79 (d : Nat)  (x1 x2 x3 x4 x5 x6 : Int32) (μ : bwM) : eX4_worth d 79 [some (.inr (.inr 30)), some (.inl x1), some (.inl x2), some (.inl x3), some (.inl x4), some (.inl x5), some (.inl x6)] [] μ = if bw_in x5 288 then some (some (.inl x6), bw_si μ 39 x5.toNatClampNeg x4) else none := by
  exact (bw_ex_go [25, 49, 79] 8 79 _ _ _).trans rfl
noncomputable def eX4_worthOf (d pc : Nat) (ls : List (Option bwV)) (st : List bwV) (μ : bwM) : Option bwR := bw_ex (bw_call d) 0 bw_z 2 tX4_worthOf pc ls st μ
set_option maxRecDepth 20000 in
theorem qX4_worthOf (d : Nat)  (x1 x2 x3 : Int32) (μ : bwM) : bw_call (d + 1) 131 [.inr (.inr 30), .inl x1, .inl x2, .inl x3] μ = bw_bV (bw_call d 107 [.inr (.inr 30)] μ) none (fun m1 => eX4_worthOf d 10 [some (.inr (.inr 30)), some (.inl x1), some (.inl x2), some (.inl x3), some (.inr (.inl (Int64.ofNat 0))), none, some (.inl (1 : Int32)), none, none, none] [] m1) := by
  exact (bw_ex_go [10, 29, 39, 76, 94] 8 0 _ _ _).trans rfl
set_option maxRecDepth 20000 in
theorem qX4_worthOf_10 (d : Nat)  (x1 x2 x3 x6 : Int32) (y4 : Int64) (μ : bwM) : eX4_worthOf d 10 [some (.inr (.inr 30)), some (.inl x1), some (.inl x2), some (.inl x3), some (.inr (.inl y4)), none, some (.inl x6), none, none, none] [] μ = if x6 = 0 then some (some (.inr (.inl y4)), μ) else if x2 < 0 then eX4_worthOf d 29 [some (.inr (.inr 30)), some (.inl x1), some (.inl x2), some (.inl x3), some (.inr (.inl y4)), none, some (.inl x6), none, none, none] [] μ else if bw_in x2 12 then if (μ.1 41 x2.toNatClampNeg) = x3 then eX4_worthOf d 29 [some (.inr (.inr 30)), some (.inl x1), some (.inl x2), some (.inl x3), some (.inr (.inl y4)), none, some (.inl x6), none, none, none] [] μ else eX4_worthOf d 94 [some (.inr (.inr 30)), some (.inl x1), some (.inl x2), some (.inl x3), some (.inr (.inl y4)), none, some (.inl x6), none, none, none] [] μ else none := by
  exact (bw_ex_go [10, 29, 39, 76, 94] 12 10 _ _ _).trans rfl
set_option maxRecDepth 20000 in
theorem qX4_worthOf_29 (d : Nat)  (x1 x2 x3 x6 : Int32) (y4 : Int64) (μ : bwM) : eX4_worthOf d 29 [some (.inr (.inr 30)), some (.inl x1), some (.inl x2), some (.inl x3), some (.inr (.inl y4)), none, some (.inl x6), none, none, none] [] μ = bw_bV (bw_call d 109 [.inr (.inr 30)] μ) none (fun m1 => eX4_worthOf d 39 [some (.inr (.inr 30)), some (.inl x1), some (.inl x2), some (.inl x3), some (.inr (.inl y4)), none, some (.inl x6), some (.inr (.inl (Int64.ofNat 0))), none, some (.inl (0 : Int32))] [] m1) := by
  exact (bw_ex_go [10, 29, 39, 76, 94] 8 29 _ _ _).trans rfl
set_option maxRecDepth 20000 in
theorem qX4_worthOf_39 (d : Nat)  (x1 x2 x3 x6 x9 : Int32) (y4 y7 : Int64) (μ : bwM) : eX4_worthOf d 39 [some (.inr (.inr 30)), some (.inl x1), some (.inl x2), some (.inl x3), some (.inr (.inl y4)), none, some (.inl x6), some (.inr (.inl y7)), none, some (.inl x9)] [] μ = if (μ.1 30 1) ≤ x9 then eX4_worthOf d 94 [some (.inr (.inr 30)), some (.inl x1), some (.inl x2), some (.inl x3), some (.inr (.inl (y4 + (y7 * (μ.2 30 14))))), none, some (.inl x6), some (.inr (.inl y7)), none, some (.inl x9)] [] μ else if bw_in x9 12 then if bw_in ((((48 : Int32) * x1) + ((4 : Int32) * x9)) + (μ.1 41 x9.toNatClampNeg)) 288 then eX4_worthOf d 76 [some (.inr (.inr 30)), some (.inl x1), some (.inl x2), some (.inl x3), some (.inr (.inl y4)), none, some (.inl x6), some (.inr (.inl (y7 + ((μ.1 39 ((((48 : Int32) * x1) + ((4 : Int32) * x9)) + (μ.1 41 x9.toNatClampNeg)).toNatClampNeg).toInt64)))), none, some (.inl x9)] [] μ else none else none := by
  exact (bw_ex_go [10, 29, 39, 76, 94] 25 39 _ _ _).trans rfl
set_option maxRecDepth 20000 in
theorem qX4_worthOf_76 (d : Nat)  (x1 x2 x3 x6 x9 : Int32) (y4 y7 : Int64) (μ : bwM) : eX4_worthOf d 76 [some (.inr (.inr 30)), some (.inl x1), some (.inl x2), some (.inl x3), some (.inr (.inl y4)), none, some (.inl x6), some (.inr (.inl y7)), none, some (.inl x9)] [] μ = eX4_worthOf d 39 [some (.inr (.inr 30)), some (.inl x1), some (.inl x2), some (.inl x3), some (.inr (.inl y4)), none, some (.inl x6), some (.inr (.inl y7)), none, some (.inl (x9 + (1 : Int32)))] [] μ := by
  exact (bw_ex_go [10, 29, 39, 76, 94] 4 76 _ _ _).trans rfl
set_option maxRecDepth 20000 in
theorem qX4_worthOf_94 (d : Nat)  (x1 x2 x3 x6 : Int32) (y4 : Int64) (o7 o9 : Option bwV) (μ : bwM) : eX4_worthOf d 94 [some (.inr (.inr 30)), some (.inl x1), some (.inl x2), some (.inl x3), some (.inr (.inl y4)), none, some (.inl x6), o7, none, o9] [] μ = bw_bI (bw_call d 108 [.inr (.inr 30)] μ) none (fun r2 m1 => eX4_worthOf d 10 [some (.inr (.inr 30)), some (.inl x1), some (.inl x2), some (.inl x3), some (.inr (.inl y4)), none, some (.inl r2), none, none, none] [] m1) := by
  exact (bw_ex_go [10, 29, 39, 76, 94] 6 94 _ _ _).trans rfl
noncomputable def eX4_greatest (d pc : Nat) (ls : List (Option bwV)) (st : List bwV) (μ : bwM) : Option bwR := bw_ex (bw_call d) 0 bw_z 2 tX4_greatest pc ls st μ
set_option maxRecDepth 20000 in
theorem qX4_greatest (d : Nat)  (x1 x2 : Int32) (μ : bwM) : bw_call (d + 1) 132 [.inr (.inr 30), .inl x1, .inl x2] μ = bw_bL (bw_call d 131 [.inr (.inr 30), .inl (0 : Int32), .inl x1, .inl x2] (bw_si μ 30 24 (0 : Int32))) none (fun r2 m1 => eX4_greatest d 16 [some (.inr (.inr 30)), some (.inl x1), some (.inl x2), some (.inr (.inl r2)), none, some (.inl (1 : Int32)), none, none] [] m1) := by
  exact (bw_ex_go [16, 42, 45, 54] 13 0 _ _ _).trans rfl
set_option maxRecDepth 20000 in
theorem qX4_greatest_16 (d : Nat)  (x1 x2 x5 : Int32) (y3 : Int64) (o6 : Option bwV) (μ : bwM) : eX4_greatest d 16 [some (.inr (.inr 30)), some (.inl x1), some (.inl x2), some (.inr (.inl y3)), none, some (.inl x5), o6, none] [] μ = if (μ.1 30 10) ≤ x5 then some (some (.inr (.inl y3)), μ) else bw_bL (bw_call d 131 [.inr (.inr 30), .inl x5, .inl x1, .inl x2] μ) none (fun r2 m1 => if 0 < (lg_cmp r2 y3) then eX4_greatest d 45 [some (.inr (.inr 30)), some (.inl x1), some (.inl x2), some (.inr (.inl y3)), none, some (.inl x5), some (.inr (.inl r2)), none] [] m1 else eX4_greatest d 42 [some (.inr (.inr 30)), some (.inl x1), some (.inl x2), some (.inr (.inl y3)), none, some (.inl x5), some (.inr (.inl r2)), none] [] m1) := by
  exact (bw_ex_go [16, 42, 45, 54] 16 16 _ _ _).trans rfl
set_option maxRecDepth 20000 in
theorem qX4_greatest_42 (d : Nat)  (x1 x2 x5 : Int32) (y3 y6 : Int64) (μ : bwM) : eX4_greatest d 42 [some (.inr (.inr 30)), some (.inl x1), some (.inl x2), some (.inr (.inl y3)), none, some (.inl x5), some (.inr (.inl y6)), none] [] μ = eX4_greatest d 54 [some (.inr (.inr 30)), some (.inl x1), some (.inl x2), some (.inr (.inl y3)), none, some (.inl x5), some (.inr (.inl y6)), none] [] μ := by
  exact (bw_ex_go [16, 42, 45, 54] 3 42 _ _ _).trans rfl
set_option maxRecDepth 20000 in
theorem qX4_greatest_45 (d : Nat)  (x1 x2 x5 : Int32) (y3 y6 : Int64) (μ : bwM) : eX4_greatest d 45 [some (.inr (.inr 30)), some (.inl x1), some (.inl x2), some (.inr (.inl y3)), none, some (.inl x5), some (.inr (.inl y6)), none] [] μ = eX4_greatest d 54 [some (.inr (.inr 30)), some (.inl x1), some (.inl x2), some (.inr (.inl y6)), none, some (.inl x5), some (.inr (.inl y6)), none] [] (bw_si μ 30 24 x5) := by
  exact (bw_ex_go [16, 42, 45, 54] 7 45 _ _ _).trans rfl
set_option maxRecDepth 20000 in
theorem qX4_greatest_54 (d : Nat)  (x1 x2 x5 : Int32) (y3 y6 : Int64) (μ : bwM) : eX4_greatest d 54 [some (.inr (.inr 30)), some (.inl x1), some (.inl x2), some (.inr (.inl y3)), none, some (.inl x5), some (.inr (.inl y6)), none] [] μ = eX4_greatest d 16 [some (.inr (.inr 30)), some (.inl x1), some (.inl x2), some (.inr (.inl y3)), none, some (.inl (x5 + (1 : Int32))), some (.inr (.inl y6)), none] [] μ := by
  exact (bw_ex_go [16, 42, 45, 54] 4 54 _ _ _).trans rfl
noncomputable def eX4_expected (d pc : Nat) (ls : List (Option bwV)) (st : List bwV) (μ : bwM) : Option bwR := bw_ex (bw_call d) 0 bw_z 1 tX4_expected pc ls st μ
set_option maxRecDepth 20000 in
theorem qX4_expected (d : Nat)  (x1 : Int32) (μ : bwM) : bw_call (d + 1) 133 [.inr (.inr 30), .inl x1] μ = bw_bI (bw_call d 129 [.inr (.inr 30), .inl x1] μ) none (fun r2 m1 => if r2 = 0 then some (some (.inl (-1 : Int32)), m1) else bw_bI (bw_call d 117 [.inr (.inr 30)] m1) none (fun r4 m3 => if 0 ≤ r4 then bw_bL (bw_call d 131 [.inr (.inr 30), .inl x1, .inl (-1 : Int32), .inl (0 : Int32)] m3) none (fun r6 m5 => bw_bL (bw_call d 111 [.inr (.inr 30)] m5) none (fun r8 m7 => bw_bI (bw_call d 113 [.inr (.inr 30), .inr (.inl r6), .inr (.inl r8)] m7) none (fun r10 m9 => some (some (.inl r10), m9)))) else some (some (.inl r4), m3))) := by
  exact (bw_ex_go [] 20 0 _ _ _).trans rfl
noncomputable def eX4_best (d pc : Nat) (ls : List (Option bwV)) (st : List bwV) (μ : bwM) : Option bwR := bw_ex (bw_call d) 0 bw_z 1 tX4_best pc ls st μ
set_option maxRecDepth 20000 in
theorem qX4_best (d : Nat)  (μ : bwM) : bw_call (d + 1) 134 [.inr (.inr 30)] μ = if (μ.1 30 10) = 0 then some (some (.inl (-1 : Int32)), μ) else bw_bI (bw_call d 117 [.inr (.inr 30)] μ) none (fun r2 m1 => if 0 ≤ r2 then bw_bL (bw_call d 132 [.inr (.inr 30), .inl (-1 : Int32), .inl (0 : Int32)] m1) none (fun r4 m3 => bw_bL (bw_call d 111 [.inr (.inr 30)] m3) none (fun r6 m5 => bw_bI (bw_call d 113 [.inr (.inr 30), .inr (.inl r4), .inr (.inl r6)] m5) none (fun r8 m7 => some (some (.inl (m3.1 30 24)), m7)))) else some (some (.inl r2), m1)) := by
  exact (bw_ex_go [] 25 0 _ _ _).trans rfl
noncomputable def eX4_isKnown (d pc : Nat) (ls : List (Option bwV)) (st : List bwV) (μ : bwM) : Option bwR := bw_ex (bw_call d) 0 bw_z 3 tX4_isKnown pc ls st μ
set_option maxRecDepth 20000 in
theorem qX4_isKnown (d : Nat)  (x1 : Int32) (μ : bwM) : bw_call (d + 1) 135 [.inr (.inr 30), .inl x1] μ = if bw_in x1 12 then if 0 ≤ (μ.1 36 x1.toNatClampNeg) then if (1 : Int32) = 0 ∨ (1 : Int32) = 1 then some (some (.inl (1 : Int32)), μ) else none else if bw_in x1 12 then if (μ.1 37 x1.toNatClampNeg) < 0 then if (0 : Int32) = 0 ∨ (0 : Int32) = 1 then some (some (.inl (0 : Int32)), μ) else none else if (1 : Int32) = 0 ∨ (1 : Int32) = 1 then some (some (.inl (1 : Int32)), μ) else none else none else none := by
  exact (bw_ex_go [] 14 0 _ _ _).trans rfl
noncomputable def eX4_gainOf (d pc : Nat) (ls : List (Option bwV)) (st : List bwV) (μ : bwM) : Option bwR := bw_ex (bw_call d) 0 bw_z 2 tX4_gainOf pc ls st μ
set_option maxRecDepth 20000 in
theorem qX4_gainOf (d : Nat)  (x1 : Int32) (μ : bwM) : bw_call (d + 1) 136 [.inr (.inr 30), .inl x1] μ = bw_bI (bw_call d 135 [.inr (.inr 30), .inl x1] μ) none (fun r2 m1 => if r2 = 0 then bw_bL (bw_call d 132 [.inr (.inr 30), .inl (-1 : Int32), .inl (0 : Int32)] m1) none (fun r4 m3 => eX4_gainOf d 21 [some (.inr (.inr 30)), some (.inl x1), some (.inr (.inl (-r4))), none, some (.inl (0 : Int32))] [] m3) else some (some (.inr (.inl (Int64.ofNat 0))), m1)) := by
  exact (bw_ex_go [21] 14 0 _ _ _).trans rfl
set_option maxRecDepth 20000 in
theorem qX4_gainOf_21 (d : Nat)  (x1 x4 : Int32) (y2 : Int64) (μ : bwM) : eX4_gainOf d 21 [some (.inr (.inr 30)), some (.inl x1), some (.inr (.inl y2)), none, some (.inl x4)] [] μ = if bw_in x1 12 then if (μ.1 31 x1.toNatClampNeg) ≤ x4 then some (some (.inr (.inl y2)), μ) else bw_bL (bw_call d 132 [.inr (.inr 30), .inl x1, .inl x4] μ) none (fun r2 m1 => eX4_gainOf d 21 [some (.inr (.inr 30)), some (.inl x1), some (.inr (.inl (y2 + r2))), none, some (.inl (x4 + (1 : Int32)))] [] m1) else none := by
  exact (bw_ex_go [21] 17 21 _ _ _).trans rfl
noncomputable def eX4_gain (d pc : Nat) (ls : List (Option bwV)) (st : List bwV) (μ : bwM) : Option bwR := bw_ex (bw_call d) 0 bw_z 1 tX4_gain pc ls st μ
set_option maxRecDepth 20000 in
theorem qX4_gain (d : Nat)  (x1 : Int32) (μ : bwM) : bw_call (d + 1) 137 [.inr (.inr 30), .inl x1] μ = if (μ.1 30 10) = 0 then some (some (.inl (-1 : Int32)), μ) else bw_bI (bw_call d 85 [.inr (.inr 30), .inl x1] μ) none (fun r2 m1 => if r2 = 0 then some (some (.inl (-1 : Int32)), m1) else bw_bI (bw_call d 117 [.inr (.inr 30)] m1) none (fun r4 m3 => if 0 ≤ r4 then bw_bL (bw_call d 136 [.inr (.inr 30), .inl x1] m3) none (fun r6 m5 => bw_bL (bw_call d 111 [.inr (.inr 30)] m5) none (fun r8 m7 => bw_bI (bw_call d 113 [.inr (.inr 30), .inr (.inl r6), .inr (.inl r8)] m7) none (fun r10 m9 => some (some (.inl r10), m9)))) else some (some (.inl r4), m3))) := by
  exact (bw_ex_go [] 21 0 _ _ _).trans rfl
noncomputable def eX4_next (d pc : Nat) (ls : List (Option bwV)) (st : List bwV) (μ : bwM) : Option bwR := bw_ex (bw_call d) 0 bw_z 1 tX4_next pc ls st μ
set_option maxRecDepth 20000 in
theorem qX4_next (d : Nat)  (μ : bwM) : bw_call (d + 1) 138 [.inr (.inr 30)] μ = if (μ.1 30 10) = 0 then some (some (.inl (-1 : Int32)), μ) else bw_bI (bw_call d 117 [.inr (.inr 30)] μ) none (fun r2 m1 => if 0 ≤ r2 then eX4_next d 25 [some (.inr (.inr 30)), some (.inl r2), some (.inl (-6 : Int32)), some (.inr (.inl (Int64.ofNat 0))), none, none, none, none] [] m1 else some (some (.inl r2), m1)) := by
  exact (bw_ex_go [25, 28, 57, 71, 77] 14 0 _ _ _).trans rfl
set_option maxRecDepth 20000 in
theorem qX4_next_25 (d : Nat)  (x1 x2 : Int32) (y3 : Int64) (μ : bwM) : eX4_next d 25 [some (.inr (.inr 30)), some (.inl x1), some (.inl x2), some (.inr (.inl y3)), none, none, none, none] [] μ = eX4_next d 28 [some (.inr (.inr 30)), some (.inl x1), some (.inl x2), some (.inr (.inl y3)), none, some (.inl (0 : Int32)), none, none] [] μ := by
  exact (bw_ex_go [25, 28, 57, 71, 77] 4 25 _ _ _).trans rfl
set_option maxRecDepth 20000 in
theorem qX4_next_28 (d : Nat)  (x1 x2 x5 : Int32) (y3 : Int64) (μ : bwM) : eX4_next d 28 [some (.inr (.inr 30)), some (.inl x1), some (.inl x2), some (.inr (.inl y3)), none, some (.inl x5), none, none] [] μ = if (μ.1 30 1) ≤ x5 then if x2 < 0 then some (some (.inl x2), μ) else bw_bL (bw_call d 111 [.inr (.inr 30)] μ) none (fun r2 m1 => bw_bI (bw_call d 113 [.inr (.inr 30), .inr (.inl y3), .inr (.inl r2)] m1) none (fun r4 m3 => some (some (.inl x2), m3))) else bw_bI (bw_call d 135 [.inr (.inr 30), .inl x5] μ) none (fun r6 m5 => if r6 = 0 then bw_bL (bw_call d 136 [.inr (.inr 30), .inl x5] m5) none (fun r8 m7 => eX4_next d 57 [some (.inr (.inr 30)), some (.inl x1), some (.inl x2), some (.inr (.inl y3)), none, some (.inl x5), some (.inr (.inl r8)), none] [] m7) else eX4_next d 77 [some (.inr (.inr 30)), some (.inl x1), some (.inl x2), some (.inr (.inl y3)), none, some (.inl x5), none, none] [] m5) := by
  exact (bw_ex_go [25, 28, 57, 71, 77] 15 28 _ _ _).trans rfl
set_option maxRecDepth 20000 in
theorem qX4_next_57 (d : Nat)  (x1 x2 x5 : Int32) (y3 y6 : Int64) (μ : bwM) : eX4_next d 57 [some (.inr (.inr 30)), some (.inl x1), some (.inl x2), some (.inr (.inl y3)), none, some (.inl x5), some (.inr (.inl y6)), none] [] μ = if x2 < 0 then eX4_next d 71 [some (.inr (.inr 30)), some (.inl x1), some (.inl x2), some (.inr (.inl y3)), none, some (.inl x5), some (.inr (.inl y6)), none] [] μ else if 0 < (lg_cmp y6 y3) then eX4_next d 71 [some (.inr (.inr 30)), some (.inl x1), some (.inl x2), some (.inr (.inl y3)), none, some (.inl x5), some (.inr (.inl y6)), none] [] μ else eX4_next d 77 [some (.inr (.inr 30)), some (.inl x1), some (.inl x2), some (.inr (.inl y3)), none, some (.inl x5), some (.inr (.inl y6)), none] [] μ := by
  exact (bw_ex_go [25, 28, 57, 71, 77] 9 57 _ _ _).trans rfl
set_option maxRecDepth 20000 in
theorem qX4_next_71 (d : Nat)  (x1 x2 x5 : Int32) (y3 y6 : Int64) (μ : bwM) : eX4_next d 71 [some (.inr (.inr 30)), some (.inl x1), some (.inl x2), some (.inr (.inl y3)), none, some (.inl x5), some (.inr (.inl y6)), none] [] μ = eX4_next d 77 [some (.inr (.inr 30)), some (.inl x1), some (.inl x5), some (.inr (.inl y6)), none, some (.inl x5), some (.inr (.inl y6)), none] [] μ := by
  exact (bw_ex_go [25, 28, 57, 71, 77] 6 71 _ _ _).trans rfl
set_option maxRecDepth 20000 in
theorem qX4_next_77 (d : Nat)  (x1 x2 x5 : Int32) (y3 : Int64) (o6 : Option bwV) (μ : bwM) : eX4_next d 77 [some (.inr (.inr 30)), some (.inl x1), some (.inl x2), some (.inr (.inl y3)), none, some (.inl x5), o6, none] [] μ = eX4_next d 28 [some (.inr (.inr 30)), some (.inl x1), some (.inl x2), some (.inr (.inl y3)), none, some (.inl (x5 + (1 : Int32))), none, none] [] μ := by
  exact (bw_ex_go [25, 28, 57, 71, 77] 4 77 _ _ _).trans rfl
noncomputable def eX4_note (d pc : Nat) (ls : List (Option bwV)) (st : List bwV) (μ : bwM) : Option bwR := bw_ex (bw_call d) 0 bw_z 0 tX4_note pc ls st μ
set_option maxRecDepth 20000 in
theorem qX4_note (d : Nat)  (x1 x2 : Int32) (μ : bwM) : bw_call (d + 1) 139 [.inr (.inr 30), .inl x1, .inl x2] μ = if (μ.1 30 25) = (100 : Int32) then eX4_note d 11 [some (.inr (.inr 30)), some (.inl x1), some (.inl x2), some (.inl (0 : Int32)), none] [] μ else eX4_note d 136 [some (.inr (.inr 30)), some (.inl x1), some (.inl x2), none, none] [] μ := by
  exact (bw_ex_go [11, 47, 75, 78, 114, 136, 191, 195, 230, 236, 239, 274, 280, 283, 318] 8 0 _ _ _).trans rfl
set_option maxRecDepth 20000 in
theorem qX4_note_11 (d : Nat)  (x1 x2 x3 : Int32) (o4 : Option bwV) (μ : bwM) : eX4_note d 11 [some (.inr (.inr 30)), some (.inl x1), some (.inl x2), some (.inl x3), o4] [] μ = if (100 : Int32) ≤ (x3 + (1 : Int32)) then eX4_note d 136 [some (.inr (.inr 30)), some (.inl x1), some (.inl x2), some (.inl x3), none] [] (bw_si μ 30 25 ((μ.1 30 25) - (1 : Int32))) else if bw_in (x3 + (1 : Int32)) 100 then if bw_in x3 100 then if bw_in (x3 + (1 : Int32)) 100 then if bw_in x3 100 then eX4_note d 47 [some (.inr (.inr 30)), some (.inl x1), some (.inl x2), some (.inl x3), none] [] (bw_si (bw_si μ 48 x3.toNatClampNeg (μ.1 48 (x3 + (1 : Int32)).toNatClampNeg)) 49 x3.toNatClampNeg ((bw_si μ 48 x3.toNatClampNeg (μ.1 48 (x3 + (1 : Int32)).toNatClampNeg)).1 49 (x3 + (1 : Int32)).toNatClampNeg)) else none else none else none else none := by
  exact (bw_ex_go [11, 47, 75, 78, 114, 136, 191, 195, 230, 236, 239, 274, 280, 283, 318] 27 11 _ _ _).trans rfl
set_option maxRecDepth 20000 in
theorem qX4_note_47 (d : Nat)  (x1 x2 x3 : Int32) (μ : bwM) : eX4_note d 47 [some (.inr (.inr 30)), some (.inl x1), some (.inl x2), some (.inl x3), none] [] μ = if bw_in (x3 + (1 : Int32)) 100 then if bw_in x3 100 then if bw_in (x3 + (1 : Int32)) 100 then if bw_in x3 100 then eX4_note d 75 [some (.inr (.inr 30)), some (.inl x1), some (.inl x2), some (.inl x3), none] [] (bw_si (bw_si μ 50 x3.toNatClampNeg (μ.1 50 (x3 + (1 : Int32)).toNatClampNeg)) 51 x3.toNatClampNeg ((bw_si μ 50 x3.toNatClampNeg (μ.1 50 (x3 + (1 : Int32)).toNatClampNeg)).1 51 (x3 + (1 : Int32)).toNatClampNeg)) else none else none else none else none := by
  exact (bw_ex_go [11, 47, 75, 78, 114, 136, 191, 195, 230, 236, 239, 274, 280, 283, 318] 22 47 _ _ _).trans rfl
set_option maxRecDepth 20000 in
theorem qX4_note_75 (d : Nat)  (x1 x2 x3 : Int32) (μ : bwM) : eX4_note d 75 [some (.inr (.inr 30)), some (.inl x1), some (.inl x2), some (.inl x3), none] [] μ = eX4_note d 78 [some (.inr (.inr 30)), some (.inl x1), some (.inl x2), some (.inl x3), some (.inl (0 : Int32))] [] μ := by
  exact (bw_ex_go [11, 47, 75, 78, 114, 136, 191, 195, 230, 236, 239, 274, 280, 283, 318] 4 75 _ _ _).trans rfl
set_option maxRecDepth 20000 in
theorem qX4_note_78 (d : Nat)  (x1 x2 x3 x4 : Int32) (μ : bwM) : eX4_note d 78 [some (.inr (.inr 30)), some (.inl x1), some (.inl x2), some (.inl x3), some (.inl x4)] [] μ = if (300 : Int32) ≤ x4 then eX4_note d 11 [some (.inr (.inr 30)), some (.inl x1), some (.inl x2), some (.inl (x3 + (1 : Int32))), some (.inl x4)] [] μ else if bw_in (((300 : Int32) * (x3 + (1 : Int32))) + x4) 30000 then if bw_in (((300 : Int32) * x3) + x4) 30000 then eX4_note d 114 [some (.inr (.inr 30)), some (.inl x1), some (.inl x2), some (.inl x3), some (.inl x4)] [] (bw_si μ 52 (((300 : Int32) * x3) + x4).toNatClampNeg (μ.1 52 (((300 : Int32) * (x3 + (1 : Int32))) + x4).toNatClampNeg)) else none else none := by
  exact (bw_ex_go [11, 47, 75, 78, 114, 136, 191, 195, 230, 236, 239, 274, 280, 283, 318] 23 78 _ _ _).trans rfl
set_option maxRecDepth 20000 in
theorem qX4_note_114 (d : Nat)  (x1 x2 x3 x4 : Int32) (μ : bwM) : eX4_note d 114 [some (.inr (.inr 30)), some (.inl x1), some (.inl x2), some (.inl x3), some (.inl x4)] [] μ = eX4_note d 78 [some (.inr (.inr 30)), some (.inl x1), some (.inl x2), some (.inl x3), some (.inl (x4 + (1 : Int32)))] [] μ := by
  exact (bw_ex_go [11, 47, 75, 78, 114, 136, 191, 195, 230, 236, 239, 274, 280, 283, 318] 4 114 _ _ _).trans rfl
set_option maxRecDepth 20000 in
theorem qX4_note_136 (d : Nat)  (x1 x2 : Int32) (o3 : Option bwV) (μ : bwM) : eX4_note d 136 [some (.inr (.inr 30)), some (.inl x1), some (.inl x2), o3, none] [] μ = if bw_in (μ.1 30 25) 100 then if bw_in ((bw_si μ 48 (μ.1 30 25).toNatClampNeg x1).1 30 25) 100 then if x1 = (1 : Int32) then if bw_in x2 12 then eX4_note d 191 [some (.inr (.inr 30)), some (.inl x1), some (.inl x2), some (.inl ((300 : Int32) * (μ.1 30 25))), none] [.inl ((bw_si (bw_si μ 48 (μ.1 30 25).toNatClampNeg x1) 49 ((bw_si μ 48 (μ.1 30 25).toNatClampNeg x1).1 30 25).toNatClampNeg x2).1 33 x2.toNatClampNeg), .inl ((bw_si (bw_si μ 48 (μ.1 30 25).toNatClampNeg x1) 49 ((bw_si μ 48 (μ.1 30 25).toNatClampNeg x1).1 30 25).toNatClampNeg x2).1 30 25), .inr (.inr 50)] (bw_si (bw_si μ 48 (μ.1 30 25).toNatClampNeg x1) 49 ((bw_si μ 48 (μ.1 30 25).toNatClampNeg x1).1 30 25).toNatClampNeg x2) else none else eX4_note d 191 [some (.inr (.inr 30)), some (.inl x1), some (.inl x2), some (.inl ((300 : Int32) * (μ.1 30 25))), none] [.inl ((bw_si (bw_si μ 48 (μ.1 30 25).toNatClampNeg x1) 49 ((bw_si μ 48 (μ.1 30 25).toNatClampNeg x1).1 30 25).toNatClampNeg x2).1 30 10), .inl ((bw_si (bw_si μ 48 (μ.1 30 25).toNatClampNeg x1) 49 ((bw_si μ 48 (μ.1 30 25).toNatClampNeg x1).1 30 25).toNatClampNeg x2).1 30 25), .inr (.inr 50)] (bw_si (bw_si μ 48 (μ.1 30 25).toNatClampNeg x1) 49 ((bw_si μ 48 (μ.1 30 25).toNatClampNeg x1).1 30 25).toNatClampNeg x2) else none else none := by
  exact (bw_ex_go [11, 47, 75, 78, 114, 136, 191, 195, 230, 236, 239, 274, 280, 283, 318] 31 136 _ _ _).trans rfl
set_option maxRecDepth 20000 in
theorem qX4_note_191 (d : Nat)  (x1 x2 x3 s1 s2 : Int32) (μ : bwM) : eX4_note d 191 [some (.inr (.inr 30)), some (.inl x1), some (.inl x2), some (.inl x3), none] [.inl s2, .inl s1, .inr (.inr 50)] μ = if bw_in s1 100 then eX4_note d 195 [some (.inr (.inr 30)), some (.inl x1), some (.inl x2), some (.inl x3), some (.inl (0 : Int32))] [] (bw_si μ 50 s1.toNatClampNeg s2) else none := by
  exact (bw_ex_go [11, 47, 75, 78, 114, 136, 191, 195, 230, 236, 239, 274, 280, 283, 318] 5 191 _ _ _).trans rfl
set_option maxRecDepth 20000 in
theorem qX4_note_195 (d : Nat)  (x1 x2 x3 x4 : Int32) (μ : bwM) : eX4_note d 195 [some (.inr (.inr 30)), some (.inl x1), some (.inl x2), some (.inl x3), some (.inl x4)] [] μ = if (256 : Int32) ≤ x4 then eX4_note d 236 [some (.inr (.inr 30)), some (.inl x1), some (.inl x2), some (.inl x3), some (.inl x4)] [] μ else if x1 = (1 : Int32) then if bw_in (((256 : Int32) * x2) + x4) 3072 then if bw_in (x3 + x4) 30000 then eX4_note d 230 [some (.inr (.inr 30)), some (.inl x1), some (.inl x2), some (.inl x3), some (.inl x4)] [] (bw_si μ 52 (x3 + x4).toNatClampNeg (μ.1 35 (((256 : Int32) * x2) + x4).toNatClampNeg)) else none else none else eX4_note d 236 [some (.inr (.inr 30)), some (.inl x1), some (.inl x2), some (.inl x3), some (.inl x4)] [] μ := by
  exact (bw_ex_go [11, 47, 75, 78, 114, 136, 191, 195, 230, 236, 239, 274, 280, 283, 318] 22 195 _ _ _).trans rfl
set_option maxRecDepth 20000 in
theorem qX4_note_230 (d : Nat)  (x1 x2 x3 x4 : Int32) (μ : bwM) : eX4_note d 230 [some (.inr (.inr 30)), some (.inl x1), some (.inl x2), some (.inl x3), some (.inl x4)] [] μ = eX4_note d 195 [some (.inr (.inr 30)), some (.inl x1), some (.inl x2), some (.inl x3), some (.inl (x4 + (1 : Int32)))] [] μ := by
  exact (bw_ex_go [11, 47, 75, 78, 114, 136, 191, 195, 230, 236, 239, 274, 280, 283, 318] 4 230 _ _ _).trans rfl
set_option maxRecDepth 20000 in
theorem qX4_note_236 (d : Nat)  (x1 x2 x3 x4 : Int32) (μ : bwM) : eX4_note d 236 [some (.inr (.inr 30)), some (.inl x1), some (.inl x2), some (.inl x3), some (.inl x4)] [] μ = eX4_note d 239 [some (.inr (.inr 30)), some (.inl x1), some (.inl x2), some (.inl x3), some (.inl (0 : Int32))] [] μ := by
  exact (bw_ex_go [11, 47, 75, 78, 114, 136, 191, 195, 230, 236, 239, 274, 280, 283, 318] 4 236 _ _ _).trans rfl
set_option maxRecDepth 20000 in
theorem qX4_note_239 (d : Nat)  (x1 x2 x3 x4 : Int32) (μ : bwM) : eX4_note d 239 [some (.inr (.inr 30)), some (.inl x1), some (.inl x2), some (.inl x3), some (.inl x4)] [] μ = if (3 : Int32) ≤ x4 then eX4_note d 280 [some (.inr (.inr 30)), some (.inl x1), some (.inl x2), some (.inl x3), some (.inl x4)] [] μ else if x1 = (1 : Int32) then if bw_in (((3 : Int32) * x2) + x4) 36 then if bw_in ((x3 + (256 : Int32)) + x4) 30000 then eX4_note d 274 [some (.inr (.inr 30)), some (.inl x1), some (.inl x2), some (.inl x3), some (.inl x4)] [] (bw_si μ 52 ((x3 + (256 : Int32)) + x4).toNatClampNeg (μ.1 34 (((3 : Int32) * x2) + x4).toNatClampNeg)) else none else none else eX4_note d 280 [some (.inr (.inr 30)), some (.inl x1), some (.inl x2), some (.inl x3), some (.inl x4)] [] μ := by
  exact (bw_ex_go [11, 47, 75, 78, 114, 136, 191, 195, 230, 236, 239, 274, 280, 283, 318] 24 239 _ _ _).trans rfl
set_option maxRecDepth 20000 in
theorem qX4_note_274 (d : Nat)  (x1 x2 x3 x4 : Int32) (μ : bwM) : eX4_note d 274 [some (.inr (.inr 30)), some (.inl x1), some (.inl x2), some (.inl x3), some (.inl x4)] [] μ = eX4_note d 239 [some (.inr (.inr 30)), some (.inl x1), some (.inl x2), some (.inl x3), some (.inl (x4 + (1 : Int32)))] [] μ := by
  exact (bw_ex_go [11, 47, 75, 78, 114, 136, 191, 195, 230, 236, 239, 274, 280, 283, 318] 4 274 _ _ _).trans rfl
set_option maxRecDepth 20000 in
theorem qX4_note_280 (d : Nat)  (x1 x2 x3 x4 : Int32) (μ : bwM) : eX4_note d 280 [some (.inr (.inr 30)), some (.inl x1), some (.inl x2), some (.inl x3), some (.inl x4)] [] μ = eX4_note d 283 [some (.inr (.inr 30)), some (.inl x1), some (.inl x2), some (.inl x3), some (.inl (0 : Int32))] [] μ := by
  exact (bw_ex_go [11, 47, 75, 78, 114, 136, 191, 195, 230, 236, 239, 274, 280, 283, 318] 4 280 _ _ _).trans rfl
set_option maxRecDepth 20000 in
theorem qX4_note_283 (d : Nat)  (x1 x2 x3 x4 : Int32) (μ : bwM) : eX4_note d 283 [some (.inr (.inr 30)), some (.inl x1), some (.inl x2), some (.inl x3), some (.inl x4)] [] μ = if (288 : Int32) ≤ x4 then eX4_note d 318 [some (.inr (.inr 30)), some (.inl x1), some (.inl x2), some (.inl x3), some (.inl x4)] [] μ else if x1 = (5 : Int32) then if bw_in x4 288 then if bw_in (x3 + x4) 30000 then eX4_note d 283 [some (.inr (.inr 30)), some (.inl x1), some (.inl x2), some (.inl x3), some (.inl (x4 + (1 : Int32)))] [] (bw_si μ 52 (x3 + x4).toNatClampNeg (μ.1 39 x4.toNatClampNeg)) else none else none else eX4_note d 318 [some (.inr (.inr 30)), some (.inl x1), some (.inl x2), some (.inl x3), some (.inl x4)] [] μ := by
  exact (bw_ex_go [11, 47, 75, 78, 114, 136, 191, 195, 230, 236, 239, 274, 280, 283, 318] 20 283 _ _ _).trans rfl
set_option maxRecDepth 20000 in
theorem qX4_note_318 (d : Nat)  (x1 x2 x3 x4 : Int32) (μ : bwM) : eX4_note d 318 [some (.inr (.inr 30)), some (.inl x1), some (.inl x2), some (.inl x3), some (.inl x4)] [] μ = some (none, bw_si μ 30 25 ((μ.1 30 25) + (1 : Int32))) := by
  exact (bw_ex_go [11, 47, 75, 78, 114, 136, 191, 195, 230, 236, 239, 274, 280, 283, 318] 8 318 _ _ _).trans rfl
noncomputable def eX4_undo (d pc : Nat) (ls : List (Option bwV)) (st : List bwV) (μ : bwM) : Option bwR := bw_ex (bw_call d) 0 bw_z 1 tX4_undo pc ls st μ
set_option maxRecDepth 20000 in
theorem qX4_undo (d : Nat)  (μ : bwM) : bw_call (d + 1) 140 [.inr (.inr 30)] μ = if (μ.1 30 25) = 0 then some (some (.inl (-1 : Int32)), μ) else if bw_in ((bw_si μ 30 25 ((μ.1 30 25) - (1 : Int32))).1 30 25) 100 then if bw_in ((bw_si μ 30 25 ((μ.1 30 25) - (1 : Int32))).1 30 25) 100 then if ((bw_si μ 30 25 ((μ.1 30 25) - (1 : Int32))).1 48 ((bw_si μ 30 25 ((μ.1 30 25) - (1 : Int32))).1 30 25).toNatClampNeg) = (1 : Int32) then if bw_in ((bw_si μ 30 25 ((μ.1 30 25) - (1 : Int32))).1 30 25) 100 then if bw_in ((bw_si μ 30 25 ((μ.1 30 25) - (1 : Int32))).1 49 ((bw_si μ 30 25 ((μ.1 30 25) - (1 : Int32))).1 30 25).toNatClampNeg) 12 then eX4_undo d 95 [some (.inr (.inr 30)), some (.inl ((bw_si μ 30 25 ((μ.1 30 25) - (1 : Int32))).1 49 ((bw_si μ 30 25 ((μ.1 30 25) - (1 : Int32))).1 30 25).toNatClampNeg)), some (.inl ((300 : Int32) * ((bw_si μ 30 25 ((μ.1 30 25) - (1 : Int32))).1 30 25))), none] [] (bw_si (bw_si μ 30 25 ((μ.1 30 25) - (1 : Int32))) 33 ((bw_si μ 30 25 ((μ.1 30 25) - (1 : Int32))).1 49 ((bw_si μ 30 25 ((μ.1 30 25) - (1 : Int32))).1 30 25).toNatClampNeg).toNatClampNeg ((bw_si μ 30 25 ((μ.1 30 25) - (1 : Int32))).1 50 ((bw_si μ 30 25 ((μ.1 30 25) - (1 : Int32))).1 30 25).toNatClampNeg)) else none else none else if ((bw_si μ 30 25 ((μ.1 30 25) - (1 : Int32))).1 48 ((bw_si μ 30 25 ((μ.1 30 25) - (1 : Int32))).1 30 25).toNatClampNeg) = (2 : Int32) then if bw_in ((bw_si μ 30 25 ((μ.1 30 25) - (1 : Int32))).1 30 25) 100 then if bw_in ((bw_si μ 30 25 ((μ.1 30 25) - (1 : Int32))).1 49 ((bw_si μ 30 25 ((μ.1 30 25) - (1 : Int32))).1 30 25).toNatClampNeg) 3072 then eX4_undo d 183 [some (.inr (.inr 30)), some (.inl ((bw_si μ 30 25 ((μ.1 30 25) - (1 : Int32))).1 49 ((bw_si μ 30 25 ((μ.1 30 25) - (1 : Int32))).1 30 25).toNatClampNeg)), some (.inl ((300 : Int32) * ((bw_si μ 30 25 ((μ.1 30 25) - (1 : Int32))).1 30 25))), none] [] (bw_si (bw_si μ 30 25 ((μ.1 30 25) - (1 : Int32))) 35 ((bw_si μ 30 25 ((μ.1 30 25) - (1 : Int32))).1 49 ((bw_si μ 30 25 ((μ.1 30 25) - (1 : Int32))).1 30 25).toNatClampNeg).toNatClampNeg ((bw_si μ 30 25 ((μ.1 30 25) - (1 : Int32))).1 50 ((bw_si μ 30 25 ((μ.1 30 25) - (1 : Int32))).1 30 25).toNatClampNeg)) else none else none else if ((bw_si μ 30 25 ((μ.1 30 25) - (1 : Int32))).1 48 ((bw_si μ 30 25 ((μ.1 30 25) - (1 : Int32))).1 30 25).toNatClampNeg) = (3 : Int32) then if bw_in ((bw_si μ 30 25 ((μ.1 30 25) - (1 : Int32))).1 30 25) 100 then if bw_in ((bw_si μ 30 25 ((μ.1 30 25) - (1 : Int32))).1 49 ((bw_si μ 30 25 ((μ.1 30 25) - (1 : Int32))).1 30 25).toNatClampNeg) 12 then eX4_undo d 201 [some (.inr (.inr 30)), some (.inl ((bw_si μ 30 25 ((μ.1 30 25) - (1 : Int32))).1 49 ((bw_si μ 30 25 ((μ.1 30 25) - (1 : Int32))).1 30 25).toNatClampNeg)), some (.inl ((300 : Int32) * ((bw_si μ 30 25 ((μ.1 30 25) - (1 : Int32))).1 30 25))), none] [] (bw_si (bw_si μ 30 25 ((μ.1 30 25) - (1 : Int32))) 36 ((bw_si μ 30 25 ((μ.1 30 25) - (1 : Int32))).1 49 ((bw_si μ 30 25 ((μ.1 30 25) - (1 : Int32))).1 30 25).toNatClampNeg).toNatClampNeg ((bw_si μ 30 25 ((μ.1 30 25) - (1 : Int32))).1 50 ((bw_si μ 30 25 ((μ.1 30 25) - (1 : Int32))).1 30 25).toNatClampNeg)) else none else none else if ((bw_si μ 30 25 ((μ.1 30 25) - (1 : Int32))).1 48 ((bw_si μ 30 25 ((μ.1 30 25) - (1 : Int32))).1 30 25).toNatClampNeg) = (4 : Int32) then if bw_in ((bw_si μ 30 25 ((μ.1 30 25) - (1 : Int32))).1 30 25) 100 then if bw_in ((bw_si μ 30 25 ((μ.1 30 25) - (1 : Int32))).1 49 ((bw_si μ 30 25 ((μ.1 30 25) - (1 : Int32))).1 30 25).toNatClampNeg) 48 then eX4_undo d 234 [some (.inr (.inr 30)), some (.inl ((bw_si μ 30 25 ((μ.1 30 25) - (1 : Int32))).1 49 ((bw_si μ 30 25 ((μ.1 30 25) - (1 : Int32))).1 30 25).toNatClampNeg)), some (.inl ((300 : Int32) * ((bw_si μ 30 25 ((μ.1 30 25) - (1 : Int32))).1 30 25))), none] [] (bw_si (bw_si μ 30 25 ((μ.1 30 25) - (1 : Int32))) 38 ((bw_si μ 30 25 ((μ.1 30 25) - (1 : Int32))).1 49 ((bw_si μ 30 25 ((μ.1 30 25) - (1 : Int32))).1 30 25).toNatClampNeg).toNatClampNeg ((bw_si μ 30 25 ((μ.1 30 25) - (1 : Int32))).1 50 ((bw_si μ 30 25 ((μ.1 30 25) - (1 : Int32))).1 30 25).toNatClampNeg)) else none else none else if ((bw_si μ 30 25 ((μ.1 30 25) - (1 : Int32))).1 48 ((bw_si μ 30 25 ((μ.1 30 25) - (1 : Int32))).1 30 25).toNatClampNeg) = (5 : Int32) then if bw_in ((bw_si μ 30 25 ((μ.1 30 25) - (1 : Int32))).1 30 25) 100 then eX4_undo d 250 [some (.inr (.inr 30)), some (.inl ((bw_si μ 30 25 ((μ.1 30 25) - (1 : Int32))).1 49 ((bw_si μ 30 25 ((μ.1 30 25) - (1 : Int32))).1 30 25).toNatClampNeg)), some (.inl ((300 : Int32) * ((bw_si μ 30 25 ((μ.1 30 25) - (1 : Int32))).1 30 25))), none] [] (bw_si (bw_si μ 30 25 ((μ.1 30 25) - (1 : Int32))) 30 10 ((bw_si μ 30 25 ((μ.1 30 25) - (1 : Int32))).1 50 ((bw_si μ 30 25 ((μ.1 30 25) - (1 : Int32))).1 30 25).toNatClampNeg)) else none else if bw_in ((bw_si μ 30 25 ((μ.1 30 25) - (1 : Int32))).1 30 25) 100 then if bw_in ((bw_si μ 30 25 ((μ.1 30 25) - (1 : Int32))).1 49 ((bw_si μ 30 25 ((μ.1 30 25) - (1 : Int32))).1 30 25).toNatClampNeg) 288 then eX4_undo d 297 [some (.inr (.inr 30)), some (.inl ((bw_si μ 30 25 ((μ.1 30 25) - (1 : Int32))).1 49 ((bw_si μ 30 25 ((μ.1 30 25) - (1 : Int32))).1 30 25).toNatClampNeg)), some (.inl ((300 : Int32) * ((bw_si μ 30 25 ((μ.1 30 25) - (1 : Int32))).1 30 25))), none] [] (bw_si (bw_si μ 30 25 ((μ.1 30 25) - (1 : Int32))) 39 ((bw_si μ 30 25 ((μ.1 30 25) - (1 : Int32))).1 49 ((bw_si μ 30 25 ((μ.1 30 25) - (1 : Int32))).1 30 25).toNatClampNeg).toNatClampNeg ((bw_si μ 30 25 ((μ.1 30 25) - (1 : Int32))).1 50 ((bw_si μ 30 25 ((μ.1 30 25) - (1 : Int32))).1 30 25).toNatClampNeg)) else none else none else none else none := by
  exact (bw_ex_go [95, 97, 132, 183, 201, 234, 250, 252, 297] 37 0 _ _ _).trans rfl
set_option maxRecDepth 20000 in
theorem qX4_undo_95 (d : Nat)  (x1 x2 : Int32) (μ : bwM) : eX4_undo d 95 [some (.inr (.inr 30)), some (.inl x1), some (.inl x2), none] [] μ = eX4_undo d 97 [some (.inr (.inr 30)), some (.inl x1), some (.inl x2), some (.inl (0 : Int32))] [] μ := by
  exact (bw_ex_go [95, 97, 132, 183, 201, 234, 250, 252, 297] 4 95 _ _ _).trans rfl
set_option maxRecDepth 20000 in
theorem qX4_undo_97 (d : Nat)  (x1 x2 x3 : Int32) (μ : bwM) : eX4_undo d 97 [some (.inr (.inr 30)), some (.inl x1), some (.inl x2), some (.inl x3)] [] μ = if (256 : Int32) ≤ x3 then eX4_undo d 132 [some (.inr (.inr 30)), some (.inl x1), some (.inl x2), some (.inl (0 : Int32))] [] μ else if bw_in (x2 + x3) 30000 then if bw_in (((256 : Int32) * x1) + x3) 3072 then eX4_undo d 97 [some (.inr (.inr 30)), some (.inl x1), some (.inl x2), some (.inl (x3 + (1 : Int32)))] [] (bw_si μ 35 (((256 : Int32) * x1) + x3).toNatClampNeg (μ.1 52 (x2 + x3).toNatClampNeg)) else none else none := by
  exact (bw_ex_go [95, 97, 132, 183, 201, 234, 250, 252, 297] 21 97 _ _ _).trans rfl
set_option maxRecDepth 20000 in
theorem qX4_undo_132 (d : Nat)  (x1 x2 x3 : Int32) (μ : bwM) : eX4_undo d 132 [some (.inr (.inr 30)), some (.inl x1), some (.inl x2), some (.inl x3)] [] μ = if (3 : Int32) ≤ x3 then eX4_undo d 297 [some (.inr (.inr 30)), some (.inl x1), some (.inl x2), some (.inl x3)] [] μ else if bw_in ((x2 + (256 : Int32)) + x3) 30000 then if bw_in (((3 : Int32) * x1) + x3) 36 then eX4_undo d 132 [some (.inr (.inr 30)), some (.inl x1), some (.inl x2), some (.inl (x3 + (1 : Int32)))] [] (bw_si μ 34 (((3 : Int32) * x1) + x3).toNatClampNeg (μ.1 52 ((x2 + (256 : Int32)) + x3).toNatClampNeg)) else none else none := by
  exact (bw_ex_go [95, 97, 132, 183, 201, 234, 250, 252, 297] 23 132 _ _ _).trans rfl
set_option maxRecDepth 20000 in
theorem qX4_undo_183 (d : Nat)  (x1 x2 : Int32) (μ : bwM) : eX4_undo d 183 [some (.inr (.inr 30)), some (.inl x1), some (.inl x2), none] [] μ = eX4_undo d 297 [some (.inr (.inr 30)), some (.inl x1), some (.inl x2), none] [] μ := by
  exact (bw_ex_go [95, 97, 132, 183, 201, 234, 250, 252, 297] 3 183 _ _ _).trans rfl
set_option maxRecDepth 20000 in
theorem qX4_undo_201 (d : Nat)  (x1 x2 : Int32) (μ : bwM) : eX4_undo d 201 [some (.inr (.inr 30)), some (.inl x1), some (.inl x2), none] [] μ = if bw_in (μ.1 30 25) 100 then if bw_in x1 12 then eX4_undo d 297 [some (.inr (.inr 30)), some (.inl x1), some (.inl x2), none] [] (bw_si μ 37 x1.toNatClampNeg (μ.1 51 (μ.1 30 25).toNatClampNeg)) else none else none := by
  exact (bw_ex_go [95, 97, 132, 183, 201, 234, 250, 252, 297] 12 201 _ _ _).trans rfl
set_option maxRecDepth 20000 in
theorem qX4_undo_234 (d : Nat)  (x1 x2 : Int32) (μ : bwM) : eX4_undo d 234 [some (.inr (.inr 30)), some (.inl x1), some (.inl x2), none] [] μ = eX4_undo d 297 [some (.inr (.inr 30)), some (.inl x1), some (.inl x2), none] [] μ := by
  exact (bw_ex_go [95, 97, 132, 183, 201, 234, 250, 252, 297] 3 234 _ _ _).trans rfl
set_option maxRecDepth 20000 in
theorem qX4_undo_250 (d : Nat)  (x1 x2 : Int32) (μ : bwM) : eX4_undo d 250 [some (.inr (.inr 30)), some (.inl x1), some (.inl x2), none] [] μ = eX4_undo d 252 [some (.inr (.inr 30)), some (.inl x1), some (.inl x2), some (.inl (0 : Int32))] [] μ := by
  exact (bw_ex_go [95, 97, 132, 183, 201, 234, 250, 252, 297] 4 250 _ _ _).trans rfl
set_option maxRecDepth 20000 in
theorem qX4_undo_252 (d : Nat)  (x1 x2 x3 : Int32) (μ : bwM) : eX4_undo d 252 [some (.inr (.inr 30)), some (.inl x1), some (.inl x2), some (.inl x3)] [] μ = if (288 : Int32) ≤ x3 then eX4_undo d 297 [some (.inr (.inr 30)), some (.inl x1), some (.inl x2), some (.inl x3)] [] μ else if bw_in (x2 + x3) 30000 then if bw_in x3 288 then eX4_undo d 252 [some (.inr (.inr 30)), some (.inl x1), some (.inl x2), some (.inl (x3 + (1 : Int32)))] [] (bw_si μ 39 x3.toNatClampNeg (μ.1 52 (x2 + x3).toNatClampNeg)) else none else none := by
  exact (bw_ex_go [95, 97, 132, 183, 201, 234, 250, 252, 297] 17 252 _ _ _).trans rfl
set_option maxRecDepth 20000 in
theorem qX4_undo_297 (d : Nat)  (x1 x2 : Int32) (o3 : Option bwV) (μ : bwM) : eX4_undo d 297 [some (.inr (.inr 30)), some (.inl x1), some (.inl x2), o3] [] μ = some (some (.inl (μ.1 30 25)), μ) := by
  exact (bw_ex_go [95, 97, 132, 183, 201, 234, 250, 252, 297] 4 297 _ _ _).trans rfl
noncomputable def eX4_count (d pc : Nat) (ls : List (Option bwV)) (st : List bwV) (μ : bwM) : Option bwR := bw_ex (bw_call d) 0 bw_z 1 tX4_count pc ls st μ
set_option maxRecDepth 20000 in
theorem qX4_count (d : Nat)  (x1 : Int32) (μ : bwM) : bw_call (d + 1) 141 [.inr (.inr 30), .inl x1] μ = eX4_count d 4 [some (.inr (.inr 30)), some (.inl x1), some (.inl (0 : Int32)), some (.inl (0 : Int32))] [] μ := by
  exact (bw_ex_go [4] 6 0 _ _ _).trans rfl
set_option maxRecDepth 20000 in
theorem qX4_count_4 (d : Nat)  (x1 x2 x3 : Int32) (μ : bwM) : eX4_count d 4 [some (.inr (.inr 30)), some (.inl x1), some (.inl x2), some (.inl x3)] [] μ = if (μ.1 30 1) ≤ x3 then if x1 = 0 then some (some (.inl (μ.1 30 1)), μ) else if x1 = (1 : Int32) then some (some (.inl x2), μ) else if x1 = (2 : Int32) then some (some (.inl (μ.1 30 10)), μ) else if x1 = (3 : Int32) then some (some (.inl (μ.1 30 25)), μ) else some (some (.inl (-1 : Int32)), μ) else if bw_in x3 12 then eX4_count d 4 [some (.inr (.inr 30)), some (.inl x1), some (.inl (x2 + (μ.1 33 x3.toNatClampNeg))), some (.inl (x3 + (1 : Int32)))] [] μ else none := by
  exact (bw_ex_go [4] 20 4 _ _ _).trans rfl
end
section
/-! THE CONSTRUCTORS, by the kit's rows (they make cells; all else runs in the abstract machine). -/
theorem bw_goodC {w : Cond} (h : w ∈ lw_tbl) (hg : goodWord w = true := by rfl) : GoodIn bw_ws (w :: bw_ws) := by
  intro x hx
  have h2 : x ∈ bw_ws := by
    rcases List.mem_cons.mp hx with e | e
    · rw [e]; exact bw_gd h hg
    · exact e
  exact ⟨h2, good_of_word (List.mem_filter.mp h2).2⟩
theorem bw_haI (N : Nat) : ∀ cA : ClassId, vp_cell cA (N, .inl (fun _ => 0)) = arrV cA N (fun _ => defaultValue .int) := fun _ => rfl
theorem bw_haJ (N : Nat) : ∀ cA : ClassId, vp_cell cA (N, .inr (.inl (fun _ => 0))) = arrV cA N (fun _ => defaultValue .long) := fun _ => rfl
theorem bw_haZ (N : Nat) : ∀ cA : ClassId, vp_cell cA (N, .inl (fun _ => 0)) = arrV cA N (fun _ => defaultValue .boolean) := fun _ => rfl
theorem bw_tyI {D : va_G} {s : State} {cI cJ cZ cA : ClassId} (h : va_K D vwCl (bw_tys cI cJ cZ ++ [(cA, .int)]) s) : cA = cI := by
  have h0 : s.vm.findClass ("[" ++ (FieldType.int).toString) = some cI := (h.2 0 (cI, .int) rfl).2
  have h3 : s.vm.findClass ("[" ++ (FieldType.int).toString) = some cA := (h.2 3 (cA, .int) rfl).2
  exact Option.some.inj (h3.symm.trans h0)
theorem bw_tyJ {D : va_G} {s : State} {cI cJ cZ cA : ClassId} (h : va_K D vwCl (bw_tys cI cJ cZ ++ [(cA, .long)]) s) : cA = cJ := by
  have h0 : s.vm.findClass ("[" ++ (FieldType.long).toString) = some cJ := (h.2 1 (cJ, .long) rfl).2
  have h3 : s.vm.findClass ("[" ++ (FieldType.long).toString) = some cA := (h.2 3 (cA, .long) rfl).2
  exact Option.some.inj (h3.symm.trans h0)
theorem bw_tyZ {D : va_G} {s : State} {cI cJ cZ cA : ClassId} (h : va_K D vwCl (bw_tys cI cJ cZ ++ [(cA, .boolean)]) s) : cA = cZ := by
  have h0 : s.vm.findClass ("[" ++ (FieldType.boolean).toString) = some cZ := (h.2 2 (cZ, .boolean) rfl).2
  have h3 : s.vm.findClass ("[" ++ (FieldType.boolean).toString) = some cA := (h.2 3 (cA, .boolean) rfl).2
  exact Option.some.inj (h3.symm.trans h0)
theorem bwd_41 : (.initialized RX2 : Cond) ∈ bw_ws := bw_gd (List.mem_of_getElem? (i := 41) (by decide +kernel)) rfl
theorem bwd_42 : (.initialized RX0 : Cond) ∈ bw_ws := bw_gd (List.mem_of_getElem? (i := 42) (by decide +kernel)) rfl
theorem bwd_43 : (.initialized RX1 : Cond) ∈ bw_ws := bw_gd (List.mem_of_getElem? (i := 43) (by decide +kernel)) rfl
theorem bwd_52 : (.methodLink RX3 3 objectInit : Cond) ∈ bw_ws := bw_gd (List.mem_of_getElem? (i := 52) (by decide +kernel)) rfl
theorem bwd_53 : (.instanceMethod objectInit : Cond) ∈ bw_ws := bw_gd (List.mem_of_getElem? (i := 53) (by decide +kernel)) rfl
theorem bwd_54 : (.code objectInit ⟨#[0xb1]⟩ 1 none : Cond) ∈ bw_ws := bw_gd (List.mem_of_getElem? (i := 54) (by decide +kernel)) rfl
theorem bwd_55 : (.classLink RX3 9 RX2 : Cond) ∈ bw_ws := bw_gd (List.mem_of_getElem? (i := 55) (by decide +kernel)) rfl
theorem bwd_56 : (.instantiable RX2 11 : Cond) ∈ bw_ws := bw_gd (List.mem_of_getElem? (i := 56) (by decide +kernel)) rfl
theorem bwd_58 : (.instanceMethod yX2_init : Cond) ∈ bw_ws := bw_gd (List.mem_of_getElem? (i := 58) (by decide +kernel)) rfl
theorem bwd_60 : (.methodLink RX2 3 objectInit : Cond) ∈ bw_ws := bw_gd (List.mem_of_getElem? (i := 60) (by decide +kernel)) rfl
theorem bwd_67 : (.fieldLink RX2 9 "BeliefWeb$Web" "values" "[I" : Cond) ∈ bw_ws := bw_gd (List.mem_of_getElem? (i := 67) (by decide +kernel)) rfl
theorem bwd_70 : (.fieldLink RX2 15 "BeliefWeb$Web" "totals" "[I" : Cond) ∈ bw_ws := bw_gd (List.mem_of_getElem? (i := 70) (by decide +kernel)) rfl
theorem bwd_72 : (.fieldLink RX2 18 "BeliefWeb$Web" "parentCounts" "[I" : Cond) ∈ bw_ws := bw_gd (List.mem_of_getElem? (i := 72) (by decide +kernel)) rfl
theorem bwd_74 : (.fieldLink RX2 21 "BeliefWeb$Web" "parents" "[I" : Cond) ∈ bw_ws := bw_gd (List.mem_of_getElem? (i := 74) (by decide +kernel)) rfl
theorem bwd_76 : (.fieldLink RX2 24 "BeliefWeb$Web" "weights" "[I" : Cond) ∈ bw_ws := bw_gd (List.mem_of_getElem? (i := 76) (by decide +kernel)) rfl
theorem bwd_78 : (.fieldLink RX2 27 "BeliefWeb$Web" "seen" "[I" : Cond) ∈ bw_ws := bw_gd (List.mem_of_getElem? (i := 78) (by decide +kernel)) rfl
theorem bwd_80 : (.fieldLink RX2 30 "BeliefWeb$Web" "done" "[I" : Cond) ∈ bw_ws := bw_gd (List.mem_of_getElem? (i := 80) (by decide +kernel)) rfl
theorem bwd_82 : (.fieldLink RX2 33 "BeliefWeb$Web" "forces" "[I" : Cond) ∈ bw_ws := bw_gd (List.mem_of_getElem? (i := 82) (by decide +kernel)) rfl
theorem bwd_84 : (.fieldLink RX2 36 "BeliefWeb$Web" "worths" "[I" : Cond) ∈ bw_ws := bw_gd (List.mem_of_getElem? (i := 84) (by decide +kernel)) rfl
theorem bwd_110 : (.arrayClass .int : Cond) ∈ bw_ws := bw_gd (List.mem_of_getElem? (i := 110) (by decide +kernel)) rfl
theorem bwd_111 : (.classLink RX3 16 RX0 : Cond) ∈ bw_ws := bw_gd (List.mem_of_getElem? (i := 111) (by decide +kernel)) rfl
theorem bwd_112 : (.instantiable RX0 4 : Cond) ∈ bw_ws := bw_gd (List.mem_of_getElem? (i := 112) (by decide +kernel)) rfl
theorem bwd_114 : (.instanceMethod yX0_init : Cond) ∈ bw_ws := bw_gd (List.mem_of_getElem? (i := 114) (by decide +kernel)) rfl
theorem bwd_116 : (.methodLink RX0 3 objectInit : Cond) ∈ bw_ws := bw_gd (List.mem_of_getElem? (i := 116) (by decide +kernel)) rfl
theorem bwd_117 : (.classLink RX0 9 RX2 : Cond) ∈ bw_ws := bw_gd (List.mem_of_getElem? (i := 117) (by decide +kernel)) rfl
theorem bwd_119 : (.fieldLink RX0 12 "BeliefWeb$History" "start" "LBeliefWeb$Web;" : Cond) ∈ bw_ws := bw_gd (List.mem_of_getElem? (i := 119) (by decide +kernel)) rfl
theorem bwd_120 : (.fieldLink RX0 18 "BeliefWeb$History" "acts" "[I" : Cond) ∈ bw_ws := bw_gd (List.mem_of_getElem? (i := 120) (by decide +kernel)) rfl
theorem bwd_133 : (.classLink RX3 23 RX1 : Cond) ∈ bw_ws := bw_gd (List.mem_of_getElem? (i := 133) (by decide +kernel)) rfl
theorem bwd_134 : (.instantiable RX1 11 : Cond) ∈ bw_ws := bw_gd (List.mem_of_getElem? (i := 134) (by decide +kernel)) rfl
theorem bwd_136 : (.instanceMethod yX1_init : Cond) ∈ bw_ws := bw_gd (List.mem_of_getElem? (i := 136) (by decide +kernel)) rfl
theorem bwd_138 : (.methodLink RX1 3 objectInit : Cond) ∈ bw_ws := bw_gd (List.mem_of_getElem? (i := 138) (by decide +kernel)) rfl
theorem bwd_139 : (.fieldLink RX1 9 "BeliefWeb$Survey" "order" "[I" : Cond) ∈ bw_ws := bw_gd (List.mem_of_getElem? (i := 139) (by decide +kernel)) rfl
theorem bwd_140 : (.fieldLink RX1 15 "BeliefWeb$Survey" "chosen" "[I" : Cond) ∈ bw_ws := bw_gd (List.mem_of_getElem? (i := 140) (by decide +kernel)) rfl
theorem bwd_141 : (.fieldLink RX1 18 "BeliefWeb$Survey" "shares" "[J" : Cond) ∈ bw_ws := bw_gd (List.mem_of_getElem? (i := 141) (by decide +kernel)) rfl
theorem bwd_143 : (.fieldLink RX1 22 "BeliefWeb$Survey" "rankedLikelihoods" "[J" : Cond) ∈ bw_ws := bw_gd (List.mem_of_getElem? (i := 143) (by decide +kernel)) rfl
theorem bwd_145 : (.fieldLink RX1 25 "BeliefWeb$Survey" "rankedWholes" "[I" : Cond) ∈ bw_ws := bw_gd (List.mem_of_getElem? (i := 145) (by decide +kernel)) rfl
theorem bwd_179 : (.arrayClass .long : Cond) ∈ bw_ws := bw_gd (List.mem_of_getElem? (i := 179) (by decide +kernel)) rfl
theorem bwd_180 : (.fieldLink RX3 12 "BeliefWeb" "web" "LBeliefWeb$Web;" : Cond) ∈ bw_ws := bw_gd (List.mem_of_getElem? (i := 180) (by decide +kernel)) rfl
theorem bwd_181 : (.fieldLink RX3 19 "BeliefWeb" "history" "LBeliefWeb$History;" : Cond) ∈ bw_ws := bw_gd (List.mem_of_getElem? (i := 181) (by decide +kernel)) rfl
theorem bwd_182 : (.fieldLink RX3 26 "BeliefWeb" "survey" "LBeliefWeb$Survey;" : Cond) ∈ bw_ws := bw_gd (List.mem_of_getElem? (i := 182) (by decide +kernel)) rfl
theorem bwd_183 : (.fieldLink RX3 30 "BeliefWeb" "shown" "[I" : Cond) ∈ bw_ws := bw_gd (List.mem_of_getElem? (i := 183) (by decide +kernel)) rfl
theorem bwd_568 : (.methodLink RX4 1 objectInit : Cond) ∈ bw_ws := bw_gd (List.mem_of_getElem? (i := 568) (by decide +kernel)) rfl
theorem bwd_570 : (.fieldLink RX4 7 "BeliefWebModel" "values" "[I" : Cond) ∈ bw_ws := bw_gd (List.mem_of_getElem? (i := 570) (by decide +kernel)) rfl
theorem bwd_571 : (.fieldLink RX4 13 "BeliefWebModel" "totals" "[I" : Cond) ∈ bw_ws := bw_gd (List.mem_of_getElem? (i := 571) (by decide +kernel)) rfl
theorem bwd_572 : (.fieldLink RX4 16 "BeliefWebModel" "parents" "[I" : Cond) ∈ bw_ws := bw_gd (List.mem_of_getElem? (i := 572) (by decide +kernel)) rfl
theorem bwd_573 : (.fieldLink RX4 19 "BeliefWebModel" "parent" "[I" : Cond) ∈ bw_ws := bw_gd (List.mem_of_getElem? (i := 573) (by decide +kernel)) rfl
theorem bwd_574 : (.fieldLink RX4 22 "BeliefWebModel" "tables" "[I" : Cond) ∈ bw_ws := bw_gd (List.mem_of_getElem? (i := 574) (by decide +kernel)) rfl
theorem bwd_575 : (.fieldLink RX4 25 "BeliefWebModel" "seen" "[I" : Cond) ∈ bw_ws := bw_gd (List.mem_of_getElem? (i := 575) (by decide +kernel)) rfl
theorem bwd_576 : (.fieldLink RX4 28 "BeliefWebModel" "done" "[I" : Cond) ∈ bw_ws := bw_gd (List.mem_of_getElem? (i := 576) (by decide +kernel)) rfl
theorem bwd_577 : (.fieldLink RX4 31 "BeliefWebModel" "forces" "[I" : Cond) ∈ bw_ws := bw_gd (List.mem_of_getElem? (i := 577) (by decide +kernel)) rfl
theorem bwd_579 : (.fieldLink RX4 34 "BeliefWebModel" "worths" "[I" : Cond) ∈ bw_ws := bw_gd (List.mem_of_getElem? (i := 579) (by decide +kernel)) rfl
theorem bwd_580 : (.fieldLink RX4 37 "BeliefWebModel" "reached" "[Z" : Cond) ∈ bw_ws := bw_gd (List.mem_of_getElem? (i := 580) (by decide +kernel)) rfl
theorem bwd_581 : (.fieldLink RX4 41 "BeliefWebModel" "whole" "[I" : Cond) ∈ bw_ws := bw_gd (List.mem_of_getElem? (i := 581) (by decide +kernel)) rfl
theorem bwd_585 : (.fieldLink RX4 44 "BeliefWebModel" "shown" "[I" : Cond) ∈ bw_ws := bw_gd (List.mem_of_getElem? (i := 585) (by decide +kernel)) rfl
theorem bwd_587 : (.fieldLink RX4 47 "BeliefWebModel" "bestLikelihood" "[J" : Cond) ∈ bw_ws := bw_gd (List.mem_of_getElem? (i := 587) (by decide +kernel)) rfl
theorem bwd_588 : (.fieldLink RX4 51 "BeliefWebModel" "bestWhole" "[I" : Cond) ∈ bw_ws := bw_gd (List.mem_of_getElem? (i := 588) (by decide +kernel)) rfl
theorem bwd_589 : (.fieldLink RX4 54 "BeliefWebModel" "road" "[I" : Cond) ∈ bw_ws := bw_gd (List.mem_of_getElem? (i := 589) (by decide +kernel)) rfl
theorem bwd_590 : (.fieldLink RX4 57 "BeliefWebModel" "tried" "[I" : Cond) ∈ bw_ws := bw_gd (List.mem_of_getElem? (i := 590) (by decide +kernel)) rfl
theorem bwd_591 : (.fieldLink RX4 60 "BeliefWebModel" "on" "[Z" : Cond) ∈ bw_ws := bw_gd (List.mem_of_getElem? (i := 591) (by decide +kernel)) rfl
theorem bwd_594 : (.fieldLink RX4 63 "BeliefWebModel" "actKind" "[I" : Cond) ∈ bw_ws := bw_gd (List.mem_of_getElem? (i := 594) (by decide +kernel)) rfl
theorem bwd_595 : (.fieldLink RX4 66 "BeliefWebModel" "actWhich" "[I" : Cond) ∈ bw_ws := bw_gd (List.mem_of_getElem? (i := 595) (by decide +kernel)) rfl
theorem bwd_596 : (.fieldLink RX4 69 "BeliefWebModel" "actA" "[I" : Cond) ∈ bw_ws := bw_gd (List.mem_of_getElem? (i := 596) (by decide +kernel)) rfl
theorem bwd_597 : (.fieldLink RX4 72 "BeliefWebModel" "actB" "[I" : Cond) ∈ bw_ws := bw_gd (List.mem_of_getElem? (i := 597) (by decide +kernel)) rfl
theorem bwd_598 : (.fieldLink RX4 75 "BeliefWebModel" "actRow" "[I" : Cond) ∈ bw_ws := bw_gd (List.mem_of_getElem? (i := 598) (by decide +kernel)) rfl
theorem bwd_662 : (.arrayClass .boolean : Cond) ∈ bw_ws := bw_gd (List.mem_of_getElem? (i := 662) (by decide +kernel)) rfl
theorem dX2_init_0 : decode cX2_init 0 = .ok (.aload_n 0, 1) := by decide +kernel
theorem dX2_init_1 : decode cX2_init 1 = .ok (.invokespecial 3, 3) := by decide +kernel
theorem dX2_init_4 : decode cX2_init 4 = .ok (.aload_n 0, 1) := by decide +kernel
theorem dX2_init_5 : decode cX2_init 5 = .ok (.bipush 12, 2) := by decide +kernel
theorem dX2_init_7 : decode cX2_init 7 = .ok (.newarray .int, 2) := by decide +kernel
theorem dX2_init_9 : decode cX2_init 9 = .ok (.putfield 9, 3) := by decide +kernel
theorem dX2_init_12 : decode cX2_init 12 = .ok (.aload_n 0, 1) := by decide +kernel
theorem dX2_init_13 : decode cX2_init 13 = .ok (.bipush 12, 2) := by decide +kernel
theorem dX2_init_15 : decode cX2_init 15 = .ok (.newarray .int, 2) := by decide +kernel
theorem dX2_init_17 : decode cX2_init 17 = .ok (.putfield 15, 3) := by decide +kernel
theorem dX2_init_20 : decode cX2_init 20 = .ok (.aload_n 0, 1) := by decide +kernel
theorem dX2_init_21 : decode cX2_init 21 = .ok (.bipush 12, 2) := by decide +kernel
theorem dX2_init_23 : decode cX2_init 23 = .ok (.newarray .int, 2) := by decide +kernel
theorem dX2_init_25 : decode cX2_init 25 = .ok (.putfield 18, 3) := by decide +kernel
theorem dX2_init_28 : decode cX2_init 28 = .ok (.aload_n 0, 1) := by decide +kernel
theorem dX2_init_29 : decode cX2_init 29 = .ok (.bipush 36, 2) := by decide +kernel
theorem dX2_init_31 : decode cX2_init 31 = .ok (.newarray .int, 2) := by decide +kernel
theorem dX2_init_33 : decode cX2_init 33 = .ok (.putfield 21, 3) := by decide +kernel
theorem dX2_init_36 : decode cX2_init 36 = .ok (.aload_n 0, 1) := by decide +kernel
theorem dX2_init_37 : decode cX2_init 37 = .ok (.sipush 3072, 3) := by decide +kernel
theorem dX2_init_40 : decode cX2_init 40 = .ok (.newarray .int, 2) := by decide +kernel
theorem dX2_init_42 : decode cX2_init 42 = .ok (.putfield 24, 3) := by decide +kernel
theorem dX2_init_45 : decode cX2_init 45 = .ok (.aload_n 0, 1) := by decide +kernel
theorem dX2_init_46 : decode cX2_init 46 = .ok (.bipush 12, 2) := by decide +kernel
theorem dX2_init_48 : decode cX2_init 48 = .ok (.newarray .int, 2) := by decide +kernel
theorem dX2_init_50 : decode cX2_init 50 = .ok (.putfield 27, 3) := by decide +kernel
theorem dX2_init_53 : decode cX2_init 53 = .ok (.aload_n 0, 1) := by decide +kernel
theorem dX2_init_54 : decode cX2_init 54 = .ok (.bipush 12, 2) := by decide +kernel
theorem dX2_init_56 : decode cX2_init 56 = .ok (.newarray .int, 2) := by decide +kernel
theorem dX2_init_58 : decode cX2_init 58 = .ok (.putfield 30, 3) := by decide +kernel
theorem dX2_init_61 : decode cX2_init 61 = .ok (.aload_n 0, 1) := by decide +kernel
theorem dX2_init_62 : decode cX2_init 62 = .ok (.bipush 48, 2) := by decide +kernel
theorem dX2_init_64 : decode cX2_init 64 = .ok (.newarray .int, 2) := by decide +kernel
theorem dX2_init_66 : decode cX2_init 66 = .ok (.putfield 33, 3) := by decide +kernel
theorem dX2_init_69 : decode cX2_init 69 = .ok (.aload_n 0, 1) := by decide +kernel
theorem dX2_init_70 : decode cX2_init 70 = .ok (.sipush 288, 3) := by decide +kernel
theorem dX2_init_73 : decode cX2_init 73 = .ok (.newarray .int, 2) := by decide +kernel
theorem dX2_init_75 : decode cX2_init 75 = .ok (.putfield 36, 3) := by decide +kernel
theorem dX2_init_78 : decode cX2_init 78 = .ok (.return_, 1) := by decide +kernel
def vX2_init (cI cJ cZ : ClassId) (h0 : Nat) (u : Nat → Nat) : va_W := [(h0, .inr (2, [.int 0, .int 0, .ref (u 0), .ref (u 1), .ref (u 2), .ref (u 3), .ref (u 4), .ref (u 5), .ref (u 6), .ref (u 7), .ref (u 8)])), ((u 0), .inl (cI, 12, .inl (fun _ => 0))), ((u 1), .inl (cI, 12, .inl (fun _ => 0))), ((u 2), .inl (cI, 12, .inl (fun _ => 0))), ((u 3), .inl (cI, 36, .inl (fun _ => 0))), ((u 4), .inl (cI, 3072, .inl (fun _ => 0))), ((u 5), .inl (cI, 12, .inl (fun _ => 0))), ((u 6), .inl (cI, 12, .inl (fun _ => 0))), ((u 7), .inl (cI, 48, .inl (fun _ => 0))), ((u 8), .inl (cI, 288, .inl (fun _ => 0)))]
set_option maxRecDepth 100000 in
set_option maxHeartbeats 4000000 in
theorem gX2_init : GoodIn bw_ws (.code yX2_init cX2_init 1 none :: bw_ws) := bw_goodC (List.mem_of_getElem? (i := 59) rfl)
set_option maxHeartbeats 8000000 in
set_option maxRecDepth 100000 in
theorem iX2_init (l : Launch) (D : va_G) (cI cJ cZ : ClassId) (h0 sz : Nat) : Met l yX2_init (.code yX2_init cX2_init 1 none :: bw_ws) ({ frames := 1, cells := 9, slots := 3504, locals := 64 }) (va_Pc [.ref h0] (fun U => U.heap.size = sz ∧ va_P D vwCl [(h0, .inr (2, [.int 0, .int 0, .null, .null, .null, .null, .null, .null, .null, .null, .null]))] U.heap ∧ va_K D vwCl (bw_tys cI cJ cZ) U ∧ va_D (fun _ => True) [(h0, .inr (2, [.int 0, .int 0, .null, .null, .null, .null, .null, .null, .null, .null, .null]))] ∧ bw_Nst U)) (va_Qv (fun _ : Nat → Nat => True) (fun u t => va_P D vwCl (vX2_init cI cJ cZ h0 u) t.heap ∧ va_K D vwCl (bw_tys cI cJ cZ) t ∧ va_D (va_A [(h0, .inr (2, [.int 0, .int 0, .null, .null, .null, .null, .null, .null, .null, .null, .null]))] sz) (vX2_init cI cJ cZ h0 u)) (va_A [(h0, .inr (2, [.int 0, .int 0, .null, .null, .null, .null, .null, .null, .null, .null, .null]))] sz)) 9 3504 (va_A [(h0, .inr (2, [.int 0, .int 0, .null, .null, .null, .null, .null, .null, .null, .null, .null]))] sz) := by
  refine Met.ofW (cc := cX2_init) (maxL := 1) (ret := none) (by decide) rfl ?_
  intro p e s m args below meth c s₁ B hml hv
  obtain ⟨rfl, hsz, hP, hK, hD0, hN⟩ := hv
  have hx := B.exec
  have hb := B.bytes
  have hr := B.returns
  have hts := atoms_spec (ws := .code yX2_init cX2_init 1 none :: bw_ws) B.pre
  have hown : s.vm.findClass RX2 = some m.cls := findClass_of_methodNamed B.named
  have hlocks := B.notSynchronized
  have hin : meth.name = "<init>" := (name_of_methodNamed B.named B.method).1
  subst hsz
  have hD := hD0.self (sz := s.heap.size)
  generalize hAe : va_A [(h0, .inr (2, [.int 0, .int 0, .null, .null, .null, .null, .null, .null, .null, .null, .null]))] s.heap.size = A at hD ⊢
  have hA : ∀ q : Nat, s.heap.size ≤ q → A q := fun q h => by rw [← hAe]; exact Or.inr h
  have hS : va_S A s.heap s.heap [] := va_S.rf
  have hP : va_P D vwCl [(h0, .inr (2, [.int 0, .int 0, .null, .null, .null, .null, .null, .null, .null, .null, .null]))] s.heap := hP
  have hl := lv_entry ([.ref h0]) (n := 1) (Nat.le_of_ble_eq_true rfl)
  rw [lg_entry_eq]
  generalize (lg_sl ([.ref h0]) ++ List.replicate (1 - (lg_sl ([.ref h0])).length) Slot.unset).toArray = ls at hl ⊢
  have hl : lv_has ls 1 [(0, .ref h0)] := hl
  refine lv_aload_n hx hb dX2_init_0 rfl (lv_at hl 0 rfl) ?_
  refine W.objInit hx hb hown (hts (.methodLink RX2 3 objectInit) (List.mem_cons.mpr (Or.inr bwd_60))) (hts (.instanceMethod objectInit) (List.mem_cons.mpr (Or.inr bwd_53))) (hts (.code objectInit ⟨#[0xb1]⟩ 1 none) (List.mem_cons.mpr (Or.inr bwd_54))) rfl (by rw [hml]; exact hl.1) rfl dX2_init_1 (Nat.le_of_ble_eq_true rfl) (Nat.le_of_ble_eq_true rfl) ?_
  refine W.eq (g2 := F0 m 4 ls []) rfl ?_
  refine lv_aload_n hx hb dX2_init_4 rfl (lv_at hl 0 rfl) ?_
  refine lv_bipush (v := 12) hx hb dX2_init_5 (by decide) ?_
  refine va_newa (D := D) (atype := .int) (ty := .int) (N' := 12) (a0 := (12, .inl (fun _ => 0))) hx hb (hts (.arrayClass .int) (List.mem_cons.mpr (Or.inr bwd_110))) rfl hK hP hD hS hA (bw_haI 12) (by decide +kernel) (by decide +kernel) (Nat.le_of_ble_eq_true rfl) (Nat.le_of_ble_eq_true rfl) (Nat.le_of_ble_eq_true rfl) dX2_init_7 (fun n0 cA H hK2 hP hD hS => ?_)
  have ec := (bw_tyI hK2).symm
  subst ec
  have hP : va_P D vwCl [(h0, .inr (2, [.int 0, .int 0, .null, .null, .null, .null, .null, .null, .null, .null, .null])), (n0, .inl (cI, 12, .inl (fun _ => 0)))] H := hP
  have hD : va_D A [(h0, .inr (2, [.int 0, .int 0, .null, .null, .null, .null, .null, .null, .null, .null, .null])), (n0, .inl (cI, 12, .inl (fun _ => 0)))] := hD
  refine W.widen (k := 1) (n := 12) (by omega) (by omega) ?_
  refine va_putF (D := D) (ci := 2) (v := .ref n0) (ty := .array .int) (C := RX2) (T := TX2) (N := 11) (Ts := bw_ws) hx hb (fun w h => hts w (List.mem_cons.mpr (Or.inr h))) (bw_cls_ws2 2 (RX2, TX2, 11) rfl) tyX2 tyX2_ok nmX2 hown hK hP hD hS 0 rfl rfl 2 (by decide) (hts (.fieldLink RX2 9 "BeliefWeb$Web" "values" "[I") (List.mem_cons.mpr (Or.inr bwd_67))) (fun _ h9 => h9) rfl hin rfl (by decide +kernel) rfl rfl (Nat.le_of_ble_eq_true rfl) dX2_init_9 (fun H locs hP hD hS => ?_)
  have hP : va_P D vwCl [(h0, .inr (2, [.int 0, .int 0, .ref n0, .null, .null, .null, .null, .null, .null, .null, .null])), (n0, .inl (cI, 12, .inl (fun _ => 0)))] H := hP
  have hD : va_D A [(h0, .inr (2, [.int 0, .int 0, .ref n0, .null, .null, .null, .null, .null, .null, .null, .null])), (n0, .inl (cI, 12, .inl (fun _ => 0)))] := hD
  refine lv_aload_n hx hb dX2_init_12 rfl (lv_at hl 0 rfl) ?_
  refine lv_bipush (v := 12) hx hb dX2_init_13 (by decide) ?_
  refine va_newa (D := D) (atype := .int) (ty := .int) (N' := 12) (a0 := (12, .inl (fun _ => 0))) hx hb (hts (.arrayClass .int) (List.mem_cons.mpr (Or.inr bwd_110))) rfl hK hP hD hS hA (bw_haI 12) (by decide +kernel) (by decide +kernel) (Nat.le_of_ble_eq_true rfl) (Nat.le_of_ble_eq_true rfl) (Nat.le_of_ble_eq_true rfl) dX2_init_15 (fun n1 cA H hK2 hP hD hS => ?_)
  have ec := (bw_tyI hK2).symm
  subst ec
  have hP : va_P D vwCl [(h0, .inr (2, [.int 0, .int 0, .ref n0, .null, .null, .null, .null, .null, .null, .null, .null])), (n0, .inl (cI, 12, .inl (fun _ => 0))), (n1, .inl (cI, 12, .inl (fun _ => 0)))] H := hP
  have hD : va_D A [(h0, .inr (2, [.int 0, .int 0, .ref n0, .null, .null, .null, .null, .null, .null, .null, .null])), (n0, .inl (cI, 12, .inl (fun _ => 0))), (n1, .inl (cI, 12, .inl (fun _ => 0)))] := hD
  refine W.widen (k := 2) (n := 24) (by omega) (by omega) ?_
  refine va_putF (D := D) (ci := 2) (v := .ref n1) (ty := .array .int) (C := RX2) (T := TX2) (N := 11) (Ts := bw_ws) hx hb (fun w h => hts w (List.mem_cons.mpr (Or.inr h))) (bw_cls_ws2 2 (RX2, TX2, 11) rfl) tyX2 tyX2_ok nmX2 hown hK hP hD hS 0 rfl rfl 3 (by decide) (hts (.fieldLink RX2 15 "BeliefWeb$Web" "totals" "[I") (List.mem_cons.mpr (Or.inr bwd_70))) (fun _ h9 => h9) rfl hin rfl (by decide +kernel) rfl rfl (Nat.le_of_ble_eq_true rfl) dX2_init_17 (fun H locs hP hD hS => ?_)
  have hP : va_P D vwCl [(h0, .inr (2, [.int 0, .int 0, .ref n0, .ref n1, .null, .null, .null, .null, .null, .null, .null])), (n0, .inl (cI, 12, .inl (fun _ => 0))), (n1, .inl (cI, 12, .inl (fun _ => 0)))] H := hP
  have hD : va_D A [(h0, .inr (2, [.int 0, .int 0, .ref n0, .ref n1, .null, .null, .null, .null, .null, .null, .null])), (n0, .inl (cI, 12, .inl (fun _ => 0))), (n1, .inl (cI, 12, .inl (fun _ => 0)))] := hD
  refine lv_aload_n hx hb dX2_init_20 rfl (lv_at hl 0 rfl) ?_
  refine lv_bipush (v := 12) hx hb dX2_init_21 (by decide) ?_
  refine va_newa (D := D) (atype := .int) (ty := .int) (N' := 12) (a0 := (12, .inl (fun _ => 0))) hx hb (hts (.arrayClass .int) (List.mem_cons.mpr (Or.inr bwd_110))) rfl hK hP hD hS hA (bw_haI 12) (by decide +kernel) (by decide +kernel) (Nat.le_of_ble_eq_true rfl) (Nat.le_of_ble_eq_true rfl) (Nat.le_of_ble_eq_true rfl) dX2_init_23 (fun n2 cA H hK2 hP hD hS => ?_)
  have ec := (bw_tyI hK2).symm
  subst ec
  have hP : va_P D vwCl [(h0, .inr (2, [.int 0, .int 0, .ref n0, .ref n1, .null, .null, .null, .null, .null, .null, .null])), (n0, .inl (cI, 12, .inl (fun _ => 0))), (n1, .inl (cI, 12, .inl (fun _ => 0))), (n2, .inl (cI, 12, .inl (fun _ => 0)))] H := hP
  have hD : va_D A [(h0, .inr (2, [.int 0, .int 0, .ref n0, .ref n1, .null, .null, .null, .null, .null, .null, .null])), (n0, .inl (cI, 12, .inl (fun _ => 0))), (n1, .inl (cI, 12, .inl (fun _ => 0))), (n2, .inl (cI, 12, .inl (fun _ => 0)))] := hD
  refine W.widen (k := 3) (n := 36) (by omega) (by omega) ?_
  refine va_putF (D := D) (ci := 2) (v := .ref n2) (ty := .array .int) (C := RX2) (T := TX2) (N := 11) (Ts := bw_ws) hx hb (fun w h => hts w (List.mem_cons.mpr (Or.inr h))) (bw_cls_ws2 2 (RX2, TX2, 11) rfl) tyX2 tyX2_ok nmX2 hown hK hP hD hS 0 rfl rfl 4 (by decide) (hts (.fieldLink RX2 18 "BeliefWeb$Web" "parentCounts" "[I") (List.mem_cons.mpr (Or.inr bwd_72))) (fun _ h9 => h9) rfl hin rfl (by decide +kernel) rfl rfl (Nat.le_of_ble_eq_true rfl) dX2_init_25 (fun H locs hP hD hS => ?_)
  have hP : va_P D vwCl [(h0, .inr (2, [.int 0, .int 0, .ref n0, .ref n1, .ref n2, .null, .null, .null, .null, .null, .null])), (n0, .inl (cI, 12, .inl (fun _ => 0))), (n1, .inl (cI, 12, .inl (fun _ => 0))), (n2, .inl (cI, 12, .inl (fun _ => 0)))] H := hP
  have hD : va_D A [(h0, .inr (2, [.int 0, .int 0, .ref n0, .ref n1, .ref n2, .null, .null, .null, .null, .null, .null])), (n0, .inl (cI, 12, .inl (fun _ => 0))), (n1, .inl (cI, 12, .inl (fun _ => 0))), (n2, .inl (cI, 12, .inl (fun _ => 0)))] := hD
  refine lv_aload_n hx hb dX2_init_28 rfl (lv_at hl 0 rfl) ?_
  refine lv_bipush (v := 36) hx hb dX2_init_29 (by decide) ?_
  refine va_newa (D := D) (atype := .int) (ty := .int) (N' := 36) (a0 := (36, .inl (fun _ => 0))) hx hb (hts (.arrayClass .int) (List.mem_cons.mpr (Or.inr bwd_110))) rfl hK hP hD hS hA (bw_haI 36) (by decide +kernel) (by decide +kernel) (Nat.le_of_ble_eq_true rfl) (Nat.le_of_ble_eq_true rfl) (Nat.le_of_ble_eq_true rfl) dX2_init_31 (fun n3 cA H hK2 hP hD hS => ?_)
  have ec := (bw_tyI hK2).symm
  subst ec
  have hP : va_P D vwCl [(h0, .inr (2, [.int 0, .int 0, .ref n0, .ref n1, .ref n2, .null, .null, .null, .null, .null, .null])), (n0, .inl (cI, 12, .inl (fun _ => 0))), (n1, .inl (cI, 12, .inl (fun _ => 0))), (n2, .inl (cI, 12, .inl (fun _ => 0))), (n3, .inl (cI, 36, .inl (fun _ => 0)))] H := hP
  have hD : va_D A [(h0, .inr (2, [.int 0, .int 0, .ref n0, .ref n1, .ref n2, .null, .null, .null, .null, .null, .null])), (n0, .inl (cI, 12, .inl (fun _ => 0))), (n1, .inl (cI, 12, .inl (fun _ => 0))), (n2, .inl (cI, 12, .inl (fun _ => 0))), (n3, .inl (cI, 36, .inl (fun _ => 0)))] := hD
  refine W.widen (k := 4) (n := 72) (by omega) (by omega) ?_
  refine va_putF (D := D) (ci := 2) (v := .ref n3) (ty := .array .int) (C := RX2) (T := TX2) (N := 11) (Ts := bw_ws) hx hb (fun w h => hts w (List.mem_cons.mpr (Or.inr h))) (bw_cls_ws2 2 (RX2, TX2, 11) rfl) tyX2 tyX2_ok nmX2 hown hK hP hD hS 0 rfl rfl 5 (by decide) (hts (.fieldLink RX2 21 "BeliefWeb$Web" "parents" "[I") (List.mem_cons.mpr (Or.inr bwd_74))) (fun _ h9 => h9) rfl hin rfl (by decide +kernel) rfl rfl (Nat.le_of_ble_eq_true rfl) dX2_init_33 (fun H locs hP hD hS => ?_)
  have hP : va_P D vwCl [(h0, .inr (2, [.int 0, .int 0, .ref n0, .ref n1, .ref n2, .ref n3, .null, .null, .null, .null, .null])), (n0, .inl (cI, 12, .inl (fun _ => 0))), (n1, .inl (cI, 12, .inl (fun _ => 0))), (n2, .inl (cI, 12, .inl (fun _ => 0))), (n3, .inl (cI, 36, .inl (fun _ => 0)))] H := hP
  have hD : va_D A [(h0, .inr (2, [.int 0, .int 0, .ref n0, .ref n1, .ref n2, .ref n3, .null, .null, .null, .null, .null])), (n0, .inl (cI, 12, .inl (fun _ => 0))), (n1, .inl (cI, 12, .inl (fun _ => 0))), (n2, .inl (cI, 12, .inl (fun _ => 0))), (n3, .inl (cI, 36, .inl (fun _ => 0)))] := hD
  refine lv_aload_n hx hb dX2_init_36 rfl (lv_at hl 0 rfl) ?_
  refine lv_sipush (v := 3072) hx hb dX2_init_37 (by decide) ?_
  refine va_newa (D := D) (atype := .int) (ty := .int) (N' := 3072) (a0 := (3072, .inl (fun _ => 0))) hx hb (hts (.arrayClass .int) (List.mem_cons.mpr (Or.inr bwd_110))) rfl hK hP hD hS hA (bw_haI 3072) (by decide +kernel) (by decide +kernel) (Nat.le_of_ble_eq_true rfl) (Nat.le_of_ble_eq_true rfl) (Nat.le_of_ble_eq_true rfl) dX2_init_40 (fun n4 cA H hK2 hP hD hS => ?_)
  have ec := (bw_tyI hK2).symm
  subst ec
  have hP : va_P D vwCl [(h0, .inr (2, [.int 0, .int 0, .ref n0, .ref n1, .ref n2, .ref n3, .null, .null, .null, .null, .null])), (n0, .inl (cI, 12, .inl (fun _ => 0))), (n1, .inl (cI, 12, .inl (fun _ => 0))), (n2, .inl (cI, 12, .inl (fun _ => 0))), (n3, .inl (cI, 36, .inl (fun _ => 0))), (n4, .inl (cI, 3072, .inl (fun _ => 0)))] H := hP
  have hD : va_D A [(h0, .inr (2, [.int 0, .int 0, .ref n0, .ref n1, .ref n2, .ref n3, .null, .null, .null, .null, .null])), (n0, .inl (cI, 12, .inl (fun _ => 0))), (n1, .inl (cI, 12, .inl (fun _ => 0))), (n2, .inl (cI, 12, .inl (fun _ => 0))), (n3, .inl (cI, 36, .inl (fun _ => 0))), (n4, .inl (cI, 3072, .inl (fun _ => 0)))] := hD
  refine W.widen (k := 5) (n := 3144) (by omega) (by omega) ?_
  refine va_putF (D := D) (ci := 2) (v := .ref n4) (ty := .array .int) (C := RX2) (T := TX2) (N := 11) (Ts := bw_ws) hx hb (fun w h => hts w (List.mem_cons.mpr (Or.inr h))) (bw_cls_ws2 2 (RX2, TX2, 11) rfl) tyX2 tyX2_ok nmX2 hown hK hP hD hS 0 rfl rfl 6 (by decide) (hts (.fieldLink RX2 24 "BeliefWeb$Web" "weights" "[I") (List.mem_cons.mpr (Or.inr bwd_76))) (fun _ h9 => h9) rfl hin rfl (by decide +kernel) rfl rfl (Nat.le_of_ble_eq_true rfl) dX2_init_42 (fun H locs hP hD hS => ?_)
  have hP : va_P D vwCl [(h0, .inr (2, [.int 0, .int 0, .ref n0, .ref n1, .ref n2, .ref n3, .ref n4, .null, .null, .null, .null])), (n0, .inl (cI, 12, .inl (fun _ => 0))), (n1, .inl (cI, 12, .inl (fun _ => 0))), (n2, .inl (cI, 12, .inl (fun _ => 0))), (n3, .inl (cI, 36, .inl (fun _ => 0))), (n4, .inl (cI, 3072, .inl (fun _ => 0)))] H := hP
  have hD : va_D A [(h0, .inr (2, [.int 0, .int 0, .ref n0, .ref n1, .ref n2, .ref n3, .ref n4, .null, .null, .null, .null])), (n0, .inl (cI, 12, .inl (fun _ => 0))), (n1, .inl (cI, 12, .inl (fun _ => 0))), (n2, .inl (cI, 12, .inl (fun _ => 0))), (n3, .inl (cI, 36, .inl (fun _ => 0))), (n4, .inl (cI, 3072, .inl (fun _ => 0)))] := hD
  refine lv_aload_n hx hb dX2_init_45 rfl (lv_at hl 0 rfl) ?_
  refine lv_bipush (v := 12) hx hb dX2_init_46 (by decide) ?_
  refine va_newa (D := D) (atype := .int) (ty := .int) (N' := 12) (a0 := (12, .inl (fun _ => 0))) hx hb (hts (.arrayClass .int) (List.mem_cons.mpr (Or.inr bwd_110))) rfl hK hP hD hS hA (bw_haI 12) (by decide +kernel) (by decide +kernel) (Nat.le_of_ble_eq_true rfl) (Nat.le_of_ble_eq_true rfl) (Nat.le_of_ble_eq_true rfl) dX2_init_48 (fun n5 cA H hK2 hP hD hS => ?_)
  have ec := (bw_tyI hK2).symm
  subst ec
  have hP : va_P D vwCl [(h0, .inr (2, [.int 0, .int 0, .ref n0, .ref n1, .ref n2, .ref n3, .ref n4, .null, .null, .null, .null])), (n0, .inl (cI, 12, .inl (fun _ => 0))), (n1, .inl (cI, 12, .inl (fun _ => 0))), (n2, .inl (cI, 12, .inl (fun _ => 0))), (n3, .inl (cI, 36, .inl (fun _ => 0))), (n4, .inl (cI, 3072, .inl (fun _ => 0))), (n5, .inl (cI, 12, .inl (fun _ => 0)))] H := hP
  have hD : va_D A [(h0, .inr (2, [.int 0, .int 0, .ref n0, .ref n1, .ref n2, .ref n3, .ref n4, .null, .null, .null, .null])), (n0, .inl (cI, 12, .inl (fun _ => 0))), (n1, .inl (cI, 12, .inl (fun _ => 0))), (n2, .inl (cI, 12, .inl (fun _ => 0))), (n3, .inl (cI, 36, .inl (fun _ => 0))), (n4, .inl (cI, 3072, .inl (fun _ => 0))), (n5, .inl (cI, 12, .inl (fun _ => 0)))] := hD
  refine W.widen (k := 6) (n := 3156) (by omega) (by omega) ?_
  refine va_putF (D := D) (ci := 2) (v := .ref n5) (ty := .array .int) (C := RX2) (T := TX2) (N := 11) (Ts := bw_ws) hx hb (fun w h => hts w (List.mem_cons.mpr (Or.inr h))) (bw_cls_ws2 2 (RX2, TX2, 11) rfl) tyX2 tyX2_ok nmX2 hown hK hP hD hS 0 rfl rfl 7 (by decide) (hts (.fieldLink RX2 27 "BeliefWeb$Web" "seen" "[I") (List.mem_cons.mpr (Or.inr bwd_78))) (fun _ h9 => h9) rfl hin rfl (by decide +kernel) rfl rfl (Nat.le_of_ble_eq_true rfl) dX2_init_50 (fun H locs hP hD hS => ?_)
  have hP : va_P D vwCl [(h0, .inr (2, [.int 0, .int 0, .ref n0, .ref n1, .ref n2, .ref n3, .ref n4, .ref n5, .null, .null, .null])), (n0, .inl (cI, 12, .inl (fun _ => 0))), (n1, .inl (cI, 12, .inl (fun _ => 0))), (n2, .inl (cI, 12, .inl (fun _ => 0))), (n3, .inl (cI, 36, .inl (fun _ => 0))), (n4, .inl (cI, 3072, .inl (fun _ => 0))), (n5, .inl (cI, 12, .inl (fun _ => 0)))] H := hP
  have hD : va_D A [(h0, .inr (2, [.int 0, .int 0, .ref n0, .ref n1, .ref n2, .ref n3, .ref n4, .ref n5, .null, .null, .null])), (n0, .inl (cI, 12, .inl (fun _ => 0))), (n1, .inl (cI, 12, .inl (fun _ => 0))), (n2, .inl (cI, 12, .inl (fun _ => 0))), (n3, .inl (cI, 36, .inl (fun _ => 0))), (n4, .inl (cI, 3072, .inl (fun _ => 0))), (n5, .inl (cI, 12, .inl (fun _ => 0)))] := hD
  refine lv_aload_n hx hb dX2_init_53 rfl (lv_at hl 0 rfl) ?_
  refine lv_bipush (v := 12) hx hb dX2_init_54 (by decide) ?_
  refine va_newa (D := D) (atype := .int) (ty := .int) (N' := 12) (a0 := (12, .inl (fun _ => 0))) hx hb (hts (.arrayClass .int) (List.mem_cons.mpr (Or.inr bwd_110))) rfl hK hP hD hS hA (bw_haI 12) (by decide +kernel) (by decide +kernel) (Nat.le_of_ble_eq_true rfl) (Nat.le_of_ble_eq_true rfl) (Nat.le_of_ble_eq_true rfl) dX2_init_56 (fun n6 cA H hK2 hP hD hS => ?_)
  have ec := (bw_tyI hK2).symm
  subst ec
  have hP : va_P D vwCl [(h0, .inr (2, [.int 0, .int 0, .ref n0, .ref n1, .ref n2, .ref n3, .ref n4, .ref n5, .null, .null, .null])), (n0, .inl (cI, 12, .inl (fun _ => 0))), (n1, .inl (cI, 12, .inl (fun _ => 0))), (n2, .inl (cI, 12, .inl (fun _ => 0))), (n3, .inl (cI, 36, .inl (fun _ => 0))), (n4, .inl (cI, 3072, .inl (fun _ => 0))), (n5, .inl (cI, 12, .inl (fun _ => 0))), (n6, .inl (cI, 12, .inl (fun _ => 0)))] H := hP
  have hD : va_D A [(h0, .inr (2, [.int 0, .int 0, .ref n0, .ref n1, .ref n2, .ref n3, .ref n4, .ref n5, .null, .null, .null])), (n0, .inl (cI, 12, .inl (fun _ => 0))), (n1, .inl (cI, 12, .inl (fun _ => 0))), (n2, .inl (cI, 12, .inl (fun _ => 0))), (n3, .inl (cI, 36, .inl (fun _ => 0))), (n4, .inl (cI, 3072, .inl (fun _ => 0))), (n5, .inl (cI, 12, .inl (fun _ => 0))), (n6, .inl (cI, 12, .inl (fun _ => 0)))] := hD
  refine W.widen (k := 7) (n := 3168) (by omega) (by omega) ?_
  refine va_putF (D := D) (ci := 2) (v := .ref n6) (ty := .array .int) (C := RX2) (T := TX2) (N := 11) (Ts := bw_ws) hx hb (fun w h => hts w (List.mem_cons.mpr (Or.inr h))) (bw_cls_ws2 2 (RX2, TX2, 11) rfl) tyX2 tyX2_ok nmX2 hown hK hP hD hS 0 rfl rfl 8 (by decide) (hts (.fieldLink RX2 30 "BeliefWeb$Web" "done" "[I") (List.mem_cons.mpr (Or.inr bwd_80))) (fun _ h9 => h9) rfl hin rfl (by decide +kernel) rfl rfl (Nat.le_of_ble_eq_true rfl) dX2_init_58 (fun H locs hP hD hS => ?_)
  have hP : va_P D vwCl [(h0, .inr (2, [.int 0, .int 0, .ref n0, .ref n1, .ref n2, .ref n3, .ref n4, .ref n5, .ref n6, .null, .null])), (n0, .inl (cI, 12, .inl (fun _ => 0))), (n1, .inl (cI, 12, .inl (fun _ => 0))), (n2, .inl (cI, 12, .inl (fun _ => 0))), (n3, .inl (cI, 36, .inl (fun _ => 0))), (n4, .inl (cI, 3072, .inl (fun _ => 0))), (n5, .inl (cI, 12, .inl (fun _ => 0))), (n6, .inl (cI, 12, .inl (fun _ => 0)))] H := hP
  have hD : va_D A [(h0, .inr (2, [.int 0, .int 0, .ref n0, .ref n1, .ref n2, .ref n3, .ref n4, .ref n5, .ref n6, .null, .null])), (n0, .inl (cI, 12, .inl (fun _ => 0))), (n1, .inl (cI, 12, .inl (fun _ => 0))), (n2, .inl (cI, 12, .inl (fun _ => 0))), (n3, .inl (cI, 36, .inl (fun _ => 0))), (n4, .inl (cI, 3072, .inl (fun _ => 0))), (n5, .inl (cI, 12, .inl (fun _ => 0))), (n6, .inl (cI, 12, .inl (fun _ => 0)))] := hD
  refine lv_aload_n hx hb dX2_init_61 rfl (lv_at hl 0 rfl) ?_
  refine lv_bipush (v := 48) hx hb dX2_init_62 (by decide) ?_
  refine va_newa (D := D) (atype := .int) (ty := .int) (N' := 48) (a0 := (48, .inl (fun _ => 0))) hx hb (hts (.arrayClass .int) (List.mem_cons.mpr (Or.inr bwd_110))) rfl hK hP hD hS hA (bw_haI 48) (by decide +kernel) (by decide +kernel) (Nat.le_of_ble_eq_true rfl) (Nat.le_of_ble_eq_true rfl) (Nat.le_of_ble_eq_true rfl) dX2_init_64 (fun n7 cA H hK2 hP hD hS => ?_)
  have ec := (bw_tyI hK2).symm
  subst ec
  have hP : va_P D vwCl [(h0, .inr (2, [.int 0, .int 0, .ref n0, .ref n1, .ref n2, .ref n3, .ref n4, .ref n5, .ref n6, .null, .null])), (n0, .inl (cI, 12, .inl (fun _ => 0))), (n1, .inl (cI, 12, .inl (fun _ => 0))), (n2, .inl (cI, 12, .inl (fun _ => 0))), (n3, .inl (cI, 36, .inl (fun _ => 0))), (n4, .inl (cI, 3072, .inl (fun _ => 0))), (n5, .inl (cI, 12, .inl (fun _ => 0))), (n6, .inl (cI, 12, .inl (fun _ => 0))), (n7, .inl (cI, 48, .inl (fun _ => 0)))] H := hP
  have hD : va_D A [(h0, .inr (2, [.int 0, .int 0, .ref n0, .ref n1, .ref n2, .ref n3, .ref n4, .ref n5, .ref n6, .null, .null])), (n0, .inl (cI, 12, .inl (fun _ => 0))), (n1, .inl (cI, 12, .inl (fun _ => 0))), (n2, .inl (cI, 12, .inl (fun _ => 0))), (n3, .inl (cI, 36, .inl (fun _ => 0))), (n4, .inl (cI, 3072, .inl (fun _ => 0))), (n5, .inl (cI, 12, .inl (fun _ => 0))), (n6, .inl (cI, 12, .inl (fun _ => 0))), (n7, .inl (cI, 48, .inl (fun _ => 0)))] := hD
  refine W.widen (k := 8) (n := 3216) (by omega) (by omega) ?_
  refine va_putF (D := D) (ci := 2) (v := .ref n7) (ty := .array .int) (C := RX2) (T := TX2) (N := 11) (Ts := bw_ws) hx hb (fun w h => hts w (List.mem_cons.mpr (Or.inr h))) (bw_cls_ws2 2 (RX2, TX2, 11) rfl) tyX2 tyX2_ok nmX2 hown hK hP hD hS 0 rfl rfl 9 (by decide) (hts (.fieldLink RX2 33 "BeliefWeb$Web" "forces" "[I") (List.mem_cons.mpr (Or.inr bwd_82))) (fun _ h9 => h9) rfl hin rfl (by decide +kernel) rfl rfl (Nat.le_of_ble_eq_true rfl) dX2_init_66 (fun H locs hP hD hS => ?_)
  have hP : va_P D vwCl [(h0, .inr (2, [.int 0, .int 0, .ref n0, .ref n1, .ref n2, .ref n3, .ref n4, .ref n5, .ref n6, .ref n7, .null])), (n0, .inl (cI, 12, .inl (fun _ => 0))), (n1, .inl (cI, 12, .inl (fun _ => 0))), (n2, .inl (cI, 12, .inl (fun _ => 0))), (n3, .inl (cI, 36, .inl (fun _ => 0))), (n4, .inl (cI, 3072, .inl (fun _ => 0))), (n5, .inl (cI, 12, .inl (fun _ => 0))), (n6, .inl (cI, 12, .inl (fun _ => 0))), (n7, .inl (cI, 48, .inl (fun _ => 0)))] H := hP
  have hD : va_D A [(h0, .inr (2, [.int 0, .int 0, .ref n0, .ref n1, .ref n2, .ref n3, .ref n4, .ref n5, .ref n6, .ref n7, .null])), (n0, .inl (cI, 12, .inl (fun _ => 0))), (n1, .inl (cI, 12, .inl (fun _ => 0))), (n2, .inl (cI, 12, .inl (fun _ => 0))), (n3, .inl (cI, 36, .inl (fun _ => 0))), (n4, .inl (cI, 3072, .inl (fun _ => 0))), (n5, .inl (cI, 12, .inl (fun _ => 0))), (n6, .inl (cI, 12, .inl (fun _ => 0))), (n7, .inl (cI, 48, .inl (fun _ => 0)))] := hD
  refine lv_aload_n hx hb dX2_init_69 rfl (lv_at hl 0 rfl) ?_
  refine lv_sipush (v := 288) hx hb dX2_init_70 (by decide) ?_
  refine va_newa (D := D) (atype := .int) (ty := .int) (N' := 288) (a0 := (288, .inl (fun _ => 0))) hx hb (hts (.arrayClass .int) (List.mem_cons.mpr (Or.inr bwd_110))) rfl hK hP hD hS hA (bw_haI 288) (by decide +kernel) (by decide +kernel) (Nat.le_of_ble_eq_true rfl) (Nat.le_of_ble_eq_true rfl) (Nat.le_of_ble_eq_true rfl) dX2_init_73 (fun n8 cA H hK2 hP hD hS => ?_)
  have ec := (bw_tyI hK2).symm
  subst ec
  have hP : va_P D vwCl [(h0, .inr (2, [.int 0, .int 0, .ref n0, .ref n1, .ref n2, .ref n3, .ref n4, .ref n5, .ref n6, .ref n7, .null])), (n0, .inl (cI, 12, .inl (fun _ => 0))), (n1, .inl (cI, 12, .inl (fun _ => 0))), (n2, .inl (cI, 12, .inl (fun _ => 0))), (n3, .inl (cI, 36, .inl (fun _ => 0))), (n4, .inl (cI, 3072, .inl (fun _ => 0))), (n5, .inl (cI, 12, .inl (fun _ => 0))), (n6, .inl (cI, 12, .inl (fun _ => 0))), (n7, .inl (cI, 48, .inl (fun _ => 0))), (n8, .inl (cI, 288, .inl (fun _ => 0)))] H := hP
  have hD : va_D A [(h0, .inr (2, [.int 0, .int 0, .ref n0, .ref n1, .ref n2, .ref n3, .ref n4, .ref n5, .ref n6, .ref n7, .null])), (n0, .inl (cI, 12, .inl (fun _ => 0))), (n1, .inl (cI, 12, .inl (fun _ => 0))), (n2, .inl (cI, 12, .inl (fun _ => 0))), (n3, .inl (cI, 36, .inl (fun _ => 0))), (n4, .inl (cI, 3072, .inl (fun _ => 0))), (n5, .inl (cI, 12, .inl (fun _ => 0))), (n6, .inl (cI, 12, .inl (fun _ => 0))), (n7, .inl (cI, 48, .inl (fun _ => 0))), (n8, .inl (cI, 288, .inl (fun _ => 0)))] := hD
  refine W.widen (k := 9) (n := 3504) (by omega) (by omega) ?_
  refine va_putF (D := D) (ci := 2) (v := .ref n8) (ty := .array .int) (C := RX2) (T := TX2) (N := 11) (Ts := bw_ws) hx hb (fun w h => hts w (List.mem_cons.mpr (Or.inr h))) (bw_cls_ws2 2 (RX2, TX2, 11) rfl) tyX2 tyX2_ok nmX2 hown hK hP hD hS 0 rfl rfl 10 (by decide) (hts (.fieldLink RX2 36 "BeliefWeb$Web" "worths" "[I") (List.mem_cons.mpr (Or.inr bwd_84))) (fun _ h9 => h9) rfl hin rfl (by decide +kernel) rfl rfl (Nat.le_of_ble_eq_true rfl) dX2_init_75 (fun H locs hP hD hS => ?_)
  have hP : va_P D vwCl [(h0, .inr (2, [.int 0, .int 0, .ref n0, .ref n1, .ref n2, .ref n3, .ref n4, .ref n5, .ref n6, .ref n7, .ref n8])), (n0, .inl (cI, 12, .inl (fun _ => 0))), (n1, .inl (cI, 12, .inl (fun _ => 0))), (n2, .inl (cI, 12, .inl (fun _ => 0))), (n3, .inl (cI, 36, .inl (fun _ => 0))), (n4, .inl (cI, 3072, .inl (fun _ => 0))), (n5, .inl (cI, 12, .inl (fun _ => 0))), (n6, .inl (cI, 12, .inl (fun _ => 0))), (n7, .inl (cI, 48, .inl (fun _ => 0))), (n8, .inl (cI, 288, .inl (fun _ => 0)))] H := hP
  have hD : va_D A [(h0, .inr (2, [.int 0, .int 0, .ref n0, .ref n1, .ref n2, .ref n3, .ref n4, .ref n5, .ref n6, .ref n7, .ref n8])), (n0, .inl (cI, 12, .inl (fun _ => 0))), (n1, .inl (cI, 12, .inl (fun _ => 0))), (n2, .inl (cI, 12, .inl (fun _ => 0))), (n3, .inl (cI, 36, .inl (fun _ => 0))), (n4, .inl (cI, 3072, .inl (fun _ => 0))), (n5, .inl (cI, 12, .inl (fun _ => 0))), (n6, .inl (cI, 12, .inl (fun _ => 0))), (n7, .inl (cI, 48, .inl (fun _ => 0))), (n8, .inl (cI, 288, .inl (fun _ => 0)))] := hD
  exact W.vret hx hb hr (fun t ht hW => ⟨⟨fun k => [n0, n1, n2, n3, n4, n5, n6, n7, n8].getD k 0, rfl, trivial, by rw [ht]; exact hP, va_K.moved hW.alike hK, hD⟩, hS.F ht⟩) hS.2.2 dX2_init_78
theorem dX0_init_0 : decode cX0_init 0 = .ok (.aload_n 0, 1) := by decide +kernel
theorem dX0_init_1 : decode cX0_init 1 = .ok (.invokespecial 3, 3) := by decide +kernel
theorem dX0_init_4 : decode cX0_init 4 = .ok (.aload_n 0, 1) := by decide +kernel
theorem dX0_init_5 : decode cX0_init 5 = .ok (.new 9, 3) := by decide +kernel
theorem dX0_init_8 : decode cX0_init 8 = .ok (.dup, 1) := by decide +kernel
theorem dX0_init_9 : decode cX0_init 9 = .ok (.invokespecial 11, 3) := by decide +kernel
theorem dX0_init_12 : decode cX0_init 12 = .ok (.putfield 12, 3) := by decide +kernel
theorem dX0_init_15 : decode cX0_init 15 = .ok (.aload_n 0, 1) := by decide +kernel
theorem dX0_init_16 : decode cX0_init 16 = .ok (.sipush 500, 3) := by decide +kernel
theorem dX0_init_19 : decode cX0_init 19 = .ok (.newarray .int, 2) := by decide +kernel
theorem dX0_init_21 : decode cX0_init 21 = .ok (.putfield 18, 3) := by decide +kernel
theorem dX0_init_24 : decode cX0_init 24 = .ok (.return_, 1) := by decide +kernel
def vX0_init (cI cJ cZ : ClassId) (h0 : Nat) (u : Nat → Nat) : va_W := [(h0, .inr (0, [.ref (u 0), .ref (u 10), .int 0, .int 0])), ((u 0), .inr (2, [.int 0, .int 0, .ref (u 1), .ref (u 2), .ref (u 3), .ref (u 4), .ref (u 5), .ref (u 6), .ref (u 7), .ref (u 8), .ref (u 9)])), ((u 1), .inl (cI, 12, .inl (fun _ => 0))), ((u 2), .inl (cI, 12, .inl (fun _ => 0))), ((u 3), .inl (cI, 12, .inl (fun _ => 0))), ((u 4), .inl (cI, 36, .inl (fun _ => 0))), ((u 5), .inl (cI, 3072, .inl (fun _ => 0))), ((u 6), .inl (cI, 12, .inl (fun _ => 0))), ((u 7), .inl (cI, 12, .inl (fun _ => 0))), ((u 8), .inl (cI, 48, .inl (fun _ => 0))), ((u 9), .inl (cI, 288, .inl (fun _ => 0))), ((u 10), .inl (cI, 500, .inl (fun _ => 0)))]
set_option maxRecDepth 100000 in
set_option maxHeartbeats 4000000 in
theorem gX0_init : GoodIn bw_ws (.code yX0_init cX0_init 1 none :: bw_ws) := bw_goodC (List.mem_of_getElem? (i := 115) rfl)
set_option maxHeartbeats 8000000 in
set_option maxRecDepth 100000 in
theorem iX0_init (l : Launch) (D : va_G) (cI cJ cZ : ClassId) (h0 sz : Nat) : Met l yX0_init (.code yX0_init cX0_init 1 none :: bw_ws) ({ frames := 2, cells := 11, slots := 4015, locals := 128 }) (va_Pc [.ref h0] (fun U => U.heap.size = sz ∧ va_P D vwCl [(h0, .inr (0, [.null, .null, .int 0, .int 0]))] U.heap ∧ va_K D vwCl (bw_tys cI cJ cZ) U ∧ va_D (fun _ => True) [(h0, .inr (0, [.null, .null, .int 0, .int 0]))] ∧ bw_Nst U)) (va_Qv (fun _ : Nat → Nat => True) (fun u t => va_P D vwCl (vX0_init cI cJ cZ h0 u) t.heap ∧ va_K D vwCl (bw_tys cI cJ cZ) t ∧ va_D (va_A [(h0, .inr (0, [.null, .null, .int 0, .int 0]))] sz) (vX0_init cI cJ cZ h0 u)) (va_A [(h0, .inr (0, [.null, .null, .int 0, .int 0]))] sz)) 11 4015 (va_A [(h0, .inr (0, [.null, .null, .int 0, .int 0]))] sz) := by
  refine Met.ofW (cc := cX0_init) (maxL := 1) (ret := none) (by decide) rfl ?_
  intro p e s m args below meth c s₁ B hml hv
  obtain ⟨rfl, hsz, hP, hK, hD0, hN⟩ := hv
  have hx := B.exec
  have hb := B.bytes
  have hr := B.returns
  have hts := atoms_spec (ws := .code yX0_init cX0_init 1 none :: bw_ws) B.pre
  have hown : s.vm.findClass RX0 = some m.cls := findClass_of_methodNamed B.named
  have hlocks := B.notSynchronized
  have hin : meth.name = "<init>" := (name_of_methodNamed B.named B.method).1
  subst hsz
  have hD := hD0.self (sz := s.heap.size)
  generalize hAe : va_A [(h0, .inr (0, [.null, .null, .int 0, .int 0]))] s.heap.size = A at hD ⊢
  have hA : ∀ q : Nat, s.heap.size ≤ q → A q := fun q h => by rw [← hAe]; exact Or.inr h
  have hS : va_S A s.heap s.heap [] := va_S.rf
  have hP : va_P D vwCl [(h0, .inr (0, [.null, .null, .int 0, .int 0]))] s.heap := hP
  have hl := lv_entry ([.ref h0]) (n := 1) (Nat.le_of_ble_eq_true rfl)
  rw [lg_entry_eq]
  generalize (lg_sl ([.ref h0]) ++ List.replicate (1 - (lg_sl ([.ref h0])).length) Slot.unset).toArray = ls at hl ⊢
  have hl : lv_has ls 1 [(0, .ref h0)] := hl
  refine lv_aload_n hx hb dX0_init_0 rfl (lv_at hl 0 rfl) ?_
  refine W.objInit hx hb hown (hts (.methodLink RX0 3 objectInit) (List.mem_cons.mpr (Or.inr bwd_116))) (hts (.instanceMethod objectInit) (List.mem_cons.mpr (Or.inr bwd_53))) (hts (.code objectInit ⟨#[0xb1]⟩ 1 none) (List.mem_cons.mpr (Or.inr bwd_54))) rfl (by rw [hml]; exact hl.1) rfl dX0_init_1 (Nat.le_of_ble_eq_true rfl) (Nat.le_of_ble_eq_true rfl) ?_
  refine W.eq (g2 := F0 m 4 ls []) rfl ?_
  refine lv_aload_n hx hb dX0_init_4 rfl (lv_at hl 0 rfl) ?_
  refine va_new (D := D) (ci := 2) (fs := [.int 0, .int 0, .null, .null, .null, .null, .null, .null, .null, .null, .null]) (C := RX2) (T := TX2) (N := 11) (Ts := bw_ws) hx hb (fun w h => hts w (List.mem_cons.mpr (Or.inr h))) (bw_cls_ws2 2 (RX2, TX2, 11) rfl) tyX2 tyX2_ok hown (hts (.classLink RX0 9 RX2) (List.mem_cons.mpr (Or.inr bwd_117))) (hts (.instantiable RX2 11) (List.mem_cons.mpr (Or.inr bwd_56))) (hts (.initialized RX2) (List.mem_cons.mpr (Or.inr bwd_41))) hK hP hD hS hA rfl (fun j hj => by rcases (show j = 0 ∨ j = 1 ∨ j = 2 ∨ j = 3 ∨ j = 4 ∨ j = 5 ∨ j = 6 ∨ j = 7 ∨ j = 8 ∨ j = 9 ∨ j = 10 by omega) with rfl | rfl | rfl | rfl | rfl | rfl | rfl | rfl | rfl | rfl | rfl <;> rfl) (Nat.le_of_ble_eq_true rfl) (Nat.le_of_ble_eq_true rfl) dX0_init_5 (fun n0 H hP hD hS => ?_)
  have hP : va_P D vwCl [(h0, .inr (0, [.null, .null, .int 0, .int 0])), (n0, .inr (2, [.int 0, .int 0, .null, .null, .null, .null, .null, .null, .null, .null, .null]))] H := hP
  have hD : va_D A [(h0, .inr (0, [.null, .null, .int 0, .int 0])), (n0, .inr (2, [.int 0, .int 0, .null, .null, .null, .null, .null, .null, .null, .null, .null]))] := hD
  refine W.widen (k := 1) (n := 11) (by omega) (by omega) ?_
  refine lv_dup hx hb dX0_init_8 rfl ?_
  have hPc := hP.sub (ws' := [(n0, .inr (2, [.int 0, .int 0, .null, .null, .null, .null, .null, .null, .null, .null, .null]))]) [1] rfl
  have hDc := hD.sub (ws' := [(n0, .inr (2, [.int 0, .int 0, .null, .null, .null, .null, .null, .null, .null, .null, .null]))]) [1] (by decide) rfl
  have hFc := va_free (wc := [(n0, .inr (2, [.int 0, .int 0, .null, .null, .null, .null, .null, .null, .null, .null, .null]))]) hD hS hA [1] rfl
  refine va_callv (va_runIN (host := "BeliefWeb") (As := []) (rest := [.ref n0, .ref h0]) (Ts := bw_ws) (own := RX0) (index := 11) (n := 0) (nL := 1) ⟨hx, hb, hml, hown, fun w h => hts w (List.mem_cons.mpr (Or.inr h))⟩ (iX2_init l D cI cJ cZ n0 H.size) ⟨va_cnB 0 (fun w h => hts w (List.mem_cons.mpr (Or.inr h))) gX2_init rfl rfl rfl (hN 0 11 yX2_init (List.mem_of_getElem? (i := 118) (by decide +kernel))) (hts (.initialized RX2) (List.mem_cons.mpr (Or.inr bwd_41))) (by decide +kernel) ⟨Nat.le_of_ble_eq_true rfl, Nat.le_of_ble_eq_true rfl⟩, rfl, (hts (.instanceMethod yX2_init) (List.mem_cons.mpr (Or.inr bwd_58)))⟩ ⟨fun a U g mk q => by obtain ⟨q0, q1, qP, qK, qD, qN⟩ := q; exact ⟨q0, q1, qP, va_K.moved (u := U) (U := U.calling g mk a) (Vm.Alike.refl U.vm) qK, qD, fun n i y hy => va_Nw.same (u := U) (U := U.calling g mk a) rfl rfl (qN n i y hy)⟩, fun U hU hW => ⟨rfl, by rw [hU], by rw [hU]; exact hPc, va_K.moved hW.alike hK, hDc.weaken (fun _ _ _ _ => trivial), fun n i y hy => va_Nw.warmM hW (hN n i y hy)⟩⟩ rfl rfl hl.1 rfl (lv_room (Nat.le_of_ble_eq_true rfl)) dX0_init_9 ⟨Nat.le_of_ble_eq_true rfl, Nat.le_of_ble_eq_true rfl⟩) hS (fun q _ h => hFc q h) hFc (fun u1 t H1 locs ht hvm hw hB hz1 hk1 hS => ?_)
  obtain ⟨hP1, -, hD1⟩ := hB
  rw [ht] at hP1
  obtain ⟨hP, hD⟩ := va_join (wr := [(h0, .inr (0, [.null, .null, .int 0, .int 0]))]) (w1 := [(n0, .inr (2, [.int 0, .int 0, .ref (u1 0), .ref (u1 1), .ref (u1 2), .ref (u1 3), .ref (u1 4), .ref (u1 5), .ref (u1 6), .ref (u1 7), .ref (u1 8)])), ((u1 0), .inl (cI, 12, .inl (fun _ => 0))), ((u1 1), .inl (cI, 12, .inl (fun _ => 0))), ((u1 2), .inl (cI, 12, .inl (fun _ => 0))), ((u1 3), .inl (cI, 36, .inl (fun _ => 0))), ((u1 4), .inl (cI, 3072, .inl (fun _ => 0))), ((u1 5), .inl (cI, 12, .inl (fun _ => 0))), ((u1 6), .inl (cI, 12, .inl (fun _ => 0))), ((u1 7), .inl (cI, 48, .inl (fun _ => 0))), ((u1 8), .inl (cI, 288, .inl (fun _ => 0)))]) hP hD [1] [0] rfl rfl (by decide) (by decide) hk1 hFc hP1 hD1
  generalize H1 = H at hP hS ⊢
  have hP : va_P D vwCl [(h0, .inr (0, [.null, .null, .int 0, .int 0])), (n0, .inr (2, [.int 0, .int 0, .ref (u1 0), .ref (u1 1), .ref (u1 2), .ref (u1 3), .ref (u1 4), .ref (u1 5), .ref (u1 6), .ref (u1 7), .ref (u1 8)])), ((u1 0), .inl (cI, 12, .inl (fun _ => 0))), ((u1 1), .inl (cI, 12, .inl (fun _ => 0))), ((u1 2), .inl (cI, 12, .inl (fun _ => 0))), ((u1 3), .inl (cI, 36, .inl (fun _ => 0))), ((u1 4), .inl (cI, 3072, .inl (fun _ => 0))), ((u1 5), .inl (cI, 12, .inl (fun _ => 0))), ((u1 6), .inl (cI, 12, .inl (fun _ => 0))), ((u1 7), .inl (cI, 48, .inl (fun _ => 0))), ((u1 8), .inl (cI, 288, .inl (fun _ => 0)))] H := hP
  have hD : va_D A [(h0, .inr (0, [.null, .null, .int 0, .int 0])), (n0, .inr (2, [.int 0, .int 0, .ref (u1 0), .ref (u1 1), .ref (u1 2), .ref (u1 3), .ref (u1 4), .ref (u1 5), .ref (u1 6), .ref (u1 7), .ref (u1 8)])), ((u1 0), .inl (cI, 12, .inl (fun _ => 0))), ((u1 1), .inl (cI, 12, .inl (fun _ => 0))), ((u1 2), .inl (cI, 12, .inl (fun _ => 0))), ((u1 3), .inl (cI, 36, .inl (fun _ => 0))), ((u1 4), .inl (cI, 3072, .inl (fun _ => 0))), ((u1 5), .inl (cI, 12, .inl (fun _ => 0))), ((u1 6), .inl (cI, 12, .inl (fun _ => 0))), ((u1 7), .inl (cI, 48, .inl (fun _ => 0))), ((u1 8), .inl (cI, 288, .inl (fun _ => 0)))] := hD
  refine W.widen (k := 10) (n := 3515) (by omega) (by omega) ?_
  refine va_putF (D := D) (ci := 0) (v := .ref n0) (ty := .object "BeliefWeb$Web") (C := RX0) (T := TX0) (N := 4) (Ts := bw_ws) hx hb (fun w h => hts w (List.mem_cons.mpr (Or.inr h))) (bw_cls_ws2 0 (RX0, TX0, 4) rfl) tyX0 tyX0_ok nmX0 hown hK hP hD hS 0 rfl rfl 0 (by decide) (hts (.fieldLink RX0 12 "BeliefWeb$History" "start" "LBeliefWeb$Web;") (List.mem_cons.mpr (Or.inr bwd_119))) (fun _ h9 => h9) rfl hin rfl (by decide +kernel) rfl rfl (Nat.le_of_ble_eq_true rfl) dX0_init_12 (fun H locs hP hD hS => ?_)
  have hP : va_P D vwCl [(h0, .inr (0, [.ref n0, .null, .int 0, .int 0])), (n0, .inr (2, [.int 0, .int 0, .ref (u1 0), .ref (u1 1), .ref (u1 2), .ref (u1 3), .ref (u1 4), .ref (u1 5), .ref (u1 6), .ref (u1 7), .ref (u1 8)])), ((u1 0), .inl (cI, 12, .inl (fun _ => 0))), ((u1 1), .inl (cI, 12, .inl (fun _ => 0))), ((u1 2), .inl (cI, 12, .inl (fun _ => 0))), ((u1 3), .inl (cI, 36, .inl (fun _ => 0))), ((u1 4), .inl (cI, 3072, .inl (fun _ => 0))), ((u1 5), .inl (cI, 12, .inl (fun _ => 0))), ((u1 6), .inl (cI, 12, .inl (fun _ => 0))), ((u1 7), .inl (cI, 48, .inl (fun _ => 0))), ((u1 8), .inl (cI, 288, .inl (fun _ => 0)))] H := hP
  have hD : va_D A [(h0, .inr (0, [.ref n0, .null, .int 0, .int 0])), (n0, .inr (2, [.int 0, .int 0, .ref (u1 0), .ref (u1 1), .ref (u1 2), .ref (u1 3), .ref (u1 4), .ref (u1 5), .ref (u1 6), .ref (u1 7), .ref (u1 8)])), ((u1 0), .inl (cI, 12, .inl (fun _ => 0))), ((u1 1), .inl (cI, 12, .inl (fun _ => 0))), ((u1 2), .inl (cI, 12, .inl (fun _ => 0))), ((u1 3), .inl (cI, 36, .inl (fun _ => 0))), ((u1 4), .inl (cI, 3072, .inl (fun _ => 0))), ((u1 5), .inl (cI, 12, .inl (fun _ => 0))), ((u1 6), .inl (cI, 12, .inl (fun _ => 0))), ((u1 7), .inl (cI, 48, .inl (fun _ => 0))), ((u1 8), .inl (cI, 288, .inl (fun _ => 0)))] := hD
  refine lv_aload_n hx hb dX0_init_15 rfl (lv_at hl 0 rfl) ?_
  refine lv_sipush (v := 500) hx hb dX0_init_16 (by decide) ?_
  refine va_newa (D := D) (atype := .int) (ty := .int) (N' := 500) (a0 := (500, .inl (fun _ => 0))) hx hb (hts (.arrayClass .int) (List.mem_cons.mpr (Or.inr bwd_110))) rfl hK hP hD hS hA (bw_haI 500) (by decide +kernel) (by decide +kernel) (Nat.le_of_ble_eq_true rfl) (Nat.le_of_ble_eq_true rfl) (Nat.le_of_ble_eq_true rfl) dX0_init_19 (fun n2 cA H hK2 hP hD hS => ?_)
  have ec := (bw_tyI hK2).symm
  subst ec
  have hP : va_P D vwCl [(h0, .inr (0, [.ref n0, .null, .int 0, .int 0])), (n0, .inr (2, [.int 0, .int 0, .ref (u1 0), .ref (u1 1), .ref (u1 2), .ref (u1 3), .ref (u1 4), .ref (u1 5), .ref (u1 6), .ref (u1 7), .ref (u1 8)])), ((u1 0), .inl (cI, 12, .inl (fun _ => 0))), ((u1 1), .inl (cI, 12, .inl (fun _ => 0))), ((u1 2), .inl (cI, 12, .inl (fun _ => 0))), ((u1 3), .inl (cI, 36, .inl (fun _ => 0))), ((u1 4), .inl (cI, 3072, .inl (fun _ => 0))), ((u1 5), .inl (cI, 12, .inl (fun _ => 0))), ((u1 6), .inl (cI, 12, .inl (fun _ => 0))), ((u1 7), .inl (cI, 48, .inl (fun _ => 0))), ((u1 8), .inl (cI, 288, .inl (fun _ => 0))), (n2, .inl (cI, 500, .inl (fun _ => 0)))] H := hP
  have hD : va_D A [(h0, .inr (0, [.ref n0, .null, .int 0, .int 0])), (n0, .inr (2, [.int 0, .int 0, .ref (u1 0), .ref (u1 1), .ref (u1 2), .ref (u1 3), .ref (u1 4), .ref (u1 5), .ref (u1 6), .ref (u1 7), .ref (u1 8)])), ((u1 0), .inl (cI, 12, .inl (fun _ => 0))), ((u1 1), .inl (cI, 12, .inl (fun _ => 0))), ((u1 2), .inl (cI, 12, .inl (fun _ => 0))), ((u1 3), .inl (cI, 36, .inl (fun _ => 0))), ((u1 4), .inl (cI, 3072, .inl (fun _ => 0))), ((u1 5), .inl (cI, 12, .inl (fun _ => 0))), ((u1 6), .inl (cI, 12, .inl (fun _ => 0))), ((u1 7), .inl (cI, 48, .inl (fun _ => 0))), ((u1 8), .inl (cI, 288, .inl (fun _ => 0))), (n2, .inl (cI, 500, .inl (fun _ => 0)))] := hD
  refine W.widen (k := 11) (n := 4015) (by omega) (by omega) ?_
  refine va_putF (D := D) (ci := 0) (v := .ref n2) (ty := .array .int) (C := RX0) (T := TX0) (N := 4) (Ts := bw_ws) hx hb (fun w h => hts w (List.mem_cons.mpr (Or.inr h))) (bw_cls_ws2 0 (RX0, TX0, 4) rfl) tyX0 tyX0_ok nmX0 hown hK hP hD hS 0 rfl rfl 1 (by decide) (hts (.fieldLink RX0 18 "BeliefWeb$History" "acts" "[I") (List.mem_cons.mpr (Or.inr bwd_120))) (fun _ h9 => h9) rfl hin rfl (by decide +kernel) rfl rfl (Nat.le_of_ble_eq_true rfl) dX0_init_21 (fun H locs hP hD hS => ?_)
  have hP : va_P D vwCl [(h0, .inr (0, [.ref n0, .ref n2, .int 0, .int 0])), (n0, .inr (2, [.int 0, .int 0, .ref (u1 0), .ref (u1 1), .ref (u1 2), .ref (u1 3), .ref (u1 4), .ref (u1 5), .ref (u1 6), .ref (u1 7), .ref (u1 8)])), ((u1 0), .inl (cI, 12, .inl (fun _ => 0))), ((u1 1), .inl (cI, 12, .inl (fun _ => 0))), ((u1 2), .inl (cI, 12, .inl (fun _ => 0))), ((u1 3), .inl (cI, 36, .inl (fun _ => 0))), ((u1 4), .inl (cI, 3072, .inl (fun _ => 0))), ((u1 5), .inl (cI, 12, .inl (fun _ => 0))), ((u1 6), .inl (cI, 12, .inl (fun _ => 0))), ((u1 7), .inl (cI, 48, .inl (fun _ => 0))), ((u1 8), .inl (cI, 288, .inl (fun _ => 0))), (n2, .inl (cI, 500, .inl (fun _ => 0)))] H := hP
  have hD : va_D A [(h0, .inr (0, [.ref n0, .ref n2, .int 0, .int 0])), (n0, .inr (2, [.int 0, .int 0, .ref (u1 0), .ref (u1 1), .ref (u1 2), .ref (u1 3), .ref (u1 4), .ref (u1 5), .ref (u1 6), .ref (u1 7), .ref (u1 8)])), ((u1 0), .inl (cI, 12, .inl (fun _ => 0))), ((u1 1), .inl (cI, 12, .inl (fun _ => 0))), ((u1 2), .inl (cI, 12, .inl (fun _ => 0))), ((u1 3), .inl (cI, 36, .inl (fun _ => 0))), ((u1 4), .inl (cI, 3072, .inl (fun _ => 0))), ((u1 5), .inl (cI, 12, .inl (fun _ => 0))), ((u1 6), .inl (cI, 12, .inl (fun _ => 0))), ((u1 7), .inl (cI, 48, .inl (fun _ => 0))), ((u1 8), .inl (cI, 288, .inl (fun _ => 0))), (n2, .inl (cI, 500, .inl (fun _ => 0)))] := hD
  exact W.vret hx hb hr (fun t ht hW => ⟨⟨fun k => [n0, ((u1 0)), ((u1 1)), ((u1 2)), ((u1 3)), ((u1 4)), ((u1 5)), ((u1 6)), ((u1 7)), ((u1 8)), n2].getD k 0, rfl, trivial, by rw [ht]; exact hP, va_K.moved hW.alike hK, hD⟩, hS.F ht⟩) hS.2.2 dX0_init_24
theorem dX1_init_0 : decode cX1_init 0 = .ok (.aload_n 0, 1) := by decide +kernel
theorem dX1_init_1 : decode cX1_init 1 = .ok (.invokespecial 3, 3) := by decide +kernel
theorem dX1_init_4 : decode cX1_init 4 = .ok (.aload_n 0, 1) := by decide +kernel
theorem dX1_init_5 : decode cX1_init 5 = .ok (.bipush 12, 2) := by decide +kernel
theorem dX1_init_7 : decode cX1_init 7 = .ok (.newarray .int, 2) := by decide +kernel
theorem dX1_init_9 : decode cX1_init 9 = .ok (.putfield 9, 3) := by decide +kernel
theorem dX1_init_12 : decode cX1_init 12 = .ok (.aload_n 0, 1) := by decide +kernel
theorem dX1_init_13 : decode cX1_init 13 = .ok (.bipush 12, 2) := by decide +kernel
theorem dX1_init_15 : decode cX1_init 15 = .ok (.newarray .int, 2) := by decide +kernel
theorem dX1_init_17 : decode cX1_init 17 = .ok (.putfield 15, 3) := by decide +kernel
theorem dX1_init_20 : decode cX1_init 20 = .ok (.aload_n 0, 1) := by decide +kernel
theorem dX1_init_21 : decode cX1_init 21 = .ok (.bipush 48, 2) := by decide +kernel
theorem dX1_init_23 : decode cX1_init 23 = .ok (.newarray .long, 2) := by decide +kernel
theorem dX1_init_25 : decode cX1_init 25 = .ok (.putfield 18, 3) := by decide +kernel
theorem dX1_init_28 : decode cX1_init 28 = .ok (.aload_n 0, 1) := by decide +kernel
theorem dX1_init_29 : decode cX1_init 29 = .ok (.bipush 10, 2) := by decide +kernel
theorem dX1_init_31 : decode cX1_init 31 = .ok (.newarray .long, 2) := by decide +kernel
theorem dX1_init_33 : decode cX1_init 33 = .ok (.putfield 22, 3) := by decide +kernel
theorem dX1_init_36 : decode cX1_init 36 = .ok (.aload_n 0, 1) := by decide +kernel
theorem dX1_init_37 : decode cX1_init 37 = .ok (.bipush 10, 2) := by decide +kernel
theorem dX1_init_39 : decode cX1_init 39 = .ok (.newarray .int, 2) := by decide +kernel
theorem dX1_init_41 : decode cX1_init 41 = .ok (.putfield 25, 3) := by decide +kernel
theorem dX1_init_44 : decode cX1_init 44 = .ok (.return_, 1) := by decide +kernel
def vX1_init (cI cJ cZ : ClassId) (h0 : Nat) (u : Nat → Nat) : va_W := [(h0, .inr (1, [.ref (u 0), .ref (u 1), .ref (u 2), .ref (u 3), .ref (u 4), .int 0, .int 0, .int 0, .int 0, .int 0, .long 0])), ((u 0), .inl (cI, 12, .inl (fun _ => 0))), ((u 1), .inl (cI, 12, .inl (fun _ => 0))), ((u 2), .inl (cJ, 48, .inr (.inl (fun _ => 0)))), ((u 3), .inl (cJ, 10, .inr (.inl (fun _ => 0)))), ((u 4), .inl (cI, 10, .inl (fun _ => 0)))]
set_option maxRecDepth 100000 in
set_option maxHeartbeats 4000000 in
theorem gX1_init : GoodIn bw_ws (.code yX1_init cX1_init 1 none :: bw_ws) := bw_goodC (List.mem_of_getElem? (i := 137) rfl)
set_option maxHeartbeats 8000000 in
set_option maxRecDepth 100000 in
theorem iX1_init (l : Launch) (D : va_G) (cI cJ cZ : ClassId) (h0 sz : Nat) : Met l yX1_init (.code yX1_init cX1_init 1 none :: bw_ws) ({ frames := 1, cells := 5, slots := 92, locals := 64 }) (va_Pc [.ref h0] (fun U => U.heap.size = sz ∧ va_P D vwCl [(h0, .inr (1, [.null, .null, .null, .null, .null, .int 0, .int 0, .int 0, .int 0, .int 0, .long 0]))] U.heap ∧ va_K D vwCl (bw_tys cI cJ cZ) U ∧ va_D (fun _ => True) [(h0, .inr (1, [.null, .null, .null, .null, .null, .int 0, .int 0, .int 0, .int 0, .int 0, .long 0]))] ∧ bw_Nst U)) (va_Qv (fun _ : Nat → Nat => True) (fun u t => va_P D vwCl (vX1_init cI cJ cZ h0 u) t.heap ∧ va_K D vwCl (bw_tys cI cJ cZ) t ∧ va_D (va_A [(h0, .inr (1, [.null, .null, .null, .null, .null, .int 0, .int 0, .int 0, .int 0, .int 0, .long 0]))] sz) (vX1_init cI cJ cZ h0 u)) (va_A [(h0, .inr (1, [.null, .null, .null, .null, .null, .int 0, .int 0, .int 0, .int 0, .int 0, .long 0]))] sz)) 5 92 (va_A [(h0, .inr (1, [.null, .null, .null, .null, .null, .int 0, .int 0, .int 0, .int 0, .int 0, .long 0]))] sz) := by
  refine Met.ofW (cc := cX1_init) (maxL := 1) (ret := none) (by decide) rfl ?_
  intro p e s m args below meth c s₁ B hml hv
  obtain ⟨rfl, hsz, hP, hK, hD0, hN⟩ := hv
  have hx := B.exec
  have hb := B.bytes
  have hr := B.returns
  have hts := atoms_spec (ws := .code yX1_init cX1_init 1 none :: bw_ws) B.pre
  have hown : s.vm.findClass RX1 = some m.cls := findClass_of_methodNamed B.named
  have hlocks := B.notSynchronized
  have hin : meth.name = "<init>" := (name_of_methodNamed B.named B.method).1
  subst hsz
  have hD := hD0.self (sz := s.heap.size)
  generalize hAe : va_A [(h0, .inr (1, [.null, .null, .null, .null, .null, .int 0, .int 0, .int 0, .int 0, .int 0, .long 0]))] s.heap.size = A at hD ⊢
  have hA : ∀ q : Nat, s.heap.size ≤ q → A q := fun q h => by rw [← hAe]; exact Or.inr h
  have hS : va_S A s.heap s.heap [] := va_S.rf
  have hP : va_P D vwCl [(h0, .inr (1, [.null, .null, .null, .null, .null, .int 0, .int 0, .int 0, .int 0, .int 0, .long 0]))] s.heap := hP
  have hl := lv_entry ([.ref h0]) (n := 1) (Nat.le_of_ble_eq_true rfl)
  rw [lg_entry_eq]
  generalize (lg_sl ([.ref h0]) ++ List.replicate (1 - (lg_sl ([.ref h0])).length) Slot.unset).toArray = ls at hl ⊢
  have hl : lv_has ls 1 [(0, .ref h0)] := hl
  refine lv_aload_n hx hb dX1_init_0 rfl (lv_at hl 0 rfl) ?_
  refine W.objInit hx hb hown (hts (.methodLink RX1 3 objectInit) (List.mem_cons.mpr (Or.inr bwd_138))) (hts (.instanceMethod objectInit) (List.mem_cons.mpr (Or.inr bwd_53))) (hts (.code objectInit ⟨#[0xb1]⟩ 1 none) (List.mem_cons.mpr (Or.inr bwd_54))) rfl (by rw [hml]; exact hl.1) rfl dX1_init_1 (Nat.le_of_ble_eq_true rfl) (Nat.le_of_ble_eq_true rfl) ?_
  refine W.eq (g2 := F0 m 4 ls []) rfl ?_
  refine lv_aload_n hx hb dX1_init_4 rfl (lv_at hl 0 rfl) ?_
  refine lv_bipush (v := 12) hx hb dX1_init_5 (by decide) ?_
  refine va_newa (D := D) (atype := .int) (ty := .int) (N' := 12) (a0 := (12, .inl (fun _ => 0))) hx hb (hts (.arrayClass .int) (List.mem_cons.mpr (Or.inr bwd_110))) rfl hK hP hD hS hA (bw_haI 12) (by decide +kernel) (by decide +kernel) (Nat.le_of_ble_eq_true rfl) (Nat.le_of_ble_eq_true rfl) (Nat.le_of_ble_eq_true rfl) dX1_init_7 (fun n0 cA H hK2 hP hD hS => ?_)
  have ec := (bw_tyI hK2).symm
  subst ec
  have hP : va_P D vwCl [(h0, .inr (1, [.null, .null, .null, .null, .null, .int 0, .int 0, .int 0, .int 0, .int 0, .long 0])), (n0, .inl (cI, 12, .inl (fun _ => 0)))] H := hP
  have hD : va_D A [(h0, .inr (1, [.null, .null, .null, .null, .null, .int 0, .int 0, .int 0, .int 0, .int 0, .long 0])), (n0, .inl (cI, 12, .inl (fun _ => 0)))] := hD
  refine W.widen (k := 1) (n := 12) (by omega) (by omega) ?_
  refine va_putF (D := D) (ci := 1) (v := .ref n0) (ty := .array .int) (C := RX1) (T := TX1) (N := 11) (Ts := bw_ws) hx hb (fun w h => hts w (List.mem_cons.mpr (Or.inr h))) (bw_cls_ws2 1 (RX1, TX1, 11) rfl) tyX1 tyX1_ok nmX1 hown hK hP hD hS 0 rfl rfl 0 (by decide) (hts (.fieldLink RX1 9 "BeliefWeb$Survey" "order" "[I") (List.mem_cons.mpr (Or.inr bwd_139))) (fun _ h9 => h9) rfl hin rfl (by decide +kernel) rfl rfl (Nat.le_of_ble_eq_true rfl) dX1_init_9 (fun H locs hP hD hS => ?_)
  have hP : va_P D vwCl [(h0, .inr (1, [.ref n0, .null, .null, .null, .null, .int 0, .int 0, .int 0, .int 0, .int 0, .long 0])), (n0, .inl (cI, 12, .inl (fun _ => 0)))] H := hP
  have hD : va_D A [(h0, .inr (1, [.ref n0, .null, .null, .null, .null, .int 0, .int 0, .int 0, .int 0, .int 0, .long 0])), (n0, .inl (cI, 12, .inl (fun _ => 0)))] := hD
  refine lv_aload_n hx hb dX1_init_12 rfl (lv_at hl 0 rfl) ?_
  refine lv_bipush (v := 12) hx hb dX1_init_13 (by decide) ?_
  refine va_newa (D := D) (atype := .int) (ty := .int) (N' := 12) (a0 := (12, .inl (fun _ => 0))) hx hb (hts (.arrayClass .int) (List.mem_cons.mpr (Or.inr bwd_110))) rfl hK hP hD hS hA (bw_haI 12) (by decide +kernel) (by decide +kernel) (Nat.le_of_ble_eq_true rfl) (Nat.le_of_ble_eq_true rfl) (Nat.le_of_ble_eq_true rfl) dX1_init_15 (fun n1 cA H hK2 hP hD hS => ?_)
  have ec := (bw_tyI hK2).symm
  subst ec
  have hP : va_P D vwCl [(h0, .inr (1, [.ref n0, .null, .null, .null, .null, .int 0, .int 0, .int 0, .int 0, .int 0, .long 0])), (n0, .inl (cI, 12, .inl (fun _ => 0))), (n1, .inl (cI, 12, .inl (fun _ => 0)))] H := hP
  have hD : va_D A [(h0, .inr (1, [.ref n0, .null, .null, .null, .null, .int 0, .int 0, .int 0, .int 0, .int 0, .long 0])), (n0, .inl (cI, 12, .inl (fun _ => 0))), (n1, .inl (cI, 12, .inl (fun _ => 0)))] := hD
  refine W.widen (k := 2) (n := 24) (by omega) (by omega) ?_
  refine va_putF (D := D) (ci := 1) (v := .ref n1) (ty := .array .int) (C := RX1) (T := TX1) (N := 11) (Ts := bw_ws) hx hb (fun w h => hts w (List.mem_cons.mpr (Or.inr h))) (bw_cls_ws2 1 (RX1, TX1, 11) rfl) tyX1 tyX1_ok nmX1 hown hK hP hD hS 0 rfl rfl 1 (by decide) (hts (.fieldLink RX1 15 "BeliefWeb$Survey" "chosen" "[I") (List.mem_cons.mpr (Or.inr bwd_140))) (fun _ h9 => h9) rfl hin rfl (by decide +kernel) rfl rfl (Nat.le_of_ble_eq_true rfl) dX1_init_17 (fun H locs hP hD hS => ?_)
  have hP : va_P D vwCl [(h0, .inr (1, [.ref n0, .ref n1, .null, .null, .null, .int 0, .int 0, .int 0, .int 0, .int 0, .long 0])), (n0, .inl (cI, 12, .inl (fun _ => 0))), (n1, .inl (cI, 12, .inl (fun _ => 0)))] H := hP
  have hD : va_D A [(h0, .inr (1, [.ref n0, .ref n1, .null, .null, .null, .int 0, .int 0, .int 0, .int 0, .int 0, .long 0])), (n0, .inl (cI, 12, .inl (fun _ => 0))), (n1, .inl (cI, 12, .inl (fun _ => 0)))] := hD
  refine lv_aload_n hx hb dX1_init_20 rfl (lv_at hl 0 rfl) ?_
  refine lv_bipush (v := 48) hx hb dX1_init_21 (by decide) ?_
  refine va_newa (D := D) (atype := .long) (ty := .long) (N' := 48) (a0 := (48, .inr (.inl (fun _ => 0)))) hx hb (hts (.arrayClass .long) (List.mem_cons.mpr (Or.inr bwd_179))) rfl hK hP hD hS hA (bw_haJ 48) (by decide +kernel) (by decide +kernel) (Nat.le_of_ble_eq_true rfl) (Nat.le_of_ble_eq_true rfl) (Nat.le_of_ble_eq_true rfl) dX1_init_23 (fun n2 cA H hK2 hP hD hS => ?_)
  have ec := (bw_tyJ hK2).symm
  subst ec
  have hP : va_P D vwCl [(h0, .inr (1, [.ref n0, .ref n1, .null, .null, .null, .int 0, .int 0, .int 0, .int 0, .int 0, .long 0])), (n0, .inl (cI, 12, .inl (fun _ => 0))), (n1, .inl (cI, 12, .inl (fun _ => 0))), (n2, .inl (cJ, 48, .inr (.inl (fun _ => 0))))] H := hP
  have hD : va_D A [(h0, .inr (1, [.ref n0, .ref n1, .null, .null, .null, .int 0, .int 0, .int 0, .int 0, .int 0, .long 0])), (n0, .inl (cI, 12, .inl (fun _ => 0))), (n1, .inl (cI, 12, .inl (fun _ => 0))), (n2, .inl (cJ, 48, .inr (.inl (fun _ => 0))))] := hD
  refine W.widen (k := 3) (n := 72) (by omega) (by omega) ?_
  refine va_putF (D := D) (ci := 1) (v := .ref n2) (ty := .array .long) (C := RX1) (T := TX1) (N := 11) (Ts := bw_ws) hx hb (fun w h => hts w (List.mem_cons.mpr (Or.inr h))) (bw_cls_ws2 1 (RX1, TX1, 11) rfl) tyX1 tyX1_ok nmX1 hown hK hP hD hS 0 rfl rfl 2 (by decide) (hts (.fieldLink RX1 18 "BeliefWeb$Survey" "shares" "[J") (List.mem_cons.mpr (Or.inr bwd_141))) (fun _ h9 => h9) rfl hin rfl (by decide +kernel) rfl rfl (Nat.le_of_ble_eq_true rfl) dX1_init_25 (fun H locs hP hD hS => ?_)
  have hP : va_P D vwCl [(h0, .inr (1, [.ref n0, .ref n1, .ref n2, .null, .null, .int 0, .int 0, .int 0, .int 0, .int 0, .long 0])), (n0, .inl (cI, 12, .inl (fun _ => 0))), (n1, .inl (cI, 12, .inl (fun _ => 0))), (n2, .inl (cJ, 48, .inr (.inl (fun _ => 0))))] H := hP
  have hD : va_D A [(h0, .inr (1, [.ref n0, .ref n1, .ref n2, .null, .null, .int 0, .int 0, .int 0, .int 0, .int 0, .long 0])), (n0, .inl (cI, 12, .inl (fun _ => 0))), (n1, .inl (cI, 12, .inl (fun _ => 0))), (n2, .inl (cJ, 48, .inr (.inl (fun _ => 0))))] := hD
  refine lv_aload_n hx hb dX1_init_28 rfl (lv_at hl 0 rfl) ?_
  refine lv_bipush (v := 10) hx hb dX1_init_29 (by decide) ?_
  refine va_newa (D := D) (atype := .long) (ty := .long) (N' := 10) (a0 := (10, .inr (.inl (fun _ => 0)))) hx hb (hts (.arrayClass .long) (List.mem_cons.mpr (Or.inr bwd_179))) rfl hK hP hD hS hA (bw_haJ 10) (by decide +kernel) (by decide +kernel) (Nat.le_of_ble_eq_true rfl) (Nat.le_of_ble_eq_true rfl) (Nat.le_of_ble_eq_true rfl) dX1_init_31 (fun n3 cA H hK2 hP hD hS => ?_)
  have ec := (bw_tyJ hK2).symm
  subst ec
  have hP : va_P D vwCl [(h0, .inr (1, [.ref n0, .ref n1, .ref n2, .null, .null, .int 0, .int 0, .int 0, .int 0, .int 0, .long 0])), (n0, .inl (cI, 12, .inl (fun _ => 0))), (n1, .inl (cI, 12, .inl (fun _ => 0))), (n2, .inl (cJ, 48, .inr (.inl (fun _ => 0)))), (n3, .inl (cJ, 10, .inr (.inl (fun _ => 0))))] H := hP
  have hD : va_D A [(h0, .inr (1, [.ref n0, .ref n1, .ref n2, .null, .null, .int 0, .int 0, .int 0, .int 0, .int 0, .long 0])), (n0, .inl (cI, 12, .inl (fun _ => 0))), (n1, .inl (cI, 12, .inl (fun _ => 0))), (n2, .inl (cJ, 48, .inr (.inl (fun _ => 0)))), (n3, .inl (cJ, 10, .inr (.inl (fun _ => 0))))] := hD
  refine W.widen (k := 4) (n := 82) (by omega) (by omega) ?_
  refine va_putF (D := D) (ci := 1) (v := .ref n3) (ty := .array .long) (C := RX1) (T := TX1) (N := 11) (Ts := bw_ws) hx hb (fun w h => hts w (List.mem_cons.mpr (Or.inr h))) (bw_cls_ws2 1 (RX1, TX1, 11) rfl) tyX1 tyX1_ok nmX1 hown hK hP hD hS 0 rfl rfl 3 (by decide) (hts (.fieldLink RX1 22 "BeliefWeb$Survey" "rankedLikelihoods" "[J") (List.mem_cons.mpr (Or.inr bwd_143))) (fun _ h9 => h9) rfl hin rfl (by decide +kernel) rfl rfl (Nat.le_of_ble_eq_true rfl) dX1_init_33 (fun H locs hP hD hS => ?_)
  have hP : va_P D vwCl [(h0, .inr (1, [.ref n0, .ref n1, .ref n2, .ref n3, .null, .int 0, .int 0, .int 0, .int 0, .int 0, .long 0])), (n0, .inl (cI, 12, .inl (fun _ => 0))), (n1, .inl (cI, 12, .inl (fun _ => 0))), (n2, .inl (cJ, 48, .inr (.inl (fun _ => 0)))), (n3, .inl (cJ, 10, .inr (.inl (fun _ => 0))))] H := hP
  have hD : va_D A [(h0, .inr (1, [.ref n0, .ref n1, .ref n2, .ref n3, .null, .int 0, .int 0, .int 0, .int 0, .int 0, .long 0])), (n0, .inl (cI, 12, .inl (fun _ => 0))), (n1, .inl (cI, 12, .inl (fun _ => 0))), (n2, .inl (cJ, 48, .inr (.inl (fun _ => 0)))), (n3, .inl (cJ, 10, .inr (.inl (fun _ => 0))))] := hD
  refine lv_aload_n hx hb dX1_init_36 rfl (lv_at hl 0 rfl) ?_
  refine lv_bipush (v := 10) hx hb dX1_init_37 (by decide) ?_
  refine va_newa (D := D) (atype := .int) (ty := .int) (N' := 10) (a0 := (10, .inl (fun _ => 0))) hx hb (hts (.arrayClass .int) (List.mem_cons.mpr (Or.inr bwd_110))) rfl hK hP hD hS hA (bw_haI 10) (by decide +kernel) (by decide +kernel) (Nat.le_of_ble_eq_true rfl) (Nat.le_of_ble_eq_true rfl) (Nat.le_of_ble_eq_true rfl) dX1_init_39 (fun n4 cA H hK2 hP hD hS => ?_)
  have ec := (bw_tyI hK2).symm
  subst ec
  have hP : va_P D vwCl [(h0, .inr (1, [.ref n0, .ref n1, .ref n2, .ref n3, .null, .int 0, .int 0, .int 0, .int 0, .int 0, .long 0])), (n0, .inl (cI, 12, .inl (fun _ => 0))), (n1, .inl (cI, 12, .inl (fun _ => 0))), (n2, .inl (cJ, 48, .inr (.inl (fun _ => 0)))), (n3, .inl (cJ, 10, .inr (.inl (fun _ => 0)))), (n4, .inl (cI, 10, .inl (fun _ => 0)))] H := hP
  have hD : va_D A [(h0, .inr (1, [.ref n0, .ref n1, .ref n2, .ref n3, .null, .int 0, .int 0, .int 0, .int 0, .int 0, .long 0])), (n0, .inl (cI, 12, .inl (fun _ => 0))), (n1, .inl (cI, 12, .inl (fun _ => 0))), (n2, .inl (cJ, 48, .inr (.inl (fun _ => 0)))), (n3, .inl (cJ, 10, .inr (.inl (fun _ => 0)))), (n4, .inl (cI, 10, .inl (fun _ => 0)))] := hD
  refine W.widen (k := 5) (n := 92) (by omega) (by omega) ?_
  refine va_putF (D := D) (ci := 1) (v := .ref n4) (ty := .array .int) (C := RX1) (T := TX1) (N := 11) (Ts := bw_ws) hx hb (fun w h => hts w (List.mem_cons.mpr (Or.inr h))) (bw_cls_ws2 1 (RX1, TX1, 11) rfl) tyX1 tyX1_ok nmX1 hown hK hP hD hS 0 rfl rfl 4 (by decide) (hts (.fieldLink RX1 25 "BeliefWeb$Survey" "rankedWholes" "[I") (List.mem_cons.mpr (Or.inr bwd_145))) (fun _ h9 => h9) rfl hin rfl (by decide +kernel) rfl rfl (Nat.le_of_ble_eq_true rfl) dX1_init_41 (fun H locs hP hD hS => ?_)
  have hP : va_P D vwCl [(h0, .inr (1, [.ref n0, .ref n1, .ref n2, .ref n3, .ref n4, .int 0, .int 0, .int 0, .int 0, .int 0, .long 0])), (n0, .inl (cI, 12, .inl (fun _ => 0))), (n1, .inl (cI, 12, .inl (fun _ => 0))), (n2, .inl (cJ, 48, .inr (.inl (fun _ => 0)))), (n3, .inl (cJ, 10, .inr (.inl (fun _ => 0)))), (n4, .inl (cI, 10, .inl (fun _ => 0)))] H := hP
  have hD : va_D A [(h0, .inr (1, [.ref n0, .ref n1, .ref n2, .ref n3, .ref n4, .int 0, .int 0, .int 0, .int 0, .int 0, .long 0])), (n0, .inl (cI, 12, .inl (fun _ => 0))), (n1, .inl (cI, 12, .inl (fun _ => 0))), (n2, .inl (cJ, 48, .inr (.inl (fun _ => 0)))), (n3, .inl (cJ, 10, .inr (.inl (fun _ => 0)))), (n4, .inl (cI, 10, .inl (fun _ => 0)))] := hD
  exact W.vret hx hb hr (fun t ht hW => ⟨⟨fun k => [n0, n1, n2, n3, n4].getD k 0, rfl, trivial, by rw [ht]; exact hP, va_K.moved hW.alike hK, hD⟩, hS.F ht⟩) hS.2.2 dX1_init_44
theorem dX3_init_0 : decode cX3_init 0 = .ok (.aload_n 0, 1) := by decide +kernel
theorem dX3_init_1 : decode cX3_init 1 = .ok (.invokespecial 3, 3) := by decide +kernel
theorem dX3_init_4 : decode cX3_init 4 = .ok (.aload_n 0, 1) := by decide +kernel
theorem dX3_init_5 : decode cX3_init 5 = .ok (.new 9, 3) := by decide +kernel
theorem dX3_init_8 : decode cX3_init 8 = .ok (.dup, 1) := by decide +kernel
theorem dX3_init_9 : decode cX3_init 9 = .ok (.invokespecial 11, 3) := by decide +kernel
theorem dX3_init_12 : decode cX3_init 12 = .ok (.putfield 12, 3) := by decide +kernel
theorem dX3_init_15 : decode cX3_init 15 = .ok (.aload_n 0, 1) := by decide +kernel
theorem dX3_init_16 : decode cX3_init 16 = .ok (.new 16, 3) := by decide +kernel
theorem dX3_init_19 : decode cX3_init 19 = .ok (.dup, 1) := by decide +kernel
theorem dX3_init_20 : decode cX3_init 20 = .ok (.invokespecial 18, 3) := by decide +kernel
theorem dX3_init_23 : decode cX3_init 23 = .ok (.putfield 19, 3) := by decide +kernel
theorem dX3_init_26 : decode cX3_init 26 = .ok (.aload_n 0, 1) := by decide +kernel
theorem dX3_init_27 : decode cX3_init 27 = .ok (.new 23, 3) := by decide +kernel
theorem dX3_init_30 : decode cX3_init 30 = .ok (.dup, 1) := by decide +kernel
theorem dX3_init_31 : decode cX3_init 31 = .ok (.invokespecial 25, 3) := by decide +kernel
theorem dX3_init_34 : decode cX3_init 34 = .ok (.putfield 26, 3) := by decide +kernel
theorem dX3_init_37 : decode cX3_init 37 = .ok (.aload_n 0, 1) := by decide +kernel
theorem dX3_init_38 : decode cX3_init 38 = .ok (.bipush 12, 2) := by decide +kernel
theorem dX3_init_40 : decode cX3_init 40 = .ok (.newarray .int, 2) := by decide +kernel
theorem dX3_init_42 : decode cX3_init 42 = .ok (.putfield 30, 3) := by decide +kernel
theorem dX3_init_45 : decode cX3_init 45 = .ok (.return_, 1) := by decide +kernel
def vX3_init (cI cJ cZ : ClassId) (h0 : Nat) (u : Nat → Nat) : va_W := [(h0, .inr (3, [.ref (u 0), .ref (u 10), .ref (u 22), .ref (u 28), .int 0, .long 0, .long 0])), ((u 0), .inr (2, [.int 0, .int 0, .ref (u 1), .ref (u 2), .ref (u 3), .ref (u 4), .ref (u 5), .ref (u 6), .ref (u 7), .ref (u 8), .ref (u 9)])), ((u 1), .inl (cI, 12, .inl (fun _ => 0))), ((u 2), .inl (cI, 12, .inl (fun _ => 0))), ((u 3), .inl (cI, 12, .inl (fun _ => 0))), ((u 4), .inl (cI, 36, .inl (fun _ => 0))), ((u 5), .inl (cI, 3072, .inl (fun _ => 0))), ((u 6), .inl (cI, 12, .inl (fun _ => 0))), ((u 7), .inl (cI, 12, .inl (fun _ => 0))), ((u 8), .inl (cI, 48, .inl (fun _ => 0))), ((u 9), .inl (cI, 288, .inl (fun _ => 0))), ((u 10), .inr (0, [.ref (u 11), .ref (u 21), .int 0, .int 0])), ((u 11), .inr (2, [.int 0, .int 0, .ref (u 12), .ref (u 13), .ref (u 14), .ref (u 15), .ref (u 16), .ref (u 17), .ref (u 18), .ref (u 19), .ref (u 20)])), ((u 12), .inl (cI, 12, .inl (fun _ => 0))), ((u 13), .inl (cI, 12, .inl (fun _ => 0))), ((u 14), .inl (cI, 12, .inl (fun _ => 0))), ((u 15), .inl (cI, 36, .inl (fun _ => 0))), ((u 16), .inl (cI, 3072, .inl (fun _ => 0))), ((u 17), .inl (cI, 12, .inl (fun _ => 0))), ((u 18), .inl (cI, 12, .inl (fun _ => 0))), ((u 19), .inl (cI, 48, .inl (fun _ => 0))), ((u 20), .inl (cI, 288, .inl (fun _ => 0))), ((u 21), .inl (cI, 500, .inl (fun _ => 0))), ((u 22), .inr (1, [.ref (u 23), .ref (u 24), .ref (u 25), .ref (u 26), .ref (u 27), .int 0, .int 0, .int 0, .int 0, .int 0, .long 0])), ((u 23), .inl (cI, 12, .inl (fun _ => 0))), ((u 24), .inl (cI, 12, .inl (fun _ => 0))), ((u 25), .inl (cJ, 48, .inr (.inl (fun _ => 0)))), ((u 26), .inl (cJ, 10, .inr (.inl (fun _ => 0)))), ((u 27), .inl (cI, 10, .inl (fun _ => 0))), ((u 28), .inl (cI, 12, .inl (fun _ => 0)))]
set_option maxRecDepth 100000 in
set_option maxHeartbeats 4000000 in
theorem gX3_init : GoodIn bw_ws (.code yX3_init cX3_init 1 none :: bw_ws) := bw_goodC (List.mem_of_getElem? (i := 51) rfl)
set_option maxHeartbeats 8000000 in
set_option maxRecDepth 100000 in
theorem iX3_init (l : Launch) (D : va_G) (cI cJ cZ : ClassId) (h0 sz : Nat) : Met l yX3_init (.code yX3_init cX3_init 1 none :: bw_ws) ({ frames := 3, cells := 29, slots := 7649, locals := 192 }) (va_Pc [.ref h0] (fun U => U.heap.size = sz ∧ va_P D vwCl [(h0, .inr (3, [.null, .null, .null, .null, .int 0, .long 0, .long 0]))] U.heap ∧ va_K D vwCl (bw_tys cI cJ cZ) U ∧ va_D (fun _ => True) [(h0, .inr (3, [.null, .null, .null, .null, .int 0, .long 0, .long 0]))] ∧ bw_Nst U)) (va_Qv (fun _ : Nat → Nat => True) (fun u t => va_P D vwCl (vX3_init cI cJ cZ h0 u) t.heap ∧ va_K D vwCl (bw_tys cI cJ cZ) t ∧ va_D (va_A [(h0, .inr (3, [.null, .null, .null, .null, .int 0, .long 0, .long 0]))] sz) (vX3_init cI cJ cZ h0 u)) (va_A [(h0, .inr (3, [.null, .null, .null, .null, .int 0, .long 0, .long 0]))] sz)) 29 7649 (va_A [(h0, .inr (3, [.null, .null, .null, .null, .int 0, .long 0, .long 0]))] sz) := by
  refine Met.ofW (cc := cX3_init) (maxL := 1) (ret := none) (by decide) rfl ?_
  intro p e s m args below meth c s₁ B hml hv
  obtain ⟨rfl, hsz, hP, hK, hD0, hN⟩ := hv
  have hx := B.exec
  have hb := B.bytes
  have hr := B.returns
  have hts := atoms_spec (ws := .code yX3_init cX3_init 1 none :: bw_ws) B.pre
  have hown : s.vm.findClass RX3 = some m.cls := findClass_of_methodNamed B.named
  have hlocks := B.notSynchronized
  have hin : meth.name = "<init>" := (name_of_methodNamed B.named B.method).1
  subst hsz
  have hD := hD0.self (sz := s.heap.size)
  generalize hAe : va_A [(h0, .inr (3, [.null, .null, .null, .null, .int 0, .long 0, .long 0]))] s.heap.size = A at hD ⊢
  have hA : ∀ q : Nat, s.heap.size ≤ q → A q := fun q h => by rw [← hAe]; exact Or.inr h
  have hS : va_S A s.heap s.heap [] := va_S.rf
  have hP : va_P D vwCl [(h0, .inr (3, [.null, .null, .null, .null, .int 0, .long 0, .long 0]))] s.heap := hP
  have hl := lv_entry ([.ref h0]) (n := 1) (Nat.le_of_ble_eq_true rfl)
  rw [lg_entry_eq]
  generalize (lg_sl ([.ref h0]) ++ List.replicate (1 - (lg_sl ([.ref h0])).length) Slot.unset).toArray = ls at hl ⊢
  have hl : lv_has ls 1 [(0, .ref h0)] := hl
  refine lv_aload_n hx hb dX3_init_0 rfl (lv_at hl 0 rfl) ?_
  refine W.objInit hx hb hown (hts (.methodLink RX3 3 objectInit) (List.mem_cons.mpr (Or.inr bwd_52))) (hts (.instanceMethod objectInit) (List.mem_cons.mpr (Or.inr bwd_53))) (hts (.code objectInit ⟨#[0xb1]⟩ 1 none) (List.mem_cons.mpr (Or.inr bwd_54))) rfl (by rw [hml]; exact hl.1) rfl dX3_init_1 (Nat.le_of_ble_eq_true rfl) (Nat.le_of_ble_eq_true rfl) ?_
  refine W.eq (g2 := F0 m 4 ls []) rfl ?_
  refine lv_aload_n hx hb dX3_init_4 rfl (lv_at hl 0 rfl) ?_
  refine va_new (D := D) (ci := 2) (fs := [.int 0, .int 0, .null, .null, .null, .null, .null, .null, .null, .null, .null]) (C := RX2) (T := TX2) (N := 11) (Ts := bw_ws) hx hb (fun w h => hts w (List.mem_cons.mpr (Or.inr h))) (bw_cls_ws2 2 (RX2, TX2, 11) rfl) tyX2 tyX2_ok hown (hts (.classLink RX3 9 RX2) (List.mem_cons.mpr (Or.inr bwd_55))) (hts (.instantiable RX2 11) (List.mem_cons.mpr (Or.inr bwd_56))) (hts (.initialized RX2) (List.mem_cons.mpr (Or.inr bwd_41))) hK hP hD hS hA rfl (fun j hj => by rcases (show j = 0 ∨ j = 1 ∨ j = 2 ∨ j = 3 ∨ j = 4 ∨ j = 5 ∨ j = 6 ∨ j = 7 ∨ j = 8 ∨ j = 9 ∨ j = 10 by omega) with rfl | rfl | rfl | rfl | rfl | rfl | rfl | rfl | rfl | rfl | rfl <;> rfl) (Nat.le_of_ble_eq_true rfl) (Nat.le_of_ble_eq_true rfl) dX3_init_5 (fun n0 H hP hD hS => ?_)
  have hP : va_P D vwCl [(h0, .inr (3, [.null, .null, .null, .null, .int 0, .long 0, .long 0])), (n0, .inr (2, [.int 0, .int 0, .null, .null, .null, .null, .null, .null, .null, .null, .null]))] H := hP
  have hD : va_D A [(h0, .inr (3, [.null, .null, .null, .null, .int 0, .long 0, .long 0])), (n0, .inr (2, [.int 0, .int 0, .null, .null, .null, .null, .null, .null, .null, .null, .null]))] := hD
  refine W.widen (k := 1) (n := 11) (by omega) (by omega) ?_
  refine lv_dup hx hb dX3_init_8 rfl ?_
  have hPc := hP.sub (ws' := [(n0, .inr (2, [.int 0, .int 0, .null, .null, .null, .null, .null, .null, .null, .null, .null]))]) [1] rfl
  have hDc := hD.sub (ws' := [(n0, .inr (2, [.int 0, .int 0, .null, .null, .null, .null, .null, .null, .null, .null, .null]))]) [1] (by decide) rfl
  have hFc := va_free (wc := [(n0, .inr (2, [.int 0, .int 0, .null, .null, .null, .null, .null, .null, .null, .null, .null]))]) hD hS hA [1] rfl
  refine va_callv (va_runIN (host := "BeliefWeb") (As := []) (rest := [.ref n0, .ref h0]) (Ts := bw_ws) (own := RX3) (index := 11) (n := 0) (nL := 1) ⟨hx, hb, hml, hown, fun w h => hts w (List.mem_cons.mpr (Or.inr h))⟩ (iX2_init l D cI cJ cZ n0 H.size) ⟨va_cnB 0 (fun w h => hts w (List.mem_cons.mpr (Or.inr h))) gX2_init rfl rfl rfl (hN 3 11 yX2_init (List.mem_of_getElem? (i := 57) (by decide +kernel))) (hts (.initialized RX2) (List.mem_cons.mpr (Or.inr bwd_41))) (by decide +kernel) ⟨Nat.le_of_ble_eq_true rfl, Nat.le_of_ble_eq_true rfl⟩, rfl, (hts (.instanceMethod yX2_init) (List.mem_cons.mpr (Or.inr bwd_58)))⟩ ⟨fun a U g mk q => by obtain ⟨q0, q1, qP, qK, qD, qN⟩ := q; exact ⟨q0, q1, qP, va_K.moved (u := U) (U := U.calling g mk a) (Vm.Alike.refl U.vm) qK, qD, fun n i y hy => va_Nw.same (u := U) (U := U.calling g mk a) rfl rfl (qN n i y hy)⟩, fun U hU hW => ⟨rfl, by rw [hU], by rw [hU]; exact hPc, va_K.moved hW.alike hK, hDc.weaken (fun _ _ _ _ => trivial), fun n i y hy => va_Nw.warmM hW (hN n i y hy)⟩⟩ rfl rfl hl.1 rfl (lv_room (Nat.le_of_ble_eq_true rfl)) dX3_init_9 ⟨Nat.le_of_ble_eq_true rfl, Nat.le_of_ble_eq_true rfl⟩) hS (fun q _ h => hFc q h) hFc (fun u1 t H1 locs ht hvm hw hB hz1 hk1 hS => ?_)
  obtain ⟨hP1, -, hD1⟩ := hB
  rw [ht] at hP1
  obtain ⟨hP, hD⟩ := va_join (wr := [(h0, .inr (3, [.null, .null, .null, .null, .int 0, .long 0, .long 0]))]) (w1 := [(n0, .inr (2, [.int 0, .int 0, .ref (u1 0), .ref (u1 1), .ref (u1 2), .ref (u1 3), .ref (u1 4), .ref (u1 5), .ref (u1 6), .ref (u1 7), .ref (u1 8)])), ((u1 0), .inl (cI, 12, .inl (fun _ => 0))), ((u1 1), .inl (cI, 12, .inl (fun _ => 0))), ((u1 2), .inl (cI, 12, .inl (fun _ => 0))), ((u1 3), .inl (cI, 36, .inl (fun _ => 0))), ((u1 4), .inl (cI, 3072, .inl (fun _ => 0))), ((u1 5), .inl (cI, 12, .inl (fun _ => 0))), ((u1 6), .inl (cI, 12, .inl (fun _ => 0))), ((u1 7), .inl (cI, 48, .inl (fun _ => 0))), ((u1 8), .inl (cI, 288, .inl (fun _ => 0)))]) hP hD [1] [0] rfl rfl (by decide) (by decide) hk1 hFc hP1 hD1
  generalize H1 = H at hP hS ⊢
  have hP : va_P D vwCl [(h0, .inr (3, [.null, .null, .null, .null, .int 0, .long 0, .long 0])), (n0, .inr (2, [.int 0, .int 0, .ref (u1 0), .ref (u1 1), .ref (u1 2), .ref (u1 3), .ref (u1 4), .ref (u1 5), .ref (u1 6), .ref (u1 7), .ref (u1 8)])), ((u1 0), .inl (cI, 12, .inl (fun _ => 0))), ((u1 1), .inl (cI, 12, .inl (fun _ => 0))), ((u1 2), .inl (cI, 12, .inl (fun _ => 0))), ((u1 3), .inl (cI, 36, .inl (fun _ => 0))), ((u1 4), .inl (cI, 3072, .inl (fun _ => 0))), ((u1 5), .inl (cI, 12, .inl (fun _ => 0))), ((u1 6), .inl (cI, 12, .inl (fun _ => 0))), ((u1 7), .inl (cI, 48, .inl (fun _ => 0))), ((u1 8), .inl (cI, 288, .inl (fun _ => 0)))] H := hP
  have hD : va_D A [(h0, .inr (3, [.null, .null, .null, .null, .int 0, .long 0, .long 0])), (n0, .inr (2, [.int 0, .int 0, .ref (u1 0), .ref (u1 1), .ref (u1 2), .ref (u1 3), .ref (u1 4), .ref (u1 5), .ref (u1 6), .ref (u1 7), .ref (u1 8)])), ((u1 0), .inl (cI, 12, .inl (fun _ => 0))), ((u1 1), .inl (cI, 12, .inl (fun _ => 0))), ((u1 2), .inl (cI, 12, .inl (fun _ => 0))), ((u1 3), .inl (cI, 36, .inl (fun _ => 0))), ((u1 4), .inl (cI, 3072, .inl (fun _ => 0))), ((u1 5), .inl (cI, 12, .inl (fun _ => 0))), ((u1 6), .inl (cI, 12, .inl (fun _ => 0))), ((u1 7), .inl (cI, 48, .inl (fun _ => 0))), ((u1 8), .inl (cI, 288, .inl (fun _ => 0)))] := hD
  refine W.widen (k := 10) (n := 3515) (by omega) (by omega) ?_
  refine va_putF (D := D) (ci := 3) (v := .ref n0) (ty := .object "BeliefWeb$Web") (C := RX3) (T := TX3) (N := 7) (Ts := bw_ws) hx hb (fun w h => hts w (List.mem_cons.mpr (Or.inr h))) (bw_cls_ws2 3 (RX3, TX3, 7) rfl) tyX3 tyX3_ok nmX3 hown hK hP hD hS 0 rfl rfl 0 (by decide) (hts (.fieldLink RX3 12 "BeliefWeb" "web" "LBeliefWeb$Web;") (List.mem_cons.mpr (Or.inr bwd_180))) (fun _ h9 => h9) rfl hin rfl (by decide +kernel) rfl rfl (Nat.le_of_ble_eq_true rfl) dX3_init_12 (fun H locs hP hD hS => ?_)
  have hP : va_P D vwCl [(h0, .inr (3, [.ref n0, .null, .null, .null, .int 0, .long 0, .long 0])), (n0, .inr (2, [.int 0, .int 0, .ref (u1 0), .ref (u1 1), .ref (u1 2), .ref (u1 3), .ref (u1 4), .ref (u1 5), .ref (u1 6), .ref (u1 7), .ref (u1 8)])), ((u1 0), .inl (cI, 12, .inl (fun _ => 0))), ((u1 1), .inl (cI, 12, .inl (fun _ => 0))), ((u1 2), .inl (cI, 12, .inl (fun _ => 0))), ((u1 3), .inl (cI, 36, .inl (fun _ => 0))), ((u1 4), .inl (cI, 3072, .inl (fun _ => 0))), ((u1 5), .inl (cI, 12, .inl (fun _ => 0))), ((u1 6), .inl (cI, 12, .inl (fun _ => 0))), ((u1 7), .inl (cI, 48, .inl (fun _ => 0))), ((u1 8), .inl (cI, 288, .inl (fun _ => 0)))] H := hP
  have hD : va_D A [(h0, .inr (3, [.ref n0, .null, .null, .null, .int 0, .long 0, .long 0])), (n0, .inr (2, [.int 0, .int 0, .ref (u1 0), .ref (u1 1), .ref (u1 2), .ref (u1 3), .ref (u1 4), .ref (u1 5), .ref (u1 6), .ref (u1 7), .ref (u1 8)])), ((u1 0), .inl (cI, 12, .inl (fun _ => 0))), ((u1 1), .inl (cI, 12, .inl (fun _ => 0))), ((u1 2), .inl (cI, 12, .inl (fun _ => 0))), ((u1 3), .inl (cI, 36, .inl (fun _ => 0))), ((u1 4), .inl (cI, 3072, .inl (fun _ => 0))), ((u1 5), .inl (cI, 12, .inl (fun _ => 0))), ((u1 6), .inl (cI, 12, .inl (fun _ => 0))), ((u1 7), .inl (cI, 48, .inl (fun _ => 0))), ((u1 8), .inl (cI, 288, .inl (fun _ => 0)))] := hD
  refine lv_aload_n hx hb dX3_init_15 rfl (lv_at hl 0 rfl) ?_
  refine va_new (D := D) (ci := 0) (fs := [.null, .null, .int 0, .int 0]) (C := RX0) (T := TX0) (N := 4) (Ts := bw_ws) hx hb (fun w h => hts w (List.mem_cons.mpr (Or.inr h))) (bw_cls_ws2 0 (RX0, TX0, 4) rfl) tyX0 tyX0_ok hown (hts (.classLink RX3 16 RX0) (List.mem_cons.mpr (Or.inr bwd_111))) (hts (.instantiable RX0 4) (List.mem_cons.mpr (Or.inr bwd_112))) (hts (.initialized RX0) (List.mem_cons.mpr (Or.inr bwd_42))) hK hP hD hS hA rfl (fun j hj => by rcases (show j = 0 ∨ j = 1 ∨ j = 2 ∨ j = 3 by omega) with rfl | rfl | rfl | rfl <;> rfl) (Nat.le_of_ble_eq_true rfl) (Nat.le_of_ble_eq_true rfl) dX3_init_16 (fun n2 H hP hD hS => ?_)
  have hP : va_P D vwCl [(h0, .inr (3, [.ref n0, .null, .null, .null, .int 0, .long 0, .long 0])), (n0, .inr (2, [.int 0, .int 0, .ref (u1 0), .ref (u1 1), .ref (u1 2), .ref (u1 3), .ref (u1 4), .ref (u1 5), .ref (u1 6), .ref (u1 7), .ref (u1 8)])), ((u1 0), .inl (cI, 12, .inl (fun _ => 0))), ((u1 1), .inl (cI, 12, .inl (fun _ => 0))), ((u1 2), .inl (cI, 12, .inl (fun _ => 0))), ((u1 3), .inl (cI, 36, .inl (fun _ => 0))), ((u1 4), .inl (cI, 3072, .inl (fun _ => 0))), ((u1 5), .inl (cI, 12, .inl (fun _ => 0))), ((u1 6), .inl (cI, 12, .inl (fun _ => 0))), ((u1 7), .inl (cI, 48, .inl (fun _ => 0))), ((u1 8), .inl (cI, 288, .inl (fun _ => 0))), (n2, .inr (0, [.null, .null, .int 0, .int 0]))] H := hP
  have hD : va_D A [(h0, .inr (3, [.ref n0, .null, .null, .null, .int 0, .long 0, .long 0])), (n0, .inr (2, [.int 0, .int 0, .ref (u1 0), .ref (u1 1), .ref (u1 2), .ref (u1 3), .ref (u1 4), .ref (u1 5), .ref (u1 6), .ref (u1 7), .ref (u1 8)])), ((u1 0), .inl (cI, 12, .inl (fun _ => 0))), ((u1 1), .inl (cI, 12, .inl (fun _ => 0))), ((u1 2), .inl (cI, 12, .inl (fun _ => 0))), ((u1 3), .inl (cI, 36, .inl (fun _ => 0))), ((u1 4), .inl (cI, 3072, .inl (fun _ => 0))), ((u1 5), .inl (cI, 12, .inl (fun _ => 0))), ((u1 6), .inl (cI, 12, .inl (fun _ => 0))), ((u1 7), .inl (cI, 48, .inl (fun _ => 0))), ((u1 8), .inl (cI, 288, .inl (fun _ => 0))), (n2, .inr (0, [.null, .null, .int 0, .int 0]))] := hD
  refine W.widen (k := 11) (n := 3519) (by omega) (by omega) ?_
  refine lv_dup hx hb dX3_init_19 rfl ?_
  have hPc := hP.sub (ws' := [(n2, .inr (0, [.null, .null, .int 0, .int 0]))]) [11] rfl
  have hDc := hD.sub (ws' := [(n2, .inr (0, [.null, .null, .int 0, .int 0]))]) [11] (by decide) rfl
  have hFc := va_free (wc := [(n2, .inr (0, [.null, .null, .int 0, .int 0]))]) hD hS hA [11] rfl
  refine va_callv (va_runIN (host := "BeliefWeb") (As := []) (rest := [.ref n2, .ref h0]) (Ts := bw_ws) (own := RX3) (index := 18) (n := 0) (nL := 1) ⟨hx, hb, hml, hown, fun w h => hts w (List.mem_cons.mpr (Or.inr h))⟩ (iX0_init l D cI cJ cZ n2 H.size) ⟨va_cnB 0 (fun w h => hts w (List.mem_cons.mpr (Or.inr h))) gX0_init rfl rfl rfl (hN 3 18 yX0_init (List.mem_of_getElem? (i := 113) (by decide +kernel))) (hts (.initialized RX0) (List.mem_cons.mpr (Or.inr bwd_42))) (by decide +kernel) ⟨Nat.le_of_ble_eq_true rfl, Nat.le_of_ble_eq_true rfl⟩, rfl, (hts (.instanceMethod yX0_init) (List.mem_cons.mpr (Or.inr bwd_114)))⟩ ⟨fun a U g mk q => by obtain ⟨q0, q1, qP, qK, qD, qN⟩ := q; exact ⟨q0, q1, qP, va_K.moved (u := U) (U := U.calling g mk a) (Vm.Alike.refl U.vm) qK, qD, fun n i y hy => va_Nw.same (u := U) (U := U.calling g mk a) rfl rfl (qN n i y hy)⟩, fun U hU hW => ⟨rfl, by rw [hU], by rw [hU]; exact hPc, va_K.moved hW.alike hK, hDc.weaken (fun _ _ _ _ => trivial), fun n i y hy => va_Nw.warmM hW (hN n i y hy)⟩⟩ rfl rfl hl.1 rfl (lv_room (Nat.le_of_ble_eq_true rfl)) dX3_init_20 ⟨Nat.le_of_ble_eq_true rfl, Nat.le_of_ble_eq_true rfl⟩) hS (fun q _ h => hFc q h) hFc (fun u3 t H1 locs ht hvm hw hB hz1 hk1 hS => ?_)
  obtain ⟨hP1, -, hD1⟩ := hB
  rw [ht] at hP1
  obtain ⟨hP, hD⟩ := va_join (wr := [(h0, .inr (3, [.ref n0, .null, .null, .null, .int 0, .long 0, .long 0])), (n0, .inr (2, [.int 0, .int 0, .ref (u1 0), .ref (u1 1), .ref (u1 2), .ref (u1 3), .ref (u1 4), .ref (u1 5), .ref (u1 6), .ref (u1 7), .ref (u1 8)])), ((u1 0), .inl (cI, 12, .inl (fun _ => 0))), ((u1 1), .inl (cI, 12, .inl (fun _ => 0))), ((u1 2), .inl (cI, 12, .inl (fun _ => 0))), ((u1 3), .inl (cI, 36, .inl (fun _ => 0))), ((u1 4), .inl (cI, 3072, .inl (fun _ => 0))), ((u1 5), .inl (cI, 12, .inl (fun _ => 0))), ((u1 6), .inl (cI, 12, .inl (fun _ => 0))), ((u1 7), .inl (cI, 48, .inl (fun _ => 0))), ((u1 8), .inl (cI, 288, .inl (fun _ => 0)))]) (w1 := [(n2, .inr (0, [.ref (u3 0), .ref (u3 10), .int 0, .int 0])), ((u3 0), .inr (2, [.int 0, .int 0, .ref (u3 1), .ref (u3 2), .ref (u3 3), .ref (u3 4), .ref (u3 5), .ref (u3 6), .ref (u3 7), .ref (u3 8), .ref (u3 9)])), ((u3 1), .inl (cI, 12, .inl (fun _ => 0))), ((u3 2), .inl (cI, 12, .inl (fun _ => 0))), ((u3 3), .inl (cI, 12, .inl (fun _ => 0))), ((u3 4), .inl (cI, 36, .inl (fun _ => 0))), ((u3 5), .inl (cI, 3072, .inl (fun _ => 0))), ((u3 6), .inl (cI, 12, .inl (fun _ => 0))), ((u3 7), .inl (cI, 12, .inl (fun _ => 0))), ((u3 8), .inl (cI, 48, .inl (fun _ => 0))), ((u3 9), .inl (cI, 288, .inl (fun _ => 0))), ((u3 10), .inl (cI, 500, .inl (fun _ => 0)))]) hP hD [11] [0, 1, 2, 3, 4, 5, 6, 7, 8, 9, 10] rfl rfl (by decide) (by decide) hk1 hFc hP1 hD1
  generalize H1 = H at hP hS ⊢
  have hP : va_P D vwCl [(h0, .inr (3, [.ref n0, .null, .null, .null, .int 0, .long 0, .long 0])), (n0, .inr (2, [.int 0, .int 0, .ref (u1 0), .ref (u1 1), .ref (u1 2), .ref (u1 3), .ref (u1 4), .ref (u1 5), .ref (u1 6), .ref (u1 7), .ref (u1 8)])), ((u1 0), .inl (cI, 12, .inl (fun _ => 0))), ((u1 1), .inl (cI, 12, .inl (fun _ => 0))), ((u1 2), .inl (cI, 12, .inl (fun _ => 0))), ((u1 3), .inl (cI, 36, .inl (fun _ => 0))), ((u1 4), .inl (cI, 3072, .inl (fun _ => 0))), ((u1 5), .inl (cI, 12, .inl (fun _ => 0))), ((u1 6), .inl (cI, 12, .inl (fun _ => 0))), ((u1 7), .inl (cI, 48, .inl (fun _ => 0))), ((u1 8), .inl (cI, 288, .inl (fun _ => 0))), (n2, .inr (0, [.ref (u3 0), .ref (u3 10), .int 0, .int 0])), ((u3 0), .inr (2, [.int 0, .int 0, .ref (u3 1), .ref (u3 2), .ref (u3 3), .ref (u3 4), .ref (u3 5), .ref (u3 6), .ref (u3 7), .ref (u3 8), .ref (u3 9)])), ((u3 1), .inl (cI, 12, .inl (fun _ => 0))), ((u3 2), .inl (cI, 12, .inl (fun _ => 0))), ((u3 3), .inl (cI, 12, .inl (fun _ => 0))), ((u3 4), .inl (cI, 36, .inl (fun _ => 0))), ((u3 5), .inl (cI, 3072, .inl (fun _ => 0))), ((u3 6), .inl (cI, 12, .inl (fun _ => 0))), ((u3 7), .inl (cI, 12, .inl (fun _ => 0))), ((u3 8), .inl (cI, 48, .inl (fun _ => 0))), ((u3 9), .inl (cI, 288, .inl (fun _ => 0))), ((u3 10), .inl (cI, 500, .inl (fun _ => 0)))] H := hP
  have hD : va_D A [(h0, .inr (3, [.ref n0, .null, .null, .null, .int 0, .long 0, .long 0])), (n0, .inr (2, [.int 0, .int 0, .ref (u1 0), .ref (u1 1), .ref (u1 2), .ref (u1 3), .ref (u1 4), .ref (u1 5), .ref (u1 6), .ref (u1 7), .ref (u1 8)])), ((u1 0), .inl (cI, 12, .inl (fun _ => 0))), ((u1 1), .inl (cI, 12, .inl (fun _ => 0))), ((u1 2), .inl (cI, 12, .inl (fun _ => 0))), ((u1 3), .inl (cI, 36, .inl (fun _ => 0))), ((u1 4), .inl (cI, 3072, .inl (fun _ => 0))), ((u1 5), .inl (cI, 12, .inl (fun _ => 0))), ((u1 6), .inl (cI, 12, .inl (fun _ => 0))), ((u1 7), .inl (cI, 48, .inl (fun _ => 0))), ((u1 8), .inl (cI, 288, .inl (fun _ => 0))), (n2, .inr (0, [.ref (u3 0), .ref (u3 10), .int 0, .int 0])), ((u3 0), .inr (2, [.int 0, .int 0, .ref (u3 1), .ref (u3 2), .ref (u3 3), .ref (u3 4), .ref (u3 5), .ref (u3 6), .ref (u3 7), .ref (u3 8), .ref (u3 9)])), ((u3 1), .inl (cI, 12, .inl (fun _ => 0))), ((u3 2), .inl (cI, 12, .inl (fun _ => 0))), ((u3 3), .inl (cI, 12, .inl (fun _ => 0))), ((u3 4), .inl (cI, 36, .inl (fun _ => 0))), ((u3 5), .inl (cI, 3072, .inl (fun _ => 0))), ((u3 6), .inl (cI, 12, .inl (fun _ => 0))), ((u3 7), .inl (cI, 12, .inl (fun _ => 0))), ((u3 8), .inl (cI, 48, .inl (fun _ => 0))), ((u3 9), .inl (cI, 288, .inl (fun _ => 0))), ((u3 10), .inl (cI, 500, .inl (fun _ => 0)))] := hD
  refine W.widen (k := 22) (n := 7534) (by omega) (by omega) ?_
  refine va_putF (D := D) (ci := 3) (v := .ref n2) (ty := .object "BeliefWeb$History") (C := RX3) (T := TX3) (N := 7) (Ts := bw_ws) hx hb (fun w h => hts w (List.mem_cons.mpr (Or.inr h))) (bw_cls_ws2 3 (RX3, TX3, 7) rfl) tyX3 tyX3_ok nmX3 hown hK hP hD hS 0 rfl rfl 1 (by decide) (hts (.fieldLink RX3 19 "BeliefWeb" "history" "LBeliefWeb$History;") (List.mem_cons.mpr (Or.inr bwd_181))) (fun _ h9 => h9) rfl hin rfl (by decide +kernel) rfl rfl (Nat.le_of_ble_eq_true rfl) dX3_init_23 (fun H locs hP hD hS => ?_)
  have hP : va_P D vwCl [(h0, .inr (3, [.ref n0, .ref n2, .null, .null, .int 0, .long 0, .long 0])), (n0, .inr (2, [.int 0, .int 0, .ref (u1 0), .ref (u1 1), .ref (u1 2), .ref (u1 3), .ref (u1 4), .ref (u1 5), .ref (u1 6), .ref (u1 7), .ref (u1 8)])), ((u1 0), .inl (cI, 12, .inl (fun _ => 0))), ((u1 1), .inl (cI, 12, .inl (fun _ => 0))), ((u1 2), .inl (cI, 12, .inl (fun _ => 0))), ((u1 3), .inl (cI, 36, .inl (fun _ => 0))), ((u1 4), .inl (cI, 3072, .inl (fun _ => 0))), ((u1 5), .inl (cI, 12, .inl (fun _ => 0))), ((u1 6), .inl (cI, 12, .inl (fun _ => 0))), ((u1 7), .inl (cI, 48, .inl (fun _ => 0))), ((u1 8), .inl (cI, 288, .inl (fun _ => 0))), (n2, .inr (0, [.ref (u3 0), .ref (u3 10), .int 0, .int 0])), ((u3 0), .inr (2, [.int 0, .int 0, .ref (u3 1), .ref (u3 2), .ref (u3 3), .ref (u3 4), .ref (u3 5), .ref (u3 6), .ref (u3 7), .ref (u3 8), .ref (u3 9)])), ((u3 1), .inl (cI, 12, .inl (fun _ => 0))), ((u3 2), .inl (cI, 12, .inl (fun _ => 0))), ((u3 3), .inl (cI, 12, .inl (fun _ => 0))), ((u3 4), .inl (cI, 36, .inl (fun _ => 0))), ((u3 5), .inl (cI, 3072, .inl (fun _ => 0))), ((u3 6), .inl (cI, 12, .inl (fun _ => 0))), ((u3 7), .inl (cI, 12, .inl (fun _ => 0))), ((u3 8), .inl (cI, 48, .inl (fun _ => 0))), ((u3 9), .inl (cI, 288, .inl (fun _ => 0))), ((u3 10), .inl (cI, 500, .inl (fun _ => 0)))] H := hP
  have hD : va_D A [(h0, .inr (3, [.ref n0, .ref n2, .null, .null, .int 0, .long 0, .long 0])), (n0, .inr (2, [.int 0, .int 0, .ref (u1 0), .ref (u1 1), .ref (u1 2), .ref (u1 3), .ref (u1 4), .ref (u1 5), .ref (u1 6), .ref (u1 7), .ref (u1 8)])), ((u1 0), .inl (cI, 12, .inl (fun _ => 0))), ((u1 1), .inl (cI, 12, .inl (fun _ => 0))), ((u1 2), .inl (cI, 12, .inl (fun _ => 0))), ((u1 3), .inl (cI, 36, .inl (fun _ => 0))), ((u1 4), .inl (cI, 3072, .inl (fun _ => 0))), ((u1 5), .inl (cI, 12, .inl (fun _ => 0))), ((u1 6), .inl (cI, 12, .inl (fun _ => 0))), ((u1 7), .inl (cI, 48, .inl (fun _ => 0))), ((u1 8), .inl (cI, 288, .inl (fun _ => 0))), (n2, .inr (0, [.ref (u3 0), .ref (u3 10), .int 0, .int 0])), ((u3 0), .inr (2, [.int 0, .int 0, .ref (u3 1), .ref (u3 2), .ref (u3 3), .ref (u3 4), .ref (u3 5), .ref (u3 6), .ref (u3 7), .ref (u3 8), .ref (u3 9)])), ((u3 1), .inl (cI, 12, .inl (fun _ => 0))), ((u3 2), .inl (cI, 12, .inl (fun _ => 0))), ((u3 3), .inl (cI, 12, .inl (fun _ => 0))), ((u3 4), .inl (cI, 36, .inl (fun _ => 0))), ((u3 5), .inl (cI, 3072, .inl (fun _ => 0))), ((u3 6), .inl (cI, 12, .inl (fun _ => 0))), ((u3 7), .inl (cI, 12, .inl (fun _ => 0))), ((u3 8), .inl (cI, 48, .inl (fun _ => 0))), ((u3 9), .inl (cI, 288, .inl (fun _ => 0))), ((u3 10), .inl (cI, 500, .inl (fun _ => 0)))] := hD
  refine lv_aload_n hx hb dX3_init_26 rfl (lv_at hl 0 rfl) ?_
  refine va_new (D := D) (ci := 1) (fs := [.null, .null, .null, .null, .null, .int 0, .int 0, .int 0, .int 0, .int 0, .long 0]) (C := RX1) (T := TX1) (N := 11) (Ts := bw_ws) hx hb (fun w h => hts w (List.mem_cons.mpr (Or.inr h))) (bw_cls_ws2 1 (RX1, TX1, 11) rfl) tyX1 tyX1_ok hown (hts (.classLink RX3 23 RX1) (List.mem_cons.mpr (Or.inr bwd_133))) (hts (.instantiable RX1 11) (List.mem_cons.mpr (Or.inr bwd_134))) (hts (.initialized RX1) (List.mem_cons.mpr (Or.inr bwd_43))) hK hP hD hS hA rfl (fun j hj => by rcases (show j = 0 ∨ j = 1 ∨ j = 2 ∨ j = 3 ∨ j = 4 ∨ j = 5 ∨ j = 6 ∨ j = 7 ∨ j = 8 ∨ j = 9 ∨ j = 10 by omega) with rfl | rfl | rfl | rfl | rfl | rfl | rfl | rfl | rfl | rfl | rfl <;> rfl) (Nat.le_of_ble_eq_true rfl) (Nat.le_of_ble_eq_true rfl) dX3_init_27 (fun n4 H hP hD hS => ?_)
  have hP : va_P D vwCl [(h0, .inr (3, [.ref n0, .ref n2, .null, .null, .int 0, .long 0, .long 0])), (n0, .inr (2, [.int 0, .int 0, .ref (u1 0), .ref (u1 1), .ref (u1 2), .ref (u1 3), .ref (u1 4), .ref (u1 5), .ref (u1 6), .ref (u1 7), .ref (u1 8)])), ((u1 0), .inl (cI, 12, .inl (fun _ => 0))), ((u1 1), .inl (cI, 12, .inl (fun _ => 0))), ((u1 2), .inl (cI, 12, .inl (fun _ => 0))), ((u1 3), .inl (cI, 36, .inl (fun _ => 0))), ((u1 4), .inl (cI, 3072, .inl (fun _ => 0))), ((u1 5), .inl (cI, 12, .inl (fun _ => 0))), ((u1 6), .inl (cI, 12, .inl (fun _ => 0))), ((u1 7), .inl (cI, 48, .inl (fun _ => 0))), ((u1 8), .inl (cI, 288, .inl (fun _ => 0))), (n2, .inr (0, [.ref (u3 0), .ref (u3 10), .int 0, .int 0])), ((u3 0), .inr (2, [.int 0, .int 0, .ref (u3 1), .ref (u3 2), .ref (u3 3), .ref (u3 4), .ref (u3 5), .ref (u3 6), .ref (u3 7), .ref (u3 8), .ref (u3 9)])), ((u3 1), .inl (cI, 12, .inl (fun _ => 0))), ((u3 2), .inl (cI, 12, .inl (fun _ => 0))), ((u3 3), .inl (cI, 12, .inl (fun _ => 0))), ((u3 4), .inl (cI, 36, .inl (fun _ => 0))), ((u3 5), .inl (cI, 3072, .inl (fun _ => 0))), ((u3 6), .inl (cI, 12, .inl (fun _ => 0))), ((u3 7), .inl (cI, 12, .inl (fun _ => 0))), ((u3 8), .inl (cI, 48, .inl (fun _ => 0))), ((u3 9), .inl (cI, 288, .inl (fun _ => 0))), ((u3 10), .inl (cI, 500, .inl (fun _ => 0))), (n4, .inr (1, [.null, .null, .null, .null, .null, .int 0, .int 0, .int 0, .int 0, .int 0, .long 0]))] H := hP
  have hD : va_D A [(h0, .inr (3, [.ref n0, .ref n2, .null, .null, .int 0, .long 0, .long 0])), (n0, .inr (2, [.int 0, .int 0, .ref (u1 0), .ref (u1 1), .ref (u1 2), .ref (u1 3), .ref (u1 4), .ref (u1 5), .ref (u1 6), .ref (u1 7), .ref (u1 8)])), ((u1 0), .inl (cI, 12, .inl (fun _ => 0))), ((u1 1), .inl (cI, 12, .inl (fun _ => 0))), ((u1 2), .inl (cI, 12, .inl (fun _ => 0))), ((u1 3), .inl (cI, 36, .inl (fun _ => 0))), ((u1 4), .inl (cI, 3072, .inl (fun _ => 0))), ((u1 5), .inl (cI, 12, .inl (fun _ => 0))), ((u1 6), .inl (cI, 12, .inl (fun _ => 0))), ((u1 7), .inl (cI, 48, .inl (fun _ => 0))), ((u1 8), .inl (cI, 288, .inl (fun _ => 0))), (n2, .inr (0, [.ref (u3 0), .ref (u3 10), .int 0, .int 0])), ((u3 0), .inr (2, [.int 0, .int 0, .ref (u3 1), .ref (u3 2), .ref (u3 3), .ref (u3 4), .ref (u3 5), .ref (u3 6), .ref (u3 7), .ref (u3 8), .ref (u3 9)])), ((u3 1), .inl (cI, 12, .inl (fun _ => 0))), ((u3 2), .inl (cI, 12, .inl (fun _ => 0))), ((u3 3), .inl (cI, 12, .inl (fun _ => 0))), ((u3 4), .inl (cI, 36, .inl (fun _ => 0))), ((u3 5), .inl (cI, 3072, .inl (fun _ => 0))), ((u3 6), .inl (cI, 12, .inl (fun _ => 0))), ((u3 7), .inl (cI, 12, .inl (fun _ => 0))), ((u3 8), .inl (cI, 48, .inl (fun _ => 0))), ((u3 9), .inl (cI, 288, .inl (fun _ => 0))), ((u3 10), .inl (cI, 500, .inl (fun _ => 0))), (n4, .inr (1, [.null, .null, .null, .null, .null, .int 0, .int 0, .int 0, .int 0, .int 0, .long 0]))] := hD
  refine W.widen (k := 23) (n := 7545) (by omega) (by omega) ?_
  refine lv_dup hx hb dX3_init_30 rfl ?_
  have hPc := hP.sub (ws' := [(n4, .inr (1, [.null, .null, .null, .null, .null, .int 0, .int 0, .int 0, .int 0, .int 0, .long 0]))]) [23] rfl
  have hDc := hD.sub (ws' := [(n4, .inr (1, [.null, .null, .null, .null, .null, .int 0, .int 0, .int 0, .int 0, .int 0, .long 0]))]) [23] (by decide) rfl
  have hFc := va_free (wc := [(n4, .inr (1, [.null, .null, .null, .null, .null, .int 0, .int 0, .int 0, .int 0, .int 0, .long 0]))]) hD hS hA [23] rfl
  refine va_callv (va_runIN (host := "BeliefWeb") (As := []) (rest := [.ref n4, .ref h0]) (Ts := bw_ws) (own := RX3) (index := 25) (n := 0) (nL := 1) ⟨hx, hb, hml, hown, fun w h => hts w (List.mem_cons.mpr (Or.inr h))⟩ (iX1_init l D cI cJ cZ n4 H.size) ⟨va_cnB 0 (fun w h => hts w (List.mem_cons.mpr (Or.inr h))) gX1_init rfl rfl rfl (hN 3 25 yX1_init (List.mem_of_getElem? (i := 135) (by decide +kernel))) (hts (.initialized RX1) (List.mem_cons.mpr (Or.inr bwd_43))) (by decide +kernel) ⟨Nat.le_of_ble_eq_true rfl, Nat.le_of_ble_eq_true rfl⟩, rfl, (hts (.instanceMethod yX1_init) (List.mem_cons.mpr (Or.inr bwd_136)))⟩ ⟨fun a U g mk q => by obtain ⟨q0, q1, qP, qK, qD, qN⟩ := q; exact ⟨q0, q1, qP, va_K.moved (u := U) (U := U.calling g mk a) (Vm.Alike.refl U.vm) qK, qD, fun n i y hy => va_Nw.same (u := U) (U := U.calling g mk a) rfl rfl (qN n i y hy)⟩, fun U hU hW => ⟨rfl, by rw [hU], by rw [hU]; exact hPc, va_K.moved hW.alike hK, hDc.weaken (fun _ _ _ _ => trivial), fun n i y hy => va_Nw.warmM hW (hN n i y hy)⟩⟩ rfl rfl hl.1 rfl (lv_room (Nat.le_of_ble_eq_true rfl)) dX3_init_31 ⟨Nat.le_of_ble_eq_true rfl, Nat.le_of_ble_eq_true rfl⟩) hS (fun q _ h => hFc q h) hFc (fun u5 t H1 locs ht hvm hw hB hz1 hk1 hS => ?_)
  obtain ⟨hP1, -, hD1⟩ := hB
  rw [ht] at hP1
  obtain ⟨hP, hD⟩ := va_join (wr := [(h0, .inr (3, [.ref n0, .ref n2, .null, .null, .int 0, .long 0, .long 0])), (n0, .inr (2, [.int 0, .int 0, .ref (u1 0), .ref (u1 1), .ref (u1 2), .ref (u1 3), .ref (u1 4), .ref (u1 5), .ref (u1 6), .ref (u1 7), .ref (u1 8)])), ((u1 0), .inl (cI, 12, .inl (fun _ => 0))), ((u1 1), .inl (cI, 12, .inl (fun _ => 0))), ((u1 2), .inl (cI, 12, .inl (fun _ => 0))), ((u1 3), .inl (cI, 36, .inl (fun _ => 0))), ((u1 4), .inl (cI, 3072, .inl (fun _ => 0))), ((u1 5), .inl (cI, 12, .inl (fun _ => 0))), ((u1 6), .inl (cI, 12, .inl (fun _ => 0))), ((u1 7), .inl (cI, 48, .inl (fun _ => 0))), ((u1 8), .inl (cI, 288, .inl (fun _ => 0))), (n2, .inr (0, [.ref (u3 0), .ref (u3 10), .int 0, .int 0])), ((u3 0), .inr (2, [.int 0, .int 0, .ref (u3 1), .ref (u3 2), .ref (u3 3), .ref (u3 4), .ref (u3 5), .ref (u3 6), .ref (u3 7), .ref (u3 8), .ref (u3 9)])), ((u3 1), .inl (cI, 12, .inl (fun _ => 0))), ((u3 2), .inl (cI, 12, .inl (fun _ => 0))), ((u3 3), .inl (cI, 12, .inl (fun _ => 0))), ((u3 4), .inl (cI, 36, .inl (fun _ => 0))), ((u3 5), .inl (cI, 3072, .inl (fun _ => 0))), ((u3 6), .inl (cI, 12, .inl (fun _ => 0))), ((u3 7), .inl (cI, 12, .inl (fun _ => 0))), ((u3 8), .inl (cI, 48, .inl (fun _ => 0))), ((u3 9), .inl (cI, 288, .inl (fun _ => 0))), ((u3 10), .inl (cI, 500, .inl (fun _ => 0)))]) (w1 := [(n4, .inr (1, [.ref (u5 0), .ref (u5 1), .ref (u5 2), .ref (u5 3), .ref (u5 4), .int 0, .int 0, .int 0, .int 0, .int 0, .long 0])), ((u5 0), .inl (cI, 12, .inl (fun _ => 0))), ((u5 1), .inl (cI, 12, .inl (fun _ => 0))), ((u5 2), .inl (cJ, 48, .inr (.inl (fun _ => 0)))), ((u5 3), .inl (cJ, 10, .inr (.inl (fun _ => 0)))), ((u5 4), .inl (cI, 10, .inl (fun _ => 0)))]) hP hD [23] [0, 1, 2, 3, 4, 5, 6, 7, 8, 9, 10, 11, 12, 13, 14, 15, 16, 17, 18, 19, 20, 21, 22] rfl rfl (by decide) (by decide) hk1 hFc hP1 hD1
  generalize H1 = H at hP hS ⊢
  have hP : va_P D vwCl [(h0, .inr (3, [.ref n0, .ref n2, .null, .null, .int 0, .long 0, .long 0])), (n0, .inr (2, [.int 0, .int 0, .ref (u1 0), .ref (u1 1), .ref (u1 2), .ref (u1 3), .ref (u1 4), .ref (u1 5), .ref (u1 6), .ref (u1 7), .ref (u1 8)])), ((u1 0), .inl (cI, 12, .inl (fun _ => 0))), ((u1 1), .inl (cI, 12, .inl (fun _ => 0))), ((u1 2), .inl (cI, 12, .inl (fun _ => 0))), ((u1 3), .inl (cI, 36, .inl (fun _ => 0))), ((u1 4), .inl (cI, 3072, .inl (fun _ => 0))), ((u1 5), .inl (cI, 12, .inl (fun _ => 0))), ((u1 6), .inl (cI, 12, .inl (fun _ => 0))), ((u1 7), .inl (cI, 48, .inl (fun _ => 0))), ((u1 8), .inl (cI, 288, .inl (fun _ => 0))), (n2, .inr (0, [.ref (u3 0), .ref (u3 10), .int 0, .int 0])), ((u3 0), .inr (2, [.int 0, .int 0, .ref (u3 1), .ref (u3 2), .ref (u3 3), .ref (u3 4), .ref (u3 5), .ref (u3 6), .ref (u3 7), .ref (u3 8), .ref (u3 9)])), ((u3 1), .inl (cI, 12, .inl (fun _ => 0))), ((u3 2), .inl (cI, 12, .inl (fun _ => 0))), ((u3 3), .inl (cI, 12, .inl (fun _ => 0))), ((u3 4), .inl (cI, 36, .inl (fun _ => 0))), ((u3 5), .inl (cI, 3072, .inl (fun _ => 0))), ((u3 6), .inl (cI, 12, .inl (fun _ => 0))), ((u3 7), .inl (cI, 12, .inl (fun _ => 0))), ((u3 8), .inl (cI, 48, .inl (fun _ => 0))), ((u3 9), .inl (cI, 288, .inl (fun _ => 0))), ((u3 10), .inl (cI, 500, .inl (fun _ => 0))), (n4, .inr (1, [.ref (u5 0), .ref (u5 1), .ref (u5 2), .ref (u5 3), .ref (u5 4), .int 0, .int 0, .int 0, .int 0, .int 0, .long 0])), ((u5 0), .inl (cI, 12, .inl (fun _ => 0))), ((u5 1), .inl (cI, 12, .inl (fun _ => 0))), ((u5 2), .inl (cJ, 48, .inr (.inl (fun _ => 0)))), ((u5 3), .inl (cJ, 10, .inr (.inl (fun _ => 0)))), ((u5 4), .inl (cI, 10, .inl (fun _ => 0)))] H := hP
  have hD : va_D A [(h0, .inr (3, [.ref n0, .ref n2, .null, .null, .int 0, .long 0, .long 0])), (n0, .inr (2, [.int 0, .int 0, .ref (u1 0), .ref (u1 1), .ref (u1 2), .ref (u1 3), .ref (u1 4), .ref (u1 5), .ref (u1 6), .ref (u1 7), .ref (u1 8)])), ((u1 0), .inl (cI, 12, .inl (fun _ => 0))), ((u1 1), .inl (cI, 12, .inl (fun _ => 0))), ((u1 2), .inl (cI, 12, .inl (fun _ => 0))), ((u1 3), .inl (cI, 36, .inl (fun _ => 0))), ((u1 4), .inl (cI, 3072, .inl (fun _ => 0))), ((u1 5), .inl (cI, 12, .inl (fun _ => 0))), ((u1 6), .inl (cI, 12, .inl (fun _ => 0))), ((u1 7), .inl (cI, 48, .inl (fun _ => 0))), ((u1 8), .inl (cI, 288, .inl (fun _ => 0))), (n2, .inr (0, [.ref (u3 0), .ref (u3 10), .int 0, .int 0])), ((u3 0), .inr (2, [.int 0, .int 0, .ref (u3 1), .ref (u3 2), .ref (u3 3), .ref (u3 4), .ref (u3 5), .ref (u3 6), .ref (u3 7), .ref (u3 8), .ref (u3 9)])), ((u3 1), .inl (cI, 12, .inl (fun _ => 0))), ((u3 2), .inl (cI, 12, .inl (fun _ => 0))), ((u3 3), .inl (cI, 12, .inl (fun _ => 0))), ((u3 4), .inl (cI, 36, .inl (fun _ => 0))), ((u3 5), .inl (cI, 3072, .inl (fun _ => 0))), ((u3 6), .inl (cI, 12, .inl (fun _ => 0))), ((u3 7), .inl (cI, 12, .inl (fun _ => 0))), ((u3 8), .inl (cI, 48, .inl (fun _ => 0))), ((u3 9), .inl (cI, 288, .inl (fun _ => 0))), ((u3 10), .inl (cI, 500, .inl (fun _ => 0))), (n4, .inr (1, [.ref (u5 0), .ref (u5 1), .ref (u5 2), .ref (u5 3), .ref (u5 4), .int 0, .int 0, .int 0, .int 0, .int 0, .long 0])), ((u5 0), .inl (cI, 12, .inl (fun _ => 0))), ((u5 1), .inl (cI, 12, .inl (fun _ => 0))), ((u5 2), .inl (cJ, 48, .inr (.inl (fun _ => 0)))), ((u5 3), .inl (cJ, 10, .inr (.inl (fun _ => 0)))), ((u5 4), .inl (cI, 10, .inl (fun _ => 0)))] := hD
  refine W.widen (k := 28) (n := 7637) (by omega) (by omega) ?_
  refine va_putF (D := D) (ci := 3) (v := .ref n4) (ty := .object "BeliefWeb$Survey") (C := RX3) (T := TX3) (N := 7) (Ts := bw_ws) hx hb (fun w h => hts w (List.mem_cons.mpr (Or.inr h))) (bw_cls_ws2 3 (RX3, TX3, 7) rfl) tyX3 tyX3_ok nmX3 hown hK hP hD hS 0 rfl rfl 2 (by decide) (hts (.fieldLink RX3 26 "BeliefWeb" "survey" "LBeliefWeb$Survey;") (List.mem_cons.mpr (Or.inr bwd_182))) (fun _ h9 => h9) rfl hin rfl (by decide +kernel) rfl rfl (Nat.le_of_ble_eq_true rfl) dX3_init_34 (fun H locs hP hD hS => ?_)
  have hP : va_P D vwCl [(h0, .inr (3, [.ref n0, .ref n2, .ref n4, .null, .int 0, .long 0, .long 0])), (n0, .inr (2, [.int 0, .int 0, .ref (u1 0), .ref (u1 1), .ref (u1 2), .ref (u1 3), .ref (u1 4), .ref (u1 5), .ref (u1 6), .ref (u1 7), .ref (u1 8)])), ((u1 0), .inl (cI, 12, .inl (fun _ => 0))), ((u1 1), .inl (cI, 12, .inl (fun _ => 0))), ((u1 2), .inl (cI, 12, .inl (fun _ => 0))), ((u1 3), .inl (cI, 36, .inl (fun _ => 0))), ((u1 4), .inl (cI, 3072, .inl (fun _ => 0))), ((u1 5), .inl (cI, 12, .inl (fun _ => 0))), ((u1 6), .inl (cI, 12, .inl (fun _ => 0))), ((u1 7), .inl (cI, 48, .inl (fun _ => 0))), ((u1 8), .inl (cI, 288, .inl (fun _ => 0))), (n2, .inr (0, [.ref (u3 0), .ref (u3 10), .int 0, .int 0])), ((u3 0), .inr (2, [.int 0, .int 0, .ref (u3 1), .ref (u3 2), .ref (u3 3), .ref (u3 4), .ref (u3 5), .ref (u3 6), .ref (u3 7), .ref (u3 8), .ref (u3 9)])), ((u3 1), .inl (cI, 12, .inl (fun _ => 0))), ((u3 2), .inl (cI, 12, .inl (fun _ => 0))), ((u3 3), .inl (cI, 12, .inl (fun _ => 0))), ((u3 4), .inl (cI, 36, .inl (fun _ => 0))), ((u3 5), .inl (cI, 3072, .inl (fun _ => 0))), ((u3 6), .inl (cI, 12, .inl (fun _ => 0))), ((u3 7), .inl (cI, 12, .inl (fun _ => 0))), ((u3 8), .inl (cI, 48, .inl (fun _ => 0))), ((u3 9), .inl (cI, 288, .inl (fun _ => 0))), ((u3 10), .inl (cI, 500, .inl (fun _ => 0))), (n4, .inr (1, [.ref (u5 0), .ref (u5 1), .ref (u5 2), .ref (u5 3), .ref (u5 4), .int 0, .int 0, .int 0, .int 0, .int 0, .long 0])), ((u5 0), .inl (cI, 12, .inl (fun _ => 0))), ((u5 1), .inl (cI, 12, .inl (fun _ => 0))), ((u5 2), .inl (cJ, 48, .inr (.inl (fun _ => 0)))), ((u5 3), .inl (cJ, 10, .inr (.inl (fun _ => 0)))), ((u5 4), .inl (cI, 10, .inl (fun _ => 0)))] H := hP
  have hD : va_D A [(h0, .inr (3, [.ref n0, .ref n2, .ref n4, .null, .int 0, .long 0, .long 0])), (n0, .inr (2, [.int 0, .int 0, .ref (u1 0), .ref (u1 1), .ref (u1 2), .ref (u1 3), .ref (u1 4), .ref (u1 5), .ref (u1 6), .ref (u1 7), .ref (u1 8)])), ((u1 0), .inl (cI, 12, .inl (fun _ => 0))), ((u1 1), .inl (cI, 12, .inl (fun _ => 0))), ((u1 2), .inl (cI, 12, .inl (fun _ => 0))), ((u1 3), .inl (cI, 36, .inl (fun _ => 0))), ((u1 4), .inl (cI, 3072, .inl (fun _ => 0))), ((u1 5), .inl (cI, 12, .inl (fun _ => 0))), ((u1 6), .inl (cI, 12, .inl (fun _ => 0))), ((u1 7), .inl (cI, 48, .inl (fun _ => 0))), ((u1 8), .inl (cI, 288, .inl (fun _ => 0))), (n2, .inr (0, [.ref (u3 0), .ref (u3 10), .int 0, .int 0])), ((u3 0), .inr (2, [.int 0, .int 0, .ref (u3 1), .ref (u3 2), .ref (u3 3), .ref (u3 4), .ref (u3 5), .ref (u3 6), .ref (u3 7), .ref (u3 8), .ref (u3 9)])), ((u3 1), .inl (cI, 12, .inl (fun _ => 0))), ((u3 2), .inl (cI, 12, .inl (fun _ => 0))), ((u3 3), .inl (cI, 12, .inl (fun _ => 0))), ((u3 4), .inl (cI, 36, .inl (fun _ => 0))), ((u3 5), .inl (cI, 3072, .inl (fun _ => 0))), ((u3 6), .inl (cI, 12, .inl (fun _ => 0))), ((u3 7), .inl (cI, 12, .inl (fun _ => 0))), ((u3 8), .inl (cI, 48, .inl (fun _ => 0))), ((u3 9), .inl (cI, 288, .inl (fun _ => 0))), ((u3 10), .inl (cI, 500, .inl (fun _ => 0))), (n4, .inr (1, [.ref (u5 0), .ref (u5 1), .ref (u5 2), .ref (u5 3), .ref (u5 4), .int 0, .int 0, .int 0, .int 0, .int 0, .long 0])), ((u5 0), .inl (cI, 12, .inl (fun _ => 0))), ((u5 1), .inl (cI, 12, .inl (fun _ => 0))), ((u5 2), .inl (cJ, 48, .inr (.inl (fun _ => 0)))), ((u5 3), .inl (cJ, 10, .inr (.inl (fun _ => 0)))), ((u5 4), .inl (cI, 10, .inl (fun _ => 0)))] := hD
  refine lv_aload_n hx hb dX3_init_37 rfl (lv_at hl 0 rfl) ?_
  refine lv_bipush (v := 12) hx hb dX3_init_38 (by decide) ?_
  refine va_newa (D := D) (atype := .int) (ty := .int) (N' := 12) (a0 := (12, .inl (fun _ => 0))) hx hb (hts (.arrayClass .int) (List.mem_cons.mpr (Or.inr bwd_110))) rfl hK hP hD hS hA (bw_haI 12) (by decide +kernel) (by decide +kernel) (Nat.le_of_ble_eq_true rfl) (Nat.le_of_ble_eq_true rfl) (Nat.le_of_ble_eq_true rfl) dX3_init_40 (fun n6 cA H hK2 hP hD hS => ?_)
  have ec := (bw_tyI hK2).symm
  subst ec
  have hP : va_P D vwCl [(h0, .inr (3, [.ref n0, .ref n2, .ref n4, .null, .int 0, .long 0, .long 0])), (n0, .inr (2, [.int 0, .int 0, .ref (u1 0), .ref (u1 1), .ref (u1 2), .ref (u1 3), .ref (u1 4), .ref (u1 5), .ref (u1 6), .ref (u1 7), .ref (u1 8)])), ((u1 0), .inl (cI, 12, .inl (fun _ => 0))), ((u1 1), .inl (cI, 12, .inl (fun _ => 0))), ((u1 2), .inl (cI, 12, .inl (fun _ => 0))), ((u1 3), .inl (cI, 36, .inl (fun _ => 0))), ((u1 4), .inl (cI, 3072, .inl (fun _ => 0))), ((u1 5), .inl (cI, 12, .inl (fun _ => 0))), ((u1 6), .inl (cI, 12, .inl (fun _ => 0))), ((u1 7), .inl (cI, 48, .inl (fun _ => 0))), ((u1 8), .inl (cI, 288, .inl (fun _ => 0))), (n2, .inr (0, [.ref (u3 0), .ref (u3 10), .int 0, .int 0])), ((u3 0), .inr (2, [.int 0, .int 0, .ref (u3 1), .ref (u3 2), .ref (u3 3), .ref (u3 4), .ref (u3 5), .ref (u3 6), .ref (u3 7), .ref (u3 8), .ref (u3 9)])), ((u3 1), .inl (cI, 12, .inl (fun _ => 0))), ((u3 2), .inl (cI, 12, .inl (fun _ => 0))), ((u3 3), .inl (cI, 12, .inl (fun _ => 0))), ((u3 4), .inl (cI, 36, .inl (fun _ => 0))), ((u3 5), .inl (cI, 3072, .inl (fun _ => 0))), ((u3 6), .inl (cI, 12, .inl (fun _ => 0))), ((u3 7), .inl (cI, 12, .inl (fun _ => 0))), ((u3 8), .inl (cI, 48, .inl (fun _ => 0))), ((u3 9), .inl (cI, 288, .inl (fun _ => 0))), ((u3 10), .inl (cI, 500, .inl (fun _ => 0))), (n4, .inr (1, [.ref (u5 0), .ref (u5 1), .ref (u5 2), .ref (u5 3), .ref (u5 4), .int 0, .int 0, .int 0, .int 0, .int 0, .long 0])), ((u5 0), .inl (cI, 12, .inl (fun _ => 0))), ((u5 1), .inl (cI, 12, .inl (fun _ => 0))), ((u5 2), .inl (cJ, 48, .inr (.inl (fun _ => 0)))), ((u5 3), .inl (cJ, 10, .inr (.inl (fun _ => 0)))), ((u5 4), .inl (cI, 10, .inl (fun _ => 0))), (n6, .inl (cI, 12, .inl (fun _ => 0)))] H := hP
  have hD : va_D A [(h0, .inr (3, [.ref n0, .ref n2, .ref n4, .null, .int 0, .long 0, .long 0])), (n0, .inr (2, [.int 0, .int 0, .ref (u1 0), .ref (u1 1), .ref (u1 2), .ref (u1 3), .ref (u1 4), .ref (u1 5), .ref (u1 6), .ref (u1 7), .ref (u1 8)])), ((u1 0), .inl (cI, 12, .inl (fun _ => 0))), ((u1 1), .inl (cI, 12, .inl (fun _ => 0))), ((u1 2), .inl (cI, 12, .inl (fun _ => 0))), ((u1 3), .inl (cI, 36, .inl (fun _ => 0))), ((u1 4), .inl (cI, 3072, .inl (fun _ => 0))), ((u1 5), .inl (cI, 12, .inl (fun _ => 0))), ((u1 6), .inl (cI, 12, .inl (fun _ => 0))), ((u1 7), .inl (cI, 48, .inl (fun _ => 0))), ((u1 8), .inl (cI, 288, .inl (fun _ => 0))), (n2, .inr (0, [.ref (u3 0), .ref (u3 10), .int 0, .int 0])), ((u3 0), .inr (2, [.int 0, .int 0, .ref (u3 1), .ref (u3 2), .ref (u3 3), .ref (u3 4), .ref (u3 5), .ref (u3 6), .ref (u3 7), .ref (u3 8), .ref (u3 9)])), ((u3 1), .inl (cI, 12, .inl (fun _ => 0))), ((u3 2), .inl (cI, 12, .inl (fun _ => 0))), ((u3 3), .inl (cI, 12, .inl (fun _ => 0))), ((u3 4), .inl (cI, 36, .inl (fun _ => 0))), ((u3 5), .inl (cI, 3072, .inl (fun _ => 0))), ((u3 6), .inl (cI, 12, .inl (fun _ => 0))), ((u3 7), .inl (cI, 12, .inl (fun _ => 0))), ((u3 8), .inl (cI, 48, .inl (fun _ => 0))), ((u3 9), .inl (cI, 288, .inl (fun _ => 0))), ((u3 10), .inl (cI, 500, .inl (fun _ => 0))), (n4, .inr (1, [.ref (u5 0), .ref (u5 1), .ref (u5 2), .ref (u5 3), .ref (u5 4), .int 0, .int 0, .int 0, .int 0, .int 0, .long 0])), ((u5 0), .inl (cI, 12, .inl (fun _ => 0))), ((u5 1), .inl (cI, 12, .inl (fun _ => 0))), ((u5 2), .inl (cJ, 48, .inr (.inl (fun _ => 0)))), ((u5 3), .inl (cJ, 10, .inr (.inl (fun _ => 0)))), ((u5 4), .inl (cI, 10, .inl (fun _ => 0))), (n6, .inl (cI, 12, .inl (fun _ => 0)))] := hD
  refine W.widen (k := 29) (n := 7649) (by omega) (by omega) ?_
  refine va_putF (D := D) (ci := 3) (v := .ref n6) (ty := .array .int) (C := RX3) (T := TX3) (N := 7) (Ts := bw_ws) hx hb (fun w h => hts w (List.mem_cons.mpr (Or.inr h))) (bw_cls_ws2 3 (RX3, TX3, 7) rfl) tyX3 tyX3_ok nmX3 hown hK hP hD hS 0 rfl rfl 3 (by decide) (hts (.fieldLink RX3 30 "BeliefWeb" "shown" "[I") (List.mem_cons.mpr (Or.inr bwd_183))) (fun _ h9 => h9) rfl hin rfl (by decide +kernel) rfl rfl (Nat.le_of_ble_eq_true rfl) dX3_init_42 (fun H locs hP hD hS => ?_)
  have hP : va_P D vwCl [(h0, .inr (3, [.ref n0, .ref n2, .ref n4, .ref n6, .int 0, .long 0, .long 0])), (n0, .inr (2, [.int 0, .int 0, .ref (u1 0), .ref (u1 1), .ref (u1 2), .ref (u1 3), .ref (u1 4), .ref (u1 5), .ref (u1 6), .ref (u1 7), .ref (u1 8)])), ((u1 0), .inl (cI, 12, .inl (fun _ => 0))), ((u1 1), .inl (cI, 12, .inl (fun _ => 0))), ((u1 2), .inl (cI, 12, .inl (fun _ => 0))), ((u1 3), .inl (cI, 36, .inl (fun _ => 0))), ((u1 4), .inl (cI, 3072, .inl (fun _ => 0))), ((u1 5), .inl (cI, 12, .inl (fun _ => 0))), ((u1 6), .inl (cI, 12, .inl (fun _ => 0))), ((u1 7), .inl (cI, 48, .inl (fun _ => 0))), ((u1 8), .inl (cI, 288, .inl (fun _ => 0))), (n2, .inr (0, [.ref (u3 0), .ref (u3 10), .int 0, .int 0])), ((u3 0), .inr (2, [.int 0, .int 0, .ref (u3 1), .ref (u3 2), .ref (u3 3), .ref (u3 4), .ref (u3 5), .ref (u3 6), .ref (u3 7), .ref (u3 8), .ref (u3 9)])), ((u3 1), .inl (cI, 12, .inl (fun _ => 0))), ((u3 2), .inl (cI, 12, .inl (fun _ => 0))), ((u3 3), .inl (cI, 12, .inl (fun _ => 0))), ((u3 4), .inl (cI, 36, .inl (fun _ => 0))), ((u3 5), .inl (cI, 3072, .inl (fun _ => 0))), ((u3 6), .inl (cI, 12, .inl (fun _ => 0))), ((u3 7), .inl (cI, 12, .inl (fun _ => 0))), ((u3 8), .inl (cI, 48, .inl (fun _ => 0))), ((u3 9), .inl (cI, 288, .inl (fun _ => 0))), ((u3 10), .inl (cI, 500, .inl (fun _ => 0))), (n4, .inr (1, [.ref (u5 0), .ref (u5 1), .ref (u5 2), .ref (u5 3), .ref (u5 4), .int 0, .int 0, .int 0, .int 0, .int 0, .long 0])), ((u5 0), .inl (cI, 12, .inl (fun _ => 0))), ((u5 1), .inl (cI, 12, .inl (fun _ => 0))), ((u5 2), .inl (cJ, 48, .inr (.inl (fun _ => 0)))), ((u5 3), .inl (cJ, 10, .inr (.inl (fun _ => 0)))), ((u5 4), .inl (cI, 10, .inl (fun _ => 0))), (n6, .inl (cI, 12, .inl (fun _ => 0)))] H := hP
  have hD : va_D A [(h0, .inr (3, [.ref n0, .ref n2, .ref n4, .ref n6, .int 0, .long 0, .long 0])), (n0, .inr (2, [.int 0, .int 0, .ref (u1 0), .ref (u1 1), .ref (u1 2), .ref (u1 3), .ref (u1 4), .ref (u1 5), .ref (u1 6), .ref (u1 7), .ref (u1 8)])), ((u1 0), .inl (cI, 12, .inl (fun _ => 0))), ((u1 1), .inl (cI, 12, .inl (fun _ => 0))), ((u1 2), .inl (cI, 12, .inl (fun _ => 0))), ((u1 3), .inl (cI, 36, .inl (fun _ => 0))), ((u1 4), .inl (cI, 3072, .inl (fun _ => 0))), ((u1 5), .inl (cI, 12, .inl (fun _ => 0))), ((u1 6), .inl (cI, 12, .inl (fun _ => 0))), ((u1 7), .inl (cI, 48, .inl (fun _ => 0))), ((u1 8), .inl (cI, 288, .inl (fun _ => 0))), (n2, .inr (0, [.ref (u3 0), .ref (u3 10), .int 0, .int 0])), ((u3 0), .inr (2, [.int 0, .int 0, .ref (u3 1), .ref (u3 2), .ref (u3 3), .ref (u3 4), .ref (u3 5), .ref (u3 6), .ref (u3 7), .ref (u3 8), .ref (u3 9)])), ((u3 1), .inl (cI, 12, .inl (fun _ => 0))), ((u3 2), .inl (cI, 12, .inl (fun _ => 0))), ((u3 3), .inl (cI, 12, .inl (fun _ => 0))), ((u3 4), .inl (cI, 36, .inl (fun _ => 0))), ((u3 5), .inl (cI, 3072, .inl (fun _ => 0))), ((u3 6), .inl (cI, 12, .inl (fun _ => 0))), ((u3 7), .inl (cI, 12, .inl (fun _ => 0))), ((u3 8), .inl (cI, 48, .inl (fun _ => 0))), ((u3 9), .inl (cI, 288, .inl (fun _ => 0))), ((u3 10), .inl (cI, 500, .inl (fun _ => 0))), (n4, .inr (1, [.ref (u5 0), .ref (u5 1), .ref (u5 2), .ref (u5 3), .ref (u5 4), .int 0, .int 0, .int 0, .int 0, .int 0, .long 0])), ((u5 0), .inl (cI, 12, .inl (fun _ => 0))), ((u5 1), .inl (cI, 12, .inl (fun _ => 0))), ((u5 2), .inl (cJ, 48, .inr (.inl (fun _ => 0)))), ((u5 3), .inl (cJ, 10, .inr (.inl (fun _ => 0)))), ((u5 4), .inl (cI, 10, .inl (fun _ => 0))), (n6, .inl (cI, 12, .inl (fun _ => 0)))] := hD
  exact W.vret hx hb hr (fun t ht hW => ⟨⟨fun k => [n0, ((u1 0)), ((u1 1)), ((u1 2)), ((u1 3)), ((u1 4)), ((u1 5)), ((u1 6)), ((u1 7)), ((u1 8)), n2, ((u3 0)), ((u3 1)), ((u3 2)), ((u3 3)), ((u3 4)), ((u3 5)), ((u3 6)), ((u3 7)), ((u3 8)), ((u3 9)), ((u3 10)), n4, ((u5 0)), ((u5 1)), ((u5 2)), ((u5 3)), ((u5 4)), n6].getD k 0, rfl, trivial, by rw [ht]; exact hP, va_K.moved hW.alike hK, hD⟩, hS.F ht⟩) hS.2.2 dX3_init_45
theorem dX4_init_0 : decode cX4_init 0 = .ok (.aload_n 0, 1) := by decide +kernel
theorem dX4_init_1 : decode cX4_init 1 = .ok (.invokespecial 1, 3) := by decide +kernel
theorem dX4_init_4 : decode cX4_init 4 = .ok (.aload_n 0, 1) := by decide +kernel
theorem dX4_init_5 : decode cX4_init 5 = .ok (.bipush 12, 2) := by decide +kernel
theorem dX4_init_7 : decode cX4_init 7 = .ok (.newarray .int, 2) := by decide +kernel
theorem dX4_init_9 : decode cX4_init 9 = .ok (.putfield 7, 3) := by decide +kernel
theorem dX4_init_12 : decode cX4_init 12 = .ok (.aload_n 0, 1) := by decide +kernel
theorem dX4_init_13 : decode cX4_init 13 = .ok (.bipush 12, 2) := by decide +kernel
theorem dX4_init_15 : decode cX4_init 15 = .ok (.newarray .int, 2) := by decide +kernel
theorem dX4_init_17 : decode cX4_init 17 = .ok (.putfield 13, 3) := by decide +kernel
theorem dX4_init_20 : decode cX4_init 20 = .ok (.aload_n 0, 1) := by decide +kernel
theorem dX4_init_21 : decode cX4_init 21 = .ok (.bipush 12, 2) := by decide +kernel
theorem dX4_init_23 : decode cX4_init 23 = .ok (.newarray .int, 2) := by decide +kernel
theorem dX4_init_25 : decode cX4_init 25 = .ok (.putfield 16, 3) := by decide +kernel
theorem dX4_init_28 : decode cX4_init 28 = .ok (.aload_n 0, 1) := by decide +kernel
theorem dX4_init_29 : decode cX4_init 29 = .ok (.bipush 36, 2) := by decide +kernel
theorem dX4_init_31 : decode cX4_init 31 = .ok (.newarray .int, 2) := by decide +kernel
theorem dX4_init_33 : decode cX4_init 33 = .ok (.putfield 19, 3) := by decide +kernel
theorem dX4_init_36 : decode cX4_init 36 = .ok (.aload_n 0, 1) := by decide +kernel
theorem dX4_init_37 : decode cX4_init 37 = .ok (.sipush 3072, 3) := by decide +kernel
theorem dX4_init_40 : decode cX4_init 40 = .ok (.newarray .int, 2) := by decide +kernel
theorem dX4_init_42 : decode cX4_init 42 = .ok (.putfield 22, 3) := by decide +kernel
theorem dX4_init_45 : decode cX4_init 45 = .ok (.aload_n 0, 1) := by decide +kernel
theorem dX4_init_46 : decode cX4_init 46 = .ok (.bipush 12, 2) := by decide +kernel
theorem dX4_init_48 : decode cX4_init 48 = .ok (.newarray .int, 2) := by decide +kernel
theorem dX4_init_50 : decode cX4_init 50 = .ok (.putfield 25, 3) := by decide +kernel
theorem dX4_init_53 : decode cX4_init 53 = .ok (.aload_n 0, 1) := by decide +kernel
theorem dX4_init_54 : decode cX4_init 54 = .ok (.bipush 12, 2) := by decide +kernel
theorem dX4_init_56 : decode cX4_init 56 = .ok (.newarray .int, 2) := by decide +kernel
theorem dX4_init_58 : decode cX4_init 58 = .ok (.putfield 28, 3) := by decide +kernel
theorem dX4_init_61 : decode cX4_init 61 = .ok (.aload_n 0, 1) := by decide +kernel
theorem dX4_init_62 : decode cX4_init 62 = .ok (.bipush 48, 2) := by decide +kernel
theorem dX4_init_64 : decode cX4_init 64 = .ok (.newarray .int, 2) := by decide +kernel
theorem dX4_init_66 : decode cX4_init 66 = .ok (.putfield 31, 3) := by decide +kernel
theorem dX4_init_69 : decode cX4_init 69 = .ok (.aload_n 0, 1) := by decide +kernel
theorem dX4_init_70 : decode cX4_init 70 = .ok (.sipush 288, 3) := by decide +kernel
theorem dX4_init_73 : decode cX4_init 73 = .ok (.newarray .int, 2) := by decide +kernel
theorem dX4_init_75 : decode cX4_init 75 = .ok (.putfield 34, 3) := by decide +kernel
theorem dX4_init_78 : decode cX4_init 78 = .ok (.aload_n 0, 1) := by decide +kernel
theorem dX4_init_79 : decode cX4_init 79 = .ok (.bipush 12, 2) := by decide +kernel
theorem dX4_init_81 : decode cX4_init 81 = .ok (.newarray .boolean, 2) := by decide +kernel
theorem dX4_init_83 : decode cX4_init 83 = .ok (.putfield 37, 3) := by decide +kernel
theorem dX4_init_86 : decode cX4_init 86 = .ok (.aload_n 0, 1) := by decide +kernel
theorem dX4_init_87 : decode cX4_init 87 = .ok (.bipush 12, 2) := by decide +kernel
theorem dX4_init_89 : decode cX4_init 89 = .ok (.newarray .int, 2) := by decide +kernel
theorem dX4_init_91 : decode cX4_init 91 = .ok (.putfield 41, 3) := by decide +kernel
theorem dX4_init_94 : decode cX4_init 94 = .ok (.aload_n 0, 1) := by decide +kernel
theorem dX4_init_95 : decode cX4_init 95 = .ok (.bipush 12, 2) := by decide +kernel
theorem dX4_init_97 : decode cX4_init 97 = .ok (.newarray .int, 2) := by decide +kernel
theorem dX4_init_99 : decode cX4_init 99 = .ok (.putfield 44, 3) := by decide +kernel
theorem dX4_init_102 : decode cX4_init 102 = .ok (.aload_n 0, 1) := by decide +kernel
theorem dX4_init_103 : decode cX4_init 103 = .ok (.bipush 10, 2) := by decide +kernel
theorem dX4_init_105 : decode cX4_init 105 = .ok (.newarray .long, 2) := by decide +kernel
theorem dX4_init_107 : decode cX4_init 107 = .ok (.putfield 47, 3) := by decide +kernel
theorem dX4_init_110 : decode cX4_init 110 = .ok (.aload_n 0, 1) := by decide +kernel
theorem dX4_init_111 : decode cX4_init 111 = .ok (.bipush 120, 2) := by decide +kernel
theorem dX4_init_113 : decode cX4_init 113 = .ok (.newarray .int, 2) := by decide +kernel
theorem dX4_init_115 : decode cX4_init 115 = .ok (.putfield 51, 3) := by decide +kernel
theorem dX4_init_118 : decode cX4_init 118 = .ok (.aload_n 0, 1) := by decide +kernel
theorem dX4_init_119 : decode cX4_init 119 = .ok (.bipush 13, 2) := by decide +kernel
theorem dX4_init_121 : decode cX4_init 121 = .ok (.newarray .int, 2) := by decide +kernel
theorem dX4_init_123 : decode cX4_init 123 = .ok (.putfield 54, 3) := by decide +kernel
theorem dX4_init_126 : decode cX4_init 126 = .ok (.aload_n 0, 1) := by decide +kernel
theorem dX4_init_127 : decode cX4_init 127 = .ok (.bipush 13, 2) := by decide +kernel
theorem dX4_init_129 : decode cX4_init 129 = .ok (.newarray .int, 2) := by decide +kernel
theorem dX4_init_131 : decode cX4_init 131 = .ok (.putfield 57, 3) := by decide +kernel
theorem dX4_init_134 : decode cX4_init 134 = .ok (.aload_n 0, 1) := by decide +kernel
theorem dX4_init_135 : decode cX4_init 135 = .ok (.bipush 12, 2) := by decide +kernel
theorem dX4_init_137 : decode cX4_init 137 = .ok (.newarray .boolean, 2) := by decide +kernel
theorem dX4_init_139 : decode cX4_init 139 = .ok (.putfield 60, 3) := by decide +kernel
theorem dX4_init_142 : decode cX4_init 142 = .ok (.aload_n 0, 1) := by decide +kernel
theorem dX4_init_143 : decode cX4_init 143 = .ok (.bipush 100, 2) := by decide +kernel
theorem dX4_init_145 : decode cX4_init 145 = .ok (.newarray .int, 2) := by decide +kernel
theorem dX4_init_147 : decode cX4_init 147 = .ok (.putfield 63, 3) := by decide +kernel
theorem dX4_init_150 : decode cX4_init 150 = .ok (.aload_n 0, 1) := by decide +kernel
theorem dX4_init_151 : decode cX4_init 151 = .ok (.bipush 100, 2) := by decide +kernel
theorem dX4_init_153 : decode cX4_init 153 = .ok (.newarray .int, 2) := by decide +kernel
theorem dX4_init_155 : decode cX4_init 155 = .ok (.putfield 66, 3) := by decide +kernel
theorem dX4_init_158 : decode cX4_init 158 = .ok (.aload_n 0, 1) := by decide +kernel
theorem dX4_init_159 : decode cX4_init 159 = .ok (.bipush 100, 2) := by decide +kernel
theorem dX4_init_161 : decode cX4_init 161 = .ok (.newarray .int, 2) := by decide +kernel
theorem dX4_init_163 : decode cX4_init 163 = .ok (.putfield 69, 3) := by decide +kernel
theorem dX4_init_166 : decode cX4_init 166 = .ok (.aload_n 0, 1) := by decide +kernel
theorem dX4_init_167 : decode cX4_init 167 = .ok (.bipush 100, 2) := by decide +kernel
theorem dX4_init_169 : decode cX4_init 169 = .ok (.newarray .int, 2) := by decide +kernel
theorem dX4_init_171 : decode cX4_init 171 = .ok (.putfield 72, 3) := by decide +kernel
theorem dX4_init_174 : decode cX4_init 174 = .ok (.aload_n 0, 1) := by decide +kernel
theorem dX4_init_175 : decode cX4_init 175 = .ok (.sipush 30000, 3) := by decide +kernel
theorem dX4_init_178 : decode cX4_init 178 = .ok (.newarray .int, 2) := by decide +kernel
theorem dX4_init_180 : decode cX4_init 180 = .ok (.putfield 75, 3) := by decide +kernel
theorem dX4_init_183 : decode cX4_init 183 = .ok (.return_, 1) := by decide +kernel
def vX4_init (cI cJ cZ : ClassId) (h0 : Nat) (u : Nat → Nat) : va_W := [(h0, .inr (4, [.int 0, .int 0, .ref (u 0), .ref (u 1), .ref (u 2), .ref (u 3), .ref (u 4), .ref (u 5), .ref (u 6), .ref (u 7), .int 0, .ref (u 8), .ref (u 9), .ref (u 10), .long 0, .long 0, .long 0, .ref (u 11), .int 0, .ref (u 12), .ref (u 13), .ref (u 14), .ref (u 15), .ref (u 16), .int 0, .int 0, .ref (u 17), .ref (u 18), .ref (u 19), .ref (u 20), .ref (u 21)])), ((u 0), .inl (cI, 12, .inl (fun _ => 0))), ((u 1), .inl (cI, 12, .inl (fun _ => 0))), ((u 2), .inl (cI, 12, .inl (fun _ => 0))), ((u 3), .inl (cI, 36, .inl (fun _ => 0))), ((u 4), .inl (cI, 3072, .inl (fun _ => 0))), ((u 5), .inl (cI, 12, .inl (fun _ => 0))), ((u 6), .inl (cI, 12, .inl (fun _ => 0))), ((u 7), .inl (cI, 48, .inl (fun _ => 0))), ((u 8), .inl (cI, 288, .inl (fun _ => 0))), ((u 9), .inl (cZ, 12, .inl (fun _ => 0))), ((u 10), .inl (cI, 12, .inl (fun _ => 0))), ((u 11), .inl (cI, 12, .inl (fun _ => 0))), ((u 12), .inl (cJ, 10, .inr (.inl (fun _ => 0)))), ((u 13), .inl (cI, 120, .inl (fun _ => 0))), ((u 14), .inl (cI, 13, .inl (fun _ => 0))), ((u 15), .inl (cI, 13, .inl (fun _ => 0))), ((u 16), .inl (cZ, 12, .inl (fun _ => 0))), ((u 17), .inl (cI, 100, .inl (fun _ => 0))), ((u 18), .inl (cI, 100, .inl (fun _ => 0))), ((u 19), .inl (cI, 100, .inl (fun _ => 0))), ((u 20), .inl (cI, 100, .inl (fun _ => 0))), ((u 21), .inl (cI, 30000, .inl (fun _ => 0)))]
set_option maxRecDepth 100000 in
set_option maxHeartbeats 4000000 in
theorem gX4_init : GoodIn bw_ws (.code yX4_init cX4_init 1 none :: bw_ws) := bw_goodC (List.mem_of_getElem? (i := 567) rfl)
set_option maxHeartbeats 8000000 in
set_option maxRecDepth 100000 in
theorem iX4_init (l : Launch) (D : va_G) (cI cJ cZ : ClassId) (h0 sz : Nat) : Met l yX4_init (.code yX4_init cX4_init 1 none :: bw_ws) ({ frames := 1, cells := 22, slots := 34108, locals := 64 }) (va_Pc [.ref h0] (fun U => U.heap.size = sz ∧ va_P D vwCl [(h0, .inr (4, [.int 0, .int 0, .null, .null, .null, .null, .null, .null, .null, .null, .int 0, .null, .null, .null, .long 0, .long 0, .long 0, .null, .int 0, .null, .null, .null, .null, .null, .int 0, .int 0, .null, .null, .null, .null, .null]))] U.heap ∧ va_K D vwCl (bw_tys cI cJ cZ) U ∧ va_D (fun _ => True) [(h0, .inr (4, [.int 0, .int 0, .null, .null, .null, .null, .null, .null, .null, .null, .int 0, .null, .null, .null, .long 0, .long 0, .long 0, .null, .int 0, .null, .null, .null, .null, .null, .int 0, .int 0, .null, .null, .null, .null, .null]))] ∧ bw_Nst U)) (va_Qv (fun _ : Nat → Nat => True) (fun u t => va_P D vwCl (vX4_init cI cJ cZ h0 u) t.heap ∧ va_K D vwCl (bw_tys cI cJ cZ) t ∧ va_D (va_A [(h0, .inr (4, [.int 0, .int 0, .null, .null, .null, .null, .null, .null, .null, .null, .int 0, .null, .null, .null, .long 0, .long 0, .long 0, .null, .int 0, .null, .null, .null, .null, .null, .int 0, .int 0, .null, .null, .null, .null, .null]))] sz) (vX4_init cI cJ cZ h0 u)) (va_A [(h0, .inr (4, [.int 0, .int 0, .null, .null, .null, .null, .null, .null, .null, .null, .int 0, .null, .null, .null, .long 0, .long 0, .long 0, .null, .int 0, .null, .null, .null, .null, .null, .int 0, .int 0, .null, .null, .null, .null, .null]))] sz)) 22 34108 (va_A [(h0, .inr (4, [.int 0, .int 0, .null, .null, .null, .null, .null, .null, .null, .null, .int 0, .null, .null, .null, .long 0, .long 0, .long 0, .null, .int 0, .null, .null, .null, .null, .null, .int 0, .int 0, .null, .null, .null, .null, .null]))] sz) := by
  refine Met.ofW (cc := cX4_init) (maxL := 1) (ret := none) (by decide) rfl ?_
  intro p e s m args below meth c s₁ B hml hv
  obtain ⟨rfl, hsz, hP, hK, hD0, hN⟩ := hv
  have hx := B.exec
  have hb := B.bytes
  have hr := B.returns
  have hts := atoms_spec (ws := .code yX4_init cX4_init 1 none :: bw_ws) B.pre
  have hown : s.vm.findClass RX4 = some m.cls := findClass_of_methodNamed B.named
  have hlocks := B.notSynchronized
  have hin : meth.name = "<init>" := (name_of_methodNamed B.named B.method).1
  subst hsz
  have hD := hD0.self (sz := s.heap.size)
  generalize hAe : va_A [(h0, .inr (4, [.int 0, .int 0, .null, .null, .null, .null, .null, .null, .null, .null, .int 0, .null, .null, .null, .long 0, .long 0, .long 0, .null, .int 0, .null, .null, .null, .null, .null, .int 0, .int 0, .null, .null, .null, .null, .null]))] s.heap.size = A at hD ⊢
  have hA : ∀ q : Nat, s.heap.size ≤ q → A q := fun q h => by rw [← hAe]; exact Or.inr h
  have hS : va_S A s.heap s.heap [] := va_S.rf
  have hP : va_P D vwCl [(h0, .inr (4, [.int 0, .int 0, .null, .null, .null, .null, .null, .null, .null, .null, .int 0, .null, .null, .null, .long 0, .long 0, .long 0, .null, .int 0, .null, .null, .null, .null, .null, .int 0, .int 0, .null, .null, .null, .null, .null]))] s.heap := hP
  have hl := lv_entry ([.ref h0]) (n := 1) (Nat.le_of_ble_eq_true rfl)
  rw [lg_entry_eq]
  generalize (lg_sl ([.ref h0]) ++ List.replicate (1 - (lg_sl ([.ref h0])).length) Slot.unset).toArray = ls at hl ⊢
  have hl : lv_has ls 1 [(0, .ref h0)] := hl
  refine lv_aload_n hx hb dX4_init_0 rfl (lv_at hl 0 rfl) ?_
  refine W.objInit hx hb hown (hts (.methodLink RX4 1 objectInit) (List.mem_cons.mpr (Or.inr bwd_568))) (hts (.instanceMethod objectInit) (List.mem_cons.mpr (Or.inr bwd_53))) (hts (.code objectInit ⟨#[0xb1]⟩ 1 none) (List.mem_cons.mpr (Or.inr bwd_54))) rfl (by rw [hml]; exact hl.1) rfl dX4_init_1 (Nat.le_of_ble_eq_true rfl) (Nat.le_of_ble_eq_true rfl) ?_
  refine W.eq (g2 := F0 m 4 ls []) rfl ?_
  refine lv_aload_n hx hb dX4_init_4 rfl (lv_at hl 0 rfl) ?_
  refine lv_bipush (v := 12) hx hb dX4_init_5 (by decide) ?_
  refine va_newa (D := D) (atype := .int) (ty := .int) (N' := 12) (a0 := (12, .inl (fun _ => 0))) hx hb (hts (.arrayClass .int) (List.mem_cons.mpr (Or.inr bwd_110))) rfl hK hP hD hS hA (bw_haI 12) (by decide +kernel) (by decide +kernel) (Nat.le_of_ble_eq_true rfl) (Nat.le_of_ble_eq_true rfl) (Nat.le_of_ble_eq_true rfl) dX4_init_7 (fun n0 cA H hK2 hP hD hS => ?_)
  have ec := (bw_tyI hK2).symm
  subst ec
  have hP : va_P D vwCl [(h0, .inr (4, [.int 0, .int 0, .null, .null, .null, .null, .null, .null, .null, .null, .int 0, .null, .null, .null, .long 0, .long 0, .long 0, .null, .int 0, .null, .null, .null, .null, .null, .int 0, .int 0, .null, .null, .null, .null, .null])), (n0, .inl (cI, 12, .inl (fun _ => 0)))] H := hP
  have hD : va_D A [(h0, .inr (4, [.int 0, .int 0, .null, .null, .null, .null, .null, .null, .null, .null, .int 0, .null, .null, .null, .long 0, .long 0, .long 0, .null, .int 0, .null, .null, .null, .null, .null, .int 0, .int 0, .null, .null, .null, .null, .null])), (n0, .inl (cI, 12, .inl (fun _ => 0)))] := hD
  refine W.widen (k := 1) (n := 12) (by omega) (by omega) ?_
  refine va_putF (D := D) (ci := 4) (v := .ref n0) (ty := .array .int) (C := RX4) (T := TX4) (N := 31) (Ts := bw_ws) hx hb (fun w h => hts w (List.mem_cons.mpr (Or.inr h))) (bw_cls_ws2 4 (RX4, TX4, 31) rfl) tyX4 tyX4_ok nmX4 hown hK hP hD hS 0 rfl rfl 2 (by decide) (hts (.fieldLink RX4 7 "BeliefWebModel" "values" "[I") (List.mem_cons.mpr (Or.inr bwd_570))) (fun _ h9 => h9) rfl hin rfl (by decide +kernel) rfl rfl (Nat.le_of_ble_eq_true rfl) dX4_init_9 (fun H locs hP hD hS => ?_)
  have hP : va_P D vwCl [(h0, .inr (4, [.int 0, .int 0, .ref n0, .null, .null, .null, .null, .null, .null, .null, .int 0, .null, .null, .null, .long 0, .long 0, .long 0, .null, .int 0, .null, .null, .null, .null, .null, .int 0, .int 0, .null, .null, .null, .null, .null])), (n0, .inl (cI, 12, .inl (fun _ => 0)))] H := hP
  have hD : va_D A [(h0, .inr (4, [.int 0, .int 0, .ref n0, .null, .null, .null, .null, .null, .null, .null, .int 0, .null, .null, .null, .long 0, .long 0, .long 0, .null, .int 0, .null, .null, .null, .null, .null, .int 0, .int 0, .null, .null, .null, .null, .null])), (n0, .inl (cI, 12, .inl (fun _ => 0)))] := hD
  refine lv_aload_n hx hb dX4_init_12 rfl (lv_at hl 0 rfl) ?_
  refine lv_bipush (v := 12) hx hb dX4_init_13 (by decide) ?_
  refine va_newa (D := D) (atype := .int) (ty := .int) (N' := 12) (a0 := (12, .inl (fun _ => 0))) hx hb (hts (.arrayClass .int) (List.mem_cons.mpr (Or.inr bwd_110))) rfl hK hP hD hS hA (bw_haI 12) (by decide +kernel) (by decide +kernel) (Nat.le_of_ble_eq_true rfl) (Nat.le_of_ble_eq_true rfl) (Nat.le_of_ble_eq_true rfl) dX4_init_15 (fun n1 cA H hK2 hP hD hS => ?_)
  have ec := (bw_tyI hK2).symm
  subst ec
  have hP : va_P D vwCl [(h0, .inr (4, [.int 0, .int 0, .ref n0, .null, .null, .null, .null, .null, .null, .null, .int 0, .null, .null, .null, .long 0, .long 0, .long 0, .null, .int 0, .null, .null, .null, .null, .null, .int 0, .int 0, .null, .null, .null, .null, .null])), (n0, .inl (cI, 12, .inl (fun _ => 0))), (n1, .inl (cI, 12, .inl (fun _ => 0)))] H := hP
  have hD : va_D A [(h0, .inr (4, [.int 0, .int 0, .ref n0, .null, .null, .null, .null, .null, .null, .null, .int 0, .null, .null, .null, .long 0, .long 0, .long 0, .null, .int 0, .null, .null, .null, .null, .null, .int 0, .int 0, .null, .null, .null, .null, .null])), (n0, .inl (cI, 12, .inl (fun _ => 0))), (n1, .inl (cI, 12, .inl (fun _ => 0)))] := hD
  refine W.widen (k := 2) (n := 24) (by omega) (by omega) ?_
  refine va_putF (D := D) (ci := 4) (v := .ref n1) (ty := .array .int) (C := RX4) (T := TX4) (N := 31) (Ts := bw_ws) hx hb (fun w h => hts w (List.mem_cons.mpr (Or.inr h))) (bw_cls_ws2 4 (RX4, TX4, 31) rfl) tyX4 tyX4_ok nmX4 hown hK hP hD hS 0 rfl rfl 3 (by decide) (hts (.fieldLink RX4 13 "BeliefWebModel" "totals" "[I") (List.mem_cons.mpr (Or.inr bwd_571))) (fun _ h9 => h9) rfl hin rfl (by decide +kernel) rfl rfl (Nat.le_of_ble_eq_true rfl) dX4_init_17 (fun H locs hP hD hS => ?_)
  have hP : va_P D vwCl [(h0, .inr (4, [.int 0, .int 0, .ref n0, .ref n1, .null, .null, .null, .null, .null, .null, .int 0, .null, .null, .null, .long 0, .long 0, .long 0, .null, .int 0, .null, .null, .null, .null, .null, .int 0, .int 0, .null, .null, .null, .null, .null])), (n0, .inl (cI, 12, .inl (fun _ => 0))), (n1, .inl (cI, 12, .inl (fun _ => 0)))] H := hP
  have hD : va_D A [(h0, .inr (4, [.int 0, .int 0, .ref n0, .ref n1, .null, .null, .null, .null, .null, .null, .int 0, .null, .null, .null, .long 0, .long 0, .long 0, .null, .int 0, .null, .null, .null, .null, .null, .int 0, .int 0, .null, .null, .null, .null, .null])), (n0, .inl (cI, 12, .inl (fun _ => 0))), (n1, .inl (cI, 12, .inl (fun _ => 0)))] := hD
  refine lv_aload_n hx hb dX4_init_20 rfl (lv_at hl 0 rfl) ?_
  refine lv_bipush (v := 12) hx hb dX4_init_21 (by decide) ?_
  refine va_newa (D := D) (atype := .int) (ty := .int) (N' := 12) (a0 := (12, .inl (fun _ => 0))) hx hb (hts (.arrayClass .int) (List.mem_cons.mpr (Or.inr bwd_110))) rfl hK hP hD hS hA (bw_haI 12) (by decide +kernel) (by decide +kernel) (Nat.le_of_ble_eq_true rfl) (Nat.le_of_ble_eq_true rfl) (Nat.le_of_ble_eq_true rfl) dX4_init_23 (fun n2 cA H hK2 hP hD hS => ?_)
  have ec := (bw_tyI hK2).symm
  subst ec
  have hP : va_P D vwCl [(h0, .inr (4, [.int 0, .int 0, .ref n0, .ref n1, .null, .null, .null, .null, .null, .null, .int 0, .null, .null, .null, .long 0, .long 0, .long 0, .null, .int 0, .null, .null, .null, .null, .null, .int 0, .int 0, .null, .null, .null, .null, .null])), (n0, .inl (cI, 12, .inl (fun _ => 0))), (n1, .inl (cI, 12, .inl (fun _ => 0))), (n2, .inl (cI, 12, .inl (fun _ => 0)))] H := hP
  have hD : va_D A [(h0, .inr (4, [.int 0, .int 0, .ref n0, .ref n1, .null, .null, .null, .null, .null, .null, .int 0, .null, .null, .null, .long 0, .long 0, .long 0, .null, .int 0, .null, .null, .null, .null, .null, .int 0, .int 0, .null, .null, .null, .null, .null])), (n0, .inl (cI, 12, .inl (fun _ => 0))), (n1, .inl (cI, 12, .inl (fun _ => 0))), (n2, .inl (cI, 12, .inl (fun _ => 0)))] := hD
  refine W.widen (k := 3) (n := 36) (by omega) (by omega) ?_
  refine va_putF (D := D) (ci := 4) (v := .ref n2) (ty := .array .int) (C := RX4) (T := TX4) (N := 31) (Ts := bw_ws) hx hb (fun w h => hts w (List.mem_cons.mpr (Or.inr h))) (bw_cls_ws2 4 (RX4, TX4, 31) rfl) tyX4 tyX4_ok nmX4 hown hK hP hD hS 0 rfl rfl 4 (by decide) (hts (.fieldLink RX4 16 "BeliefWebModel" "parents" "[I") (List.mem_cons.mpr (Or.inr bwd_572))) (fun _ h9 => h9) rfl hin rfl (by decide +kernel) rfl rfl (Nat.le_of_ble_eq_true rfl) dX4_init_25 (fun H locs hP hD hS => ?_)
  have hP : va_P D vwCl [(h0, .inr (4, [.int 0, .int 0, .ref n0, .ref n1, .ref n2, .null, .null, .null, .null, .null, .int 0, .null, .null, .null, .long 0, .long 0, .long 0, .null, .int 0, .null, .null, .null, .null, .null, .int 0, .int 0, .null, .null, .null, .null, .null])), (n0, .inl (cI, 12, .inl (fun _ => 0))), (n1, .inl (cI, 12, .inl (fun _ => 0))), (n2, .inl (cI, 12, .inl (fun _ => 0)))] H := hP
  have hD : va_D A [(h0, .inr (4, [.int 0, .int 0, .ref n0, .ref n1, .ref n2, .null, .null, .null, .null, .null, .int 0, .null, .null, .null, .long 0, .long 0, .long 0, .null, .int 0, .null, .null, .null, .null, .null, .int 0, .int 0, .null, .null, .null, .null, .null])), (n0, .inl (cI, 12, .inl (fun _ => 0))), (n1, .inl (cI, 12, .inl (fun _ => 0))), (n2, .inl (cI, 12, .inl (fun _ => 0)))] := hD
  refine lv_aload_n hx hb dX4_init_28 rfl (lv_at hl 0 rfl) ?_
  refine lv_bipush (v := 36) hx hb dX4_init_29 (by decide) ?_
  refine va_newa (D := D) (atype := .int) (ty := .int) (N' := 36) (a0 := (36, .inl (fun _ => 0))) hx hb (hts (.arrayClass .int) (List.mem_cons.mpr (Or.inr bwd_110))) rfl hK hP hD hS hA (bw_haI 36) (by decide +kernel) (by decide +kernel) (Nat.le_of_ble_eq_true rfl) (Nat.le_of_ble_eq_true rfl) (Nat.le_of_ble_eq_true rfl) dX4_init_31 (fun n3 cA H hK2 hP hD hS => ?_)
  have ec := (bw_tyI hK2).symm
  subst ec
  have hP : va_P D vwCl [(h0, .inr (4, [.int 0, .int 0, .ref n0, .ref n1, .ref n2, .null, .null, .null, .null, .null, .int 0, .null, .null, .null, .long 0, .long 0, .long 0, .null, .int 0, .null, .null, .null, .null, .null, .int 0, .int 0, .null, .null, .null, .null, .null])), (n0, .inl (cI, 12, .inl (fun _ => 0))), (n1, .inl (cI, 12, .inl (fun _ => 0))), (n2, .inl (cI, 12, .inl (fun _ => 0))), (n3, .inl (cI, 36, .inl (fun _ => 0)))] H := hP
  have hD : va_D A [(h0, .inr (4, [.int 0, .int 0, .ref n0, .ref n1, .ref n2, .null, .null, .null, .null, .null, .int 0, .null, .null, .null, .long 0, .long 0, .long 0, .null, .int 0, .null, .null, .null, .null, .null, .int 0, .int 0, .null, .null, .null, .null, .null])), (n0, .inl (cI, 12, .inl (fun _ => 0))), (n1, .inl (cI, 12, .inl (fun _ => 0))), (n2, .inl (cI, 12, .inl (fun _ => 0))), (n3, .inl (cI, 36, .inl (fun _ => 0)))] := hD
  refine W.widen (k := 4) (n := 72) (by omega) (by omega) ?_
  refine va_putF (D := D) (ci := 4) (v := .ref n3) (ty := .array .int) (C := RX4) (T := TX4) (N := 31) (Ts := bw_ws) hx hb (fun w h => hts w (List.mem_cons.mpr (Or.inr h))) (bw_cls_ws2 4 (RX4, TX4, 31) rfl) tyX4 tyX4_ok nmX4 hown hK hP hD hS 0 rfl rfl 5 (by decide) (hts (.fieldLink RX4 19 "BeliefWebModel" "parent" "[I") (List.mem_cons.mpr (Or.inr bwd_573))) (fun _ h9 => h9) rfl hin rfl (by decide +kernel) rfl rfl (Nat.le_of_ble_eq_true rfl) dX4_init_33 (fun H locs hP hD hS => ?_)
  have hP : va_P D vwCl [(h0, .inr (4, [.int 0, .int 0, .ref n0, .ref n1, .ref n2, .ref n3, .null, .null, .null, .null, .int 0, .null, .null, .null, .long 0, .long 0, .long 0, .null, .int 0, .null, .null, .null, .null, .null, .int 0, .int 0, .null, .null, .null, .null, .null])), (n0, .inl (cI, 12, .inl (fun _ => 0))), (n1, .inl (cI, 12, .inl (fun _ => 0))), (n2, .inl (cI, 12, .inl (fun _ => 0))), (n3, .inl (cI, 36, .inl (fun _ => 0)))] H := hP
  have hD : va_D A [(h0, .inr (4, [.int 0, .int 0, .ref n0, .ref n1, .ref n2, .ref n3, .null, .null, .null, .null, .int 0, .null, .null, .null, .long 0, .long 0, .long 0, .null, .int 0, .null, .null, .null, .null, .null, .int 0, .int 0, .null, .null, .null, .null, .null])), (n0, .inl (cI, 12, .inl (fun _ => 0))), (n1, .inl (cI, 12, .inl (fun _ => 0))), (n2, .inl (cI, 12, .inl (fun _ => 0))), (n3, .inl (cI, 36, .inl (fun _ => 0)))] := hD
  refine lv_aload_n hx hb dX4_init_36 rfl (lv_at hl 0 rfl) ?_
  refine lv_sipush (v := 3072) hx hb dX4_init_37 (by decide) ?_
  refine va_newa (D := D) (atype := .int) (ty := .int) (N' := 3072) (a0 := (3072, .inl (fun _ => 0))) hx hb (hts (.arrayClass .int) (List.mem_cons.mpr (Or.inr bwd_110))) rfl hK hP hD hS hA (bw_haI 3072) (by decide +kernel) (by decide +kernel) (Nat.le_of_ble_eq_true rfl) (Nat.le_of_ble_eq_true rfl) (Nat.le_of_ble_eq_true rfl) dX4_init_40 (fun n4 cA H hK2 hP hD hS => ?_)
  have ec := (bw_tyI hK2).symm
  subst ec
  have hP : va_P D vwCl [(h0, .inr (4, [.int 0, .int 0, .ref n0, .ref n1, .ref n2, .ref n3, .null, .null, .null, .null, .int 0, .null, .null, .null, .long 0, .long 0, .long 0, .null, .int 0, .null, .null, .null, .null, .null, .int 0, .int 0, .null, .null, .null, .null, .null])), (n0, .inl (cI, 12, .inl (fun _ => 0))), (n1, .inl (cI, 12, .inl (fun _ => 0))), (n2, .inl (cI, 12, .inl (fun _ => 0))), (n3, .inl (cI, 36, .inl (fun _ => 0))), (n4, .inl (cI, 3072, .inl (fun _ => 0)))] H := hP
  have hD : va_D A [(h0, .inr (4, [.int 0, .int 0, .ref n0, .ref n1, .ref n2, .ref n3, .null, .null, .null, .null, .int 0, .null, .null, .null, .long 0, .long 0, .long 0, .null, .int 0, .null, .null, .null, .null, .null, .int 0, .int 0, .null, .null, .null, .null, .null])), (n0, .inl (cI, 12, .inl (fun _ => 0))), (n1, .inl (cI, 12, .inl (fun _ => 0))), (n2, .inl (cI, 12, .inl (fun _ => 0))), (n3, .inl (cI, 36, .inl (fun _ => 0))), (n4, .inl (cI, 3072, .inl (fun _ => 0)))] := hD
  refine W.widen (k := 5) (n := 3144) (by omega) (by omega) ?_
  refine va_putF (D := D) (ci := 4) (v := .ref n4) (ty := .array .int) (C := RX4) (T := TX4) (N := 31) (Ts := bw_ws) hx hb (fun w h => hts w (List.mem_cons.mpr (Or.inr h))) (bw_cls_ws2 4 (RX4, TX4, 31) rfl) tyX4 tyX4_ok nmX4 hown hK hP hD hS 0 rfl rfl 6 (by decide) (hts (.fieldLink RX4 22 "BeliefWebModel" "tables" "[I") (List.mem_cons.mpr (Or.inr bwd_574))) (fun _ h9 => h9) rfl hin rfl (by decide +kernel) rfl rfl (Nat.le_of_ble_eq_true rfl) dX4_init_42 (fun H locs hP hD hS => ?_)
  have hP : va_P D vwCl [(h0, .inr (4, [.int 0, .int 0, .ref n0, .ref n1, .ref n2, .ref n3, .ref n4, .null, .null, .null, .int 0, .null, .null, .null, .long 0, .long 0, .long 0, .null, .int 0, .null, .null, .null, .null, .null, .int 0, .int 0, .null, .null, .null, .null, .null])), (n0, .inl (cI, 12, .inl (fun _ => 0))), (n1, .inl (cI, 12, .inl (fun _ => 0))), (n2, .inl (cI, 12, .inl (fun _ => 0))), (n3, .inl (cI, 36, .inl (fun _ => 0))), (n4, .inl (cI, 3072, .inl (fun _ => 0)))] H := hP
  have hD : va_D A [(h0, .inr (4, [.int 0, .int 0, .ref n0, .ref n1, .ref n2, .ref n3, .ref n4, .null, .null, .null, .int 0, .null, .null, .null, .long 0, .long 0, .long 0, .null, .int 0, .null, .null, .null, .null, .null, .int 0, .int 0, .null, .null, .null, .null, .null])), (n0, .inl (cI, 12, .inl (fun _ => 0))), (n1, .inl (cI, 12, .inl (fun _ => 0))), (n2, .inl (cI, 12, .inl (fun _ => 0))), (n3, .inl (cI, 36, .inl (fun _ => 0))), (n4, .inl (cI, 3072, .inl (fun _ => 0)))] := hD
  refine lv_aload_n hx hb dX4_init_45 rfl (lv_at hl 0 rfl) ?_
  refine lv_bipush (v := 12) hx hb dX4_init_46 (by decide) ?_
  refine va_newa (D := D) (atype := .int) (ty := .int) (N' := 12) (a0 := (12, .inl (fun _ => 0))) hx hb (hts (.arrayClass .int) (List.mem_cons.mpr (Or.inr bwd_110))) rfl hK hP hD hS hA (bw_haI 12) (by decide +kernel) (by decide +kernel) (Nat.le_of_ble_eq_true rfl) (Nat.le_of_ble_eq_true rfl) (Nat.le_of_ble_eq_true rfl) dX4_init_48 (fun n5 cA H hK2 hP hD hS => ?_)
  have ec := (bw_tyI hK2).symm
  subst ec
  have hP : va_P D vwCl [(h0, .inr (4, [.int 0, .int 0, .ref n0, .ref n1, .ref n2, .ref n3, .ref n4, .null, .null, .null, .int 0, .null, .null, .null, .long 0, .long 0, .long 0, .null, .int 0, .null, .null, .null, .null, .null, .int 0, .int 0, .null, .null, .null, .null, .null])), (n0, .inl (cI, 12, .inl (fun _ => 0))), (n1, .inl (cI, 12, .inl (fun _ => 0))), (n2, .inl (cI, 12, .inl (fun _ => 0))), (n3, .inl (cI, 36, .inl (fun _ => 0))), (n4, .inl (cI, 3072, .inl (fun _ => 0))), (n5, .inl (cI, 12, .inl (fun _ => 0)))] H := hP
  have hD : va_D A [(h0, .inr (4, [.int 0, .int 0, .ref n0, .ref n1, .ref n2, .ref n3, .ref n4, .null, .null, .null, .int 0, .null, .null, .null, .long 0, .long 0, .long 0, .null, .int 0, .null, .null, .null, .null, .null, .int 0, .int 0, .null, .null, .null, .null, .null])), (n0, .inl (cI, 12, .inl (fun _ => 0))), (n1, .inl (cI, 12, .inl (fun _ => 0))), (n2, .inl (cI, 12, .inl (fun _ => 0))), (n3, .inl (cI, 36, .inl (fun _ => 0))), (n4, .inl (cI, 3072, .inl (fun _ => 0))), (n5, .inl (cI, 12, .inl (fun _ => 0)))] := hD
  refine W.widen (k := 6) (n := 3156) (by omega) (by omega) ?_
  refine va_putF (D := D) (ci := 4) (v := .ref n5) (ty := .array .int) (C := RX4) (T := TX4) (N := 31) (Ts := bw_ws) hx hb (fun w h => hts w (List.mem_cons.mpr (Or.inr h))) (bw_cls_ws2 4 (RX4, TX4, 31) rfl) tyX4 tyX4_ok nmX4 hown hK hP hD hS 0 rfl rfl 7 (by decide) (hts (.fieldLink RX4 25 "BeliefWebModel" "seen" "[I") (List.mem_cons.mpr (Or.inr bwd_575))) (fun _ h9 => h9) rfl hin rfl (by decide +kernel) rfl rfl (Nat.le_of_ble_eq_true rfl) dX4_init_50 (fun H locs hP hD hS => ?_)
  have hP : va_P D vwCl [(h0, .inr (4, [.int 0, .int 0, .ref n0, .ref n1, .ref n2, .ref n3, .ref n4, .ref n5, .null, .null, .int 0, .null, .null, .null, .long 0, .long 0, .long 0, .null, .int 0, .null, .null, .null, .null, .null, .int 0, .int 0, .null, .null, .null, .null, .null])), (n0, .inl (cI, 12, .inl (fun _ => 0))), (n1, .inl (cI, 12, .inl (fun _ => 0))), (n2, .inl (cI, 12, .inl (fun _ => 0))), (n3, .inl (cI, 36, .inl (fun _ => 0))), (n4, .inl (cI, 3072, .inl (fun _ => 0))), (n5, .inl (cI, 12, .inl (fun _ => 0)))] H := hP
  have hD : va_D A [(h0, .inr (4, [.int 0, .int 0, .ref n0, .ref n1, .ref n2, .ref n3, .ref n4, .ref n5, .null, .null, .int 0, .null, .null, .null, .long 0, .long 0, .long 0, .null, .int 0, .null, .null, .null, .null, .null, .int 0, .int 0, .null, .null, .null, .null, .null])), (n0, .inl (cI, 12, .inl (fun _ => 0))), (n1, .inl (cI, 12, .inl (fun _ => 0))), (n2, .inl (cI, 12, .inl (fun _ => 0))), (n3, .inl (cI, 36, .inl (fun _ => 0))), (n4, .inl (cI, 3072, .inl (fun _ => 0))), (n5, .inl (cI, 12, .inl (fun _ => 0)))] := hD
  refine lv_aload_n hx hb dX4_init_53 rfl (lv_at hl 0 rfl) ?_
  refine lv_bipush (v := 12) hx hb dX4_init_54 (by decide) ?_
  refine va_newa (D := D) (atype := .int) (ty := .int) (N' := 12) (a0 := (12, .inl (fun _ => 0))) hx hb (hts (.arrayClass .int) (List.mem_cons.mpr (Or.inr bwd_110))) rfl hK hP hD hS hA (bw_haI 12) (by decide +kernel) (by decide +kernel) (Nat.le_of_ble_eq_true rfl) (Nat.le_of_ble_eq_true rfl) (Nat.le_of_ble_eq_true rfl) dX4_init_56 (fun n6 cA H hK2 hP hD hS => ?_)
  have ec := (bw_tyI hK2).symm
  subst ec
  have hP : va_P D vwCl [(h0, .inr (4, [.int 0, .int 0, .ref n0, .ref n1, .ref n2, .ref n3, .ref n4, .ref n5, .null, .null, .int 0, .null, .null, .null, .long 0, .long 0, .long 0, .null, .int 0, .null, .null, .null, .null, .null, .int 0, .int 0, .null, .null, .null, .null, .null])), (n0, .inl (cI, 12, .inl (fun _ => 0))), (n1, .inl (cI, 12, .inl (fun _ => 0))), (n2, .inl (cI, 12, .inl (fun _ => 0))), (n3, .inl (cI, 36, .inl (fun _ => 0))), (n4, .inl (cI, 3072, .inl (fun _ => 0))), (n5, .inl (cI, 12, .inl (fun _ => 0))), (n6, .inl (cI, 12, .inl (fun _ => 0)))] H := hP
  have hD : va_D A [(h0, .inr (4, [.int 0, .int 0, .ref n0, .ref n1, .ref n2, .ref n3, .ref n4, .ref n5, .null, .null, .int 0, .null, .null, .null, .long 0, .long 0, .long 0, .null, .int 0, .null, .null, .null, .null, .null, .int 0, .int 0, .null, .null, .null, .null, .null])), (n0, .inl (cI, 12, .inl (fun _ => 0))), (n1, .inl (cI, 12, .inl (fun _ => 0))), (n2, .inl (cI, 12, .inl (fun _ => 0))), (n3, .inl (cI, 36, .inl (fun _ => 0))), (n4, .inl (cI, 3072, .inl (fun _ => 0))), (n5, .inl (cI, 12, .inl (fun _ => 0))), (n6, .inl (cI, 12, .inl (fun _ => 0)))] := hD
  refine W.widen (k := 7) (n := 3168) (by omega) (by omega) ?_
  refine va_putF (D := D) (ci := 4) (v := .ref n6) (ty := .array .int) (C := RX4) (T := TX4) (N := 31) (Ts := bw_ws) hx hb (fun w h => hts w (List.mem_cons.mpr (Or.inr h))) (bw_cls_ws2 4 (RX4, TX4, 31) rfl) tyX4 tyX4_ok nmX4 hown hK hP hD hS 0 rfl rfl 8 (by decide) (hts (.fieldLink RX4 28 "BeliefWebModel" "done" "[I") (List.mem_cons.mpr (Or.inr bwd_576))) (fun _ h9 => h9) rfl hin rfl (by decide +kernel) rfl rfl (Nat.le_of_ble_eq_true rfl) dX4_init_58 (fun H locs hP hD hS => ?_)
  have hP : va_P D vwCl [(h0, .inr (4, [.int 0, .int 0, .ref n0, .ref n1, .ref n2, .ref n3, .ref n4, .ref n5, .ref n6, .null, .int 0, .null, .null, .null, .long 0, .long 0, .long 0, .null, .int 0, .null, .null, .null, .null, .null, .int 0, .int 0, .null, .null, .null, .null, .null])), (n0, .inl (cI, 12, .inl (fun _ => 0))), (n1, .inl (cI, 12, .inl (fun _ => 0))), (n2, .inl (cI, 12, .inl (fun _ => 0))), (n3, .inl (cI, 36, .inl (fun _ => 0))), (n4, .inl (cI, 3072, .inl (fun _ => 0))), (n5, .inl (cI, 12, .inl (fun _ => 0))), (n6, .inl (cI, 12, .inl (fun _ => 0)))] H := hP
  have hD : va_D A [(h0, .inr (4, [.int 0, .int 0, .ref n0, .ref n1, .ref n2, .ref n3, .ref n4, .ref n5, .ref n6, .null, .int 0, .null, .null, .null, .long 0, .long 0, .long 0, .null, .int 0, .null, .null, .null, .null, .null, .int 0, .int 0, .null, .null, .null, .null, .null])), (n0, .inl (cI, 12, .inl (fun _ => 0))), (n1, .inl (cI, 12, .inl (fun _ => 0))), (n2, .inl (cI, 12, .inl (fun _ => 0))), (n3, .inl (cI, 36, .inl (fun _ => 0))), (n4, .inl (cI, 3072, .inl (fun _ => 0))), (n5, .inl (cI, 12, .inl (fun _ => 0))), (n6, .inl (cI, 12, .inl (fun _ => 0)))] := hD
  refine lv_aload_n hx hb dX4_init_61 rfl (lv_at hl 0 rfl) ?_
  refine lv_bipush (v := 48) hx hb dX4_init_62 (by decide) ?_
  refine va_newa (D := D) (atype := .int) (ty := .int) (N' := 48) (a0 := (48, .inl (fun _ => 0))) hx hb (hts (.arrayClass .int) (List.mem_cons.mpr (Or.inr bwd_110))) rfl hK hP hD hS hA (bw_haI 48) (by decide +kernel) (by decide +kernel) (Nat.le_of_ble_eq_true rfl) (Nat.le_of_ble_eq_true rfl) (Nat.le_of_ble_eq_true rfl) dX4_init_64 (fun n7 cA H hK2 hP hD hS => ?_)
  have ec := (bw_tyI hK2).symm
  subst ec
  have hP : va_P D vwCl [(h0, .inr (4, [.int 0, .int 0, .ref n0, .ref n1, .ref n2, .ref n3, .ref n4, .ref n5, .ref n6, .null, .int 0, .null, .null, .null, .long 0, .long 0, .long 0, .null, .int 0, .null, .null, .null, .null, .null, .int 0, .int 0, .null, .null, .null, .null, .null])), (n0, .inl (cI, 12, .inl (fun _ => 0))), (n1, .inl (cI, 12, .inl (fun _ => 0))), (n2, .inl (cI, 12, .inl (fun _ => 0))), (n3, .inl (cI, 36, .inl (fun _ => 0))), (n4, .inl (cI, 3072, .inl (fun _ => 0))), (n5, .inl (cI, 12, .inl (fun _ => 0))), (n6, .inl (cI, 12, .inl (fun _ => 0))), (n7, .inl (cI, 48, .inl (fun _ => 0)))] H := hP
  have hD : va_D A [(h0, .inr (4, [.int 0, .int 0, .ref n0, .ref n1, .ref n2, .ref n3, .ref n4, .ref n5, .ref n6, .null, .int 0, .null, .null, .null, .long 0, .long 0, .long 0, .null, .int 0, .null, .null, .null, .null, .null, .int 0, .int 0, .null, .null, .null, .null, .null])), (n0, .inl (cI, 12, .inl (fun _ => 0))), (n1, .inl (cI, 12, .inl (fun _ => 0))), (n2, .inl (cI, 12, .inl (fun _ => 0))), (n3, .inl (cI, 36, .inl (fun _ => 0))), (n4, .inl (cI, 3072, .inl (fun _ => 0))), (n5, .inl (cI, 12, .inl (fun _ => 0))), (n6, .inl (cI, 12, .inl (fun _ => 0))), (n7, .inl (cI, 48, .inl (fun _ => 0)))] := hD
  refine W.widen (k := 8) (n := 3216) (by omega) (by omega) ?_
  refine va_putF (D := D) (ci := 4) (v := .ref n7) (ty := .array .int) (C := RX4) (T := TX4) (N := 31) (Ts := bw_ws) hx hb (fun w h => hts w (List.mem_cons.mpr (Or.inr h))) (bw_cls_ws2 4 (RX4, TX4, 31) rfl) tyX4 tyX4_ok nmX4 hown hK hP hD hS 0 rfl rfl 9 (by decide) (hts (.fieldLink RX4 31 "BeliefWebModel" "forces" "[I") (List.mem_cons.mpr (Or.inr bwd_577))) (fun _ h9 => h9) rfl hin rfl (by decide +kernel) rfl rfl (Nat.le_of_ble_eq_true rfl) dX4_init_66 (fun H locs hP hD hS => ?_)
  have hP : va_P D vwCl [(h0, .inr (4, [.int 0, .int 0, .ref n0, .ref n1, .ref n2, .ref n3, .ref n4, .ref n5, .ref n6, .ref n7, .int 0, .null, .null, .null, .long 0, .long 0, .long 0, .null, .int 0, .null, .null, .null, .null, .null, .int 0, .int 0, .null, .null, .null, .null, .null])), (n0, .inl (cI, 12, .inl (fun _ => 0))), (n1, .inl (cI, 12, .inl (fun _ => 0))), (n2, .inl (cI, 12, .inl (fun _ => 0))), (n3, .inl (cI, 36, .inl (fun _ => 0))), (n4, .inl (cI, 3072, .inl (fun _ => 0))), (n5, .inl (cI, 12, .inl (fun _ => 0))), (n6, .inl (cI, 12, .inl (fun _ => 0))), (n7, .inl (cI, 48, .inl (fun _ => 0)))] H := hP
  have hD : va_D A [(h0, .inr (4, [.int 0, .int 0, .ref n0, .ref n1, .ref n2, .ref n3, .ref n4, .ref n5, .ref n6, .ref n7, .int 0, .null, .null, .null, .long 0, .long 0, .long 0, .null, .int 0, .null, .null, .null, .null, .null, .int 0, .int 0, .null, .null, .null, .null, .null])), (n0, .inl (cI, 12, .inl (fun _ => 0))), (n1, .inl (cI, 12, .inl (fun _ => 0))), (n2, .inl (cI, 12, .inl (fun _ => 0))), (n3, .inl (cI, 36, .inl (fun _ => 0))), (n4, .inl (cI, 3072, .inl (fun _ => 0))), (n5, .inl (cI, 12, .inl (fun _ => 0))), (n6, .inl (cI, 12, .inl (fun _ => 0))), (n7, .inl (cI, 48, .inl (fun _ => 0)))] := hD
  refine lv_aload_n hx hb dX4_init_69 rfl (lv_at hl 0 rfl) ?_
  refine lv_sipush (v := 288) hx hb dX4_init_70 (by decide) ?_
  refine va_newa (D := D) (atype := .int) (ty := .int) (N' := 288) (a0 := (288, .inl (fun _ => 0))) hx hb (hts (.arrayClass .int) (List.mem_cons.mpr (Or.inr bwd_110))) rfl hK hP hD hS hA (bw_haI 288) (by decide +kernel) (by decide +kernel) (Nat.le_of_ble_eq_true rfl) (Nat.le_of_ble_eq_true rfl) (Nat.le_of_ble_eq_true rfl) dX4_init_73 (fun n8 cA H hK2 hP hD hS => ?_)
  have ec := (bw_tyI hK2).symm
  subst ec
  have hP : va_P D vwCl [(h0, .inr (4, [.int 0, .int 0, .ref n0, .ref n1, .ref n2, .ref n3, .ref n4, .ref n5, .ref n6, .ref n7, .int 0, .null, .null, .null, .long 0, .long 0, .long 0, .null, .int 0, .null, .null, .null, .null, .null, .int 0, .int 0, .null, .null, .null, .null, .null])), (n0, .inl (cI, 12, .inl (fun _ => 0))), (n1, .inl (cI, 12, .inl (fun _ => 0))), (n2, .inl (cI, 12, .inl (fun _ => 0))), (n3, .inl (cI, 36, .inl (fun _ => 0))), (n4, .inl (cI, 3072, .inl (fun _ => 0))), (n5, .inl (cI, 12, .inl (fun _ => 0))), (n6, .inl (cI, 12, .inl (fun _ => 0))), (n7, .inl (cI, 48, .inl (fun _ => 0))), (n8, .inl (cI, 288, .inl (fun _ => 0)))] H := hP
  have hD : va_D A [(h0, .inr (4, [.int 0, .int 0, .ref n0, .ref n1, .ref n2, .ref n3, .ref n4, .ref n5, .ref n6, .ref n7, .int 0, .null, .null, .null, .long 0, .long 0, .long 0, .null, .int 0, .null, .null, .null, .null, .null, .int 0, .int 0, .null, .null, .null, .null, .null])), (n0, .inl (cI, 12, .inl (fun _ => 0))), (n1, .inl (cI, 12, .inl (fun _ => 0))), (n2, .inl (cI, 12, .inl (fun _ => 0))), (n3, .inl (cI, 36, .inl (fun _ => 0))), (n4, .inl (cI, 3072, .inl (fun _ => 0))), (n5, .inl (cI, 12, .inl (fun _ => 0))), (n6, .inl (cI, 12, .inl (fun _ => 0))), (n7, .inl (cI, 48, .inl (fun _ => 0))), (n8, .inl (cI, 288, .inl (fun _ => 0)))] := hD
  refine W.widen (k := 9) (n := 3504) (by omega) (by omega) ?_
  refine va_putF (D := D) (ci := 4) (v := .ref n8) (ty := .array .int) (C := RX4) (T := TX4) (N := 31) (Ts := bw_ws) hx hb (fun w h => hts w (List.mem_cons.mpr (Or.inr h))) (bw_cls_ws2 4 (RX4, TX4, 31) rfl) tyX4 tyX4_ok nmX4 hown hK hP hD hS 0 rfl rfl 11 (by decide) (hts (.fieldLink RX4 34 "BeliefWebModel" "worths" "[I") (List.mem_cons.mpr (Or.inr bwd_579))) (fun _ h9 => h9) rfl hin rfl (by decide +kernel) rfl rfl (Nat.le_of_ble_eq_true rfl) dX4_init_75 (fun H locs hP hD hS => ?_)
  have hP : va_P D vwCl [(h0, .inr (4, [.int 0, .int 0, .ref n0, .ref n1, .ref n2, .ref n3, .ref n4, .ref n5, .ref n6, .ref n7, .int 0, .ref n8, .null, .null, .long 0, .long 0, .long 0, .null, .int 0, .null, .null, .null, .null, .null, .int 0, .int 0, .null, .null, .null, .null, .null])), (n0, .inl (cI, 12, .inl (fun _ => 0))), (n1, .inl (cI, 12, .inl (fun _ => 0))), (n2, .inl (cI, 12, .inl (fun _ => 0))), (n3, .inl (cI, 36, .inl (fun _ => 0))), (n4, .inl (cI, 3072, .inl (fun _ => 0))), (n5, .inl (cI, 12, .inl (fun _ => 0))), (n6, .inl (cI, 12, .inl (fun _ => 0))), (n7, .inl (cI, 48, .inl (fun _ => 0))), (n8, .inl (cI, 288, .inl (fun _ => 0)))] H := hP
  have hD : va_D A [(h0, .inr (4, [.int 0, .int 0, .ref n0, .ref n1, .ref n2, .ref n3, .ref n4, .ref n5, .ref n6, .ref n7, .int 0, .ref n8, .null, .null, .long 0, .long 0, .long 0, .null, .int 0, .null, .null, .null, .null, .null, .int 0, .int 0, .null, .null, .null, .null, .null])), (n0, .inl (cI, 12, .inl (fun _ => 0))), (n1, .inl (cI, 12, .inl (fun _ => 0))), (n2, .inl (cI, 12, .inl (fun _ => 0))), (n3, .inl (cI, 36, .inl (fun _ => 0))), (n4, .inl (cI, 3072, .inl (fun _ => 0))), (n5, .inl (cI, 12, .inl (fun _ => 0))), (n6, .inl (cI, 12, .inl (fun _ => 0))), (n7, .inl (cI, 48, .inl (fun _ => 0))), (n8, .inl (cI, 288, .inl (fun _ => 0)))] := hD
  refine lv_aload_n hx hb dX4_init_78 rfl (lv_at hl 0 rfl) ?_
  refine lv_bipush (v := 12) hx hb dX4_init_79 (by decide) ?_
  refine va_newa (D := D) (atype := .boolean) (ty := .boolean) (N' := 12) (a0 := (12, .inl (fun _ => 0))) hx hb (hts (.arrayClass .boolean) (List.mem_cons.mpr (Or.inr bwd_662))) rfl hK hP hD hS hA (bw_haZ 12) (by decide +kernel) (by decide +kernel) (Nat.le_of_ble_eq_true rfl) (Nat.le_of_ble_eq_true rfl) (Nat.le_of_ble_eq_true rfl) dX4_init_81 (fun n9 cA H hK2 hP hD hS => ?_)
  have ec := (bw_tyZ hK2).symm
  subst ec
  have hP : va_P D vwCl [(h0, .inr (4, [.int 0, .int 0, .ref n0, .ref n1, .ref n2, .ref n3, .ref n4, .ref n5, .ref n6, .ref n7, .int 0, .ref n8, .null, .null, .long 0, .long 0, .long 0, .null, .int 0, .null, .null, .null, .null, .null, .int 0, .int 0, .null, .null, .null, .null, .null])), (n0, .inl (cI, 12, .inl (fun _ => 0))), (n1, .inl (cI, 12, .inl (fun _ => 0))), (n2, .inl (cI, 12, .inl (fun _ => 0))), (n3, .inl (cI, 36, .inl (fun _ => 0))), (n4, .inl (cI, 3072, .inl (fun _ => 0))), (n5, .inl (cI, 12, .inl (fun _ => 0))), (n6, .inl (cI, 12, .inl (fun _ => 0))), (n7, .inl (cI, 48, .inl (fun _ => 0))), (n8, .inl (cI, 288, .inl (fun _ => 0))), (n9, .inl (cZ, 12, .inl (fun _ => 0)))] H := hP
  have hD : va_D A [(h0, .inr (4, [.int 0, .int 0, .ref n0, .ref n1, .ref n2, .ref n3, .ref n4, .ref n5, .ref n6, .ref n7, .int 0, .ref n8, .null, .null, .long 0, .long 0, .long 0, .null, .int 0, .null, .null, .null, .null, .null, .int 0, .int 0, .null, .null, .null, .null, .null])), (n0, .inl (cI, 12, .inl (fun _ => 0))), (n1, .inl (cI, 12, .inl (fun _ => 0))), (n2, .inl (cI, 12, .inl (fun _ => 0))), (n3, .inl (cI, 36, .inl (fun _ => 0))), (n4, .inl (cI, 3072, .inl (fun _ => 0))), (n5, .inl (cI, 12, .inl (fun _ => 0))), (n6, .inl (cI, 12, .inl (fun _ => 0))), (n7, .inl (cI, 48, .inl (fun _ => 0))), (n8, .inl (cI, 288, .inl (fun _ => 0))), (n9, .inl (cZ, 12, .inl (fun _ => 0)))] := hD
  refine W.widen (k := 10) (n := 3516) (by omega) (by omega) ?_
  refine va_putF (D := D) (ci := 4) (v := .ref n9) (ty := .array .boolean) (C := RX4) (T := TX4) (N := 31) (Ts := bw_ws) hx hb (fun w h => hts w (List.mem_cons.mpr (Or.inr h))) (bw_cls_ws2 4 (RX4, TX4, 31) rfl) tyX4 tyX4_ok nmX4 hown hK hP hD hS 0 rfl rfl 12 (by decide) (hts (.fieldLink RX4 37 "BeliefWebModel" "reached" "[Z") (List.mem_cons.mpr (Or.inr bwd_580))) (fun _ h9 => h9) rfl hin rfl (by decide +kernel) rfl rfl (Nat.le_of_ble_eq_true rfl) dX4_init_83 (fun H locs hP hD hS => ?_)
  have hP : va_P D vwCl [(h0, .inr (4, [.int 0, .int 0, .ref n0, .ref n1, .ref n2, .ref n3, .ref n4, .ref n5, .ref n6, .ref n7, .int 0, .ref n8, .ref n9, .null, .long 0, .long 0, .long 0, .null, .int 0, .null, .null, .null, .null, .null, .int 0, .int 0, .null, .null, .null, .null, .null])), (n0, .inl (cI, 12, .inl (fun _ => 0))), (n1, .inl (cI, 12, .inl (fun _ => 0))), (n2, .inl (cI, 12, .inl (fun _ => 0))), (n3, .inl (cI, 36, .inl (fun _ => 0))), (n4, .inl (cI, 3072, .inl (fun _ => 0))), (n5, .inl (cI, 12, .inl (fun _ => 0))), (n6, .inl (cI, 12, .inl (fun _ => 0))), (n7, .inl (cI, 48, .inl (fun _ => 0))), (n8, .inl (cI, 288, .inl (fun _ => 0))), (n9, .inl (cZ, 12, .inl (fun _ => 0)))] H := hP
  have hD : va_D A [(h0, .inr (4, [.int 0, .int 0, .ref n0, .ref n1, .ref n2, .ref n3, .ref n4, .ref n5, .ref n6, .ref n7, .int 0, .ref n8, .ref n9, .null, .long 0, .long 0, .long 0, .null, .int 0, .null, .null, .null, .null, .null, .int 0, .int 0, .null, .null, .null, .null, .null])), (n0, .inl (cI, 12, .inl (fun _ => 0))), (n1, .inl (cI, 12, .inl (fun _ => 0))), (n2, .inl (cI, 12, .inl (fun _ => 0))), (n3, .inl (cI, 36, .inl (fun _ => 0))), (n4, .inl (cI, 3072, .inl (fun _ => 0))), (n5, .inl (cI, 12, .inl (fun _ => 0))), (n6, .inl (cI, 12, .inl (fun _ => 0))), (n7, .inl (cI, 48, .inl (fun _ => 0))), (n8, .inl (cI, 288, .inl (fun _ => 0))), (n9, .inl (cZ, 12, .inl (fun _ => 0)))] := hD
  refine lv_aload_n hx hb dX4_init_86 rfl (lv_at hl 0 rfl) ?_
  refine lv_bipush (v := 12) hx hb dX4_init_87 (by decide) ?_
  refine va_newa (D := D) (atype := .int) (ty := .int) (N' := 12) (a0 := (12, .inl (fun _ => 0))) hx hb (hts (.arrayClass .int) (List.mem_cons.mpr (Or.inr bwd_110))) rfl hK hP hD hS hA (bw_haI 12) (by decide +kernel) (by decide +kernel) (Nat.le_of_ble_eq_true rfl) (Nat.le_of_ble_eq_true rfl) (Nat.le_of_ble_eq_true rfl) dX4_init_89 (fun n10 cA H hK2 hP hD hS => ?_)
  have ec := (bw_tyI hK2).symm
  subst ec
  have hP : va_P D vwCl [(h0, .inr (4, [.int 0, .int 0, .ref n0, .ref n1, .ref n2, .ref n3, .ref n4, .ref n5, .ref n6, .ref n7, .int 0, .ref n8, .ref n9, .null, .long 0, .long 0, .long 0, .null, .int 0, .null, .null, .null, .null, .null, .int 0, .int 0, .null, .null, .null, .null, .null])), (n0, .inl (cI, 12, .inl (fun _ => 0))), (n1, .inl (cI, 12, .inl (fun _ => 0))), (n2, .inl (cI, 12, .inl (fun _ => 0))), (n3, .inl (cI, 36, .inl (fun _ => 0))), (n4, .inl (cI, 3072, .inl (fun _ => 0))), (n5, .inl (cI, 12, .inl (fun _ => 0))), (n6, .inl (cI, 12, .inl (fun _ => 0))), (n7, .inl (cI, 48, .inl (fun _ => 0))), (n8, .inl (cI, 288, .inl (fun _ => 0))), (n9, .inl (cZ, 12, .inl (fun _ => 0))), (n10, .inl (cI, 12, .inl (fun _ => 0)))] H := hP
  have hD : va_D A [(h0, .inr (4, [.int 0, .int 0, .ref n0, .ref n1, .ref n2, .ref n3, .ref n4, .ref n5, .ref n6, .ref n7, .int 0, .ref n8, .ref n9, .null, .long 0, .long 0, .long 0, .null, .int 0, .null, .null, .null, .null, .null, .int 0, .int 0, .null, .null, .null, .null, .null])), (n0, .inl (cI, 12, .inl (fun _ => 0))), (n1, .inl (cI, 12, .inl (fun _ => 0))), (n2, .inl (cI, 12, .inl (fun _ => 0))), (n3, .inl (cI, 36, .inl (fun _ => 0))), (n4, .inl (cI, 3072, .inl (fun _ => 0))), (n5, .inl (cI, 12, .inl (fun _ => 0))), (n6, .inl (cI, 12, .inl (fun _ => 0))), (n7, .inl (cI, 48, .inl (fun _ => 0))), (n8, .inl (cI, 288, .inl (fun _ => 0))), (n9, .inl (cZ, 12, .inl (fun _ => 0))), (n10, .inl (cI, 12, .inl (fun _ => 0)))] := hD
  refine W.widen (k := 11) (n := 3528) (by omega) (by omega) ?_
  refine va_putF (D := D) (ci := 4) (v := .ref n10) (ty := .array .int) (C := RX4) (T := TX4) (N := 31) (Ts := bw_ws) hx hb (fun w h => hts w (List.mem_cons.mpr (Or.inr h))) (bw_cls_ws2 4 (RX4, TX4, 31) rfl) tyX4 tyX4_ok nmX4 hown hK hP hD hS 0 rfl rfl 13 (by decide) (hts (.fieldLink RX4 41 "BeliefWebModel" "whole" "[I") (List.mem_cons.mpr (Or.inr bwd_581))) (fun _ h9 => h9) rfl hin rfl (by decide +kernel) rfl rfl (Nat.le_of_ble_eq_true rfl) dX4_init_91 (fun H locs hP hD hS => ?_)
  have hP : va_P D vwCl [(h0, .inr (4, [.int 0, .int 0, .ref n0, .ref n1, .ref n2, .ref n3, .ref n4, .ref n5, .ref n6, .ref n7, .int 0, .ref n8, .ref n9, .ref n10, .long 0, .long 0, .long 0, .null, .int 0, .null, .null, .null, .null, .null, .int 0, .int 0, .null, .null, .null, .null, .null])), (n0, .inl (cI, 12, .inl (fun _ => 0))), (n1, .inl (cI, 12, .inl (fun _ => 0))), (n2, .inl (cI, 12, .inl (fun _ => 0))), (n3, .inl (cI, 36, .inl (fun _ => 0))), (n4, .inl (cI, 3072, .inl (fun _ => 0))), (n5, .inl (cI, 12, .inl (fun _ => 0))), (n6, .inl (cI, 12, .inl (fun _ => 0))), (n7, .inl (cI, 48, .inl (fun _ => 0))), (n8, .inl (cI, 288, .inl (fun _ => 0))), (n9, .inl (cZ, 12, .inl (fun _ => 0))), (n10, .inl (cI, 12, .inl (fun _ => 0)))] H := hP
  have hD : va_D A [(h0, .inr (4, [.int 0, .int 0, .ref n0, .ref n1, .ref n2, .ref n3, .ref n4, .ref n5, .ref n6, .ref n7, .int 0, .ref n8, .ref n9, .ref n10, .long 0, .long 0, .long 0, .null, .int 0, .null, .null, .null, .null, .null, .int 0, .int 0, .null, .null, .null, .null, .null])), (n0, .inl (cI, 12, .inl (fun _ => 0))), (n1, .inl (cI, 12, .inl (fun _ => 0))), (n2, .inl (cI, 12, .inl (fun _ => 0))), (n3, .inl (cI, 36, .inl (fun _ => 0))), (n4, .inl (cI, 3072, .inl (fun _ => 0))), (n5, .inl (cI, 12, .inl (fun _ => 0))), (n6, .inl (cI, 12, .inl (fun _ => 0))), (n7, .inl (cI, 48, .inl (fun _ => 0))), (n8, .inl (cI, 288, .inl (fun _ => 0))), (n9, .inl (cZ, 12, .inl (fun _ => 0))), (n10, .inl (cI, 12, .inl (fun _ => 0)))] := hD
  refine lv_aload_n hx hb dX4_init_94 rfl (lv_at hl 0 rfl) ?_
  refine lv_bipush (v := 12) hx hb dX4_init_95 (by decide) ?_
  refine va_newa (D := D) (atype := .int) (ty := .int) (N' := 12) (a0 := (12, .inl (fun _ => 0))) hx hb (hts (.arrayClass .int) (List.mem_cons.mpr (Or.inr bwd_110))) rfl hK hP hD hS hA (bw_haI 12) (by decide +kernel) (by decide +kernel) (Nat.le_of_ble_eq_true rfl) (Nat.le_of_ble_eq_true rfl) (Nat.le_of_ble_eq_true rfl) dX4_init_97 (fun n11 cA H hK2 hP hD hS => ?_)
  have ec := (bw_tyI hK2).symm
  subst ec
  have hP : va_P D vwCl [(h0, .inr (4, [.int 0, .int 0, .ref n0, .ref n1, .ref n2, .ref n3, .ref n4, .ref n5, .ref n6, .ref n7, .int 0, .ref n8, .ref n9, .ref n10, .long 0, .long 0, .long 0, .null, .int 0, .null, .null, .null, .null, .null, .int 0, .int 0, .null, .null, .null, .null, .null])), (n0, .inl (cI, 12, .inl (fun _ => 0))), (n1, .inl (cI, 12, .inl (fun _ => 0))), (n2, .inl (cI, 12, .inl (fun _ => 0))), (n3, .inl (cI, 36, .inl (fun _ => 0))), (n4, .inl (cI, 3072, .inl (fun _ => 0))), (n5, .inl (cI, 12, .inl (fun _ => 0))), (n6, .inl (cI, 12, .inl (fun _ => 0))), (n7, .inl (cI, 48, .inl (fun _ => 0))), (n8, .inl (cI, 288, .inl (fun _ => 0))), (n9, .inl (cZ, 12, .inl (fun _ => 0))), (n10, .inl (cI, 12, .inl (fun _ => 0))), (n11, .inl (cI, 12, .inl (fun _ => 0)))] H := hP
  have hD : va_D A [(h0, .inr (4, [.int 0, .int 0, .ref n0, .ref n1, .ref n2, .ref n3, .ref n4, .ref n5, .ref n6, .ref n7, .int 0, .ref n8, .ref n9, .ref n10, .long 0, .long 0, .long 0, .null, .int 0, .null, .null, .null, .null, .null, .int 0, .int 0, .null, .null, .null, .null, .null])), (n0, .inl (cI, 12, .inl (fun _ => 0))), (n1, .inl (cI, 12, .inl (fun _ => 0))), (n2, .inl (cI, 12, .inl (fun _ => 0))), (n3, .inl (cI, 36, .inl (fun _ => 0))), (n4, .inl (cI, 3072, .inl (fun _ => 0))), (n5, .inl (cI, 12, .inl (fun _ => 0))), (n6, .inl (cI, 12, .inl (fun _ => 0))), (n7, .inl (cI, 48, .inl (fun _ => 0))), (n8, .inl (cI, 288, .inl (fun _ => 0))), (n9, .inl (cZ, 12, .inl (fun _ => 0))), (n10, .inl (cI, 12, .inl (fun _ => 0))), (n11, .inl (cI, 12, .inl (fun _ => 0)))] := hD
  refine W.widen (k := 12) (n := 3540) (by omega) (by omega) ?_
  refine va_putF (D := D) (ci := 4) (v := .ref n11) (ty := .array .int) (C := RX4) (T := TX4) (N := 31) (Ts := bw_ws) hx hb (fun w h => hts w (List.mem_cons.mpr (Or.inr h))) (bw_cls_ws2 4 (RX4, TX4, 31) rfl) tyX4 tyX4_ok nmX4 hown hK hP hD hS 0 rfl rfl 17 (by decide) (hts (.fieldLink RX4 44 "BeliefWebModel" "shown" "[I") (List.mem_cons.mpr (Or.inr bwd_585))) (fun _ h9 => h9) rfl hin rfl (by decide +kernel) rfl rfl (Nat.le_of_ble_eq_true rfl) dX4_init_99 (fun H locs hP hD hS => ?_)
  have hP : va_P D vwCl [(h0, .inr (4, [.int 0, .int 0, .ref n0, .ref n1, .ref n2, .ref n3, .ref n4, .ref n5, .ref n6, .ref n7, .int 0, .ref n8, .ref n9, .ref n10, .long 0, .long 0, .long 0, .ref n11, .int 0, .null, .null, .null, .null, .null, .int 0, .int 0, .null, .null, .null, .null, .null])), (n0, .inl (cI, 12, .inl (fun _ => 0))), (n1, .inl (cI, 12, .inl (fun _ => 0))), (n2, .inl (cI, 12, .inl (fun _ => 0))), (n3, .inl (cI, 36, .inl (fun _ => 0))), (n4, .inl (cI, 3072, .inl (fun _ => 0))), (n5, .inl (cI, 12, .inl (fun _ => 0))), (n6, .inl (cI, 12, .inl (fun _ => 0))), (n7, .inl (cI, 48, .inl (fun _ => 0))), (n8, .inl (cI, 288, .inl (fun _ => 0))), (n9, .inl (cZ, 12, .inl (fun _ => 0))), (n10, .inl (cI, 12, .inl (fun _ => 0))), (n11, .inl (cI, 12, .inl (fun _ => 0)))] H := hP
  have hD : va_D A [(h0, .inr (4, [.int 0, .int 0, .ref n0, .ref n1, .ref n2, .ref n3, .ref n4, .ref n5, .ref n6, .ref n7, .int 0, .ref n8, .ref n9, .ref n10, .long 0, .long 0, .long 0, .ref n11, .int 0, .null, .null, .null, .null, .null, .int 0, .int 0, .null, .null, .null, .null, .null])), (n0, .inl (cI, 12, .inl (fun _ => 0))), (n1, .inl (cI, 12, .inl (fun _ => 0))), (n2, .inl (cI, 12, .inl (fun _ => 0))), (n3, .inl (cI, 36, .inl (fun _ => 0))), (n4, .inl (cI, 3072, .inl (fun _ => 0))), (n5, .inl (cI, 12, .inl (fun _ => 0))), (n6, .inl (cI, 12, .inl (fun _ => 0))), (n7, .inl (cI, 48, .inl (fun _ => 0))), (n8, .inl (cI, 288, .inl (fun _ => 0))), (n9, .inl (cZ, 12, .inl (fun _ => 0))), (n10, .inl (cI, 12, .inl (fun _ => 0))), (n11, .inl (cI, 12, .inl (fun _ => 0)))] := hD
  refine lv_aload_n hx hb dX4_init_102 rfl (lv_at hl 0 rfl) ?_
  refine lv_bipush (v := 10) hx hb dX4_init_103 (by decide) ?_
  refine va_newa (D := D) (atype := .long) (ty := .long) (N' := 10) (a0 := (10, .inr (.inl (fun _ => 0)))) hx hb (hts (.arrayClass .long) (List.mem_cons.mpr (Or.inr bwd_179))) rfl hK hP hD hS hA (bw_haJ 10) (by decide +kernel) (by decide +kernel) (Nat.le_of_ble_eq_true rfl) (Nat.le_of_ble_eq_true rfl) (Nat.le_of_ble_eq_true rfl) dX4_init_105 (fun n12 cA H hK2 hP hD hS => ?_)
  have ec := (bw_tyJ hK2).symm
  subst ec
  have hP : va_P D vwCl [(h0, .inr (4, [.int 0, .int 0, .ref n0, .ref n1, .ref n2, .ref n3, .ref n4, .ref n5, .ref n6, .ref n7, .int 0, .ref n8, .ref n9, .ref n10, .long 0, .long 0, .long 0, .ref n11, .int 0, .null, .null, .null, .null, .null, .int 0, .int 0, .null, .null, .null, .null, .null])), (n0, .inl (cI, 12, .inl (fun _ => 0))), (n1, .inl (cI, 12, .inl (fun _ => 0))), (n2, .inl (cI, 12, .inl (fun _ => 0))), (n3, .inl (cI, 36, .inl (fun _ => 0))), (n4, .inl (cI, 3072, .inl (fun _ => 0))), (n5, .inl (cI, 12, .inl (fun _ => 0))), (n6, .inl (cI, 12, .inl (fun _ => 0))), (n7, .inl (cI, 48, .inl (fun _ => 0))), (n8, .inl (cI, 288, .inl (fun _ => 0))), (n9, .inl (cZ, 12, .inl (fun _ => 0))), (n10, .inl (cI, 12, .inl (fun _ => 0))), (n11, .inl (cI, 12, .inl (fun _ => 0))), (n12, .inl (cJ, 10, .inr (.inl (fun _ => 0))))] H := hP
  have hD : va_D A [(h0, .inr (4, [.int 0, .int 0, .ref n0, .ref n1, .ref n2, .ref n3, .ref n4, .ref n5, .ref n6, .ref n7, .int 0, .ref n8, .ref n9, .ref n10, .long 0, .long 0, .long 0, .ref n11, .int 0, .null, .null, .null, .null, .null, .int 0, .int 0, .null, .null, .null, .null, .null])), (n0, .inl (cI, 12, .inl (fun _ => 0))), (n1, .inl (cI, 12, .inl (fun _ => 0))), (n2, .inl (cI, 12, .inl (fun _ => 0))), (n3, .inl (cI, 36, .inl (fun _ => 0))), (n4, .inl (cI, 3072, .inl (fun _ => 0))), (n5, .inl (cI, 12, .inl (fun _ => 0))), (n6, .inl (cI, 12, .inl (fun _ => 0))), (n7, .inl (cI, 48, .inl (fun _ => 0))), (n8, .inl (cI, 288, .inl (fun _ => 0))), (n9, .inl (cZ, 12, .inl (fun _ => 0))), (n10, .inl (cI, 12, .inl (fun _ => 0))), (n11, .inl (cI, 12, .inl (fun _ => 0))), (n12, .inl (cJ, 10, .inr (.inl (fun _ => 0))))] := hD
  refine W.widen (k := 13) (n := 3550) (by omega) (by omega) ?_
  refine va_putF (D := D) (ci := 4) (v := .ref n12) (ty := .array .long) (C := RX4) (T := TX4) (N := 31) (Ts := bw_ws) hx hb (fun w h => hts w (List.mem_cons.mpr (Or.inr h))) (bw_cls_ws2 4 (RX4, TX4, 31) rfl) tyX4 tyX4_ok nmX4 hown hK hP hD hS 0 rfl rfl 19 (by decide) (hts (.fieldLink RX4 47 "BeliefWebModel" "bestLikelihood" "[J") (List.mem_cons.mpr (Or.inr bwd_587))) (fun _ h9 => h9) rfl hin rfl (by decide +kernel) rfl rfl (Nat.le_of_ble_eq_true rfl) dX4_init_107 (fun H locs hP hD hS => ?_)
  have hP : va_P D vwCl [(h0, .inr (4, [.int 0, .int 0, .ref n0, .ref n1, .ref n2, .ref n3, .ref n4, .ref n5, .ref n6, .ref n7, .int 0, .ref n8, .ref n9, .ref n10, .long 0, .long 0, .long 0, .ref n11, .int 0, .ref n12, .null, .null, .null, .null, .int 0, .int 0, .null, .null, .null, .null, .null])), (n0, .inl (cI, 12, .inl (fun _ => 0))), (n1, .inl (cI, 12, .inl (fun _ => 0))), (n2, .inl (cI, 12, .inl (fun _ => 0))), (n3, .inl (cI, 36, .inl (fun _ => 0))), (n4, .inl (cI, 3072, .inl (fun _ => 0))), (n5, .inl (cI, 12, .inl (fun _ => 0))), (n6, .inl (cI, 12, .inl (fun _ => 0))), (n7, .inl (cI, 48, .inl (fun _ => 0))), (n8, .inl (cI, 288, .inl (fun _ => 0))), (n9, .inl (cZ, 12, .inl (fun _ => 0))), (n10, .inl (cI, 12, .inl (fun _ => 0))), (n11, .inl (cI, 12, .inl (fun _ => 0))), (n12, .inl (cJ, 10, .inr (.inl (fun _ => 0))))] H := hP
  have hD : va_D A [(h0, .inr (4, [.int 0, .int 0, .ref n0, .ref n1, .ref n2, .ref n3, .ref n4, .ref n5, .ref n6, .ref n7, .int 0, .ref n8, .ref n9, .ref n10, .long 0, .long 0, .long 0, .ref n11, .int 0, .ref n12, .null, .null, .null, .null, .int 0, .int 0, .null, .null, .null, .null, .null])), (n0, .inl (cI, 12, .inl (fun _ => 0))), (n1, .inl (cI, 12, .inl (fun _ => 0))), (n2, .inl (cI, 12, .inl (fun _ => 0))), (n3, .inl (cI, 36, .inl (fun _ => 0))), (n4, .inl (cI, 3072, .inl (fun _ => 0))), (n5, .inl (cI, 12, .inl (fun _ => 0))), (n6, .inl (cI, 12, .inl (fun _ => 0))), (n7, .inl (cI, 48, .inl (fun _ => 0))), (n8, .inl (cI, 288, .inl (fun _ => 0))), (n9, .inl (cZ, 12, .inl (fun _ => 0))), (n10, .inl (cI, 12, .inl (fun _ => 0))), (n11, .inl (cI, 12, .inl (fun _ => 0))), (n12, .inl (cJ, 10, .inr (.inl (fun _ => 0))))] := hD
  refine lv_aload_n hx hb dX4_init_110 rfl (lv_at hl 0 rfl) ?_
  refine lv_bipush (v := 120) hx hb dX4_init_111 (by decide) ?_
  refine va_newa (D := D) (atype := .int) (ty := .int) (N' := 120) (a0 := (120, .inl (fun _ => 0))) hx hb (hts (.arrayClass .int) (List.mem_cons.mpr (Or.inr bwd_110))) rfl hK hP hD hS hA (bw_haI 120) (by decide +kernel) (by decide +kernel) (Nat.le_of_ble_eq_true rfl) (Nat.le_of_ble_eq_true rfl) (Nat.le_of_ble_eq_true rfl) dX4_init_113 (fun n13 cA H hK2 hP hD hS => ?_)
  have ec := (bw_tyI hK2).symm
  subst ec
  have hP : va_P D vwCl [(h0, .inr (4, [.int 0, .int 0, .ref n0, .ref n1, .ref n2, .ref n3, .ref n4, .ref n5, .ref n6, .ref n7, .int 0, .ref n8, .ref n9, .ref n10, .long 0, .long 0, .long 0, .ref n11, .int 0, .ref n12, .null, .null, .null, .null, .int 0, .int 0, .null, .null, .null, .null, .null])), (n0, .inl (cI, 12, .inl (fun _ => 0))), (n1, .inl (cI, 12, .inl (fun _ => 0))), (n2, .inl (cI, 12, .inl (fun _ => 0))), (n3, .inl (cI, 36, .inl (fun _ => 0))), (n4, .inl (cI, 3072, .inl (fun _ => 0))), (n5, .inl (cI, 12, .inl (fun _ => 0))), (n6, .inl (cI, 12, .inl (fun _ => 0))), (n7, .inl (cI, 48, .inl (fun _ => 0))), (n8, .inl (cI, 288, .inl (fun _ => 0))), (n9, .inl (cZ, 12, .inl (fun _ => 0))), (n10, .inl (cI, 12, .inl (fun _ => 0))), (n11, .inl (cI, 12, .inl (fun _ => 0))), (n12, .inl (cJ, 10, .inr (.inl (fun _ => 0)))), (n13, .inl (cI, 120, .inl (fun _ => 0)))] H := hP
  have hD : va_D A [(h0, .inr (4, [.int 0, .int 0, .ref n0, .ref n1, .ref n2, .ref n3, .ref n4, .ref n5, .ref n6, .ref n7, .int 0, .ref n8, .ref n9, .ref n10, .long 0, .long 0, .long 0, .ref n11, .int 0, .ref n12, .null, .null, .null, .null, .int 0, .int 0, .null, .null, .null, .null, .null])), (n0, .inl (cI, 12, .inl (fun _ => 0))), (n1, .inl (cI, 12, .inl (fun _ => 0))), (n2, .inl (cI, 12, .inl (fun _ => 0))), (n3, .inl (cI, 36, .inl (fun _ => 0))), (n4, .inl (cI, 3072, .inl (fun _ => 0))), (n5, .inl (cI, 12, .inl (fun _ => 0))), (n6, .inl (cI, 12, .inl (fun _ => 0))), (n7, .inl (cI, 48, .inl (fun _ => 0))), (n8, .inl (cI, 288, .inl (fun _ => 0))), (n9, .inl (cZ, 12, .inl (fun _ => 0))), (n10, .inl (cI, 12, .inl (fun _ => 0))), (n11, .inl (cI, 12, .inl (fun _ => 0))), (n12, .inl (cJ, 10, .inr (.inl (fun _ => 0)))), (n13, .inl (cI, 120, .inl (fun _ => 0)))] := hD
  refine W.widen (k := 14) (n := 3670) (by omega) (by omega) ?_
  refine va_putF (D := D) (ci := 4) (v := .ref n13) (ty := .array .int) (C := RX4) (T := TX4) (N := 31) (Ts := bw_ws) hx hb (fun w h => hts w (List.mem_cons.mpr (Or.inr h))) (bw_cls_ws2 4 (RX4, TX4, 31) rfl) tyX4 tyX4_ok nmX4 hown hK hP hD hS 0 rfl rfl 20 (by decide) (hts (.fieldLink RX4 51 "BeliefWebModel" "bestWhole" "[I") (List.mem_cons.mpr (Or.inr bwd_588))) (fun _ h9 => h9) rfl hin rfl (by decide +kernel) rfl rfl (Nat.le_of_ble_eq_true rfl) dX4_init_115 (fun H locs hP hD hS => ?_)
  have hP : va_P D vwCl [(h0, .inr (4, [.int 0, .int 0, .ref n0, .ref n1, .ref n2, .ref n3, .ref n4, .ref n5, .ref n6, .ref n7, .int 0, .ref n8, .ref n9, .ref n10, .long 0, .long 0, .long 0, .ref n11, .int 0, .ref n12, .ref n13, .null, .null, .null, .int 0, .int 0, .null, .null, .null, .null, .null])), (n0, .inl (cI, 12, .inl (fun _ => 0))), (n1, .inl (cI, 12, .inl (fun _ => 0))), (n2, .inl (cI, 12, .inl (fun _ => 0))), (n3, .inl (cI, 36, .inl (fun _ => 0))), (n4, .inl (cI, 3072, .inl (fun _ => 0))), (n5, .inl (cI, 12, .inl (fun _ => 0))), (n6, .inl (cI, 12, .inl (fun _ => 0))), (n7, .inl (cI, 48, .inl (fun _ => 0))), (n8, .inl (cI, 288, .inl (fun _ => 0))), (n9, .inl (cZ, 12, .inl (fun _ => 0))), (n10, .inl (cI, 12, .inl (fun _ => 0))), (n11, .inl (cI, 12, .inl (fun _ => 0))), (n12, .inl (cJ, 10, .inr (.inl (fun _ => 0)))), (n13, .inl (cI, 120, .inl (fun _ => 0)))] H := hP
  have hD : va_D A [(h0, .inr (4, [.int 0, .int 0, .ref n0, .ref n1, .ref n2, .ref n3, .ref n4, .ref n5, .ref n6, .ref n7, .int 0, .ref n8, .ref n9, .ref n10, .long 0, .long 0, .long 0, .ref n11, .int 0, .ref n12, .ref n13, .null, .null, .null, .int 0, .int 0, .null, .null, .null, .null, .null])), (n0, .inl (cI, 12, .inl (fun _ => 0))), (n1, .inl (cI, 12, .inl (fun _ => 0))), (n2, .inl (cI, 12, .inl (fun _ => 0))), (n3, .inl (cI, 36, .inl (fun _ => 0))), (n4, .inl (cI, 3072, .inl (fun _ => 0))), (n5, .inl (cI, 12, .inl (fun _ => 0))), (n6, .inl (cI, 12, .inl (fun _ => 0))), (n7, .inl (cI, 48, .inl (fun _ => 0))), (n8, .inl (cI, 288, .inl (fun _ => 0))), (n9, .inl (cZ, 12, .inl (fun _ => 0))), (n10, .inl (cI, 12, .inl (fun _ => 0))), (n11, .inl (cI, 12, .inl (fun _ => 0))), (n12, .inl (cJ, 10, .inr (.inl (fun _ => 0)))), (n13, .inl (cI, 120, .inl (fun _ => 0)))] := hD
  refine lv_aload_n hx hb dX4_init_118 rfl (lv_at hl 0 rfl) ?_
  refine lv_bipush (v := 13) hx hb dX4_init_119 (by decide) ?_
  refine va_newa (D := D) (atype := .int) (ty := .int) (N' := 13) (a0 := (13, .inl (fun _ => 0))) hx hb (hts (.arrayClass .int) (List.mem_cons.mpr (Or.inr bwd_110))) rfl hK hP hD hS hA (bw_haI 13) (by decide +kernel) (by decide +kernel) (Nat.le_of_ble_eq_true rfl) (Nat.le_of_ble_eq_true rfl) (Nat.le_of_ble_eq_true rfl) dX4_init_121 (fun n14 cA H hK2 hP hD hS => ?_)
  have ec := (bw_tyI hK2).symm
  subst ec
  have hP : va_P D vwCl [(h0, .inr (4, [.int 0, .int 0, .ref n0, .ref n1, .ref n2, .ref n3, .ref n4, .ref n5, .ref n6, .ref n7, .int 0, .ref n8, .ref n9, .ref n10, .long 0, .long 0, .long 0, .ref n11, .int 0, .ref n12, .ref n13, .null, .null, .null, .int 0, .int 0, .null, .null, .null, .null, .null])), (n0, .inl (cI, 12, .inl (fun _ => 0))), (n1, .inl (cI, 12, .inl (fun _ => 0))), (n2, .inl (cI, 12, .inl (fun _ => 0))), (n3, .inl (cI, 36, .inl (fun _ => 0))), (n4, .inl (cI, 3072, .inl (fun _ => 0))), (n5, .inl (cI, 12, .inl (fun _ => 0))), (n6, .inl (cI, 12, .inl (fun _ => 0))), (n7, .inl (cI, 48, .inl (fun _ => 0))), (n8, .inl (cI, 288, .inl (fun _ => 0))), (n9, .inl (cZ, 12, .inl (fun _ => 0))), (n10, .inl (cI, 12, .inl (fun _ => 0))), (n11, .inl (cI, 12, .inl (fun _ => 0))), (n12, .inl (cJ, 10, .inr (.inl (fun _ => 0)))), (n13, .inl (cI, 120, .inl (fun _ => 0))), (n14, .inl (cI, 13, .inl (fun _ => 0)))] H := hP
  have hD : va_D A [(h0, .inr (4, [.int 0, .int 0, .ref n0, .ref n1, .ref n2, .ref n3, .ref n4, .ref n5, .ref n6, .ref n7, .int 0, .ref n8, .ref n9, .ref n10, .long 0, .long 0, .long 0, .ref n11, .int 0, .ref n12, .ref n13, .null, .null, .null, .int 0, .int 0, .null, .null, .null, .null, .null])), (n0, .inl (cI, 12, .inl (fun _ => 0))), (n1, .inl (cI, 12, .inl (fun _ => 0))), (n2, .inl (cI, 12, .inl (fun _ => 0))), (n3, .inl (cI, 36, .inl (fun _ => 0))), (n4, .inl (cI, 3072, .inl (fun _ => 0))), (n5, .inl (cI, 12, .inl (fun _ => 0))), (n6, .inl (cI, 12, .inl (fun _ => 0))), (n7, .inl (cI, 48, .inl (fun _ => 0))), (n8, .inl (cI, 288, .inl (fun _ => 0))), (n9, .inl (cZ, 12, .inl (fun _ => 0))), (n10, .inl (cI, 12, .inl (fun _ => 0))), (n11, .inl (cI, 12, .inl (fun _ => 0))), (n12, .inl (cJ, 10, .inr (.inl (fun _ => 0)))), (n13, .inl (cI, 120, .inl (fun _ => 0))), (n14, .inl (cI, 13, .inl (fun _ => 0)))] := hD
  refine W.widen (k := 15) (n := 3683) (by omega) (by omega) ?_
  refine va_putF (D := D) (ci := 4) (v := .ref n14) (ty := .array .int) (C := RX4) (T := TX4) (N := 31) (Ts := bw_ws) hx hb (fun w h => hts w (List.mem_cons.mpr (Or.inr h))) (bw_cls_ws2 4 (RX4, TX4, 31) rfl) tyX4 tyX4_ok nmX4 hown hK hP hD hS 0 rfl rfl 21 (by decide) (hts (.fieldLink RX4 54 "BeliefWebModel" "road" "[I") (List.mem_cons.mpr (Or.inr bwd_589))) (fun _ h9 => h9) rfl hin rfl (by decide +kernel) rfl rfl (Nat.le_of_ble_eq_true rfl) dX4_init_123 (fun H locs hP hD hS => ?_)
  have hP : va_P D vwCl [(h0, .inr (4, [.int 0, .int 0, .ref n0, .ref n1, .ref n2, .ref n3, .ref n4, .ref n5, .ref n6, .ref n7, .int 0, .ref n8, .ref n9, .ref n10, .long 0, .long 0, .long 0, .ref n11, .int 0, .ref n12, .ref n13, .ref n14, .null, .null, .int 0, .int 0, .null, .null, .null, .null, .null])), (n0, .inl (cI, 12, .inl (fun _ => 0))), (n1, .inl (cI, 12, .inl (fun _ => 0))), (n2, .inl (cI, 12, .inl (fun _ => 0))), (n3, .inl (cI, 36, .inl (fun _ => 0))), (n4, .inl (cI, 3072, .inl (fun _ => 0))), (n5, .inl (cI, 12, .inl (fun _ => 0))), (n6, .inl (cI, 12, .inl (fun _ => 0))), (n7, .inl (cI, 48, .inl (fun _ => 0))), (n8, .inl (cI, 288, .inl (fun _ => 0))), (n9, .inl (cZ, 12, .inl (fun _ => 0))), (n10, .inl (cI, 12, .inl (fun _ => 0))), (n11, .inl (cI, 12, .inl (fun _ => 0))), (n12, .inl (cJ, 10, .inr (.inl (fun _ => 0)))), (n13, .inl (cI, 120, .inl (fun _ => 0))), (n14, .inl (cI, 13, .inl (fun _ => 0)))] H := hP
  have hD : va_D A [(h0, .inr (4, [.int 0, .int 0, .ref n0, .ref n1, .ref n2, .ref n3, .ref n4, .ref n5, .ref n6, .ref n7, .int 0, .ref n8, .ref n9, .ref n10, .long 0, .long 0, .long 0, .ref n11, .int 0, .ref n12, .ref n13, .ref n14, .null, .null, .int 0, .int 0, .null, .null, .null, .null, .null])), (n0, .inl (cI, 12, .inl (fun _ => 0))), (n1, .inl (cI, 12, .inl (fun _ => 0))), (n2, .inl (cI, 12, .inl (fun _ => 0))), (n3, .inl (cI, 36, .inl (fun _ => 0))), (n4, .inl (cI, 3072, .inl (fun _ => 0))), (n5, .inl (cI, 12, .inl (fun _ => 0))), (n6, .inl (cI, 12, .inl (fun _ => 0))), (n7, .inl (cI, 48, .inl (fun _ => 0))), (n8, .inl (cI, 288, .inl (fun _ => 0))), (n9, .inl (cZ, 12, .inl (fun _ => 0))), (n10, .inl (cI, 12, .inl (fun _ => 0))), (n11, .inl (cI, 12, .inl (fun _ => 0))), (n12, .inl (cJ, 10, .inr (.inl (fun _ => 0)))), (n13, .inl (cI, 120, .inl (fun _ => 0))), (n14, .inl (cI, 13, .inl (fun _ => 0)))] := hD
  refine lv_aload_n hx hb dX4_init_126 rfl (lv_at hl 0 rfl) ?_
  refine lv_bipush (v := 13) hx hb dX4_init_127 (by decide) ?_
  refine va_newa (D := D) (atype := .int) (ty := .int) (N' := 13) (a0 := (13, .inl (fun _ => 0))) hx hb (hts (.arrayClass .int) (List.mem_cons.mpr (Or.inr bwd_110))) rfl hK hP hD hS hA (bw_haI 13) (by decide +kernel) (by decide +kernel) (Nat.le_of_ble_eq_true rfl) (Nat.le_of_ble_eq_true rfl) (Nat.le_of_ble_eq_true rfl) dX4_init_129 (fun n15 cA H hK2 hP hD hS => ?_)
  have ec := (bw_tyI hK2).symm
  subst ec
  have hP : va_P D vwCl [(h0, .inr (4, [.int 0, .int 0, .ref n0, .ref n1, .ref n2, .ref n3, .ref n4, .ref n5, .ref n6, .ref n7, .int 0, .ref n8, .ref n9, .ref n10, .long 0, .long 0, .long 0, .ref n11, .int 0, .ref n12, .ref n13, .ref n14, .null, .null, .int 0, .int 0, .null, .null, .null, .null, .null])), (n0, .inl (cI, 12, .inl (fun _ => 0))), (n1, .inl (cI, 12, .inl (fun _ => 0))), (n2, .inl (cI, 12, .inl (fun _ => 0))), (n3, .inl (cI, 36, .inl (fun _ => 0))), (n4, .inl (cI, 3072, .inl (fun _ => 0))), (n5, .inl (cI, 12, .inl (fun _ => 0))), (n6, .inl (cI, 12, .inl (fun _ => 0))), (n7, .inl (cI, 48, .inl (fun _ => 0))), (n8, .inl (cI, 288, .inl (fun _ => 0))), (n9, .inl (cZ, 12, .inl (fun _ => 0))), (n10, .inl (cI, 12, .inl (fun _ => 0))), (n11, .inl (cI, 12, .inl (fun _ => 0))), (n12, .inl (cJ, 10, .inr (.inl (fun _ => 0)))), (n13, .inl (cI, 120, .inl (fun _ => 0))), (n14, .inl (cI, 13, .inl (fun _ => 0))), (n15, .inl (cI, 13, .inl (fun _ => 0)))] H := hP
  have hD : va_D A [(h0, .inr (4, [.int 0, .int 0, .ref n0, .ref n1, .ref n2, .ref n3, .ref n4, .ref n5, .ref n6, .ref n7, .int 0, .ref n8, .ref n9, .ref n10, .long 0, .long 0, .long 0, .ref n11, .int 0, .ref n12, .ref n13, .ref n14, .null, .null, .int 0, .int 0, .null, .null, .null, .null, .null])), (n0, .inl (cI, 12, .inl (fun _ => 0))), (n1, .inl (cI, 12, .inl (fun _ => 0))), (n2, .inl (cI, 12, .inl (fun _ => 0))), (n3, .inl (cI, 36, .inl (fun _ => 0))), (n4, .inl (cI, 3072, .inl (fun _ => 0))), (n5, .inl (cI, 12, .inl (fun _ => 0))), (n6, .inl (cI, 12, .inl (fun _ => 0))), (n7, .inl (cI, 48, .inl (fun _ => 0))), (n8, .inl (cI, 288, .inl (fun _ => 0))), (n9, .inl (cZ, 12, .inl (fun _ => 0))), (n10, .inl (cI, 12, .inl (fun _ => 0))), (n11, .inl (cI, 12, .inl (fun _ => 0))), (n12, .inl (cJ, 10, .inr (.inl (fun _ => 0)))), (n13, .inl (cI, 120, .inl (fun _ => 0))), (n14, .inl (cI, 13, .inl (fun _ => 0))), (n15, .inl (cI, 13, .inl (fun _ => 0)))] := hD
  refine W.widen (k := 16) (n := 3696) (by omega) (by omega) ?_
  refine va_putF (D := D) (ci := 4) (v := .ref n15) (ty := .array .int) (C := RX4) (T := TX4) (N := 31) (Ts := bw_ws) hx hb (fun w h => hts w (List.mem_cons.mpr (Or.inr h))) (bw_cls_ws2 4 (RX4, TX4, 31) rfl) tyX4 tyX4_ok nmX4 hown hK hP hD hS 0 rfl rfl 22 (by decide) (hts (.fieldLink RX4 57 "BeliefWebModel" "tried" "[I") (List.mem_cons.mpr (Or.inr bwd_590))) (fun _ h9 => h9) rfl hin rfl (by decide +kernel) rfl rfl (Nat.le_of_ble_eq_true rfl) dX4_init_131 (fun H locs hP hD hS => ?_)
  have hP : va_P D vwCl [(h0, .inr (4, [.int 0, .int 0, .ref n0, .ref n1, .ref n2, .ref n3, .ref n4, .ref n5, .ref n6, .ref n7, .int 0, .ref n8, .ref n9, .ref n10, .long 0, .long 0, .long 0, .ref n11, .int 0, .ref n12, .ref n13, .ref n14, .ref n15, .null, .int 0, .int 0, .null, .null, .null, .null, .null])), (n0, .inl (cI, 12, .inl (fun _ => 0))), (n1, .inl (cI, 12, .inl (fun _ => 0))), (n2, .inl (cI, 12, .inl (fun _ => 0))), (n3, .inl (cI, 36, .inl (fun _ => 0))), (n4, .inl (cI, 3072, .inl (fun _ => 0))), (n5, .inl (cI, 12, .inl (fun _ => 0))), (n6, .inl (cI, 12, .inl (fun _ => 0))), (n7, .inl (cI, 48, .inl (fun _ => 0))), (n8, .inl (cI, 288, .inl (fun _ => 0))), (n9, .inl (cZ, 12, .inl (fun _ => 0))), (n10, .inl (cI, 12, .inl (fun _ => 0))), (n11, .inl (cI, 12, .inl (fun _ => 0))), (n12, .inl (cJ, 10, .inr (.inl (fun _ => 0)))), (n13, .inl (cI, 120, .inl (fun _ => 0))), (n14, .inl (cI, 13, .inl (fun _ => 0))), (n15, .inl (cI, 13, .inl (fun _ => 0)))] H := hP
  have hD : va_D A [(h0, .inr (4, [.int 0, .int 0, .ref n0, .ref n1, .ref n2, .ref n3, .ref n4, .ref n5, .ref n6, .ref n7, .int 0, .ref n8, .ref n9, .ref n10, .long 0, .long 0, .long 0, .ref n11, .int 0, .ref n12, .ref n13, .ref n14, .ref n15, .null, .int 0, .int 0, .null, .null, .null, .null, .null])), (n0, .inl (cI, 12, .inl (fun _ => 0))), (n1, .inl (cI, 12, .inl (fun _ => 0))), (n2, .inl (cI, 12, .inl (fun _ => 0))), (n3, .inl (cI, 36, .inl (fun _ => 0))), (n4, .inl (cI, 3072, .inl (fun _ => 0))), (n5, .inl (cI, 12, .inl (fun _ => 0))), (n6, .inl (cI, 12, .inl (fun _ => 0))), (n7, .inl (cI, 48, .inl (fun _ => 0))), (n8, .inl (cI, 288, .inl (fun _ => 0))), (n9, .inl (cZ, 12, .inl (fun _ => 0))), (n10, .inl (cI, 12, .inl (fun _ => 0))), (n11, .inl (cI, 12, .inl (fun _ => 0))), (n12, .inl (cJ, 10, .inr (.inl (fun _ => 0)))), (n13, .inl (cI, 120, .inl (fun _ => 0))), (n14, .inl (cI, 13, .inl (fun _ => 0))), (n15, .inl (cI, 13, .inl (fun _ => 0)))] := hD
  refine lv_aload_n hx hb dX4_init_134 rfl (lv_at hl 0 rfl) ?_
  refine lv_bipush (v := 12) hx hb dX4_init_135 (by decide) ?_
  refine va_newa (D := D) (atype := .boolean) (ty := .boolean) (N' := 12) (a0 := (12, .inl (fun _ => 0))) hx hb (hts (.arrayClass .boolean) (List.mem_cons.mpr (Or.inr bwd_662))) rfl hK hP hD hS hA (bw_haZ 12) (by decide +kernel) (by decide +kernel) (Nat.le_of_ble_eq_true rfl) (Nat.le_of_ble_eq_true rfl) (Nat.le_of_ble_eq_true rfl) dX4_init_137 (fun n16 cA H hK2 hP hD hS => ?_)
  have ec := (bw_tyZ hK2).symm
  subst ec
  have hP : va_P D vwCl [(h0, .inr (4, [.int 0, .int 0, .ref n0, .ref n1, .ref n2, .ref n3, .ref n4, .ref n5, .ref n6, .ref n7, .int 0, .ref n8, .ref n9, .ref n10, .long 0, .long 0, .long 0, .ref n11, .int 0, .ref n12, .ref n13, .ref n14, .ref n15, .null, .int 0, .int 0, .null, .null, .null, .null, .null])), (n0, .inl (cI, 12, .inl (fun _ => 0))), (n1, .inl (cI, 12, .inl (fun _ => 0))), (n2, .inl (cI, 12, .inl (fun _ => 0))), (n3, .inl (cI, 36, .inl (fun _ => 0))), (n4, .inl (cI, 3072, .inl (fun _ => 0))), (n5, .inl (cI, 12, .inl (fun _ => 0))), (n6, .inl (cI, 12, .inl (fun _ => 0))), (n7, .inl (cI, 48, .inl (fun _ => 0))), (n8, .inl (cI, 288, .inl (fun _ => 0))), (n9, .inl (cZ, 12, .inl (fun _ => 0))), (n10, .inl (cI, 12, .inl (fun _ => 0))), (n11, .inl (cI, 12, .inl (fun _ => 0))), (n12, .inl (cJ, 10, .inr (.inl (fun _ => 0)))), (n13, .inl (cI, 120, .inl (fun _ => 0))), (n14, .inl (cI, 13, .inl (fun _ => 0))), (n15, .inl (cI, 13, .inl (fun _ => 0))), (n16, .inl (cZ, 12, .inl (fun _ => 0)))] H := hP
  have hD : va_D A [(h0, .inr (4, [.int 0, .int 0, .ref n0, .ref n1, .ref n2, .ref n3, .ref n4, .ref n5, .ref n6, .ref n7, .int 0, .ref n8, .ref n9, .ref n10, .long 0, .long 0, .long 0, .ref n11, .int 0, .ref n12, .ref n13, .ref n14, .ref n15, .null, .int 0, .int 0, .null, .null, .null, .null, .null])), (n0, .inl (cI, 12, .inl (fun _ => 0))), (n1, .inl (cI, 12, .inl (fun _ => 0))), (n2, .inl (cI, 12, .inl (fun _ => 0))), (n3, .inl (cI, 36, .inl (fun _ => 0))), (n4, .inl (cI, 3072, .inl (fun _ => 0))), (n5, .inl (cI, 12, .inl (fun _ => 0))), (n6, .inl (cI, 12, .inl (fun _ => 0))), (n7, .inl (cI, 48, .inl (fun _ => 0))), (n8, .inl (cI, 288, .inl (fun _ => 0))), (n9, .inl (cZ, 12, .inl (fun _ => 0))), (n10, .inl (cI, 12, .inl (fun _ => 0))), (n11, .inl (cI, 12, .inl (fun _ => 0))), (n12, .inl (cJ, 10, .inr (.inl (fun _ => 0)))), (n13, .inl (cI, 120, .inl (fun _ => 0))), (n14, .inl (cI, 13, .inl (fun _ => 0))), (n15, .inl (cI, 13, .inl (fun _ => 0))), (n16, .inl (cZ, 12, .inl (fun _ => 0)))] := hD
  refine W.widen (k := 17) (n := 3708) (by omega) (by omega) ?_
  refine va_putF (D := D) (ci := 4) (v := .ref n16) (ty := .array .boolean) (C := RX4) (T := TX4) (N := 31) (Ts := bw_ws) hx hb (fun w h => hts w (List.mem_cons.mpr (Or.inr h))) (bw_cls_ws2 4 (RX4, TX4, 31) rfl) tyX4 tyX4_ok nmX4 hown hK hP hD hS 0 rfl rfl 23 (by decide) (hts (.fieldLink RX4 60 "BeliefWebModel" "on" "[Z") (List.mem_cons.mpr (Or.inr bwd_591))) (fun _ h9 => h9) rfl hin rfl (by decide +kernel) rfl rfl (Nat.le_of_ble_eq_true rfl) dX4_init_139 (fun H locs hP hD hS => ?_)
  have hP : va_P D vwCl [(h0, .inr (4, [.int 0, .int 0, .ref n0, .ref n1, .ref n2, .ref n3, .ref n4, .ref n5, .ref n6, .ref n7, .int 0, .ref n8, .ref n9, .ref n10, .long 0, .long 0, .long 0, .ref n11, .int 0, .ref n12, .ref n13, .ref n14, .ref n15, .ref n16, .int 0, .int 0, .null, .null, .null, .null, .null])), (n0, .inl (cI, 12, .inl (fun _ => 0))), (n1, .inl (cI, 12, .inl (fun _ => 0))), (n2, .inl (cI, 12, .inl (fun _ => 0))), (n3, .inl (cI, 36, .inl (fun _ => 0))), (n4, .inl (cI, 3072, .inl (fun _ => 0))), (n5, .inl (cI, 12, .inl (fun _ => 0))), (n6, .inl (cI, 12, .inl (fun _ => 0))), (n7, .inl (cI, 48, .inl (fun _ => 0))), (n8, .inl (cI, 288, .inl (fun _ => 0))), (n9, .inl (cZ, 12, .inl (fun _ => 0))), (n10, .inl (cI, 12, .inl (fun _ => 0))), (n11, .inl (cI, 12, .inl (fun _ => 0))), (n12, .inl (cJ, 10, .inr (.inl (fun _ => 0)))), (n13, .inl (cI, 120, .inl (fun _ => 0))), (n14, .inl (cI, 13, .inl (fun _ => 0))), (n15, .inl (cI, 13, .inl (fun _ => 0))), (n16, .inl (cZ, 12, .inl (fun _ => 0)))] H := hP
  have hD : va_D A [(h0, .inr (4, [.int 0, .int 0, .ref n0, .ref n1, .ref n2, .ref n3, .ref n4, .ref n5, .ref n6, .ref n7, .int 0, .ref n8, .ref n9, .ref n10, .long 0, .long 0, .long 0, .ref n11, .int 0, .ref n12, .ref n13, .ref n14, .ref n15, .ref n16, .int 0, .int 0, .null, .null, .null, .null, .null])), (n0, .inl (cI, 12, .inl (fun _ => 0))), (n1, .inl (cI, 12, .inl (fun _ => 0))), (n2, .inl (cI, 12, .inl (fun _ => 0))), (n3, .inl (cI, 36, .inl (fun _ => 0))), (n4, .inl (cI, 3072, .inl (fun _ => 0))), (n5, .inl (cI, 12, .inl (fun _ => 0))), (n6, .inl (cI, 12, .inl (fun _ => 0))), (n7, .inl (cI, 48, .inl (fun _ => 0))), (n8, .inl (cI, 288, .inl (fun _ => 0))), (n9, .inl (cZ, 12, .inl (fun _ => 0))), (n10, .inl (cI, 12, .inl (fun _ => 0))), (n11, .inl (cI, 12, .inl (fun _ => 0))), (n12, .inl (cJ, 10, .inr (.inl (fun _ => 0)))), (n13, .inl (cI, 120, .inl (fun _ => 0))), (n14, .inl (cI, 13, .inl (fun _ => 0))), (n15, .inl (cI, 13, .inl (fun _ => 0))), (n16, .inl (cZ, 12, .inl (fun _ => 0)))] := hD
  refine lv_aload_n hx hb dX4_init_142 rfl (lv_at hl 0 rfl) ?_
  refine lv_bipush (v := 100) hx hb dX4_init_143 (by decide) ?_
  refine va_newa (D := D) (atype := .int) (ty := .int) (N' := 100) (a0 := (100, .inl (fun _ => 0))) hx hb (hts (.arrayClass .int) (List.mem_cons.mpr (Or.inr bwd_110))) rfl hK hP hD hS hA (bw_haI 100) (by decide +kernel) (by decide +kernel) (Nat.le_of_ble_eq_true rfl) (Nat.le_of_ble_eq_true rfl) (Nat.le_of_ble_eq_true rfl) dX4_init_145 (fun n17 cA H hK2 hP hD hS => ?_)
  have ec := (bw_tyI hK2).symm
  subst ec
  have hP : va_P D vwCl [(h0, .inr (4, [.int 0, .int 0, .ref n0, .ref n1, .ref n2, .ref n3, .ref n4, .ref n5, .ref n6, .ref n7, .int 0, .ref n8, .ref n9, .ref n10, .long 0, .long 0, .long 0, .ref n11, .int 0, .ref n12, .ref n13, .ref n14, .ref n15, .ref n16, .int 0, .int 0, .null, .null, .null, .null, .null])), (n0, .inl (cI, 12, .inl (fun _ => 0))), (n1, .inl (cI, 12, .inl (fun _ => 0))), (n2, .inl (cI, 12, .inl (fun _ => 0))), (n3, .inl (cI, 36, .inl (fun _ => 0))), (n4, .inl (cI, 3072, .inl (fun _ => 0))), (n5, .inl (cI, 12, .inl (fun _ => 0))), (n6, .inl (cI, 12, .inl (fun _ => 0))), (n7, .inl (cI, 48, .inl (fun _ => 0))), (n8, .inl (cI, 288, .inl (fun _ => 0))), (n9, .inl (cZ, 12, .inl (fun _ => 0))), (n10, .inl (cI, 12, .inl (fun _ => 0))), (n11, .inl (cI, 12, .inl (fun _ => 0))), (n12, .inl (cJ, 10, .inr (.inl (fun _ => 0)))), (n13, .inl (cI, 120, .inl (fun _ => 0))), (n14, .inl (cI, 13, .inl (fun _ => 0))), (n15, .inl (cI, 13, .inl (fun _ => 0))), (n16, .inl (cZ, 12, .inl (fun _ => 0))), (n17, .inl (cI, 100, .inl (fun _ => 0)))] H := hP
  have hD : va_D A [(h0, .inr (4, [.int 0, .int 0, .ref n0, .ref n1, .ref n2, .ref n3, .ref n4, .ref n5, .ref n6, .ref n7, .int 0, .ref n8, .ref n9, .ref n10, .long 0, .long 0, .long 0, .ref n11, .int 0, .ref n12, .ref n13, .ref n14, .ref n15, .ref n16, .int 0, .int 0, .null, .null, .null, .null, .null])), (n0, .inl (cI, 12, .inl (fun _ => 0))), (n1, .inl (cI, 12, .inl (fun _ => 0))), (n2, .inl (cI, 12, .inl (fun _ => 0))), (n3, .inl (cI, 36, .inl (fun _ => 0))), (n4, .inl (cI, 3072, .inl (fun _ => 0))), (n5, .inl (cI, 12, .inl (fun _ => 0))), (n6, .inl (cI, 12, .inl (fun _ => 0))), (n7, .inl (cI, 48, .inl (fun _ => 0))), (n8, .inl (cI, 288, .inl (fun _ => 0))), (n9, .inl (cZ, 12, .inl (fun _ => 0))), (n10, .inl (cI, 12, .inl (fun _ => 0))), (n11, .inl (cI, 12, .inl (fun _ => 0))), (n12, .inl (cJ, 10, .inr (.inl (fun _ => 0)))), (n13, .inl (cI, 120, .inl (fun _ => 0))), (n14, .inl (cI, 13, .inl (fun _ => 0))), (n15, .inl (cI, 13, .inl (fun _ => 0))), (n16, .inl (cZ, 12, .inl (fun _ => 0))), (n17, .inl (cI, 100, .inl (fun _ => 0)))] := hD
  refine W.widen (k := 18) (n := 3808) (by omega) (by omega) ?_
  refine va_putF (D := D) (ci := 4) (v := .ref n17) (ty := .array .int) (C := RX4) (T := TX4) (N := 31) (Ts := bw_ws) hx hb (fun w h => hts w (List.mem_cons.mpr (Or.inr h))) (bw_cls_ws2 4 (RX4, TX4, 31) rfl) tyX4 tyX4_ok nmX4 hown hK hP hD hS 0 rfl rfl 26 (by decide) (hts (.fieldLink RX4 63 "BeliefWebModel" "actKind" "[I") (List.mem_cons.mpr (Or.inr bwd_594))) (fun _ h9 => h9) rfl hin rfl (by decide +kernel) rfl rfl (Nat.le_of_ble_eq_true rfl) dX4_init_147 (fun H locs hP hD hS => ?_)
  have hP : va_P D vwCl [(h0, .inr (4, [.int 0, .int 0, .ref n0, .ref n1, .ref n2, .ref n3, .ref n4, .ref n5, .ref n6, .ref n7, .int 0, .ref n8, .ref n9, .ref n10, .long 0, .long 0, .long 0, .ref n11, .int 0, .ref n12, .ref n13, .ref n14, .ref n15, .ref n16, .int 0, .int 0, .ref n17, .null, .null, .null, .null])), (n0, .inl (cI, 12, .inl (fun _ => 0))), (n1, .inl (cI, 12, .inl (fun _ => 0))), (n2, .inl (cI, 12, .inl (fun _ => 0))), (n3, .inl (cI, 36, .inl (fun _ => 0))), (n4, .inl (cI, 3072, .inl (fun _ => 0))), (n5, .inl (cI, 12, .inl (fun _ => 0))), (n6, .inl (cI, 12, .inl (fun _ => 0))), (n7, .inl (cI, 48, .inl (fun _ => 0))), (n8, .inl (cI, 288, .inl (fun _ => 0))), (n9, .inl (cZ, 12, .inl (fun _ => 0))), (n10, .inl (cI, 12, .inl (fun _ => 0))), (n11, .inl (cI, 12, .inl (fun _ => 0))), (n12, .inl (cJ, 10, .inr (.inl (fun _ => 0)))), (n13, .inl (cI, 120, .inl (fun _ => 0))), (n14, .inl (cI, 13, .inl (fun _ => 0))), (n15, .inl (cI, 13, .inl (fun _ => 0))), (n16, .inl (cZ, 12, .inl (fun _ => 0))), (n17, .inl (cI, 100, .inl (fun _ => 0)))] H := hP
  have hD : va_D A [(h0, .inr (4, [.int 0, .int 0, .ref n0, .ref n1, .ref n2, .ref n3, .ref n4, .ref n5, .ref n6, .ref n7, .int 0, .ref n8, .ref n9, .ref n10, .long 0, .long 0, .long 0, .ref n11, .int 0, .ref n12, .ref n13, .ref n14, .ref n15, .ref n16, .int 0, .int 0, .ref n17, .null, .null, .null, .null])), (n0, .inl (cI, 12, .inl (fun _ => 0))), (n1, .inl (cI, 12, .inl (fun _ => 0))), (n2, .inl (cI, 12, .inl (fun _ => 0))), (n3, .inl (cI, 36, .inl (fun _ => 0))), (n4, .inl (cI, 3072, .inl (fun _ => 0))), (n5, .inl (cI, 12, .inl (fun _ => 0))), (n6, .inl (cI, 12, .inl (fun _ => 0))), (n7, .inl (cI, 48, .inl (fun _ => 0))), (n8, .inl (cI, 288, .inl (fun _ => 0))), (n9, .inl (cZ, 12, .inl (fun _ => 0))), (n10, .inl (cI, 12, .inl (fun _ => 0))), (n11, .inl (cI, 12, .inl (fun _ => 0))), (n12, .inl (cJ, 10, .inr (.inl (fun _ => 0)))), (n13, .inl (cI, 120, .inl (fun _ => 0))), (n14, .inl (cI, 13, .inl (fun _ => 0))), (n15, .inl (cI, 13, .inl (fun _ => 0))), (n16, .inl (cZ, 12, .inl (fun _ => 0))), (n17, .inl (cI, 100, .inl (fun _ => 0)))] := hD
  refine lv_aload_n hx hb dX4_init_150 rfl (lv_at hl 0 rfl) ?_
  refine lv_bipush (v := 100) hx hb dX4_init_151 (by decide) ?_
  refine va_newa (D := D) (atype := .int) (ty := .int) (N' := 100) (a0 := (100, .inl (fun _ => 0))) hx hb (hts (.arrayClass .int) (List.mem_cons.mpr (Or.inr bwd_110))) rfl hK hP hD hS hA (bw_haI 100) (by decide +kernel) (by decide +kernel) (Nat.le_of_ble_eq_true rfl) (Nat.le_of_ble_eq_true rfl) (Nat.le_of_ble_eq_true rfl) dX4_init_153 (fun n18 cA H hK2 hP hD hS => ?_)
  have ec := (bw_tyI hK2).symm
  subst ec
  have hP : va_P D vwCl [(h0, .inr (4, [.int 0, .int 0, .ref n0, .ref n1, .ref n2, .ref n3, .ref n4, .ref n5, .ref n6, .ref n7, .int 0, .ref n8, .ref n9, .ref n10, .long 0, .long 0, .long 0, .ref n11, .int 0, .ref n12, .ref n13, .ref n14, .ref n15, .ref n16, .int 0, .int 0, .ref n17, .null, .null, .null, .null])), (n0, .inl (cI, 12, .inl (fun _ => 0))), (n1, .inl (cI, 12, .inl (fun _ => 0))), (n2, .inl (cI, 12, .inl (fun _ => 0))), (n3, .inl (cI, 36, .inl (fun _ => 0))), (n4, .inl (cI, 3072, .inl (fun _ => 0))), (n5, .inl (cI, 12, .inl (fun _ => 0))), (n6, .inl (cI, 12, .inl (fun _ => 0))), (n7, .inl (cI, 48, .inl (fun _ => 0))), (n8, .inl (cI, 288, .inl (fun _ => 0))), (n9, .inl (cZ, 12, .inl (fun _ => 0))), (n10, .inl (cI, 12, .inl (fun _ => 0))), (n11, .inl (cI, 12, .inl (fun _ => 0))), (n12, .inl (cJ, 10, .inr (.inl (fun _ => 0)))), (n13, .inl (cI, 120, .inl (fun _ => 0))), (n14, .inl (cI, 13, .inl (fun _ => 0))), (n15, .inl (cI, 13, .inl (fun _ => 0))), (n16, .inl (cZ, 12, .inl (fun _ => 0))), (n17, .inl (cI, 100, .inl (fun _ => 0))), (n18, .inl (cI, 100, .inl (fun _ => 0)))] H := hP
  have hD : va_D A [(h0, .inr (4, [.int 0, .int 0, .ref n0, .ref n1, .ref n2, .ref n3, .ref n4, .ref n5, .ref n6, .ref n7, .int 0, .ref n8, .ref n9, .ref n10, .long 0, .long 0, .long 0, .ref n11, .int 0, .ref n12, .ref n13, .ref n14, .ref n15, .ref n16, .int 0, .int 0, .ref n17, .null, .null, .null, .null])), (n0, .inl (cI, 12, .inl (fun _ => 0))), (n1, .inl (cI, 12, .inl (fun _ => 0))), (n2, .inl (cI, 12, .inl (fun _ => 0))), (n3, .inl (cI, 36, .inl (fun _ => 0))), (n4, .inl (cI, 3072, .inl (fun _ => 0))), (n5, .inl (cI, 12, .inl (fun _ => 0))), (n6, .inl (cI, 12, .inl (fun _ => 0))), (n7, .inl (cI, 48, .inl (fun _ => 0))), (n8, .inl (cI, 288, .inl (fun _ => 0))), (n9, .inl (cZ, 12, .inl (fun _ => 0))), (n10, .inl (cI, 12, .inl (fun _ => 0))), (n11, .inl (cI, 12, .inl (fun _ => 0))), (n12, .inl (cJ, 10, .inr (.inl (fun _ => 0)))), (n13, .inl (cI, 120, .inl (fun _ => 0))), (n14, .inl (cI, 13, .inl (fun _ => 0))), (n15, .inl (cI, 13, .inl (fun _ => 0))), (n16, .inl (cZ, 12, .inl (fun _ => 0))), (n17, .inl (cI, 100, .inl (fun _ => 0))), (n18, .inl (cI, 100, .inl (fun _ => 0)))] := hD
  refine W.widen (k := 19) (n := 3908) (by omega) (by omega) ?_
  refine va_putF (D := D) (ci := 4) (v := .ref n18) (ty := .array .int) (C := RX4) (T := TX4) (N := 31) (Ts := bw_ws) hx hb (fun w h => hts w (List.mem_cons.mpr (Or.inr h))) (bw_cls_ws2 4 (RX4, TX4, 31) rfl) tyX4 tyX4_ok nmX4 hown hK hP hD hS 0 rfl rfl 27 (by decide) (hts (.fieldLink RX4 66 "BeliefWebModel" "actWhich" "[I") (List.mem_cons.mpr (Or.inr bwd_595))) (fun _ h9 => h9) rfl hin rfl (by decide +kernel) rfl rfl (Nat.le_of_ble_eq_true rfl) dX4_init_155 (fun H locs hP hD hS => ?_)
  have hP : va_P D vwCl [(h0, .inr (4, [.int 0, .int 0, .ref n0, .ref n1, .ref n2, .ref n3, .ref n4, .ref n5, .ref n6, .ref n7, .int 0, .ref n8, .ref n9, .ref n10, .long 0, .long 0, .long 0, .ref n11, .int 0, .ref n12, .ref n13, .ref n14, .ref n15, .ref n16, .int 0, .int 0, .ref n17, .ref n18, .null, .null, .null])), (n0, .inl (cI, 12, .inl (fun _ => 0))), (n1, .inl (cI, 12, .inl (fun _ => 0))), (n2, .inl (cI, 12, .inl (fun _ => 0))), (n3, .inl (cI, 36, .inl (fun _ => 0))), (n4, .inl (cI, 3072, .inl (fun _ => 0))), (n5, .inl (cI, 12, .inl (fun _ => 0))), (n6, .inl (cI, 12, .inl (fun _ => 0))), (n7, .inl (cI, 48, .inl (fun _ => 0))), (n8, .inl (cI, 288, .inl (fun _ => 0))), (n9, .inl (cZ, 12, .inl (fun _ => 0))), (n10, .inl (cI, 12, .inl (fun _ => 0))), (n11, .inl (cI, 12, .inl (fun _ => 0))), (n12, .inl (cJ, 10, .inr (.inl (fun _ => 0)))), (n13, .inl (cI, 120, .inl (fun _ => 0))), (n14, .inl (cI, 13, .inl (fun _ => 0))), (n15, .inl (cI, 13, .inl (fun _ => 0))), (n16, .inl (cZ, 12, .inl (fun _ => 0))), (n17, .inl (cI, 100, .inl (fun _ => 0))), (n18, .inl (cI, 100, .inl (fun _ => 0)))] H := hP
  have hD : va_D A [(h0, .inr (4, [.int 0, .int 0, .ref n0, .ref n1, .ref n2, .ref n3, .ref n4, .ref n5, .ref n6, .ref n7, .int 0, .ref n8, .ref n9, .ref n10, .long 0, .long 0, .long 0, .ref n11, .int 0, .ref n12, .ref n13, .ref n14, .ref n15, .ref n16, .int 0, .int 0, .ref n17, .ref n18, .null, .null, .null])), (n0, .inl (cI, 12, .inl (fun _ => 0))), (n1, .inl (cI, 12, .inl (fun _ => 0))), (n2, .inl (cI, 12, .inl (fun _ => 0))), (n3, .inl (cI, 36, .inl (fun _ => 0))), (n4, .inl (cI, 3072, .inl (fun _ => 0))), (n5, .inl (cI, 12, .inl (fun _ => 0))), (n6, .inl (cI, 12, .inl (fun _ => 0))), (n7, .inl (cI, 48, .inl (fun _ => 0))), (n8, .inl (cI, 288, .inl (fun _ => 0))), (n9, .inl (cZ, 12, .inl (fun _ => 0))), (n10, .inl (cI, 12, .inl (fun _ => 0))), (n11, .inl (cI, 12, .inl (fun _ => 0))), (n12, .inl (cJ, 10, .inr (.inl (fun _ => 0)))), (n13, .inl (cI, 120, .inl (fun _ => 0))), (n14, .inl (cI, 13, .inl (fun _ => 0))), (n15, .inl (cI, 13, .inl (fun _ => 0))), (n16, .inl (cZ, 12, .inl (fun _ => 0))), (n17, .inl (cI, 100, .inl (fun _ => 0))), (n18, .inl (cI, 100, .inl (fun _ => 0)))] := hD
  refine lv_aload_n hx hb dX4_init_158 rfl (lv_at hl 0 rfl) ?_
  refine lv_bipush (v := 100) hx hb dX4_init_159 (by decide) ?_
  refine va_newa (D := D) (atype := .int) (ty := .int) (N' := 100) (a0 := (100, .inl (fun _ => 0))) hx hb (hts (.arrayClass .int) (List.mem_cons.mpr (Or.inr bwd_110))) rfl hK hP hD hS hA (bw_haI 100) (by decide +kernel) (by decide +kernel) (Nat.le_of_ble_eq_true rfl) (Nat.le_of_ble_eq_true rfl) (Nat.le_of_ble_eq_true rfl) dX4_init_161 (fun n19 cA H hK2 hP hD hS => ?_)
  have ec := (bw_tyI hK2).symm
  subst ec
  have hP : va_P D vwCl [(h0, .inr (4, [.int 0, .int 0, .ref n0, .ref n1, .ref n2, .ref n3, .ref n4, .ref n5, .ref n6, .ref n7, .int 0, .ref n8, .ref n9, .ref n10, .long 0, .long 0, .long 0, .ref n11, .int 0, .ref n12, .ref n13, .ref n14, .ref n15, .ref n16, .int 0, .int 0, .ref n17, .ref n18, .null, .null, .null])), (n0, .inl (cI, 12, .inl (fun _ => 0))), (n1, .inl (cI, 12, .inl (fun _ => 0))), (n2, .inl (cI, 12, .inl (fun _ => 0))), (n3, .inl (cI, 36, .inl (fun _ => 0))), (n4, .inl (cI, 3072, .inl (fun _ => 0))), (n5, .inl (cI, 12, .inl (fun _ => 0))), (n6, .inl (cI, 12, .inl (fun _ => 0))), (n7, .inl (cI, 48, .inl (fun _ => 0))), (n8, .inl (cI, 288, .inl (fun _ => 0))), (n9, .inl (cZ, 12, .inl (fun _ => 0))), (n10, .inl (cI, 12, .inl (fun _ => 0))), (n11, .inl (cI, 12, .inl (fun _ => 0))), (n12, .inl (cJ, 10, .inr (.inl (fun _ => 0)))), (n13, .inl (cI, 120, .inl (fun _ => 0))), (n14, .inl (cI, 13, .inl (fun _ => 0))), (n15, .inl (cI, 13, .inl (fun _ => 0))), (n16, .inl (cZ, 12, .inl (fun _ => 0))), (n17, .inl (cI, 100, .inl (fun _ => 0))), (n18, .inl (cI, 100, .inl (fun _ => 0))), (n19, .inl (cI, 100, .inl (fun _ => 0)))] H := hP
  have hD : va_D A [(h0, .inr (4, [.int 0, .int 0, .ref n0, .ref n1, .ref n2, .ref n3, .ref n4, .ref n5, .ref n6, .ref n7, .int 0, .ref n8, .ref n9, .ref n10, .long 0, .long 0, .long 0, .ref n11, .int 0, .ref n12, .ref n13, .ref n14, .ref n15, .ref n16, .int 0, .int 0, .ref n17, .ref n18, .null, .null, .null])), (n0, .inl (cI, 12, .inl (fun _ => 0))), (n1, .inl (cI, 12, .inl (fun _ => 0))), (n2, .inl (cI, 12, .inl (fun _ => 0))), (n3, .inl (cI, 36, .inl (fun _ => 0))), (n4, .inl (cI, 3072, .inl (fun _ => 0))), (n5, .inl (cI, 12, .inl (fun _ => 0))), (n6, .inl (cI, 12, .inl (fun _ => 0))), (n7, .inl (cI, 48, .inl (fun _ => 0))), (n8, .inl (cI, 288, .inl (fun _ => 0))), (n9, .inl (cZ, 12, .inl (fun _ => 0))), (n10, .inl (cI, 12, .inl (fun _ => 0))), (n11, .inl (cI, 12, .inl (fun _ => 0))), (n12, .inl (cJ, 10, .inr (.inl (fun _ => 0)))), (n13, .inl (cI, 120, .inl (fun _ => 0))), (n14, .inl (cI, 13, .inl (fun _ => 0))), (n15, .inl (cI, 13, .inl (fun _ => 0))), (n16, .inl (cZ, 12, .inl (fun _ => 0))), (n17, .inl (cI, 100, .inl (fun _ => 0))), (n18, .inl (cI, 100, .inl (fun _ => 0))), (n19, .inl (cI, 100, .inl (fun _ => 0)))] := hD
  refine W.widen (k := 20) (n := 4008) (by omega) (by omega) ?_
  refine va_putF (D := D) (ci := 4) (v := .ref n19) (ty := .array .int) (C := RX4) (T := TX4) (N := 31) (Ts := bw_ws) hx hb (fun w h => hts w (List.mem_cons.mpr (Or.inr h))) (bw_cls_ws2 4 (RX4, TX4, 31) rfl) tyX4 tyX4_ok nmX4 hown hK hP hD hS 0 rfl rfl 28 (by decide) (hts (.fieldLink RX4 69 "BeliefWebModel" "actA" "[I") (List.mem_cons.mpr (Or.inr bwd_596))) (fun _ h9 => h9) rfl hin rfl (by decide +kernel) rfl rfl (Nat.le_of_ble_eq_true rfl) dX4_init_163 (fun H locs hP hD hS => ?_)
  have hP : va_P D vwCl [(h0, .inr (4, [.int 0, .int 0, .ref n0, .ref n1, .ref n2, .ref n3, .ref n4, .ref n5, .ref n6, .ref n7, .int 0, .ref n8, .ref n9, .ref n10, .long 0, .long 0, .long 0, .ref n11, .int 0, .ref n12, .ref n13, .ref n14, .ref n15, .ref n16, .int 0, .int 0, .ref n17, .ref n18, .ref n19, .null, .null])), (n0, .inl (cI, 12, .inl (fun _ => 0))), (n1, .inl (cI, 12, .inl (fun _ => 0))), (n2, .inl (cI, 12, .inl (fun _ => 0))), (n3, .inl (cI, 36, .inl (fun _ => 0))), (n4, .inl (cI, 3072, .inl (fun _ => 0))), (n5, .inl (cI, 12, .inl (fun _ => 0))), (n6, .inl (cI, 12, .inl (fun _ => 0))), (n7, .inl (cI, 48, .inl (fun _ => 0))), (n8, .inl (cI, 288, .inl (fun _ => 0))), (n9, .inl (cZ, 12, .inl (fun _ => 0))), (n10, .inl (cI, 12, .inl (fun _ => 0))), (n11, .inl (cI, 12, .inl (fun _ => 0))), (n12, .inl (cJ, 10, .inr (.inl (fun _ => 0)))), (n13, .inl (cI, 120, .inl (fun _ => 0))), (n14, .inl (cI, 13, .inl (fun _ => 0))), (n15, .inl (cI, 13, .inl (fun _ => 0))), (n16, .inl (cZ, 12, .inl (fun _ => 0))), (n17, .inl (cI, 100, .inl (fun _ => 0))), (n18, .inl (cI, 100, .inl (fun _ => 0))), (n19, .inl (cI, 100, .inl (fun _ => 0)))] H := hP
  have hD : va_D A [(h0, .inr (4, [.int 0, .int 0, .ref n0, .ref n1, .ref n2, .ref n3, .ref n4, .ref n5, .ref n6, .ref n7, .int 0, .ref n8, .ref n9, .ref n10, .long 0, .long 0, .long 0, .ref n11, .int 0, .ref n12, .ref n13, .ref n14, .ref n15, .ref n16, .int 0, .int 0, .ref n17, .ref n18, .ref n19, .null, .null])), (n0, .inl (cI, 12, .inl (fun _ => 0))), (n1, .inl (cI, 12, .inl (fun _ => 0))), (n2, .inl (cI, 12, .inl (fun _ => 0))), (n3, .inl (cI, 36, .inl (fun _ => 0))), (n4, .inl (cI, 3072, .inl (fun _ => 0))), (n5, .inl (cI, 12, .inl (fun _ => 0))), (n6, .inl (cI, 12, .inl (fun _ => 0))), (n7, .inl (cI, 48, .inl (fun _ => 0))), (n8, .inl (cI, 288, .inl (fun _ => 0))), (n9, .inl (cZ, 12, .inl (fun _ => 0))), (n10, .inl (cI, 12, .inl (fun _ => 0))), (n11, .inl (cI, 12, .inl (fun _ => 0))), (n12, .inl (cJ, 10, .inr (.inl (fun _ => 0)))), (n13, .inl (cI, 120, .inl (fun _ => 0))), (n14, .inl (cI, 13, .inl (fun _ => 0))), (n15, .inl (cI, 13, .inl (fun _ => 0))), (n16, .inl (cZ, 12, .inl (fun _ => 0))), (n17, .inl (cI, 100, .inl (fun _ => 0))), (n18, .inl (cI, 100, .inl (fun _ => 0))), (n19, .inl (cI, 100, .inl (fun _ => 0)))] := hD
  refine lv_aload_n hx hb dX4_init_166 rfl (lv_at hl 0 rfl) ?_
  refine lv_bipush (v := 100) hx hb dX4_init_167 (by decide) ?_
  refine va_newa (D := D) (atype := .int) (ty := .int) (N' := 100) (a0 := (100, .inl (fun _ => 0))) hx hb (hts (.arrayClass .int) (List.mem_cons.mpr (Or.inr bwd_110))) rfl hK hP hD hS hA (bw_haI 100) (by decide +kernel) (by decide +kernel) (Nat.le_of_ble_eq_true rfl) (Nat.le_of_ble_eq_true rfl) (Nat.le_of_ble_eq_true rfl) dX4_init_169 (fun n20 cA H hK2 hP hD hS => ?_)
  have ec := (bw_tyI hK2).symm
  subst ec
  have hP : va_P D vwCl [(h0, .inr (4, [.int 0, .int 0, .ref n0, .ref n1, .ref n2, .ref n3, .ref n4, .ref n5, .ref n6, .ref n7, .int 0, .ref n8, .ref n9, .ref n10, .long 0, .long 0, .long 0, .ref n11, .int 0, .ref n12, .ref n13, .ref n14, .ref n15, .ref n16, .int 0, .int 0, .ref n17, .ref n18, .ref n19, .null, .null])), (n0, .inl (cI, 12, .inl (fun _ => 0))), (n1, .inl (cI, 12, .inl (fun _ => 0))), (n2, .inl (cI, 12, .inl (fun _ => 0))), (n3, .inl (cI, 36, .inl (fun _ => 0))), (n4, .inl (cI, 3072, .inl (fun _ => 0))), (n5, .inl (cI, 12, .inl (fun _ => 0))), (n6, .inl (cI, 12, .inl (fun _ => 0))), (n7, .inl (cI, 48, .inl (fun _ => 0))), (n8, .inl (cI, 288, .inl (fun _ => 0))), (n9, .inl (cZ, 12, .inl (fun _ => 0))), (n10, .inl (cI, 12, .inl (fun _ => 0))), (n11, .inl (cI, 12, .inl (fun _ => 0))), (n12, .inl (cJ, 10, .inr (.inl (fun _ => 0)))), (n13, .inl (cI, 120, .inl (fun _ => 0))), (n14, .inl (cI, 13, .inl (fun _ => 0))), (n15, .inl (cI, 13, .inl (fun _ => 0))), (n16, .inl (cZ, 12, .inl (fun _ => 0))), (n17, .inl (cI, 100, .inl (fun _ => 0))), (n18, .inl (cI, 100, .inl (fun _ => 0))), (n19, .inl (cI, 100, .inl (fun _ => 0))), (n20, .inl (cI, 100, .inl (fun _ => 0)))] H := hP
  have hD : va_D A [(h0, .inr (4, [.int 0, .int 0, .ref n0, .ref n1, .ref n2, .ref n3, .ref n4, .ref n5, .ref n6, .ref n7, .int 0, .ref n8, .ref n9, .ref n10, .long 0, .long 0, .long 0, .ref n11, .int 0, .ref n12, .ref n13, .ref n14, .ref n15, .ref n16, .int 0, .int 0, .ref n17, .ref n18, .ref n19, .null, .null])), (n0, .inl (cI, 12, .inl (fun _ => 0))), (n1, .inl (cI, 12, .inl (fun _ => 0))), (n2, .inl (cI, 12, .inl (fun _ => 0))), (n3, .inl (cI, 36, .inl (fun _ => 0))), (n4, .inl (cI, 3072, .inl (fun _ => 0))), (n5, .inl (cI, 12, .inl (fun _ => 0))), (n6, .inl (cI, 12, .inl (fun _ => 0))), (n7, .inl (cI, 48, .inl (fun _ => 0))), (n8, .inl (cI, 288, .inl (fun _ => 0))), (n9, .inl (cZ, 12, .inl (fun _ => 0))), (n10, .inl (cI, 12, .inl (fun _ => 0))), (n11, .inl (cI, 12, .inl (fun _ => 0))), (n12, .inl (cJ, 10, .inr (.inl (fun _ => 0)))), (n13, .inl (cI, 120, .inl (fun _ => 0))), (n14, .inl (cI, 13, .inl (fun _ => 0))), (n15, .inl (cI, 13, .inl (fun _ => 0))), (n16, .inl (cZ, 12, .inl (fun _ => 0))), (n17, .inl (cI, 100, .inl (fun _ => 0))), (n18, .inl (cI, 100, .inl (fun _ => 0))), (n19, .inl (cI, 100, .inl (fun _ => 0))), (n20, .inl (cI, 100, .inl (fun _ => 0)))] := hD
  refine W.widen (k := 21) (n := 4108) (by omega) (by omega) ?_
  refine va_putF (D := D) (ci := 4) (v := .ref n20) (ty := .array .int) (C := RX4) (T := TX4) (N := 31) (Ts := bw_ws) hx hb (fun w h => hts w (List.mem_cons.mpr (Or.inr h))) (bw_cls_ws2 4 (RX4, TX4, 31) rfl) tyX4 tyX4_ok nmX4 hown hK hP hD hS 0 rfl rfl 29 (by decide) (hts (.fieldLink RX4 72 "BeliefWebModel" "actB" "[I") (List.mem_cons.mpr (Or.inr bwd_597))) (fun _ h9 => h9) rfl hin rfl (by decide +kernel) rfl rfl (Nat.le_of_ble_eq_true rfl) dX4_init_171 (fun H locs hP hD hS => ?_)
  have hP : va_P D vwCl [(h0, .inr (4, [.int 0, .int 0, .ref n0, .ref n1, .ref n2, .ref n3, .ref n4, .ref n5, .ref n6, .ref n7, .int 0, .ref n8, .ref n9, .ref n10, .long 0, .long 0, .long 0, .ref n11, .int 0, .ref n12, .ref n13, .ref n14, .ref n15, .ref n16, .int 0, .int 0, .ref n17, .ref n18, .ref n19, .ref n20, .null])), (n0, .inl (cI, 12, .inl (fun _ => 0))), (n1, .inl (cI, 12, .inl (fun _ => 0))), (n2, .inl (cI, 12, .inl (fun _ => 0))), (n3, .inl (cI, 36, .inl (fun _ => 0))), (n4, .inl (cI, 3072, .inl (fun _ => 0))), (n5, .inl (cI, 12, .inl (fun _ => 0))), (n6, .inl (cI, 12, .inl (fun _ => 0))), (n7, .inl (cI, 48, .inl (fun _ => 0))), (n8, .inl (cI, 288, .inl (fun _ => 0))), (n9, .inl (cZ, 12, .inl (fun _ => 0))), (n10, .inl (cI, 12, .inl (fun _ => 0))), (n11, .inl (cI, 12, .inl (fun _ => 0))), (n12, .inl (cJ, 10, .inr (.inl (fun _ => 0)))), (n13, .inl (cI, 120, .inl (fun _ => 0))), (n14, .inl (cI, 13, .inl (fun _ => 0))), (n15, .inl (cI, 13, .inl (fun _ => 0))), (n16, .inl (cZ, 12, .inl (fun _ => 0))), (n17, .inl (cI, 100, .inl (fun _ => 0))), (n18, .inl (cI, 100, .inl (fun _ => 0))), (n19, .inl (cI, 100, .inl (fun _ => 0))), (n20, .inl (cI, 100, .inl (fun _ => 0)))] H := hP
  have hD : va_D A [(h0, .inr (4, [.int 0, .int 0, .ref n0, .ref n1, .ref n2, .ref n3, .ref n4, .ref n5, .ref n6, .ref n7, .int 0, .ref n8, .ref n9, .ref n10, .long 0, .long 0, .long 0, .ref n11, .int 0, .ref n12, .ref n13, .ref n14, .ref n15, .ref n16, .int 0, .int 0, .ref n17, .ref n18, .ref n19, .ref n20, .null])), (n0, .inl (cI, 12, .inl (fun _ => 0))), (n1, .inl (cI, 12, .inl (fun _ => 0))), (n2, .inl (cI, 12, .inl (fun _ => 0))), (n3, .inl (cI, 36, .inl (fun _ => 0))), (n4, .inl (cI, 3072, .inl (fun _ => 0))), (n5, .inl (cI, 12, .inl (fun _ => 0))), (n6, .inl (cI, 12, .inl (fun _ => 0))), (n7, .inl (cI, 48, .inl (fun _ => 0))), (n8, .inl (cI, 288, .inl (fun _ => 0))), (n9, .inl (cZ, 12, .inl (fun _ => 0))), (n10, .inl (cI, 12, .inl (fun _ => 0))), (n11, .inl (cI, 12, .inl (fun _ => 0))), (n12, .inl (cJ, 10, .inr (.inl (fun _ => 0)))), (n13, .inl (cI, 120, .inl (fun _ => 0))), (n14, .inl (cI, 13, .inl (fun _ => 0))), (n15, .inl (cI, 13, .inl (fun _ => 0))), (n16, .inl (cZ, 12, .inl (fun _ => 0))), (n17, .inl (cI, 100, .inl (fun _ => 0))), (n18, .inl (cI, 100, .inl (fun _ => 0))), (n19, .inl (cI, 100, .inl (fun _ => 0))), (n20, .inl (cI, 100, .inl (fun _ => 0)))] := hD
  refine lv_aload_n hx hb dX4_init_174 rfl (lv_at hl 0 rfl) ?_
  refine lv_sipush (v := 30000) hx hb dX4_init_175 (by decide) ?_
  refine va_newa (D := D) (atype := .int) (ty := .int) (N' := 30000) (a0 := (30000, .inl (fun _ => 0))) hx hb (hts (.arrayClass .int) (List.mem_cons.mpr (Or.inr bwd_110))) rfl hK hP hD hS hA (bw_haI 30000) (by decide +kernel) (by decide +kernel) (Nat.le_of_ble_eq_true rfl) (Nat.le_of_ble_eq_true rfl) (Nat.le_of_ble_eq_true rfl) dX4_init_178 (fun n21 cA H hK2 hP hD hS => ?_)
  have ec := (bw_tyI hK2).symm
  subst ec
  have hP : va_P D vwCl [(h0, .inr (4, [.int 0, .int 0, .ref n0, .ref n1, .ref n2, .ref n3, .ref n4, .ref n5, .ref n6, .ref n7, .int 0, .ref n8, .ref n9, .ref n10, .long 0, .long 0, .long 0, .ref n11, .int 0, .ref n12, .ref n13, .ref n14, .ref n15, .ref n16, .int 0, .int 0, .ref n17, .ref n18, .ref n19, .ref n20, .null])), (n0, .inl (cI, 12, .inl (fun _ => 0))), (n1, .inl (cI, 12, .inl (fun _ => 0))), (n2, .inl (cI, 12, .inl (fun _ => 0))), (n3, .inl (cI, 36, .inl (fun _ => 0))), (n4, .inl (cI, 3072, .inl (fun _ => 0))), (n5, .inl (cI, 12, .inl (fun _ => 0))), (n6, .inl (cI, 12, .inl (fun _ => 0))), (n7, .inl (cI, 48, .inl (fun _ => 0))), (n8, .inl (cI, 288, .inl (fun _ => 0))), (n9, .inl (cZ, 12, .inl (fun _ => 0))), (n10, .inl (cI, 12, .inl (fun _ => 0))), (n11, .inl (cI, 12, .inl (fun _ => 0))), (n12, .inl (cJ, 10, .inr (.inl (fun _ => 0)))), (n13, .inl (cI, 120, .inl (fun _ => 0))), (n14, .inl (cI, 13, .inl (fun _ => 0))), (n15, .inl (cI, 13, .inl (fun _ => 0))), (n16, .inl (cZ, 12, .inl (fun _ => 0))), (n17, .inl (cI, 100, .inl (fun _ => 0))), (n18, .inl (cI, 100, .inl (fun _ => 0))), (n19, .inl (cI, 100, .inl (fun _ => 0))), (n20, .inl (cI, 100, .inl (fun _ => 0))), (n21, .inl (cI, 30000, .inl (fun _ => 0)))] H := hP
  have hD : va_D A [(h0, .inr (4, [.int 0, .int 0, .ref n0, .ref n1, .ref n2, .ref n3, .ref n4, .ref n5, .ref n6, .ref n7, .int 0, .ref n8, .ref n9, .ref n10, .long 0, .long 0, .long 0, .ref n11, .int 0, .ref n12, .ref n13, .ref n14, .ref n15, .ref n16, .int 0, .int 0, .ref n17, .ref n18, .ref n19, .ref n20, .null])), (n0, .inl (cI, 12, .inl (fun _ => 0))), (n1, .inl (cI, 12, .inl (fun _ => 0))), (n2, .inl (cI, 12, .inl (fun _ => 0))), (n3, .inl (cI, 36, .inl (fun _ => 0))), (n4, .inl (cI, 3072, .inl (fun _ => 0))), (n5, .inl (cI, 12, .inl (fun _ => 0))), (n6, .inl (cI, 12, .inl (fun _ => 0))), (n7, .inl (cI, 48, .inl (fun _ => 0))), (n8, .inl (cI, 288, .inl (fun _ => 0))), (n9, .inl (cZ, 12, .inl (fun _ => 0))), (n10, .inl (cI, 12, .inl (fun _ => 0))), (n11, .inl (cI, 12, .inl (fun _ => 0))), (n12, .inl (cJ, 10, .inr (.inl (fun _ => 0)))), (n13, .inl (cI, 120, .inl (fun _ => 0))), (n14, .inl (cI, 13, .inl (fun _ => 0))), (n15, .inl (cI, 13, .inl (fun _ => 0))), (n16, .inl (cZ, 12, .inl (fun _ => 0))), (n17, .inl (cI, 100, .inl (fun _ => 0))), (n18, .inl (cI, 100, .inl (fun _ => 0))), (n19, .inl (cI, 100, .inl (fun _ => 0))), (n20, .inl (cI, 100, .inl (fun _ => 0))), (n21, .inl (cI, 30000, .inl (fun _ => 0)))] := hD
  refine W.widen (k := 22) (n := 34108) (by omega) (by omega) ?_
  refine va_putF (D := D) (ci := 4) (v := .ref n21) (ty := .array .int) (C := RX4) (T := TX4) (N := 31) (Ts := bw_ws) hx hb (fun w h => hts w (List.mem_cons.mpr (Or.inr h))) (bw_cls_ws2 4 (RX4, TX4, 31) rfl) tyX4 tyX4_ok nmX4 hown hK hP hD hS 0 rfl rfl 30 (by decide) (hts (.fieldLink RX4 75 "BeliefWebModel" "actRow" "[I") (List.mem_cons.mpr (Or.inr bwd_598))) (fun _ h9 => h9) rfl hin rfl (by decide +kernel) rfl rfl (Nat.le_of_ble_eq_true rfl) dX4_init_180 (fun H locs hP hD hS => ?_)
  have hP : va_P D vwCl [(h0, .inr (4, [.int 0, .int 0, .ref n0, .ref n1, .ref n2, .ref n3, .ref n4, .ref n5, .ref n6, .ref n7, .int 0, .ref n8, .ref n9, .ref n10, .long 0, .long 0, .long 0, .ref n11, .int 0, .ref n12, .ref n13, .ref n14, .ref n15, .ref n16, .int 0, .int 0, .ref n17, .ref n18, .ref n19, .ref n20, .ref n21])), (n0, .inl (cI, 12, .inl (fun _ => 0))), (n1, .inl (cI, 12, .inl (fun _ => 0))), (n2, .inl (cI, 12, .inl (fun _ => 0))), (n3, .inl (cI, 36, .inl (fun _ => 0))), (n4, .inl (cI, 3072, .inl (fun _ => 0))), (n5, .inl (cI, 12, .inl (fun _ => 0))), (n6, .inl (cI, 12, .inl (fun _ => 0))), (n7, .inl (cI, 48, .inl (fun _ => 0))), (n8, .inl (cI, 288, .inl (fun _ => 0))), (n9, .inl (cZ, 12, .inl (fun _ => 0))), (n10, .inl (cI, 12, .inl (fun _ => 0))), (n11, .inl (cI, 12, .inl (fun _ => 0))), (n12, .inl (cJ, 10, .inr (.inl (fun _ => 0)))), (n13, .inl (cI, 120, .inl (fun _ => 0))), (n14, .inl (cI, 13, .inl (fun _ => 0))), (n15, .inl (cI, 13, .inl (fun _ => 0))), (n16, .inl (cZ, 12, .inl (fun _ => 0))), (n17, .inl (cI, 100, .inl (fun _ => 0))), (n18, .inl (cI, 100, .inl (fun _ => 0))), (n19, .inl (cI, 100, .inl (fun _ => 0))), (n20, .inl (cI, 100, .inl (fun _ => 0))), (n21, .inl (cI, 30000, .inl (fun _ => 0)))] H := hP
  have hD : va_D A [(h0, .inr (4, [.int 0, .int 0, .ref n0, .ref n1, .ref n2, .ref n3, .ref n4, .ref n5, .ref n6, .ref n7, .int 0, .ref n8, .ref n9, .ref n10, .long 0, .long 0, .long 0, .ref n11, .int 0, .ref n12, .ref n13, .ref n14, .ref n15, .ref n16, .int 0, .int 0, .ref n17, .ref n18, .ref n19, .ref n20, .ref n21])), (n0, .inl (cI, 12, .inl (fun _ => 0))), (n1, .inl (cI, 12, .inl (fun _ => 0))), (n2, .inl (cI, 12, .inl (fun _ => 0))), (n3, .inl (cI, 36, .inl (fun _ => 0))), (n4, .inl (cI, 3072, .inl (fun _ => 0))), (n5, .inl (cI, 12, .inl (fun _ => 0))), (n6, .inl (cI, 12, .inl (fun _ => 0))), (n7, .inl (cI, 48, .inl (fun _ => 0))), (n8, .inl (cI, 288, .inl (fun _ => 0))), (n9, .inl (cZ, 12, .inl (fun _ => 0))), (n10, .inl (cI, 12, .inl (fun _ => 0))), (n11, .inl (cI, 12, .inl (fun _ => 0))), (n12, .inl (cJ, 10, .inr (.inl (fun _ => 0)))), (n13, .inl (cI, 120, .inl (fun _ => 0))), (n14, .inl (cI, 13, .inl (fun _ => 0))), (n15, .inl (cI, 13, .inl (fun _ => 0))), (n16, .inl (cZ, 12, .inl (fun _ => 0))), (n17, .inl (cI, 100, .inl (fun _ => 0))), (n18, .inl (cI, 100, .inl (fun _ => 0))), (n19, .inl (cI, 100, .inl (fun _ => 0))), (n20, .inl (cI, 100, .inl (fun _ => 0))), (n21, .inl (cI, 30000, .inl (fun _ => 0)))] := hD
  exact W.vret hx hb hr (fun t ht hW => ⟨⟨fun k => [n0, n1, n2, n3, n4, n5, n6, n7, n8, n9, n10, n11, n12, n13, n14, n15, n16, n17, n18, n19, n20, n21].getD k 0, rfl, trivial, by rw [ht]; exact hP, va_K.moved hW.alike hK, hD⟩, hS.F ht⟩) hS.2.2 dX4_init_183
end
section
/-! THE LAW: its table from behind its two constructors, and its block equations. -/
def tLw_0 : List bwE := [(16, (.iconst 0), 1, 0, 0, 0, [], []), (17, (.istore_n 3), 1, 0, 3, 0, [], []), (18, (.iload_n 3), 1, 0, 3, 0, [], []), (19, (.aload_n 0), 1, 0, 0, 0, [], []), (20, .arraylength, 1, 0, 0, 0, [], []), (21, (.iconst 5), 1, 5, 0, 0, [], []), (22, .isub, 1, 0, 0, 0, [], []), (23, (.if_icmp .gt 956), 3, 0, 979, 0, [], []), (26, (.aload_n 0), 1, 0, 0, 0, [], []), (27, (.iload_n 3), 1, 0, 3, 0, [], []), (28, .iaload, 1, 0, 0, 0, [], []), (29, (.bipush 31), 2, 31, 0, 0, [], []), (31, .iand, 1, 0, 0, 0, [], []), (32, (.tableswitch 941 0 28 #[132, 165, 198, 231, 284, 327, 360, 393, 406, 439, 472, 515, 528, 561, 614, 628, 642, 665, 688, 711, 724, 757, 780, 833, 856, 869, 892, 905, 918]), 132, 0, 973, 0, [], [(0, 164), (1, 197), (2, 230), (3, 263), (4, 316), (5, 359), (6, 392), (7, 425), (8, 438), (9, 471), (10, 504), (11, 547), (12, 560), (13, 593), (14, 646), (15, 660), (16, 674), (17, 697), (18, 720), (19, 743), (20, 756), (21, 789), (22, 812), (23, 865), (24, 888), (25, 901), (26, 924), (27, 937), (28, 950)]), (164, (.aload_n 1), 1, 0, 1, 0, [], []), (165, (.aload_n 0), 1, 0, 0, 0, [], []), (166, (.iload_n 3), 1, 0, 3, 0, [], []), (167, (.iconst 1), 1, 1, 0, 0, [], []), (168, .iadd, 1, 0, 0, 0, [], []), (169, .iaload, 1, 0, 0, 0, [], []), (170, (.aload_n 0), 1, 0, 0, 0, [], []), (171, (.iload_n 3), 1, 0, 3, 0, [], []), (172, (.iconst 2), 1, 2, 0, 0, [], []), (173, .iadd, 1, 0, 0, 0, [], []), (174, .iaload, 1, 0, 0, 0, [], []), (175, (.invokevirtual 13), 3, 0, 45, 3031, [], []), (178, (.aload_n 2), 1, 0, 2, 0, [], []), (179, (.aload_n 0), 1, 0, 0, 0, [], []), (180, (.iload_n 3), 1, 0, 3, 0, [], []), (181, (.iconst 1), 1, 1, 0, 0, [], []), (182, .iadd, 1, 0, 0, 0, [], []), (183, .iaload, 1, 0, 0, 0, [], []), (184, (.aload_n 0), 1, 0, 0, 0, [], []), (185, (.iload_n 3), 1, 0, 3, 0, [], []), (186, (.iconst 2), 1, 2, 0, 0, [], []), (187, .iadd, 1, 0, 0, 0, [], []), (188, .iaload, 1, 0, 0, 0, [], []), (189, (.invokevirtual 17), 3, 0, 88, 4031, [], []), (192, (.if_icmp .eq 781), 3, 0, 973, 0, [], []), (195, (.iconst 0), 1, 0, 0, 0, [], []), (196, .ireturn, 1, 0, 0, 0, [], []), (197, (.aload_n 1), 1, 0, 1, 0, [], []), (198, (.aload_n 0), 1, 0, 0, 0, [], []), (199, (.iload_n 3), 1, 0, 3, 0, [], []), (200, (.iconst 1), 1, 1, 0, 0, [], []), (201, .iadd, 1, 0, 0, 0, [], []), (202, .iaload, 1, 0, 0, 0, [], []), (203, (.aload_n 0), 1, 0, 0, 0, [], []), (204, (.iload_n 3), 1, 0, 3, 0, [], []), (205, (.iconst 2), 1, 2, 0, 0, [], []), (206, .iadd, 1, 0, 0, 0, [], []), (207, .iaload, 1, 0, 0, 0, [], []), (208, (.invokevirtual 18), 3, 0, 46, 3031, [], []), (211, (.aload_n 2), 1, 0, 2, 0, [], []), (212, (.aload_n 0), 1, 0, 0, 0, [], []), (213, (.iload_n 3), 1, 0, 3, 0, [], []), (214, (.iconst 1), 1, 1, 0, 0, [], []), (215, .iadd, 1, 0, 0, 0, [], []), (216, .iaload, 1, 0, 0, 0, [], []), (217, (.aload_n 0), 1, 0, 0, 0, [], [])]
theorem kL_law_0 : bw_okT 5 cL_law 4 tLw_0 = true := by decide +kernel
def tLw_1 : List bwE := [(218, (.iload_n 3), 1, 0, 3, 0, [], []), (219, (.iconst 2), 1, 2, 0, 0, [], []), (220, .iadd, 1, 0, 0, 0, [], []), (221, .iaload, 1, 0, 0, 0, [], []), (222, (.invokevirtual 21), 3, 0, 92, 4031, [], []), (225, (.if_icmp .eq 748), 3, 0, 973, 0, [], []), (228, (.iconst 0), 1, 0, 0, 0, [], []), (229, .ireturn, 1, 0, 0, 0, [], []), (230, (.aload_n 1), 1, 0, 1, 0, [], []), (231, (.aload_n 0), 1, 0, 0, 0, [], []), (232, (.iload_n 3), 1, 0, 3, 0, [], []), (233, (.iconst 1), 1, 1, 0, 0, [], []), (234, .iadd, 1, 0, 0, 0, [], []), (235, .iaload, 1, 0, 0, 0, [], []), (236, (.aload_n 0), 1, 0, 0, 0, [], []), (237, (.iload_n 3), 1, 0, 3, 0, [], []), (238, (.iconst 2), 1, 2, 0, 0, [], []), (239, .iadd, 1, 0, 0, 0, [], []), (240, .iaload, 1, 0, 0, 0, [], []), (241, (.invokevirtual 22), 3, 0, 47, 3031, [], []), (244, (.aload_n 2), 1, 0, 2, 0, [], []), (245, (.aload_n 0), 1, 0, 0, 0, [], []), (246, (.iload_n 3), 1, 0, 3, 0, [], []), (247, (.iconst 1), 1, 1, 0, 0, [], []), (248, .iadd, 1, 0, 0, 0, [], []), (249, .iaload, 1, 0, 0, 0, [], []), (250, (.aload_n 0), 1, 0, 0, 0, [], []), (251, (.iload_n 3), 1, 0, 3, 0, [], []), (252, (.iconst 2), 1, 2, 0, 0, [], []), (253, .iadd, 1, 0, 0, 0, [], []), (254, .iaload, 1, 0, 0, 0, [], []), (255, (.invokevirtual 25), 3, 0, 93, 4031, [], []), (258, (.if_icmp .eq 715), 3, 0, 973, 0, [], []), (261, (.iconst 0), 1, 0, 0, 0, [], []), (262, .ireturn, 1, 0, 0, 0, [], []), (263, (.aload_n 1), 1, 0, 1, 0, [], []), (264, (.aload_n 0), 1, 0, 0, 0, [], []), (265, (.iload_n 3), 1, 0, 3, 0, [], []), (266, (.iconst 1), 1, 1, 0, 0, [], []), (267, .iadd, 1, 0, 0, 0, [], []), (268, .iaload, 1, 0, 0, 0, [], []), (269, (.aload_n 0), 1, 0, 0, 0, [], []), (270, (.iload_n 3), 1, 0, 3, 0, [], []), (271, (.iconst 2), 1, 2, 0, 0, [], []), (272, .iadd, 1, 0, 0, 0, [], []), (273, .iaload, 1, 0, 0, 0, [], []), (274, (.aload_n 0), 1, 0, 0, 0, [], []), (275, (.iload_n 3), 1, 0, 3, 0, [], []), (276, (.iconst 3), 1, 3, 0, 0, [], []), (277, .iadd, 1, 0, 0, 0, [], []), (278, .iaload, 1, 0, 0, 0, [], []), (279, (.aload_n 0), 1, 0, 0, 0, [], []), (280, (.iload_n 3), 1, 0, 3, 0, [], []), (281, (.iconst 4), 1, 4, 0, 0, [], []), (282, .iadd, 1, 0, 0, 0, [], []), (283, .iaload, 1, 0, 0, 0, [], []), (284, (.invokevirtual 26), 3, 0, 48, 3051, [], []), (287, (.aload_n 2), 1, 0, 2, 0, [], []), (288, (.aload_n 0), 1, 0, 0, 0, [], []), (289, (.iload_n 3), 1, 0, 3, 0, [], [])]
theorem kL_law_1 : bw_okT 5 cL_law 4 tLw_1 = true := by decide +kernel
def tLw_2 : List bwE := [(290, (.iconst 1), 1, 1, 0, 0, [], []), (291, .iadd, 1, 0, 0, 0, [], []), (292, .iaload, 1, 0, 0, 0, [], []), (293, (.aload_n 0), 1, 0, 0, 0, [], []), (294, (.iload_n 3), 1, 0, 3, 0, [], []), (295, (.iconst 2), 1, 2, 0, 0, [], []), (296, .iadd, 1, 0, 0, 0, [], []), (297, .iaload, 1, 0, 0, 0, [], []), (298, (.aload_n 0), 1, 0, 0, 0, [], []), (299, (.iload_n 3), 1, 0, 3, 0, [], []), (300, (.iconst 3), 1, 3, 0, 0, [], []), (301, .iadd, 1, 0, 0, 0, [], []), (302, .iaload, 1, 0, 0, 0, [], []), (303, (.aload_n 0), 1, 0, 0, 0, [], []), (304, (.iload_n 3), 1, 0, 3, 0, [], []), (305, (.iconst 4), 1, 4, 0, 0, [], []), (306, .iadd, 1, 0, 0, 0, [], []), (307, .iaload, 1, 0, 0, 0, [], []), (308, (.invokevirtual 30), 3, 0, 95, 4051, [], []), (311, (.if_icmp .eq 662), 3, 0, 973, 0, [], []), (314, (.iconst 0), 1, 0, 0, 0, [], []), (315, .ireturn, 1, 0, 0, 0, [], []), (316, (.aload_n 1), 1, 0, 1, 0, [], []), (317, (.aload_n 0), 1, 0, 0, 0, [], []), (318, (.iload_n 3), 1, 0, 3, 0, [], []), (319, (.iconst 1), 1, 1, 0, 0, [], []), (320, .iadd, 1, 0, 0, 0, [], []), (321, .iaload, 1, 0, 0, 0, [], []), (322, (.aload_n 0), 1, 0, 0, 0, [], []), (323, (.iload_n 3), 1, 0, 3, 0, [], []), (324, (.iconst 2), 1, 2, 0, 0, [], []), (325, .iadd, 1, 0, 0, 0, [], []), (326, .iaload, 1, 0, 0, 0, [], []), (327, (.aload_n 0), 1, 0, 0, 0, [], []), (328, (.iload_n 3), 1, 0, 3, 0, [], []), (329, (.iconst 3), 1, 3, 0, 0, [], []), (330, .iadd, 1, 0, 0, 0, [], []), (331, .iaload, 1, 0, 0, 0, [], []), (332, (.invokevirtual 31), 3, 0, 49, 3041, [], []), (335, (.aload_n 2), 1, 0, 2, 0, [], []), (336, (.aload_n 0), 1, 0, 0, 0, [], []), (337, (.iload_n 3), 1, 0, 3, 0, [], []), (338, (.iconst 1), 1, 1, 0, 0, [], []), (339, .iadd, 1, 0, 0, 0, [], []), (340, .iaload, 1, 0, 0, 0, [], []), (341, (.aload_n 0), 1, 0, 0, 0, [], []), (342, (.iload_n 3), 1, 0, 3, 0, [], []), (343, (.iconst 2), 1, 2, 0, 0, [], []), (344, .iadd, 1, 0, 0, 0, [], []), (345, .iaload, 1, 0, 0, 0, [], []), (346, (.aload_n 0), 1, 0, 0, 0, [], []), (347, (.iload_n 3), 1, 0, 3, 0, [], []), (348, (.iconst 3), 1, 3, 0, 0, [], []), (349, .iadd, 1, 0, 0, 0, [], []), (350, .iaload, 1, 0, 0, 0, [], []), (351, (.invokevirtual 35), 3, 0, 96, 4041, [], []), (354, (.if_icmp .eq 619), 3, 0, 973, 0, [], []), (357, (.iconst 0), 1, 0, 0, 0, [], []), (358, .ireturn, 1, 0, 0, 0, [], []), (359, (.aload_n 1), 1, 0, 1, 0, [], [])]
theorem kL_law_2 : bw_okT 5 cL_law 4 tLw_2 = true := by decide +kernel
def tLw_3 : List bwE := [(360, (.aload_n 0), 1, 0, 0, 0, [], []), (361, (.iload_n 3), 1, 0, 3, 0, [], []), (362, (.iconst 1), 1, 1, 0, 0, [], []), (363, .iadd, 1, 0, 0, 0, [], []), (364, .iaload, 1, 0, 0, 0, [], []), (365, (.aload_n 0), 1, 0, 0, 0, [], []), (366, (.iload_n 3), 1, 0, 3, 0, [], []), (367, (.iconst 2), 1, 2, 0, 0, [], []), (368, .iadd, 1, 0, 0, 0, [], []), (369, .iaload, 1, 0, 0, 0, [], []), (370, (.invokevirtual 36), 3, 0, 50, 3031, [], []), (373, (.aload_n 2), 1, 0, 2, 0, [], []), (374, (.aload_n 0), 1, 0, 0, 0, [], []), (375, (.iload_n 3), 1, 0, 3, 0, [], []), (376, (.iconst 1), 1, 1, 0, 0, [], []), (377, .iadd, 1, 0, 0, 0, [], []), (378, .iaload, 1, 0, 0, 0, [], []), (379, (.aload_n 0), 1, 0, 0, 0, [], []), (380, (.iload_n 3), 1, 0, 3, 0, [], []), (381, (.iconst 2), 1, 2, 0, 0, [], []), (382, .iadd, 1, 0, 0, 0, [], []), (383, .iaload, 1, 0, 0, 0, [], []), (384, (.invokevirtual 39), 3, 0, 98, 4031, [], []), (387, (.if_icmp .eq 586), 3, 0, 973, 0, [], []), (390, (.iconst 0), 1, 0, 0, 0, [], []), (391, .ireturn, 1, 0, 0, 0, [], []), (392, (.aload_n 1), 1, 0, 1, 0, [], []), (393, (.aload_n 0), 1, 0, 0, 0, [], []), (394, (.iload_n 3), 1, 0, 3, 0, [], []), (395, (.iconst 1), 1, 1, 0, 0, [], []), (396, .iadd, 1, 0, 0, 0, [], []), (397, .iaload, 1, 0, 0, 0, [], []), (398, (.aload_n 0), 1, 0, 0, 0, [], []), (399, (.iload_n 3), 1, 0, 3, 0, [], []), (400, (.iconst 2), 1, 2, 0, 0, [], []), (401, .iadd, 1, 0, 0, 0, [], []), (402, .iaload, 1, 0, 0, 0, [], []), (403, (.invokevirtual 40), 3, 0, 51, 3031, [], []), (406, (.aload_n 2), 1, 0, 2, 0, [], []), (407, (.aload_n 0), 1, 0, 0, 0, [], []), (408, (.iload_n 3), 1, 0, 3, 0, [], []), (409, (.iconst 1), 1, 1, 0, 0, [], []), (410, .iadd, 1, 0, 0, 0, [], []), (411, .iaload, 1, 0, 0, 0, [], []), (412, (.aload_n 0), 1, 0, 0, 0, [], []), (413, (.iload_n 3), 1, 0, 3, 0, [], []), (414, (.iconst 2), 1, 2, 0, 0, [], []), (415, .iadd, 1, 0, 0, 0, [], []), (416, .iaload, 1, 0, 0, 0, [], []), (417, (.invokevirtual 43), 3, 0, 99, 4031, [], []), (420, (.if_icmp .eq 553), 3, 0, 973, 0, [], []), (423, (.iconst 0), 1, 0, 0, 0, [], []), (424, .ireturn, 1, 0, 0, 0, [], []), (425, (.aload_n 1), 1, 0, 1, 0, [], []), (426, (.invokevirtual 44), 3, 0, 52, 3011, [], []), (429, (.aload_n 2), 1, 0, 2, 0, [], []), (430, (.invokevirtual 48), 3, 0, 101, 4011, [], []), (433, (.if_icmp .eq 540), 3, 0, 973, 0, [], []), (436, (.iconst 0), 1, 0, 0, 0, [], []), (437, .ireturn, 1, 0, 0, 0, [], [])]
theorem kL_law_3 : bw_okT 5 cL_law 4 tLw_3 = true := by decide +kernel
def tLw_4 : List bwE := [(438, (.aload_n 1), 1, 0, 1, 0, [], []), (439, (.aload_n 0), 1, 0, 0, 0, [], []), (440, (.iload_n 3), 1, 0, 3, 0, [], []), (441, (.iconst 1), 1, 1, 0, 0, [], []), (442, .iadd, 1, 0, 0, 0, [], []), (443, .iaload, 1, 0, 0, 0, [], []), (444, (.aload_n 0), 1, 0, 0, 0, [], []), (445, (.iload_n 3), 1, 0, 3, 0, [], []), (446, (.iconst 2), 1, 2, 0, 0, [], []), (447, .iadd, 1, 0, 0, 0, [], []), (448, .iaload, 1, 0, 0, 0, [], []), (449, (.invokevirtual 49), 3, 0, 53, 3031, [], []), (452, (.aload_n 2), 1, 0, 2, 0, [], []), (453, (.aload_n 0), 1, 0, 0, 0, [], []), (454, (.iload_n 3), 1, 0, 3, 0, [], []), (455, (.iconst 1), 1, 1, 0, 0, [], []), (456, .iadd, 1, 0, 0, 0, [], []), (457, .iaload, 1, 0, 0, 0, [], []), (458, (.aload_n 0), 1, 0, 0, 0, [], []), (459, (.iload_n 3), 1, 0, 3, 0, [], []), (460, (.iconst 2), 1, 2, 0, 0, [], []), (461, .iadd, 1, 0, 0, 0, [], []), (462, .iaload, 1, 0, 0, 0, [], []), (463, (.invokevirtual 52), 3, 0, 104, 4031, [], []), (466, (.if_icmp .eq 507), 3, 0, 973, 0, [], []), (469, (.iconst 0), 1, 0, 0, 0, [], []), (470, .ireturn, 1, 0, 0, 0, [], []), (471, (.aload_n 1), 1, 0, 1, 0, [], []), (472, (.aload_n 0), 1, 0, 0, 0, [], []), (473, (.iload_n 3), 1, 0, 3, 0, [], []), (474, (.iconst 1), 1, 1, 0, 0, [], []), (475, .iadd, 1, 0, 0, 0, [], []), (476, .iaload, 1, 0, 0, 0, [], []), (477, (.aload_n 0), 1, 0, 0, 0, [], []), (478, (.iload_n 3), 1, 0, 3, 0, [], []), (479, (.iconst 2), 1, 2, 0, 0, [], []), (480, .iadd, 1, 0, 0, 0, [], []), (481, .iaload, 1, 0, 0, 0, [], []), (482, (.invokevirtual 53), 3, 0, 54, 3031, [], []), (485, (.aload_n 2), 1, 0, 2, 0, [], []), (486, (.aload_n 0), 1, 0, 0, 0, [], []), (487, (.iload_n 3), 1, 0, 3, 0, [], []), (488, (.iconst 1), 1, 1, 0, 0, [], []), (489, .iadd, 1, 0, 0, 0, [], []), (490, .iaload, 1, 0, 0, 0, [], []), (491, (.aload_n 0), 1, 0, 0, 0, [], []), (492, (.iload_n 3), 1, 0, 3, 0, [], []), (493, (.iconst 2), 1, 2, 0, 0, [], []), (494, .iadd, 1, 0, 0, 0, [], []), (495, .iaload, 1, 0, 0, 0, [], []), (496, (.invokevirtual 56), 3, 0, 105, 4031, [], []), (499, (.if_icmp .eq 474), 3, 0, 973, 0, [], []), (502, (.iconst 0), 1, 0, 0, 0, [], []), (503, .ireturn, 1, 0, 0, 0, [], []), (504, (.aload_n 1), 1, 0, 1, 0, [], []), (505, (.aload_n 0), 1, 0, 0, 0, [], []), (506, (.iload_n 3), 1, 0, 3, 0, [], []), (507, (.iconst 1), 1, 1, 0, 0, [], []), (508, .iadd, 1, 0, 0, 0, [], []), (509, .iaload, 1, 0, 0, 0, [], [])]
theorem kL_law_4 : bw_okT 5 cL_law 4 tLw_4 = true := by decide +kernel
def tLw_5 : List bwE := [(510, (.aload_n 0), 1, 0, 0, 0, [], []), (511, (.iload_n 3), 1, 0, 3, 0, [], []), (512, (.iconst 2), 1, 2, 0, 0, [], []), (513, .iadd, 1, 0, 0, 0, [], []), (514, .iaload, 1, 0, 0, 0, [], []), (515, (.aload_n 0), 1, 0, 0, 0, [], []), (516, (.iload_n 3), 1, 0, 3, 0, [], []), (517, (.iconst 3), 1, 3, 0, 0, [], []), (518, .iadd, 1, 0, 0, 0, [], []), (519, .iaload, 1, 0, 0, 0, [], []), (520, (.invokevirtual 57), 3, 0, 55, 3041, [], []), (523, (.aload_n 2), 1, 0, 2, 0, [], []), (524, (.aload_n 0), 1, 0, 0, 0, [], []), (525, (.iload_n 3), 1, 0, 3, 0, [], []), (526, (.iconst 1), 1, 1, 0, 0, [], []), (527, .iadd, 1, 0, 0, 0, [], []), (528, .iaload, 1, 0, 0, 0, [], []), (529, (.aload_n 0), 1, 0, 0, 0, [], []), (530, (.iload_n 3), 1, 0, 3, 0, [], []), (531, (.iconst 2), 1, 2, 0, 0, [], []), (532, .iadd, 1, 0, 0, 0, [], []), (533, .iaload, 1, 0, 0, 0, [], []), (534, (.aload_n 0), 1, 0, 0, 0, [], []), (535, (.iload_n 3), 1, 0, 3, 0, [], []), (536, (.iconst 3), 1, 3, 0, 0, [], []), (537, .iadd, 1, 0, 0, 0, [], []), (538, .iaload, 1, 0, 0, 0, [], []), (539, (.invokevirtual 60), 3, 0, 106, 4041, [], []), (542, (.if_icmp .eq 431), 3, 0, 973, 0, [], []), (545, (.iconst 0), 1, 0, 0, 0, [], []), (546, .ireturn, 1, 0, 0, 0, [], []), (547, (.aload_n 1), 1, 0, 1, 0, [], []), (548, (.invokevirtual 61), 3, 0, 56, 3011, [], []), (551, (.aload_n 2), 1, 0, 2, 0, [], []), (552, (.invokevirtual 64), 3, 0, 116, 4011, [], []), (555, (.if_icmp .eq 418), 3, 0, 973, 0, [], []), (558, (.iconst 0), 1, 0, 0, 0, [], []), (559, .ireturn, 1, 0, 0, 0, [], []), (560, (.aload_n 1), 1, 0, 1, 0, [], []), (561, (.aload_n 0), 1, 0, 0, 0, [], []), (562, (.iload_n 3), 1, 0, 3, 0, [], []), (563, (.iconst 1), 1, 1, 0, 0, [], []), (564, .iadd, 1, 0, 0, 0, [], []), (565, .iaload, 1, 0, 0, 0, [], []), (566, (.aload_n 0), 1, 0, 0, 0, [], []), (567, (.iload_n 3), 1, 0, 3, 0, [], []), (568, (.iconst 2), 1, 2, 0, 0, [], []), (569, .iadd, 1, 0, 0, 0, [], []), (570, .iaload, 1, 0, 0, 0, [], []), (571, (.invokevirtual 65), 3, 0, 57, 3031, [], []), (574, (.aload_n 2), 1, 0, 2, 0, [], []), (575, (.aload_n 0), 1, 0, 0, 0, [], []), (576, (.iload_n 3), 1, 0, 3, 0, [], []), (577, (.iconst 1), 1, 1, 0, 0, [], []), (578, .iadd, 1, 0, 0, 0, [], []), (579, .iaload, 1, 0, 0, 0, [], []), (580, (.aload_n 0), 1, 0, 0, 0, [], []), (581, (.iload_n 3), 1, 0, 3, 0, [], []), (582, (.iconst 2), 1, 2, 0, 0, [], []), (583, .iadd, 1, 0, 0, 0, [], [])]
theorem kL_law_5 : bw_okT 5 cL_law 4 tLw_5 = true := by decide +kernel
def tLw_6 : List bwE := [(584, .iaload, 1, 0, 0, 0, [], []), (585, (.invokevirtual 68), 3, 0, 118, 4031, [], []), (588, (.if_icmp .eq 385), 3, 0, 973, 0, [], []), (591, (.iconst 0), 1, 0, 0, 0, [], []), (592, .ireturn, 1, 0, 0, 0, [], []), (593, (.aload_n 1), 1, 0, 1, 0, [], []), (594, (.aload_n 0), 1, 0, 0, 0, [], []), (595, (.iload_n 3), 1, 0, 3, 0, [], []), (596, (.iconst 1), 1, 1, 0, 0, [], []), (597, .iadd, 1, 0, 0, 0, [], []), (598, .iaload, 1, 0, 0, 0, [], []), (599, (.aload_n 0), 1, 0, 0, 0, [], []), (600, (.iload_n 3), 1, 0, 3, 0, [], []), (601, (.iconst 2), 1, 2, 0, 0, [], []), (602, .iadd, 1, 0, 0, 0, [], []), (603, .iaload, 1, 0, 0, 0, [], []), (604, (.aload_n 0), 1, 0, 0, 0, [], []), (605, (.iload_n 3), 1, 0, 3, 0, [], []), (606, (.iconst 3), 1, 3, 0, 0, [], []), (607, .iadd, 1, 0, 0, 0, [], []), (608, .iaload, 1, 0, 0, 0, [], []), (609, (.aload_n 0), 1, 0, 0, 0, [], []), (610, (.iload_n 3), 1, 0, 3, 0, [], []), (611, (.iconst 4), 1, 4, 0, 0, [], []), (612, .iadd, 1, 0, 0, 0, [], []), (613, .iaload, 1, 0, 0, 0, [], []), (614, (.invokevirtual 69), 3, 0, 58, 3051, [], []), (617, (.aload_n 2), 1, 0, 2, 0, [], []), (618, (.aload_n 0), 1, 0, 0, 0, [], []), (619, (.iload_n 3), 1, 0, 3, 0, [], []), (620, (.iconst 1), 1, 1, 0, 0, [], []), (621, .iadd, 1, 0, 0, 0, [], []), (622, .iaload, 1, 0, 0, 0, [], []), (623, (.aload_n 0), 1, 0, 0, 0, [], []), (624, (.iload_n 3), 1, 0, 3, 0, [], []), (625, (.iconst 2), 1, 2, 0, 0, [], []), (626, .iadd, 1, 0, 0, 0, [], []), (627, .iaload, 1, 0, 0, 0, [], []), (628, (.aload_n 0), 1, 0, 0, 0, [], []), (629, (.iload_n 3), 1, 0, 3, 0, [], []), (630, (.iconst 3), 1, 3, 0, 0, [], []), (631, .iadd, 1, 0, 0, 0, [], []), (632, .iaload, 1, 0, 0, 0, [], []), (633, (.aload_n 0), 1, 0, 0, 0, [], []), (634, (.iload_n 3), 1, 0, 3, 0, [], []), (635, (.iconst 4), 1, 4, 0, 0, [], []), (636, .iadd, 1, 0, 0, 0, [], []), (637, .iaload, 1, 0, 0, 0, [], []), (638, (.invokevirtual 72), 3, 0, 119, 4051, [], []), (641, (.if_icmp .eq 332), 3, 0, 973, 0, [], []), (644, (.iconst 0), 1, 0, 0, 0, [], []), (645, .ireturn, 1, 0, 0, 0, [], []), (646, (.aload_n 1), 1, 0, 1, 0, [], []), (647, (.invokevirtual 73), 3, 0, 59, 3012, [], []), (650, (.aload_n 2), 1, 0, 2, 0, [], []), (651, (.invokevirtual 77), 3, 0, 114, 4012, [], []), (654, .lcmp, 1, 0, 0, 0, [], []), (655, (.ifCond .eq 318), 3, 0, 973, 0, [], []), (658, (.iconst 0), 1, 0, 0, 0, [], []), (659, .ireturn, 1, 0, 0, 0, [], [])]
theorem kL_law_6 : bw_okT 5 cL_law 4 tLw_6 = true := by decide +kernel
def tLw_7 : List bwE := [(660, (.aload_n 1), 1, 0, 1, 0, [], []), (661, (.invokevirtual 78), 3, 0, 60, 3012, [], []), (664, (.aload_n 2), 1, 0, 2, 0, [], []), (665, (.invokevirtual 81), 3, 0, 115, 4012, [], []), (668, .lcmp, 1, 0, 0, 0, [], []), (669, (.ifCond .eq 304), 3, 0, 973, 0, [], []), (672, (.iconst 0), 1, 0, 0, 0, [], []), (673, .ireturn, 1, 0, 0, 0, [], []), (674, (.aload_n 1), 1, 0, 1, 0, [], []), (675, (.aload_n 0), 1, 0, 0, 0, [], []), (676, (.iload_n 3), 1, 0, 3, 0, [], []), (677, (.iconst 1), 1, 1, 0, 0, [], []), (678, .iadd, 1, 0, 0, 0, [], []), (679, .iaload, 1, 0, 0, 0, [], []), (680, (.invokevirtual 82), 3, 0, 61, 3021, [], []), (683, (.aload_n 2), 1, 0, 2, 0, [], []), (684, (.aload_n 0), 1, 0, 0, 0, [], []), (685, (.iload_n 3), 1, 0, 3, 0, [], []), (686, (.iconst 1), 1, 1, 0, 0, [], []), (687, .iadd, 1, 0, 0, 0, [], []), (688, .iaload, 1, 0, 0, 0, [], []), (689, (.invokevirtual 86), 3, 0, 120, 4021, [], []), (692, (.if_icmp .eq 281), 3, 0, 973, 0, [], []), (695, (.iconst 0), 1, 0, 0, 0, [], []), (696, .ireturn, 1, 0, 0, 0, [], []), (697, (.aload_n 1), 1, 0, 1, 0, [], []), (698, (.aload_n 0), 1, 0, 0, 0, [], []), (699, (.iload_n 3), 1, 0, 3, 0, [], []), (700, (.iconst 1), 1, 1, 0, 0, [], []), (701, .iadd, 1, 0, 0, 0, [], []), (702, .iaload, 1, 0, 0, 0, [], []), (703, (.invokevirtual 87), 3, 0, 62, 3021, [], []), (706, (.aload_n 2), 1, 0, 2, 0, [], []), (707, (.aload_n 0), 1, 0, 0, 0, [], []), (708, (.iload_n 3), 1, 0, 3, 0, [], []), (709, (.iconst 1), 1, 1, 0, 0, [], []), (710, .iadd, 1, 0, 0, 0, [], []), (711, .iaload, 1, 0, 0, 0, [], []), (712, (.invokevirtual 90), 3, 0, 121, 4021, [], []), (715, (.if_icmp .eq 258), 3, 0, 973, 0, [], []), (718, (.iconst 0), 1, 0, 0, 0, [], []), (719, .ireturn, 1, 0, 0, 0, [], []), (720, (.aload_n 1), 1, 0, 1, 0, [], []), (721, (.aload_n 0), 1, 0, 0, 0, [], []), (722, (.iload_n 3), 1, 0, 3, 0, [], []), (723, (.iconst 1), 1, 1, 0, 0, [], []), (724, .iadd, 1, 0, 0, 0, [], []), (725, .iaload, 1, 0, 0, 0, [], []), (726, (.invokevirtual 91), 3, 0, 63, 3021, [], []), (729, (.aload_n 2), 1, 0, 2, 0, [], []), (730, (.aload_n 0), 1, 0, 0, 0, [], []), (731, (.iload_n 3), 1, 0, 3, 0, [], []), (732, (.iconst 1), 1, 1, 0, 0, [], []), (733, .iadd, 1, 0, 0, 0, [], []), (734, .iaload, 1, 0, 0, 0, [], []), (735, (.invokevirtual 94), 3, 0, 123, 4021, [], []), (738, (.if_icmp .eq 235), 3, 0, 973, 0, [], []), (741, (.iconst 0), 1, 0, 0, 0, [], []), (742, .ireturn, 1, 0, 0, 0, [], []), (743, (.aload_n 1), 1, 0, 1, 0, [], [])]
theorem kL_law_7 : bw_okT 5 cL_law 4 tLw_7 = true := by decide +kernel
def tLw_8 : List bwE := [(744, (.invokevirtual 95), 3, 0, 64, 3011, [], []), (747, (.aload_n 2), 1, 0, 2, 0, [], []), (748, (.invokevirtual 98), 3, 0, 124, 4011, [], []), (751, (.if_icmp .eq 222), 3, 0, 973, 0, [], []), (754, (.iconst 0), 1, 0, 0, 0, [], []), (755, .ireturn, 1, 0, 0, 0, [], []), (756, (.aload_n 1), 1, 0, 1, 0, [], []), (757, (.aload_n 0), 1, 0, 0, 0, [], []), (758, (.iload_n 3), 1, 0, 3, 0, [], []), (759, (.iconst 1), 1, 1, 0, 0, [], []), (760, .iadd, 1, 0, 0, 0, [], []), (761, .iaload, 1, 0, 0, 0, [], []), (762, (.aload_n 0), 1, 0, 0, 0, [], []), (763, (.iload_n 3), 1, 0, 3, 0, [], []), (764, (.iconst 2), 1, 2, 0, 0, [], []), (765, .iadd, 1, 0, 0, 0, [], []), (766, .iaload, 1, 0, 0, 0, [], []), (767, (.invokevirtual 99), 3, 0, 65, 3031, [], []), (770, (.aload_n 2), 1, 0, 2, 0, [], []), (771, (.aload_n 0), 1, 0, 0, 0, [], []), (772, (.iload_n 3), 1, 0, 3, 0, [], []), (773, (.iconst 1), 1, 1, 0, 0, [], []), (774, .iadd, 1, 0, 0, 0, [], []), (775, .iaload, 1, 0, 0, 0, [], []), (776, (.aload_n 0), 1, 0, 0, 0, [], []), (777, (.iload_n 3), 1, 0, 3, 0, [], []), (778, (.iconst 2), 1, 2, 0, 0, [], []), (779, .iadd, 1, 0, 0, 0, [], []), (780, .iaload, 1, 0, 0, 0, [], []), (781, (.invokevirtual 102), 3, 0, 127, 4031, [], []), (784, (.if_icmp .eq 189), 3, 0, 973, 0, [], []), (787, (.iconst 0), 1, 0, 0, 0, [], []), (788, .ireturn, 1, 0, 0, 0, [], []), (789, (.aload_n 1), 1, 0, 1, 0, [], []), (790, (.aload_n 0), 1, 0, 0, 0, [], []), (791, (.iload_n 3), 1, 0, 3, 0, [], []), (792, (.iconst 1), 1, 1, 0, 0, [], []), (793, .iadd, 1, 0, 0, 0, [], []), (794, .iaload, 1, 0, 0, 0, [], []), (795, (.invokevirtual 103), 3, 0, 66, 3021, [], []), (798, (.aload_n 2), 1, 0, 2, 0, [], []), (799, (.aload_n 0), 1, 0, 0, 0, [], []), (800, (.iload_n 3), 1, 0, 3, 0, [], []), (801, (.iconst 1), 1, 1, 0, 0, [], []), (802, .iadd, 1, 0, 0, 0, [], []), (803, .iaload, 1, 0, 0, 0, [], []), (804, (.invokevirtual 106), 3, 0, 128, 4021, [], []), (807, (.if_icmp .eq 166), 3, 0, 973, 0, [], []), (810, (.iconst 0), 1, 0, 0, 0, [], []), (811, .ireturn, 1, 0, 0, 0, [], []), (812, (.aload_n 1), 1, 0, 1, 0, [], []), (813, (.aload_n 0), 1, 0, 0, 0, [], []), (814, (.iload_n 3), 1, 0, 3, 0, [], []), (815, (.iconst 1), 1, 1, 0, 0, [], []), (816, .iadd, 1, 0, 0, 0, [], []), (817, .iaload, 1, 0, 0, 0, [], []), (818, (.aload_n 0), 1, 0, 0, 0, [], []), (819, (.iload_n 3), 1, 0, 3, 0, [], []), (820, (.iconst 2), 1, 2, 0, 0, [], []), (821, .iadd, 1, 0, 0, 0, [], [])]
theorem kL_law_8 : bw_okT 5 cL_law 4 tLw_8 = true := by decide +kernel
def tLw_9 : List bwE := [(822, .iaload, 1, 0, 0, 0, [], []), (823, (.aload_n 0), 1, 0, 0, 0, [], []), (824, (.iload_n 3), 1, 0, 3, 0, [], []), (825, (.iconst 3), 1, 3, 0, 0, [], []), (826, .iadd, 1, 0, 0, 0, [], []), (827, .iaload, 1, 0, 0, 0, [], []), (828, (.aload_n 0), 1, 0, 0, 0, [], []), (829, (.iload_n 3), 1, 0, 3, 0, [], []), (830, (.iconst 4), 1, 4, 0, 0, [], []), (831, .iadd, 1, 0, 0, 0, [], []), (832, .iaload, 1, 0, 0, 0, [], []), (833, (.invokevirtual 107), 3, 0, 67, 3051, [], []), (836, (.aload_n 2), 1, 0, 2, 0, [], []), (837, (.aload_n 0), 1, 0, 0, 0, [], []), (838, (.iload_n 3), 1, 0, 3, 0, [], []), (839, (.iconst 1), 1, 1, 0, 0, [], []), (840, .iadd, 1, 0, 0, 0, [], []), (841, .iaload, 1, 0, 0, 0, [], []), (842, (.aload_n 0), 1, 0, 0, 0, [], []), (843, (.iload_n 3), 1, 0, 3, 0, [], []), (844, (.iconst 2), 1, 2, 0, 0, [], []), (845, .iadd, 1, 0, 0, 0, [], []), (846, .iaload, 1, 0, 0, 0, [], []), (847, (.aload_n 0), 1, 0, 0, 0, [], []), (848, (.iload_n 3), 1, 0, 3, 0, [], []), (849, (.iconst 3), 1, 3, 0, 0, [], []), (850, .iadd, 1, 0, 0, 0, [], []), (851, .iaload, 1, 0, 0, 0, [], []), (852, (.aload_n 0), 1, 0, 0, 0, [], []), (853, (.iload_n 3), 1, 0, 3, 0, [], []), (854, (.iconst 4), 1, 4, 0, 0, [], []), (855, .iadd, 1, 0, 0, 0, [], []), (856, .iaload, 1, 0, 0, 0, [], []), (857, (.invokevirtual 110), 3, 0, 130, 4051, [], []), (860, (.if_icmp .eq 113), 3, 0, 973, 0, [], []), (863, (.iconst 0), 1, 0, 0, 0, [], []), (864, .ireturn, 1, 0, 0, 0, [], []), (865, (.aload_n 1), 1, 0, 1, 0, [], []), (866, (.aload_n 0), 1, 0, 0, 0, [], []), (867, (.iload_n 3), 1, 0, 3, 0, [], []), (868, (.iconst 1), 1, 1, 0, 0, [], []), (869, .iadd, 1, 0, 0, 0, [], []), (870, .iaload, 1, 0, 0, 0, [], []), (871, (.invokevirtual 111), 3, 0, 68, 3021, [], []), (874, (.aload_n 2), 1, 0, 2, 0, [], []), (875, (.aload_n 0), 1, 0, 0, 0, [], []), (876, (.iload_n 3), 1, 0, 3, 0, [], []), (877, (.iconst 1), 1, 1, 0, 0, [], []), (878, .iadd, 1, 0, 0, 0, [], []), (879, .iaload, 1, 0, 0, 0, [], []), (880, (.invokevirtual 114), 3, 0, 133, 4021, [], []), (883, (.if_icmp .eq 90), 3, 0, 973, 0, [], []), (886, (.iconst 0), 1, 0, 0, 0, [], []), (887, .ireturn, 1, 0, 0, 0, [], []), (888, (.aload_n 1), 1, 0, 1, 0, [], []), (889, (.invokevirtual 115), 3, 0, 69, 3011, [], []), (892, (.aload_n 2), 1, 0, 2, 0, [], []), (893, (.invokevirtual 118), 3, 0, 134, 4011, [], []), (896, (.if_icmp .eq 77), 3, 0, 973, 0, [], []), (899, (.iconst 0), 1, 0, 0, 0, [], [])]
theorem kL_law_9 : bw_okT 5 cL_law 4 tLw_9 = true := by decide +kernel
def tLw_10 : List bwE := [(900, .ireturn, 1, 0, 0, 0, [], []), (901, (.aload_n 1), 1, 0, 1, 0, [], []), (902, (.aload_n 0), 1, 0, 0, 0, [], []), (903, (.iload_n 3), 1, 0, 3, 0, [], []), (904, (.iconst 1), 1, 1, 0, 0, [], []), (905, .iadd, 1, 0, 0, 0, [], []), (906, .iaload, 1, 0, 0, 0, [], []), (907, (.invokevirtual 119), 3, 0, 70, 3021, [], []), (910, (.aload_n 2), 1, 0, 2, 0, [], []), (911, (.aload_n 0), 1, 0, 0, 0, [], []), (912, (.iload_n 3), 1, 0, 3, 0, [], []), (913, (.iconst 1), 1, 1, 0, 0, [], []), (914, .iadd, 1, 0, 0, 0, [], []), (915, .iaload, 1, 0, 0, 0, [], []), (916, (.invokevirtual 122), 3, 0, 137, 4021, [], []), (919, (.if_icmp .eq 54), 3, 0, 973, 0, [], []), (922, (.iconst 0), 1, 0, 0, 0, [], []), (923, .ireturn, 1, 0, 0, 0, [], []), (924, (.aload_n 1), 1, 0, 1, 0, [], []), (925, (.invokevirtual 123), 3, 0, 71, 3011, [], []), (928, (.aload_n 2), 1, 0, 2, 0, [], []), (929, (.invokevirtual 126), 3, 0, 138, 4011, [], []), (932, (.if_icmp .eq 41), 3, 0, 973, 0, [], []), (935, (.iconst 0), 1, 0, 0, 0, [], []), (936, .ireturn, 1, 0, 0, 0, [], []), (937, (.aload_n 1), 1, 0, 1, 0, [], []), (938, (.invokevirtual 127), 3, 0, 72, 3011, [], []), (941, (.aload_n 2), 1, 0, 2, 0, [], []), (942, (.invokevirtual 130), 3, 0, 140, 4011, [], []), (945, (.if_icmp .eq 28), 3, 0, 973, 0, [], []), (948, (.iconst 0), 1, 0, 0, 0, [], []), (949, .ireturn, 1, 0, 0, 0, [], []), (950, (.aload_n 1), 1, 0, 1, 0, [], []), (951, (.aload_n 0), 1, 0, 0, 0, [], []), (952, (.iload_n 3), 1, 0, 3, 0, [], []), (953, (.iconst 1), 1, 1, 0, 0, [], []), (954, .iadd, 1, 0, 0, 0, [], []), (955, .iaload, 1, 0, 0, 0, [], []), (956, (.invokevirtual 131), 3, 0, 73, 3021, [], []), (959, (.aload_n 2), 1, 0, 2, 0, [], []), (960, (.aload_n 0), 1, 0, 0, 0, [], []), (961, (.iload_n 3), 1, 0, 3, 0, [], []), (962, (.iconst 1), 1, 1, 0, 0, [], []), (963, .iadd, 1, 0, 0, 0, [], []), (964, .iaload, 1, 0, 0, 0, [], []), (965, (.invokevirtual 134), 3, 0, 141, 4021, [], []), (968, (.if_icmp .eq 5), 3, 0, 973, 0, [], []), (971, (.iconst 0), 1, 0, 0, 0, [], []), (972, .ireturn, 1, 0, 0, 0, [], []), (973, (.iinc 3 5), 3, 5, 3, 0, [], []), (976, (.goto (-958)), 3, 0, 18, 0, [], []), (979, (.iconst 1), 1, 1, 0, 0, [], []), (980, .ireturn, 1, 0, 0, 0, [], [])]
theorem kL_law_10 : bw_okT 5 cL_law 4 tLw_10 = true := by decide +kernel
def tLw : List bwE := tLw_0 ++ (tLw_1 ++ (tLw_2 ++ (tLw_3 ++ (tLw_4 ++ (tLw_5 ++ (tLw_6 ++ (tLw_7 ++ (tLw_8 ++ (tLw_9 ++ (tLw_10))))))))))
theorem bw_okT_app {own nL : Nat} {cc : ByteArray} {t u : List bwE} (h1 : bw_okT own cc nL t = true) (h2 : bw_okT own cc nL u = true) : bw_okT own cc nL (t ++ u) = true := by
  unfold bw_okT at *
  rw [List.all_append, h1, h2]; rfl
set_option maxRecDepth 20000 in
theorem kL_law : bw_okT 5 cL_law 4 tLw = true := bw_okT_app kL_law_0 (bw_okT_app kL_law_1 (bw_okT_app kL_law_2 (bw_okT_app kL_law_3 (bw_okT_app kL_law_4 (bw_okT_app kL_law_5 (bw_okT_app kL_law_6 (bw_okT_app kL_law_7 (bw_okT_app kL_law_8 (bw_okT_app kL_law_9 (kL_law_10))))))))))
noncomputable def eL_law (d L : Nat) (sx : Nat → Int32) (pc : Nat) (ls : List (Option bwV)) (st : List bwV) (μ : bwM) : Option bwR := bw_ex (bw_call d) (L + 1) sx 3 tLw pc ls st μ
set_option maxRecDepth 20000 in
theorem qL_law_16 (d L : Nat) (sx : Nat → Int32) (μ : bwM) : eL_law d L sx 16 [some (.inr (.inr 60)), some (.inr (.inr 0)), some (.inr (.inr 30)), none] [] μ = eL_law d L sx 18 [some (.inr (.inr 60)), some (.inr (.inr 0)), some (.inr (.inr 30)), some (.inl (0 : Int32))] [] μ := by
  exact (bw_ex_go [18, 164, 197, 230, 263, 316, 359, 392, 425, 438, 471, 504, 547, 560, 593, 646, 660, 674, 697, 720, 743, 756, 789, 812, 865, 888, 901, 924, 937, 950, 973] 4 16 _ _ _).trans rfl
set_option maxRecDepth 20000 in
theorem qL_law_18 (d L : Nat) (sx : Nat → Int32) (x3 : Int32) (μ : bwM) : eL_law d L sx 18 [some (.inr (.inr 60)), some (.inr (.inr 0)), some (.inr (.inr 30)), some (.inl x3)] [] μ = if ((Int32.ofNat L) - (5 : Int32)) < x3 then if (1 : Int32) = 0 ∨ (1 : Int32) = 1 then some (some (.inl (1 : Int32)), μ) else none else if bw_in x3 L then if ((sx x3.toNatClampNeg) &&& (31 : Int32)) = (0 : Int32) then eL_law d L sx 164 [some (.inr (.inr 60)), some (.inr (.inr 0)), some (.inr (.inr 30)), some (.inl x3)] [] μ else if ((sx x3.toNatClampNeg) &&& (31 : Int32)) = (1 : Int32) then eL_law d L sx 197 [some (.inr (.inr 60)), some (.inr (.inr 0)), some (.inr (.inr 30)), some (.inl x3)] [] μ else if ((sx x3.toNatClampNeg) &&& (31 : Int32)) = (2 : Int32) then eL_law d L sx 230 [some (.inr (.inr 60)), some (.inr (.inr 0)), some (.inr (.inr 30)), some (.inl x3)] [] μ else if ((sx x3.toNatClampNeg) &&& (31 : Int32)) = (3 : Int32) then eL_law d L sx 263 [some (.inr (.inr 60)), some (.inr (.inr 0)), some (.inr (.inr 30)), some (.inl x3)] [] μ else if ((sx x3.toNatClampNeg) &&& (31 : Int32)) = (4 : Int32) then eL_law d L sx 316 [some (.inr (.inr 60)), some (.inr (.inr 0)), some (.inr (.inr 30)), some (.inl x3)] [] μ else if ((sx x3.toNatClampNeg) &&& (31 : Int32)) = (5 : Int32) then eL_law d L sx 359 [some (.inr (.inr 60)), some (.inr (.inr 0)), some (.inr (.inr 30)), some (.inl x3)] [] μ else if ((sx x3.toNatClampNeg) &&& (31 : Int32)) = (6 : Int32) then eL_law d L sx 392 [some (.inr (.inr 60)), some (.inr (.inr 0)), some (.inr (.inr 30)), some (.inl x3)] [] μ else if ((sx x3.toNatClampNeg) &&& (31 : Int32)) = (7 : Int32) then eL_law d L sx 425 [some (.inr (.inr 60)), some (.inr (.inr 0)), some (.inr (.inr 30)), some (.inl x3)] [] μ else if ((sx x3.toNatClampNeg) &&& (31 : Int32)) = (8 : Int32) then eL_law d L sx 438 [some (.inr (.inr 60)), some (.inr (.inr 0)), some (.inr (.inr 30)), some (.inl x3)] [] μ else if ((sx x3.toNatClampNeg) &&& (31 : Int32)) = (9 : Int32) then eL_law d L sx 471 [some (.inr (.inr 60)), some (.inr (.inr 0)), some (.inr (.inr 30)), some (.inl x3)] [] μ else if ((sx x3.toNatClampNeg) &&& (31 : Int32)) = (10 : Int32) then eL_law d L sx 504 [some (.inr (.inr 60)), some (.inr (.inr 0)), some (.inr (.inr 30)), some (.inl x3)] [] μ else if ((sx x3.toNatClampNeg) &&& (31 : Int32)) = (11 : Int32) then eL_law d L sx 547 [some (.inr (.inr 60)), some (.inr (.inr 0)), some (.inr (.inr 30)), some (.inl x3)] [] μ else if ((sx x3.toNatClampNeg) &&& (31 : Int32)) = (12 : Int32) then eL_law d L sx 560 [some (.inr (.inr 60)), some (.inr (.inr 0)), some (.inr (.inr 30)), some (.inl x3)] [] μ else if ((sx x3.toNatClampNeg) &&& (31 : Int32)) = (13 : Int32) then eL_law d L sx 593 [some (.inr (.inr 60)), some (.inr (.inr 0)), some (.inr (.inr 30)), some (.inl x3)] [] μ else if ((sx x3.toNatClampNeg) &&& (31 : Int32)) = (14 : Int32) then eL_law d L sx 646 [some (.inr (.inr 60)), some (.inr (.inr 0)), some (.inr (.inr 30)), some (.inl x3)] [] μ else if ((sx x3.toNatClampNeg) &&& (31 : Int32)) = (15 : Int32) then eL_law d L sx 660 [some (.inr (.inr 60)), some (.inr (.inr 0)), some (.inr (.inr 30)), some (.inl x3)] [] μ else if ((sx x3.toNatClampNeg) &&& (31 : Int32)) = (16 : Int32) then eL_law d L sx 674 [some (.inr (.inr 60)), some (.inr (.inr 0)), some (.inr (.inr 30)), some (.inl x3)] [] μ else if ((sx x3.toNatClampNeg) &&& (31 : Int32)) = (17 : Int32) then eL_law d L sx 697 [some (.inr (.inr 60)), some (.inr (.inr 0)), some (.inr (.inr 30)), some (.inl x3)] [] μ else if ((sx x3.toNatClampNeg) &&& (31 : Int32)) = (18 : Int32) then eL_law d L sx 720 [some (.inr (.inr 60)), some (.inr (.inr 0)), some (.inr (.inr 30)), some (.inl x3)] [] μ else if ((sx x3.toNatClampNeg) &&& (31 : Int32)) = (19 : Int32) then eL_law d L sx 743 [some (.inr (.inr 60)), some (.inr (.inr 0)), some (.inr (.inr 30)), some (.inl x3)] [] μ else if ((sx x3.toNatClampNeg) &&& (31 : Int32)) = (20 : Int32) then eL_law d L sx 756 [some (.inr (.inr 60)), some (.inr (.inr 0)), some (.inr (.inr 30)), some (.inl x3)] [] μ else if ((sx x3.toNatClampNeg) &&& (31 : Int32)) = (21 : Int32) then eL_law d L sx 789 [some (.inr (.inr 60)), some (.inr (.inr 0)), some (.inr (.inr 30)), some (.inl x3)] [] μ else if ((sx x3.toNatClampNeg) &&& (31 : Int32)) = (22 : Int32) then eL_law d L sx 812 [some (.inr (.inr 60)), some (.inr (.inr 0)), some (.inr (.inr 30)), some (.inl x3)] [] μ else if ((sx x3.toNatClampNeg) &&& (31 : Int32)) = (23 : Int32) then eL_law d L sx 865 [some (.inr (.inr 60)), some (.inr (.inr 0)), some (.inr (.inr 30)), some (.inl x3)] [] μ else if ((sx x3.toNatClampNeg) &&& (31 : Int32)) = (24 : Int32) then eL_law d L sx 888 [some (.inr (.inr 60)), some (.inr (.inr 0)), some (.inr (.inr 30)), some (.inl x3)] [] μ else if ((sx x3.toNatClampNeg) &&& (31 : Int32)) = (25 : Int32) then eL_law d L sx 901 [some (.inr (.inr 60)), some (.inr (.inr 0)), some (.inr (.inr 30)), some (.inl x3)] [] μ else if ((sx x3.toNatClampNeg) &&& (31 : Int32)) = (26 : Int32) then eL_law d L sx 924 [some (.inr (.inr 60)), some (.inr (.inr 0)), some (.inr (.inr 30)), some (.inl x3)] [] μ else if ((sx x3.toNatClampNeg) &&& (31 : Int32)) = (27 : Int32) then eL_law d L sx 937 [some (.inr (.inr 60)), some (.inr (.inr 0)), some (.inr (.inr 30)), some (.inl x3)] [] μ else if ((sx x3.toNatClampNeg) &&& (31 : Int32)) = (28 : Int32) then eL_law d L sx 950 [some (.inr (.inr 60)), some (.inr (.inr 0)), some (.inr (.inr 30)), some (.inl x3)] [] μ else eL_law d L sx 973 [some (.inr (.inr 60)), some (.inr (.inr 0)), some (.inr (.inr 30)), some (.inl x3)] [] μ else none := by
  exact (bw_ex_go [18, 164, 197, 230, 263, 316, 359, 392, 425, 438, 471, 504, 547, 560, 593, 646, 660, 674, 697, 720, 743, 756, 789, 812, 865, 888, 901, 924, 937, 950, 973] 14 18 _ _ _).trans rfl
set_option maxRecDepth 20000 in
theorem qL_law_164 (d L : Nat) (sx : Nat → Int32) (x3 : Int32) (μ : bwM) : eL_law d L sx 164 [some (.inr (.inr 60)), some (.inr (.inr 0)), some (.inr (.inr 30)), some (.inl x3)] [] μ = if bw_in (x3 + (1 : Int32)) L then if bw_in (x3 + (2 : Int32)) L then bw_bI (bw_call d 45 [.inr (.inr 0), .inl (sx (x3 + (1 : Int32)).toNatClampNeg), .inl (sx (x3 + (2 : Int32)).toNatClampNeg)] μ) none (fun r2 m1 => if bw_in (x3 + (1 : Int32)) L then if bw_in (x3 + (2 : Int32)) L then bw_bI (bw_call d 88 [.inr (.inr 30), .inl (sx (x3 + (1 : Int32)).toNatClampNeg), .inl (sx (x3 + (2 : Int32)).toNatClampNeg)] m1) none (fun r4 m3 => if r2 = r4 then eL_law d L sx 973 [some (.inr (.inr 60)), some (.inr (.inr 0)), some (.inr (.inr 30)), some (.inl x3)] [] m3 else if (0 : Int32) = 0 ∨ (0 : Int32) = 1 then some (some (.inl (0 : Int32)), m3) else none) else none else none) else none else none := by
  exact (bw_ex_go [18, 164, 197, 230, 263, 316, 359, 392, 425, 438, 471, 504, 547, 560, 593, 646, 660, 674, 697, 720, 743, 756, 789, 812, 865, 888, 901, 924, 937, 950, 973] 28 164 _ _ _).trans rfl
set_option maxRecDepth 20000 in
theorem qL_law_197 (d L : Nat) (sx : Nat → Int32) (x3 : Int32) (μ : bwM) : eL_law d L sx 197 [some (.inr (.inr 60)), some (.inr (.inr 0)), some (.inr (.inr 30)), some (.inl x3)] [] μ = if bw_in (x3 + (1 : Int32)) L then if bw_in (x3 + (2 : Int32)) L then bw_bI (bw_call d 46 [.inr (.inr 0), .inl (sx (x3 + (1 : Int32)).toNatClampNeg), .inl (sx (x3 + (2 : Int32)).toNatClampNeg)] μ) none (fun r2 m1 => if bw_in (x3 + (1 : Int32)) L then if bw_in (x3 + (2 : Int32)) L then bw_bI (bw_call d 92 [.inr (.inr 30), .inl (sx (x3 + (1 : Int32)).toNatClampNeg), .inl (sx (x3 + (2 : Int32)).toNatClampNeg)] m1) none (fun r4 m3 => if r2 = r4 then eL_law d L sx 973 [some (.inr (.inr 60)), some (.inr (.inr 0)), some (.inr (.inr 30)), some (.inl x3)] [] m3 else if (0 : Int32) = 0 ∨ (0 : Int32) = 1 then some (some (.inl (0 : Int32)), m3) else none) else none else none) else none else none := by
  exact (bw_ex_go [18, 164, 197, 230, 263, 316, 359, 392, 425, 438, 471, 504, 547, 560, 593, 646, 660, 674, 697, 720, 743, 756, 789, 812, 865, 888, 901, 924, 937, 950, 973] 28 197 _ _ _).trans rfl
set_option maxRecDepth 20000 in
theorem qL_law_230 (d L : Nat) (sx : Nat → Int32) (x3 : Int32) (μ : bwM) : eL_law d L sx 230 [some (.inr (.inr 60)), some (.inr (.inr 0)), some (.inr (.inr 30)), some (.inl x3)] [] μ = if bw_in (x3 + (1 : Int32)) L then if bw_in (x3 + (2 : Int32)) L then bw_bI (bw_call d 47 [.inr (.inr 0), .inl (sx (x3 + (1 : Int32)).toNatClampNeg), .inl (sx (x3 + (2 : Int32)).toNatClampNeg)] μ) none (fun r2 m1 => if bw_in (x3 + (1 : Int32)) L then if bw_in (x3 + (2 : Int32)) L then bw_bI (bw_call d 93 [.inr (.inr 30), .inl (sx (x3 + (1 : Int32)).toNatClampNeg), .inl (sx (x3 + (2 : Int32)).toNatClampNeg)] m1) none (fun r4 m3 => if r2 = r4 then eL_law d L sx 973 [some (.inr (.inr 60)), some (.inr (.inr 0)), some (.inr (.inr 30)), some (.inl x3)] [] m3 else if (0 : Int32) = 0 ∨ (0 : Int32) = 1 then some (some (.inl (0 : Int32)), m3) else none) else none else none) else none else none := by
  exact (bw_ex_go [18, 164, 197, 230, 263, 316, 359, 392, 425, 438, 471, 504, 547, 560, 593, 646, 660, 674, 697, 720, 743, 756, 789, 812, 865, 888, 901, 924, 937, 950, 973] 28 230 _ _ _).trans rfl
set_option maxRecDepth 20000 in
theorem qL_law_263 (d L : Nat) (sx : Nat → Int32) (x3 : Int32) (μ : bwM) : eL_law d L sx 263 [some (.inr (.inr 60)), some (.inr (.inr 0)), some (.inr (.inr 30)), some (.inl x3)] [] μ = if bw_in (x3 + (1 : Int32)) L then if bw_in (x3 + (2 : Int32)) L then if bw_in (x3 + (3 : Int32)) L then if bw_in (x3 + (4 : Int32)) L then bw_bI (bw_call d 48 [.inr (.inr 0), .inl (sx (x3 + (1 : Int32)).toNatClampNeg), .inl (sx (x3 + (2 : Int32)).toNatClampNeg), .inl (sx (x3 + (3 : Int32)).toNatClampNeg), .inl (sx (x3 + (4 : Int32)).toNatClampNeg)] μ) none (fun r2 m1 => if bw_in (x3 + (1 : Int32)) L then if bw_in (x3 + (2 : Int32)) L then if bw_in (x3 + (3 : Int32)) L then if bw_in (x3 + (4 : Int32)) L then bw_bI (bw_call d 95 [.inr (.inr 30), .inl (sx (x3 + (1 : Int32)).toNatClampNeg), .inl (sx (x3 + (2 : Int32)).toNatClampNeg), .inl (sx (x3 + (3 : Int32)).toNatClampNeg), .inl (sx (x3 + (4 : Int32)).toNatClampNeg)] m1) none (fun r4 m3 => if r2 = r4 then eL_law d L sx 973 [some (.inr (.inr 60)), some (.inr (.inr 0)), some (.inr (.inr 30)), some (.inl x3)] [] m3 else if (0 : Int32) = 0 ∨ (0 : Int32) = 1 then some (some (.inl (0 : Int32)), m3) else none) else none else none else none else none) else none else none else none else none := by
  exact (bw_ex_go [18, 164, 197, 230, 263, 316, 359, 392, 425, 438, 471, 504, 547, 560, 593, 646, 660, 674, 697, 720, 743, 756, 789, 812, 865, 888, 901, 924, 937, 950, 973] 48 263 _ _ _).trans rfl
set_option maxRecDepth 20000 in
theorem qL_law_316 (d L : Nat) (sx : Nat → Int32) (x3 : Int32) (μ : bwM) : eL_law d L sx 316 [some (.inr (.inr 60)), some (.inr (.inr 0)), some (.inr (.inr 30)), some (.inl x3)] [] μ = if bw_in (x3 + (1 : Int32)) L then if bw_in (x3 + (2 : Int32)) L then if bw_in (x3 + (3 : Int32)) L then bw_bI (bw_call d 49 [.inr (.inr 0), .inl (sx (x3 + (1 : Int32)).toNatClampNeg), .inl (sx (x3 + (2 : Int32)).toNatClampNeg), .inl (sx (x3 + (3 : Int32)).toNatClampNeg)] μ) none (fun r2 m1 => if bw_in (x3 + (1 : Int32)) L then if bw_in (x3 + (2 : Int32)) L then if bw_in (x3 + (3 : Int32)) L then bw_bI (bw_call d 96 [.inr (.inr 30), .inl (sx (x3 + (1 : Int32)).toNatClampNeg), .inl (sx (x3 + (2 : Int32)).toNatClampNeg), .inl (sx (x3 + (3 : Int32)).toNatClampNeg)] m1) none (fun r4 m3 => if r2 = r4 then eL_law d L sx 973 [some (.inr (.inr 60)), some (.inr (.inr 0)), some (.inr (.inr 30)), some (.inl x3)] [] m3 else if (0 : Int32) = 0 ∨ (0 : Int32) = 1 then some (some (.inl (0 : Int32)), m3) else none) else none else none else none) else none else none else none := by
  exact (bw_ex_go [18, 164, 197, 230, 263, 316, 359, 392, 425, 438, 471, 504, 547, 560, 593, 646, 660, 674, 697, 720, 743, 756, 789, 812, 865, 888, 901, 924, 937, 950, 973] 38 316 _ _ _).trans rfl
set_option maxRecDepth 20000 in
theorem qL_law_359 (d L : Nat) (sx : Nat → Int32) (x3 : Int32) (μ : bwM) : eL_law d L sx 359 [some (.inr (.inr 60)), some (.inr (.inr 0)), some (.inr (.inr 30)), some (.inl x3)] [] μ = if bw_in (x3 + (1 : Int32)) L then if bw_in (x3 + (2 : Int32)) L then bw_bI (bw_call d 50 [.inr (.inr 0), .inl (sx (x3 + (1 : Int32)).toNatClampNeg), .inl (sx (x3 + (2 : Int32)).toNatClampNeg)] μ) none (fun r2 m1 => if bw_in (x3 + (1 : Int32)) L then if bw_in (x3 + (2 : Int32)) L then bw_bI (bw_call d 98 [.inr (.inr 30), .inl (sx (x3 + (1 : Int32)).toNatClampNeg), .inl (sx (x3 + (2 : Int32)).toNatClampNeg)] m1) none (fun r4 m3 => if r2 = r4 then eL_law d L sx 973 [some (.inr (.inr 60)), some (.inr (.inr 0)), some (.inr (.inr 30)), some (.inl x3)] [] m3 else if (0 : Int32) = 0 ∨ (0 : Int32) = 1 then some (some (.inl (0 : Int32)), m3) else none) else none else none) else none else none := by
  exact (bw_ex_go [18, 164, 197, 230, 263, 316, 359, 392, 425, 438, 471, 504, 547, 560, 593, 646, 660, 674, 697, 720, 743, 756, 789, 812, 865, 888, 901, 924, 937, 950, 973] 28 359 _ _ _).trans rfl
set_option maxRecDepth 20000 in
theorem qL_law_392 (d L : Nat) (sx : Nat → Int32) (x3 : Int32) (μ : bwM) : eL_law d L sx 392 [some (.inr (.inr 60)), some (.inr (.inr 0)), some (.inr (.inr 30)), some (.inl x3)] [] μ = if bw_in (x3 + (1 : Int32)) L then if bw_in (x3 + (2 : Int32)) L then bw_bI (bw_call d 51 [.inr (.inr 0), .inl (sx (x3 + (1 : Int32)).toNatClampNeg), .inl (sx (x3 + (2 : Int32)).toNatClampNeg)] μ) none (fun r2 m1 => if bw_in (x3 + (1 : Int32)) L then if bw_in (x3 + (2 : Int32)) L then bw_bI (bw_call d 99 [.inr (.inr 30), .inl (sx (x3 + (1 : Int32)).toNatClampNeg), .inl (sx (x3 + (2 : Int32)).toNatClampNeg)] m1) none (fun r4 m3 => if r2 = r4 then eL_law d L sx 973 [some (.inr (.inr 60)), some (.inr (.inr 0)), some (.inr (.inr 30)), some (.inl x3)] [] m3 else if (0 : Int32) = 0 ∨ (0 : Int32) = 1 then some (some (.inl (0 : Int32)), m3) else none) else none else none) else none else none := by
  exact (bw_ex_go [18, 164, 197, 230, 263, 316, 359, 392, 425, 438, 471, 504, 547, 560, 593, 646, 660, 674, 697, 720, 743, 756, 789, 812, 865, 888, 901, 924, 937, 950, 973] 28 392 _ _ _).trans rfl
set_option maxRecDepth 20000 in
theorem qL_law_425 (d L : Nat) (sx : Nat → Int32) (x3 : Int32) (μ : bwM) : eL_law d L sx 425 [some (.inr (.inr 60)), some (.inr (.inr 0)), some (.inr (.inr 30)), some (.inl x3)] [] μ = bw_bI (bw_call d 52 [.inr (.inr 0)] μ) none (fun r2 m1 => bw_bI (bw_call d 101 [.inr (.inr 30)] m1) none (fun r4 m3 => if r2 = r4 then eL_law d L sx 973 [some (.inr (.inr 60)), some (.inr (.inr 0)), some (.inr (.inr 30)), some (.inl x3)] [] m3 else if (0 : Int32) = 0 ∨ (0 : Int32) = 1 then some (some (.inl (0 : Int32)), m3) else none)) := by
  exact (bw_ex_go [18, 164, 197, 230, 263, 316, 359, 392, 425, 438, 471, 504, 547, 560, 593, 646, 660, 674, 697, 720, 743, 756, 789, 812, 865, 888, 901, 924, 937, 950, 973] 8 425 _ _ _).trans rfl
set_option maxRecDepth 20000 in
theorem qL_law_438 (d L : Nat) (sx : Nat → Int32) (x3 : Int32) (μ : bwM) : eL_law d L sx 438 [some (.inr (.inr 60)), some (.inr (.inr 0)), some (.inr (.inr 30)), some (.inl x3)] [] μ = if bw_in (x3 + (1 : Int32)) L then if bw_in (x3 + (2 : Int32)) L then bw_bI (bw_call d 53 [.inr (.inr 0), .inl (sx (x3 + (1 : Int32)).toNatClampNeg), .inl (sx (x3 + (2 : Int32)).toNatClampNeg)] μ) none (fun r2 m1 => if bw_in (x3 + (1 : Int32)) L then if bw_in (x3 + (2 : Int32)) L then bw_bI (bw_call d 104 [.inr (.inr 30), .inl (sx (x3 + (1 : Int32)).toNatClampNeg), .inl (sx (x3 + (2 : Int32)).toNatClampNeg)] m1) none (fun r4 m3 => if r2 = r4 then eL_law d L sx 973 [some (.inr (.inr 60)), some (.inr (.inr 0)), some (.inr (.inr 30)), some (.inl x3)] [] m3 else if (0 : Int32) = 0 ∨ (0 : Int32) = 1 then some (some (.inl (0 : Int32)), m3) else none) else none else none) else none else none := by
  exact (bw_ex_go [18, 164, 197, 230, 263, 316, 359, 392, 425, 438, 471, 504, 547, 560, 593, 646, 660, 674, 697, 720, 743, 756, 789, 812, 865, 888, 901, 924, 937, 950, 973] 28 438 _ _ _).trans rfl
set_option maxRecDepth 20000 in
theorem qL_law_471 (d L : Nat) (sx : Nat → Int32) (x3 : Int32) (μ : bwM) : eL_law d L sx 471 [some (.inr (.inr 60)), some (.inr (.inr 0)), some (.inr (.inr 30)), some (.inl x3)] [] μ = if bw_in (x3 + (1 : Int32)) L then if bw_in (x3 + (2 : Int32)) L then bw_bI (bw_call d 54 [.inr (.inr 0), .inl (sx (x3 + (1 : Int32)).toNatClampNeg), .inl (sx (x3 + (2 : Int32)).toNatClampNeg)] μ) none (fun r2 m1 => if bw_in (x3 + (1 : Int32)) L then if bw_in (x3 + (2 : Int32)) L then bw_bI (bw_call d 105 [.inr (.inr 30), .inl (sx (x3 + (1 : Int32)).toNatClampNeg), .inl (sx (x3 + (2 : Int32)).toNatClampNeg)] m1) none (fun r4 m3 => if r2 = r4 then eL_law d L sx 973 [some (.inr (.inr 60)), some (.inr (.inr 0)), some (.inr (.inr 30)), some (.inl x3)] [] m3 else if (0 : Int32) = 0 ∨ (0 : Int32) = 1 then some (some (.inl (0 : Int32)), m3) else none) else none else none) else none else none := by
  exact (bw_ex_go [18, 164, 197, 230, 263, 316, 359, 392, 425, 438, 471, 504, 547, 560, 593, 646, 660, 674, 697, 720, 743, 756, 789, 812, 865, 888, 901, 924, 937, 950, 973] 28 471 _ _ _).trans rfl
set_option maxRecDepth 20000 in
theorem qL_law_504 (d L : Nat) (sx : Nat → Int32) (x3 : Int32) (μ : bwM) : eL_law d L sx 504 [some (.inr (.inr 60)), some (.inr (.inr 0)), some (.inr (.inr 30)), some (.inl x3)] [] μ = if bw_in (x3 + (1 : Int32)) L then if bw_in (x3 + (2 : Int32)) L then if bw_in (x3 + (3 : Int32)) L then bw_bI (bw_call d 55 [.inr (.inr 0), .inl (sx (x3 + (1 : Int32)).toNatClampNeg), .inl (sx (x3 + (2 : Int32)).toNatClampNeg), .inl (sx (x3 + (3 : Int32)).toNatClampNeg)] μ) none (fun r2 m1 => if bw_in (x3 + (1 : Int32)) L then if bw_in (x3 + (2 : Int32)) L then if bw_in (x3 + (3 : Int32)) L then bw_bI (bw_call d 106 [.inr (.inr 30), .inl (sx (x3 + (1 : Int32)).toNatClampNeg), .inl (sx (x3 + (2 : Int32)).toNatClampNeg), .inl (sx (x3 + (3 : Int32)).toNatClampNeg)] m1) none (fun r4 m3 => if r2 = r4 then eL_law d L sx 973 [some (.inr (.inr 60)), some (.inr (.inr 0)), some (.inr (.inr 30)), some (.inl x3)] [] m3 else if (0 : Int32) = 0 ∨ (0 : Int32) = 1 then some (some (.inl (0 : Int32)), m3) else none) else none else none else none) else none else none else none := by
  exact (bw_ex_go [18, 164, 197, 230, 263, 316, 359, 392, 425, 438, 471, 504, 547, 560, 593, 646, 660, 674, 697, 720, 743, 756, 789, 812, 865, 888, 901, 924, 937, 950, 973] 38 504 _ _ _).trans rfl
set_option maxRecDepth 20000 in
theorem qL_law_547 (d L : Nat) (sx : Nat → Int32) (x3 : Int32) (μ : bwM) : eL_law d L sx 547 [some (.inr (.inr 60)), some (.inr (.inr 0)), some (.inr (.inr 30)), some (.inl x3)] [] μ = bw_bI (bw_call d 56 [.inr (.inr 0)] μ) none (fun r2 m1 => bw_bI (bw_call d 116 [.inr (.inr 30)] m1) none (fun r4 m3 => if r2 = r4 then eL_law d L sx 973 [some (.inr (.inr 60)), some (.inr (.inr 0)), some (.inr (.inr 30)), some (.inl x3)] [] m3 else if (0 : Int32) = 0 ∨ (0 : Int32) = 1 then some (some (.inl (0 : Int32)), m3) else none)) := by
  exact (bw_ex_go [18, 164, 197, 230, 263, 316, 359, 392, 425, 438, 471, 504, 547, 560, 593, 646, 660, 674, 697, 720, 743, 756, 789, 812, 865, 888, 901, 924, 937, 950, 973] 8 547 _ _ _).trans rfl
set_option maxRecDepth 20000 in
theorem qL_law_560 (d L : Nat) (sx : Nat → Int32) (x3 : Int32) (μ : bwM) : eL_law d L sx 560 [some (.inr (.inr 60)), some (.inr (.inr 0)), some (.inr (.inr 30)), some (.inl x3)] [] μ = if bw_in (x3 + (1 : Int32)) L then if bw_in (x3 + (2 : Int32)) L then bw_bI (bw_call d 57 [.inr (.inr 0), .inl (sx (x3 + (1 : Int32)).toNatClampNeg), .inl (sx (x3 + (2 : Int32)).toNatClampNeg)] μ) none (fun r2 m1 => if bw_in (x3 + (1 : Int32)) L then if bw_in (x3 + (2 : Int32)) L then bw_bI (bw_call d 118 [.inr (.inr 30), .inl (sx (x3 + (1 : Int32)).toNatClampNeg), .inl (sx (x3 + (2 : Int32)).toNatClampNeg)] m1) none (fun r4 m3 => if r2 = r4 then eL_law d L sx 973 [some (.inr (.inr 60)), some (.inr (.inr 0)), some (.inr (.inr 30)), some (.inl x3)] [] m3 else if (0 : Int32) = 0 ∨ (0 : Int32) = 1 then some (some (.inl (0 : Int32)), m3) else none) else none else none) else none else none := by
  exact (bw_ex_go [18, 164, 197, 230, 263, 316, 359, 392, 425, 438, 471, 504, 547, 560, 593, 646, 660, 674, 697, 720, 743, 756, 789, 812, 865, 888, 901, 924, 937, 950, 973] 28 560 _ _ _).trans rfl
set_option maxRecDepth 20000 in
theorem qL_law_593 (d L : Nat) (sx : Nat → Int32) (x3 : Int32) (μ : bwM) : eL_law d L sx 593 [some (.inr (.inr 60)), some (.inr (.inr 0)), some (.inr (.inr 30)), some (.inl x3)] [] μ = if bw_in (x3 + (1 : Int32)) L then if bw_in (x3 + (2 : Int32)) L then if bw_in (x3 + (3 : Int32)) L then if bw_in (x3 + (4 : Int32)) L then bw_bI (bw_call d 58 [.inr (.inr 0), .inl (sx (x3 + (1 : Int32)).toNatClampNeg), .inl (sx (x3 + (2 : Int32)).toNatClampNeg), .inl (sx (x3 + (3 : Int32)).toNatClampNeg), .inl (sx (x3 + (4 : Int32)).toNatClampNeg)] μ) none (fun r2 m1 => if bw_in (x3 + (1 : Int32)) L then if bw_in (x3 + (2 : Int32)) L then if bw_in (x3 + (3 : Int32)) L then if bw_in (x3 + (4 : Int32)) L then bw_bI (bw_call d 119 [.inr (.inr 30), .inl (sx (x3 + (1 : Int32)).toNatClampNeg), .inl (sx (x3 + (2 : Int32)).toNatClampNeg), .inl (sx (x3 + (3 : Int32)).toNatClampNeg), .inl (sx (x3 + (4 : Int32)).toNatClampNeg)] m1) none (fun r4 m3 => if r2 = r4 then eL_law d L sx 973 [some (.inr (.inr 60)), some (.inr (.inr 0)), some (.inr (.inr 30)), some (.inl x3)] [] m3 else if (0 : Int32) = 0 ∨ (0 : Int32) = 1 then some (some (.inl (0 : Int32)), m3) else none) else none else none else none else none) else none else none else none else none := by
  exact (bw_ex_go [18, 164, 197, 230, 263, 316, 359, 392, 425, 438, 471, 504, 547, 560, 593, 646, 660, 674, 697, 720, 743, 756, 789, 812, 865, 888, 901, 924, 937, 950, 973] 48 593 _ _ _).trans rfl
set_option maxRecDepth 20000 in
theorem qL_law_646 (d L : Nat) (sx : Nat → Int32) (x3 : Int32) (μ : bwM) : eL_law d L sx 646 [some (.inr (.inr 60)), some (.inr (.inr 0)), some (.inr (.inr 30)), some (.inl x3)] [] μ = bw_bL (bw_call d 59 [.inr (.inr 0)] μ) none (fun r2 m1 => bw_bL (bw_call d 114 [.inr (.inr 30)] m1) none (fun r4 m3 => if (lg_cmp r2 r4) = 0 then eL_law d L sx 973 [some (.inr (.inr 60)), some (.inr (.inr 0)), some (.inr (.inr 30)), some (.inl x3)] [] m3 else if (0 : Int32) = 0 ∨ (0 : Int32) = 1 then some (some (.inl (0 : Int32)), m3) else none)) := by
  exact (bw_ex_go [18, 164, 197, 230, 263, 316, 359, 392, 425, 438, 471, 504, 547, 560, 593, 646, 660, 674, 697, 720, 743, 756, 789, 812, 865, 888, 901, 924, 937, 950, 973] 9 646 _ _ _).trans rfl
set_option maxRecDepth 20000 in
theorem qL_law_660 (d L : Nat) (sx : Nat → Int32) (x3 : Int32) (μ : bwM) : eL_law d L sx 660 [some (.inr (.inr 60)), some (.inr (.inr 0)), some (.inr (.inr 30)), some (.inl x3)] [] μ = bw_bL (bw_call d 60 [.inr (.inr 0)] μ) none (fun r2 m1 => bw_bL (bw_call d 115 [.inr (.inr 30)] m1) none (fun r4 m3 => if (lg_cmp r2 r4) = 0 then eL_law d L sx 973 [some (.inr (.inr 60)), some (.inr (.inr 0)), some (.inr (.inr 30)), some (.inl x3)] [] m3 else if (0 : Int32) = 0 ∨ (0 : Int32) = 1 then some (some (.inl (0 : Int32)), m3) else none)) := by
  exact (bw_ex_go [18, 164, 197, 230, 263, 316, 359, 392, 425, 438, 471, 504, 547, 560, 593, 646, 660, 674, 697, 720, 743, 756, 789, 812, 865, 888, 901, 924, 937, 950, 973] 9 660 _ _ _).trans rfl
set_option maxRecDepth 20000 in
theorem qL_law_674 (d L : Nat) (sx : Nat → Int32) (x3 : Int32) (μ : bwM) : eL_law d L sx 674 [some (.inr (.inr 60)), some (.inr (.inr 0)), some (.inr (.inr 30)), some (.inl x3)] [] μ = if bw_in (x3 + (1 : Int32)) L then bw_bI (bw_call d 61 [.inr (.inr 0), .inl (sx (x3 + (1 : Int32)).toNatClampNeg)] μ) none (fun r2 m1 => if bw_in (x3 + (1 : Int32)) L then bw_bI (bw_call d 120 [.inr (.inr 30), .inl (sx (x3 + (1 : Int32)).toNatClampNeg)] m1) none (fun r4 m3 => if r2 = r4 then eL_law d L sx 973 [some (.inr (.inr 60)), some (.inr (.inr 0)), some (.inr (.inr 30)), some (.inl x3)] [] m3 else if (0 : Int32) = 0 ∨ (0 : Int32) = 1 then some (some (.inl (0 : Int32)), m3) else none) else none) else none := by
  exact (bw_ex_go [18, 164, 197, 230, 263, 316, 359, 392, 425, 438, 471, 504, 547, 560, 593, 646, 660, 674, 697, 720, 743, 756, 789, 812, 865, 888, 901, 924, 937, 950, 973] 18 674 _ _ _).trans rfl
set_option maxRecDepth 20000 in
theorem qL_law_697 (d L : Nat) (sx : Nat → Int32) (x3 : Int32) (μ : bwM) : eL_law d L sx 697 [some (.inr (.inr 60)), some (.inr (.inr 0)), some (.inr (.inr 30)), some (.inl x3)] [] μ = if bw_in (x3 + (1 : Int32)) L then bw_bI (bw_call d 62 [.inr (.inr 0), .inl (sx (x3 + (1 : Int32)).toNatClampNeg)] μ) none (fun r2 m1 => if bw_in (x3 + (1 : Int32)) L then bw_bI (bw_call d 121 [.inr (.inr 30), .inl (sx (x3 + (1 : Int32)).toNatClampNeg)] m1) none (fun r4 m3 => if r2 = r4 then eL_law d L sx 973 [some (.inr (.inr 60)), some (.inr (.inr 0)), some (.inr (.inr 30)), some (.inl x3)] [] m3 else if (0 : Int32) = 0 ∨ (0 : Int32) = 1 then some (some (.inl (0 : Int32)), m3) else none) else none) else none := by
  exact (bw_ex_go [18, 164, 197, 230, 263, 316, 359, 392, 425, 438, 471, 504, 547, 560, 593, 646, 660, 674, 697, 720, 743, 756, 789, 812, 865, 888, 901, 924, 937, 950, 973] 18 697 _ _ _).trans rfl
set_option maxRecDepth 20000 in
theorem qL_law_720 (d L : Nat) (sx : Nat → Int32) (x3 : Int32) (μ : bwM) : eL_law d L sx 720 [some (.inr (.inr 60)), some (.inr (.inr 0)), some (.inr (.inr 30)), some (.inl x3)] [] μ = if bw_in (x3 + (1 : Int32)) L then bw_bI (bw_call d 63 [.inr (.inr 0), .inl (sx (x3 + (1 : Int32)).toNatClampNeg)] μ) none (fun r2 m1 => if bw_in (x3 + (1 : Int32)) L then bw_bI (bw_call d 123 [.inr (.inr 30), .inl (sx (x3 + (1 : Int32)).toNatClampNeg)] m1) none (fun r4 m3 => if r2 = r4 then eL_law d L sx 973 [some (.inr (.inr 60)), some (.inr (.inr 0)), some (.inr (.inr 30)), some (.inl x3)] [] m3 else if (0 : Int32) = 0 ∨ (0 : Int32) = 1 then some (some (.inl (0 : Int32)), m3) else none) else none) else none := by
  exact (bw_ex_go [18, 164, 197, 230, 263, 316, 359, 392, 425, 438, 471, 504, 547, 560, 593, 646, 660, 674, 697, 720, 743, 756, 789, 812, 865, 888, 901, 924, 937, 950, 973] 18 720 _ _ _).trans rfl
set_option maxRecDepth 20000 in
theorem qL_law_743 (d L : Nat) (sx : Nat → Int32) (x3 : Int32) (μ : bwM) : eL_law d L sx 743 [some (.inr (.inr 60)), some (.inr (.inr 0)), some (.inr (.inr 30)), some (.inl x3)] [] μ = bw_bI (bw_call d 64 [.inr (.inr 0)] μ) none (fun r2 m1 => bw_bI (bw_call d 124 [.inr (.inr 30)] m1) none (fun r4 m3 => if r2 = r4 then eL_law d L sx 973 [some (.inr (.inr 60)), some (.inr (.inr 0)), some (.inr (.inr 30)), some (.inl x3)] [] m3 else if (0 : Int32) = 0 ∨ (0 : Int32) = 1 then some (some (.inl (0 : Int32)), m3) else none)) := by
  exact (bw_ex_go [18, 164, 197, 230, 263, 316, 359, 392, 425, 438, 471, 504, 547, 560, 593, 646, 660, 674, 697, 720, 743, 756, 789, 812, 865, 888, 901, 924, 937, 950, 973] 8 743 _ _ _).trans rfl
set_option maxRecDepth 20000 in
theorem qL_law_756 (d L : Nat) (sx : Nat → Int32) (x3 : Int32) (μ : bwM) : eL_law d L sx 756 [some (.inr (.inr 60)), some (.inr (.inr 0)), some (.inr (.inr 30)), some (.inl x3)] [] μ = if bw_in (x3 + (1 : Int32)) L then if bw_in (x3 + (2 : Int32)) L then bw_bI (bw_call d 65 [.inr (.inr 0), .inl (sx (x3 + (1 : Int32)).toNatClampNeg), .inl (sx (x3 + (2 : Int32)).toNatClampNeg)] μ) none (fun r2 m1 => if bw_in (x3 + (1 : Int32)) L then if bw_in (x3 + (2 : Int32)) L then bw_bI (bw_call d 127 [.inr (.inr 30), .inl (sx (x3 + (1 : Int32)).toNatClampNeg), .inl (sx (x3 + (2 : Int32)).toNatClampNeg)] m1) none (fun r4 m3 => if r2 = r4 then eL_law d L sx 973 [some (.inr (.inr 60)), some (.inr (.inr 0)), some (.inr (.inr 30)), some (.inl x3)] [] m3 else if (0 : Int32) = 0 ∨ (0 : Int32) = 1 then some (some (.inl (0 : Int32)), m3) else none) else none else none) else none else none := by
  exact (bw_ex_go [18, 164, 197, 230, 263, 316, 359, 392, 425, 438, 471, 504, 547, 560, 593, 646, 660, 674, 697, 720, 743, 756, 789, 812, 865, 888, 901, 924, 937, 950, 973] 28 756 _ _ _).trans rfl
set_option maxRecDepth 20000 in
theorem qL_law_789 (d L : Nat) (sx : Nat → Int32) (x3 : Int32) (μ : bwM) : eL_law d L sx 789 [some (.inr (.inr 60)), some (.inr (.inr 0)), some (.inr (.inr 30)), some (.inl x3)] [] μ = if bw_in (x3 + (1 : Int32)) L then bw_bI (bw_call d 66 [.inr (.inr 0), .inl (sx (x3 + (1 : Int32)).toNatClampNeg)] μ) none (fun r2 m1 => if bw_in (x3 + (1 : Int32)) L then bw_bI (bw_call d 128 [.inr (.inr 30), .inl (sx (x3 + (1 : Int32)).toNatClampNeg)] m1) none (fun r4 m3 => if r2 = r4 then eL_law d L sx 973 [some (.inr (.inr 60)), some (.inr (.inr 0)), some (.inr (.inr 30)), some (.inl x3)] [] m3 else if (0 : Int32) = 0 ∨ (0 : Int32) = 1 then some (some (.inl (0 : Int32)), m3) else none) else none) else none := by
  exact (bw_ex_go [18, 164, 197, 230, 263, 316, 359, 392, 425, 438, 471, 504, 547, 560, 593, 646, 660, 674, 697, 720, 743, 756, 789, 812, 865, 888, 901, 924, 937, 950, 973] 18 789 _ _ _).trans rfl
set_option maxRecDepth 20000 in
theorem qL_law_812 (d L : Nat) (sx : Nat → Int32) (x3 : Int32) (μ : bwM) : eL_law d L sx 812 [some (.inr (.inr 60)), some (.inr (.inr 0)), some (.inr (.inr 30)), some (.inl x3)] [] μ = if bw_in (x3 + (1 : Int32)) L then if bw_in (x3 + (2 : Int32)) L then if bw_in (x3 + (3 : Int32)) L then if bw_in (x3 + (4 : Int32)) L then bw_bI (bw_call d 67 [.inr (.inr 0), .inl (sx (x3 + (1 : Int32)).toNatClampNeg), .inl (sx (x3 + (2 : Int32)).toNatClampNeg), .inl (sx (x3 + (3 : Int32)).toNatClampNeg), .inl (sx (x3 + (4 : Int32)).toNatClampNeg)] μ) none (fun r2 m1 => if bw_in (x3 + (1 : Int32)) L then if bw_in (x3 + (2 : Int32)) L then if bw_in (x3 + (3 : Int32)) L then if bw_in (x3 + (4 : Int32)) L then bw_bI (bw_call d 130 [.inr (.inr 30), .inl (sx (x3 + (1 : Int32)).toNatClampNeg), .inl (sx (x3 + (2 : Int32)).toNatClampNeg), .inl (sx (x3 + (3 : Int32)).toNatClampNeg), .inl (sx (x3 + (4 : Int32)).toNatClampNeg)] m1) none (fun r4 m3 => if r2 = r4 then eL_law d L sx 973 [some (.inr (.inr 60)), some (.inr (.inr 0)), some (.inr (.inr 30)), some (.inl x3)] [] m3 else if (0 : Int32) = 0 ∨ (0 : Int32) = 1 then some (some (.inl (0 : Int32)), m3) else none) else none else none else none else none) else none else none else none else none := by
  exact (bw_ex_go [18, 164, 197, 230, 263, 316, 359, 392, 425, 438, 471, 504, 547, 560, 593, 646, 660, 674, 697, 720, 743, 756, 789, 812, 865, 888, 901, 924, 937, 950, 973] 48 812 _ _ _).trans rfl
set_option maxRecDepth 20000 in
theorem qL_law_865 (d L : Nat) (sx : Nat → Int32) (x3 : Int32) (μ : bwM) : eL_law d L sx 865 [some (.inr (.inr 60)), some (.inr (.inr 0)), some (.inr (.inr 30)), some (.inl x3)] [] μ = if bw_in (x3 + (1 : Int32)) L then bw_bI (bw_call d 68 [.inr (.inr 0), .inl (sx (x3 + (1 : Int32)).toNatClampNeg)] μ) none (fun r2 m1 => if bw_in (x3 + (1 : Int32)) L then bw_bI (bw_call d 133 [.inr (.inr 30), .inl (sx (x3 + (1 : Int32)).toNatClampNeg)] m1) none (fun r4 m3 => if r2 = r4 then eL_law d L sx 973 [some (.inr (.inr 60)), some (.inr (.inr 0)), some (.inr (.inr 30)), some (.inl x3)] [] m3 else if (0 : Int32) = 0 ∨ (0 : Int32) = 1 then some (some (.inl (0 : Int32)), m3) else none) else none) else none := by
  exact (bw_ex_go [18, 164, 197, 230, 263, 316, 359, 392, 425, 438, 471, 504, 547, 560, 593, 646, 660, 674, 697, 720, 743, 756, 789, 812, 865, 888, 901, 924, 937, 950, 973] 18 865 _ _ _).trans rfl
set_option maxRecDepth 20000 in
theorem qL_law_888 (d L : Nat) (sx : Nat → Int32) (x3 : Int32) (μ : bwM) : eL_law d L sx 888 [some (.inr (.inr 60)), some (.inr (.inr 0)), some (.inr (.inr 30)), some (.inl x3)] [] μ = bw_bI (bw_call d 69 [.inr (.inr 0)] μ) none (fun r2 m1 => bw_bI (bw_call d 134 [.inr (.inr 30)] m1) none (fun r4 m3 => if r2 = r4 then eL_law d L sx 973 [some (.inr (.inr 60)), some (.inr (.inr 0)), some (.inr (.inr 30)), some (.inl x3)] [] m3 else if (0 : Int32) = 0 ∨ (0 : Int32) = 1 then some (some (.inl (0 : Int32)), m3) else none)) := by
  exact (bw_ex_go [18, 164, 197, 230, 263, 316, 359, 392, 425, 438, 471, 504, 547, 560, 593, 646, 660, 674, 697, 720, 743, 756, 789, 812, 865, 888, 901, 924, 937, 950, 973] 8 888 _ _ _).trans rfl
set_option maxRecDepth 20000 in
theorem qL_law_901 (d L : Nat) (sx : Nat → Int32) (x3 : Int32) (μ : bwM) : eL_law d L sx 901 [some (.inr (.inr 60)), some (.inr (.inr 0)), some (.inr (.inr 30)), some (.inl x3)] [] μ = if bw_in (x3 + (1 : Int32)) L then bw_bI (bw_call d 70 [.inr (.inr 0), .inl (sx (x3 + (1 : Int32)).toNatClampNeg)] μ) none (fun r2 m1 => if bw_in (x3 + (1 : Int32)) L then bw_bI (bw_call d 137 [.inr (.inr 30), .inl (sx (x3 + (1 : Int32)).toNatClampNeg)] m1) none (fun r4 m3 => if r2 = r4 then eL_law d L sx 973 [some (.inr (.inr 60)), some (.inr (.inr 0)), some (.inr (.inr 30)), some (.inl x3)] [] m3 else if (0 : Int32) = 0 ∨ (0 : Int32) = 1 then some (some (.inl (0 : Int32)), m3) else none) else none) else none := by
  exact (bw_ex_go [18, 164, 197, 230, 263, 316, 359, 392, 425, 438, 471, 504, 547, 560, 593, 646, 660, 674, 697, 720, 743, 756, 789, 812, 865, 888, 901, 924, 937, 950, 973] 18 901 _ _ _).trans rfl
set_option maxRecDepth 20000 in
theorem qL_law_924 (d L : Nat) (sx : Nat → Int32) (x3 : Int32) (μ : bwM) : eL_law d L sx 924 [some (.inr (.inr 60)), some (.inr (.inr 0)), some (.inr (.inr 30)), some (.inl x3)] [] μ = bw_bI (bw_call d 71 [.inr (.inr 0)] μ) none (fun r2 m1 => bw_bI (bw_call d 138 [.inr (.inr 30)] m1) none (fun r4 m3 => if r2 = r4 then eL_law d L sx 973 [some (.inr (.inr 60)), some (.inr (.inr 0)), some (.inr (.inr 30)), some (.inl x3)] [] m3 else if (0 : Int32) = 0 ∨ (0 : Int32) = 1 then some (some (.inl (0 : Int32)), m3) else none)) := by
  exact (bw_ex_go [18, 164, 197, 230, 263, 316, 359, 392, 425, 438, 471, 504, 547, 560, 593, 646, 660, 674, 697, 720, 743, 756, 789, 812, 865, 888, 901, 924, 937, 950, 973] 8 924 _ _ _).trans rfl
set_option maxRecDepth 20000 in
theorem qL_law_937 (d L : Nat) (sx : Nat → Int32) (x3 : Int32) (μ : bwM) : eL_law d L sx 937 [some (.inr (.inr 60)), some (.inr (.inr 0)), some (.inr (.inr 30)), some (.inl x3)] [] μ = bw_bI (bw_call d 72 [.inr (.inr 0)] μ) none (fun r2 m1 => bw_bI (bw_call d 140 [.inr (.inr 30)] m1) none (fun r4 m3 => if r2 = r4 then eL_law d L sx 973 [some (.inr (.inr 60)), some (.inr (.inr 0)), some (.inr (.inr 30)), some (.inl x3)] [] m3 else if (0 : Int32) = 0 ∨ (0 : Int32) = 1 then some (some (.inl (0 : Int32)), m3) else none)) := by
  exact (bw_ex_go [18, 164, 197, 230, 263, 316, 359, 392, 425, 438, 471, 504, 547, 560, 593, 646, 660, 674, 697, 720, 743, 756, 789, 812, 865, 888, 901, 924, 937, 950, 973] 8 937 _ _ _).trans rfl
set_option maxRecDepth 20000 in
theorem qL_law_950 (d L : Nat) (sx : Nat → Int32) (x3 : Int32) (μ : bwM) : eL_law d L sx 950 [some (.inr (.inr 60)), some (.inr (.inr 0)), some (.inr (.inr 30)), some (.inl x3)] [] μ = if bw_in (x3 + (1 : Int32)) L then bw_bI (bw_call d 73 [.inr (.inr 0), .inl (sx (x3 + (1 : Int32)).toNatClampNeg)] μ) none (fun r2 m1 => if bw_in (x3 + (1 : Int32)) L then bw_bI (bw_call d 141 [.inr (.inr 30), .inl (sx (x3 + (1 : Int32)).toNatClampNeg)] m1) none (fun r4 m3 => if r2 = r4 then eL_law d L sx 973 [some (.inr (.inr 60)), some (.inr (.inr 0)), some (.inr (.inr 30)), some (.inl x3)] [] m3 else if (0 : Int32) = 0 ∨ (0 : Int32) = 1 then some (some (.inl (0 : Int32)), m3) else none) else none) else none := by
  exact (bw_ex_go [18, 164, 197, 230, 263, 316, 359, 392, 425, 438, 471, 504, 547, 560, 593, 646, 660, 674, 697, 720, 743, 756, 789, 812, 865, 888, 901, 924, 937, 950, 973] 18 950 _ _ _).trans rfl
set_option maxRecDepth 20000 in
theorem qL_law_973 (d L : Nat) (sx : Nat → Int32) (x3 : Int32) (μ : bwM) : eL_law d L sx 973 [some (.inr (.inr 60)), some (.inr (.inr 0)), some (.inr (.inr 30)), some (.inl x3)] [] μ = eL_law d L sx 18 [some (.inr (.inr 60)), some (.inr (.inr 0)), some (.inr (.inr 30)), some (.inl (x3 + (5 : Int32)))] [] μ := by
  exact (bw_ex_go [18, 164, 197, 230, 263, 316, 359, 392, 425, 438, 471, 504, 547, 560, 593, 646, 660, 674, 697, 720, 743, 756, 789, 812, 865, 888, 901, 924, 937, 950, 973] 4 973 _ _ _).trans rfl
end
section
/-! Web.copyAll: System.arraycopy over the lesser of the two lengths. -/
set_option maxRecDepth 20000 in
theorem qX2_copyAll_3_13 (d : Nat) (μ : bwM) : bw_call (d + 1) 44 [.inr (.inr 3), .inr (.inr 13)] μ = some (none, bw_cp μ 3 13 0 0 12) := by
  refine (bw_ex_go [] 12 0 _ _ _).trans ?_
  show (if ((0 : Int32) ≤ 0 ∧ (0 : Int32) ≤ 0) ∧ (0 ≤ (if Int32.ofNat 12 < Int32.ofNat 12 then Int32.ofNat 12 else Int32.ofNat 12) ∧ (0 : Int32).toNatClampNeg + (if Int32.ofNat 12 < Int32.ofNat 12 then Int32.ofNat 12 else Int32.ofNat 12).toNatClampNeg ≤ 12 ∧ (0 : Int32).toNatClampNeg + (if Int32.ofNat 12 < Int32.ofNat 12 then Int32.ofNat 12 else Int32.ofNat 12).toNatClampNeg ≤ 12) then some (none, bw_cp μ 3 13 (0 : Int32).toNatClampNeg (0 : Int32).toNatClampNeg (if Int32.ofNat 12 < Int32.ofNat 12 then Int32.ofNat 12 else Int32.ofNat 12).toNatClampNeg) else none) = _
  rw [if_pos (by decide +kernel), show (0 : Int32).toNatClampNeg = 0 by decide +kernel, show (if Int32.ofNat 12 < Int32.ofNat 12 then Int32.ofNat 12 else Int32.ofNat 12).toNatClampNeg = 12 by decide +kernel]
set_option maxRecDepth 20000 in
theorem qX2_copyAll_4_14 (d : Nat) (μ : bwM) : bw_call (d + 1) 44 [.inr (.inr 4), .inr (.inr 14)] μ = some (none, bw_cp μ 4 14 0 0 12) := by
  refine (bw_ex_go [] 12 0 _ _ _).trans ?_
  show (if ((0 : Int32) ≤ 0 ∧ (0 : Int32) ≤ 0) ∧ (0 ≤ (if Int32.ofNat 12 < Int32.ofNat 12 then Int32.ofNat 12 else Int32.ofNat 12) ∧ (0 : Int32).toNatClampNeg + (if Int32.ofNat 12 < Int32.ofNat 12 then Int32.ofNat 12 else Int32.ofNat 12).toNatClampNeg ≤ 12 ∧ (0 : Int32).toNatClampNeg + (if Int32.ofNat 12 < Int32.ofNat 12 then Int32.ofNat 12 else Int32.ofNat 12).toNatClampNeg ≤ 12) then some (none, bw_cp μ 4 14 (0 : Int32).toNatClampNeg (0 : Int32).toNatClampNeg (if Int32.ofNat 12 < Int32.ofNat 12 then Int32.ofNat 12 else Int32.ofNat 12).toNatClampNeg) else none) = _
  rw [if_pos (by decide +kernel), show (0 : Int32).toNatClampNeg = 0 by decide +kernel, show (if Int32.ofNat 12 < Int32.ofNat 12 then Int32.ofNat 12 else Int32.ofNat 12).toNatClampNeg = 12 by decide +kernel]
set_option maxRecDepth 20000 in
theorem qX2_copyAll_5_15 (d : Nat) (μ : bwM) : bw_call (d + 1) 44 [.inr (.inr 5), .inr (.inr 15)] μ = some (none, bw_cp μ 5 15 0 0 12) := by
  refine (bw_ex_go [] 12 0 _ _ _).trans ?_
  show (if ((0 : Int32) ≤ 0 ∧ (0 : Int32) ≤ 0) ∧ (0 ≤ (if Int32.ofNat 12 < Int32.ofNat 12 then Int32.ofNat 12 else Int32.ofNat 12) ∧ (0 : Int32).toNatClampNeg + (if Int32.ofNat 12 < Int32.ofNat 12 then Int32.ofNat 12 else Int32.ofNat 12).toNatClampNeg ≤ 12 ∧ (0 : Int32).toNatClampNeg + (if Int32.ofNat 12 < Int32.ofNat 12 then Int32.ofNat 12 else Int32.ofNat 12).toNatClampNeg ≤ 12) then some (none, bw_cp μ 5 15 (0 : Int32).toNatClampNeg (0 : Int32).toNatClampNeg (if Int32.ofNat 12 < Int32.ofNat 12 then Int32.ofNat 12 else Int32.ofNat 12).toNatClampNeg) else none) = _
  rw [if_pos (by decide +kernel), show (0 : Int32).toNatClampNeg = 0 by decide +kernel, show (if Int32.ofNat 12 < Int32.ofNat 12 then Int32.ofNat 12 else Int32.ofNat 12).toNatClampNeg = 12 by decide +kernel]
set_option maxRecDepth 20000 in
theorem qX2_copyAll_6_16 (d : Nat) (μ : bwM) : bw_call (d + 1) 44 [.inr (.inr 6), .inr (.inr 16)] μ = some (none, bw_cp μ 6 16 0 0 36) := by
  refine (bw_ex_go [] 12 0 _ _ _).trans ?_
  show (if ((0 : Int32) ≤ 0 ∧ (0 : Int32) ≤ 0) ∧ (0 ≤ (if Int32.ofNat 36 < Int32.ofNat 36 then Int32.ofNat 36 else Int32.ofNat 36) ∧ (0 : Int32).toNatClampNeg + (if Int32.ofNat 36 < Int32.ofNat 36 then Int32.ofNat 36 else Int32.ofNat 36).toNatClampNeg ≤ 36 ∧ (0 : Int32).toNatClampNeg + (if Int32.ofNat 36 < Int32.ofNat 36 then Int32.ofNat 36 else Int32.ofNat 36).toNatClampNeg ≤ 36) then some (none, bw_cp μ 6 16 (0 : Int32).toNatClampNeg (0 : Int32).toNatClampNeg (if Int32.ofNat 36 < Int32.ofNat 36 then Int32.ofNat 36 else Int32.ofNat 36).toNatClampNeg) else none) = _
  rw [if_pos (by decide +kernel), show (0 : Int32).toNatClampNeg = 0 by decide +kernel, show (if Int32.ofNat 36 < Int32.ofNat 36 then Int32.ofNat 36 else Int32.ofNat 36).toNatClampNeg = 36 by decide +kernel]
set_option maxRecDepth 20000 in
theorem qX2_copyAll_7_17 (d : Nat) (μ : bwM) : bw_call (d + 1) 44 [.inr (.inr 7), .inr (.inr 17)] μ = some (none, bw_cp μ 7 17 0 0 3072) := by
  refine (bw_ex_go [] 12 0 _ _ _).trans ?_
  show (if ((0 : Int32) ≤ 0 ∧ (0 : Int32) ≤ 0) ∧ (0 ≤ (if Int32.ofNat 3072 < Int32.ofNat 3072 then Int32.ofNat 3072 else Int32.ofNat 3072) ∧ (0 : Int32).toNatClampNeg + (if Int32.ofNat 3072 < Int32.ofNat 3072 then Int32.ofNat 3072 else Int32.ofNat 3072).toNatClampNeg ≤ 3072 ∧ (0 : Int32).toNatClampNeg + (if Int32.ofNat 3072 < Int32.ofNat 3072 then Int32.ofNat 3072 else Int32.ofNat 3072).toNatClampNeg ≤ 3072) then some (none, bw_cp μ 7 17 (0 : Int32).toNatClampNeg (0 : Int32).toNatClampNeg (if Int32.ofNat 3072 < Int32.ofNat 3072 then Int32.ofNat 3072 else Int32.ofNat 3072).toNatClampNeg) else none) = _
  rw [if_pos (by decide +kernel), show (0 : Int32).toNatClampNeg = 0 by decide +kernel, show (if Int32.ofNat 3072 < Int32.ofNat 3072 then Int32.ofNat 3072 else Int32.ofNat 3072).toNatClampNeg = 3072 by decide +kernel]
set_option maxRecDepth 20000 in
theorem qX2_copyAll_8_18 (d : Nat) (μ : bwM) : bw_call (d + 1) 44 [.inr (.inr 8), .inr (.inr 18)] μ = some (none, bw_cp μ 8 18 0 0 12) := by
  refine (bw_ex_go [] 12 0 _ _ _).trans ?_
  show (if ((0 : Int32) ≤ 0 ∧ (0 : Int32) ≤ 0) ∧ (0 ≤ (if Int32.ofNat 12 < Int32.ofNat 12 then Int32.ofNat 12 else Int32.ofNat 12) ∧ (0 : Int32).toNatClampNeg + (if Int32.ofNat 12 < Int32.ofNat 12 then Int32.ofNat 12 else Int32.ofNat 12).toNatClampNeg ≤ 12 ∧ (0 : Int32).toNatClampNeg + (if Int32.ofNat 12 < Int32.ofNat 12 then Int32.ofNat 12 else Int32.ofNat 12).toNatClampNeg ≤ 12) then some (none, bw_cp μ 8 18 (0 : Int32).toNatClampNeg (0 : Int32).toNatClampNeg (if Int32.ofNat 12 < Int32.ofNat 12 then Int32.ofNat 12 else Int32.ofNat 12).toNatClampNeg) else none) = _
  rw [if_pos (by decide +kernel), show (0 : Int32).toNatClampNeg = 0 by decide +kernel, show (if Int32.ofNat 12 < Int32.ofNat 12 then Int32.ofNat 12 else Int32.ofNat 12).toNatClampNeg = 12 by decide +kernel]
set_option maxRecDepth 20000 in
theorem qX2_copyAll_9_19 (d : Nat) (μ : bwM) : bw_call (d + 1) 44 [.inr (.inr 9), .inr (.inr 19)] μ = some (none, bw_cp μ 9 19 0 0 12) := by
  refine (bw_ex_go [] 12 0 _ _ _).trans ?_
  show (if ((0 : Int32) ≤ 0 ∧ (0 : Int32) ≤ 0) ∧ (0 ≤ (if Int32.ofNat 12 < Int32.ofNat 12 then Int32.ofNat 12 else Int32.ofNat 12) ∧ (0 : Int32).toNatClampNeg + (if Int32.ofNat 12 < Int32.ofNat 12 then Int32.ofNat 12 else Int32.ofNat 12).toNatClampNeg ≤ 12 ∧ (0 : Int32).toNatClampNeg + (if Int32.ofNat 12 < Int32.ofNat 12 then Int32.ofNat 12 else Int32.ofNat 12).toNatClampNeg ≤ 12) then some (none, bw_cp μ 9 19 (0 : Int32).toNatClampNeg (0 : Int32).toNatClampNeg (if Int32.ofNat 12 < Int32.ofNat 12 then Int32.ofNat 12 else Int32.ofNat 12).toNatClampNeg) else none) = _
  rw [if_pos (by decide +kernel), show (0 : Int32).toNatClampNeg = 0 by decide +kernel, show (if Int32.ofNat 12 < Int32.ofNat 12 then Int32.ofNat 12 else Int32.ofNat 12).toNatClampNeg = 12 by decide +kernel]
set_option maxRecDepth 20000 in
theorem qX2_copyAll_10_20 (d : Nat) (μ : bwM) : bw_call (d + 1) 44 [.inr (.inr 10), .inr (.inr 20)] μ = some (none, bw_cp μ 10 20 0 0 48) := by
  refine (bw_ex_go [] 12 0 _ _ _).trans ?_
  show (if ((0 : Int32) ≤ 0 ∧ (0 : Int32) ≤ 0) ∧ (0 ≤ (if Int32.ofNat 48 < Int32.ofNat 48 then Int32.ofNat 48 else Int32.ofNat 48) ∧ (0 : Int32).toNatClampNeg + (if Int32.ofNat 48 < Int32.ofNat 48 then Int32.ofNat 48 else Int32.ofNat 48).toNatClampNeg ≤ 48 ∧ (0 : Int32).toNatClampNeg + (if Int32.ofNat 48 < Int32.ofNat 48 then Int32.ofNat 48 else Int32.ofNat 48).toNatClampNeg ≤ 48) then some (none, bw_cp μ 10 20 (0 : Int32).toNatClampNeg (0 : Int32).toNatClampNeg (if Int32.ofNat 48 < Int32.ofNat 48 then Int32.ofNat 48 else Int32.ofNat 48).toNatClampNeg) else none) = _
  rw [if_pos (by decide +kernel), show (0 : Int32).toNatClampNeg = 0 by decide +kernel, show (if Int32.ofNat 48 < Int32.ofNat 48 then Int32.ofNat 48 else Int32.ofNat 48).toNatClampNeg = 48 by decide +kernel]
set_option maxRecDepth 20000 in
theorem qX2_copyAll_11_21 (d : Nat) (μ : bwM) : bw_call (d + 1) 44 [.inr (.inr 11), .inr (.inr 21)] μ = some (none, bw_cp μ 11 21 0 0 288) := by
  refine (bw_ex_go [] 12 0 _ _ _).trans ?_
  show (if ((0 : Int32) ≤ 0 ∧ (0 : Int32) ≤ 0) ∧ (0 ≤ (if Int32.ofNat 288 < Int32.ofNat 288 then Int32.ofNat 288 else Int32.ofNat 288) ∧ (0 : Int32).toNatClampNeg + (if Int32.ofNat 288 < Int32.ofNat 288 then Int32.ofNat 288 else Int32.ofNat 288).toNatClampNeg ≤ 288 ∧ (0 : Int32).toNatClampNeg + (if Int32.ofNat 288 < Int32.ofNat 288 then Int32.ofNat 288 else Int32.ofNat 288).toNatClampNeg ≤ 288) then some (none, bw_cp μ 11 21 (0 : Int32).toNatClampNeg (0 : Int32).toNatClampNeg (if Int32.ofNat 288 < Int32.ofNat 288 then Int32.ofNat 288 else Int32.ofNat 288).toNatClampNeg) else none) = _
  rw [if_pos (by decide +kernel), show (0 : Int32).toNatClampNeg = 0 by decide +kernel, show (if Int32.ofNat 288 < Int32.ofNat 288 then Int32.ofNat 288 else Int32.ofNat 288).toNatClampNeg = 288 by decide +kernel]
set_option maxRecDepth 20000 in
theorem qX2_copyAll_13_3 (d : Nat) (μ : bwM) : bw_call (d + 1) 44 [.inr (.inr 13), .inr (.inr 3)] μ = some (none, bw_cp μ 13 3 0 0 12) := by
  refine (bw_ex_go [] 12 0 _ _ _).trans ?_
  show (if ((0 : Int32) ≤ 0 ∧ (0 : Int32) ≤ 0) ∧ (0 ≤ (if Int32.ofNat 12 < Int32.ofNat 12 then Int32.ofNat 12 else Int32.ofNat 12) ∧ (0 : Int32).toNatClampNeg + (if Int32.ofNat 12 < Int32.ofNat 12 then Int32.ofNat 12 else Int32.ofNat 12).toNatClampNeg ≤ 12 ∧ (0 : Int32).toNatClampNeg + (if Int32.ofNat 12 < Int32.ofNat 12 then Int32.ofNat 12 else Int32.ofNat 12).toNatClampNeg ≤ 12) then some (none, bw_cp μ 13 3 (0 : Int32).toNatClampNeg (0 : Int32).toNatClampNeg (if Int32.ofNat 12 < Int32.ofNat 12 then Int32.ofNat 12 else Int32.ofNat 12).toNatClampNeg) else none) = _
  rw [if_pos (by decide +kernel), show (0 : Int32).toNatClampNeg = 0 by decide +kernel, show (if Int32.ofNat 12 < Int32.ofNat 12 then Int32.ofNat 12 else Int32.ofNat 12).toNatClampNeg = 12 by decide +kernel]
set_option maxRecDepth 20000 in
theorem qX2_copyAll_14_4 (d : Nat) (μ : bwM) : bw_call (d + 1) 44 [.inr (.inr 14), .inr (.inr 4)] μ = some (none, bw_cp μ 14 4 0 0 12) := by
  refine (bw_ex_go [] 12 0 _ _ _).trans ?_
  show (if ((0 : Int32) ≤ 0 ∧ (0 : Int32) ≤ 0) ∧ (0 ≤ (if Int32.ofNat 12 < Int32.ofNat 12 then Int32.ofNat 12 else Int32.ofNat 12) ∧ (0 : Int32).toNatClampNeg + (if Int32.ofNat 12 < Int32.ofNat 12 then Int32.ofNat 12 else Int32.ofNat 12).toNatClampNeg ≤ 12 ∧ (0 : Int32).toNatClampNeg + (if Int32.ofNat 12 < Int32.ofNat 12 then Int32.ofNat 12 else Int32.ofNat 12).toNatClampNeg ≤ 12) then some (none, bw_cp μ 14 4 (0 : Int32).toNatClampNeg (0 : Int32).toNatClampNeg (if Int32.ofNat 12 < Int32.ofNat 12 then Int32.ofNat 12 else Int32.ofNat 12).toNatClampNeg) else none) = _
  rw [if_pos (by decide +kernel), show (0 : Int32).toNatClampNeg = 0 by decide +kernel, show (if Int32.ofNat 12 < Int32.ofNat 12 then Int32.ofNat 12 else Int32.ofNat 12).toNatClampNeg = 12 by decide +kernel]
set_option maxRecDepth 20000 in
theorem qX2_copyAll_15_5 (d : Nat) (μ : bwM) : bw_call (d + 1) 44 [.inr (.inr 15), .inr (.inr 5)] μ = some (none, bw_cp μ 15 5 0 0 12) := by
  refine (bw_ex_go [] 12 0 _ _ _).trans ?_
  show (if ((0 : Int32) ≤ 0 ∧ (0 : Int32) ≤ 0) ∧ (0 ≤ (if Int32.ofNat 12 < Int32.ofNat 12 then Int32.ofNat 12 else Int32.ofNat 12) ∧ (0 : Int32).toNatClampNeg + (if Int32.ofNat 12 < Int32.ofNat 12 then Int32.ofNat 12 else Int32.ofNat 12).toNatClampNeg ≤ 12 ∧ (0 : Int32).toNatClampNeg + (if Int32.ofNat 12 < Int32.ofNat 12 then Int32.ofNat 12 else Int32.ofNat 12).toNatClampNeg ≤ 12) then some (none, bw_cp μ 15 5 (0 : Int32).toNatClampNeg (0 : Int32).toNatClampNeg (if Int32.ofNat 12 < Int32.ofNat 12 then Int32.ofNat 12 else Int32.ofNat 12).toNatClampNeg) else none) = _
  rw [if_pos (by decide +kernel), show (0 : Int32).toNatClampNeg = 0 by decide +kernel, show (if Int32.ofNat 12 < Int32.ofNat 12 then Int32.ofNat 12 else Int32.ofNat 12).toNatClampNeg = 12 by decide +kernel]
set_option maxRecDepth 20000 in
theorem qX2_copyAll_16_6 (d : Nat) (μ : bwM) : bw_call (d + 1) 44 [.inr (.inr 16), .inr (.inr 6)] μ = some (none, bw_cp μ 16 6 0 0 36) := by
  refine (bw_ex_go [] 12 0 _ _ _).trans ?_
  show (if ((0 : Int32) ≤ 0 ∧ (0 : Int32) ≤ 0) ∧ (0 ≤ (if Int32.ofNat 36 < Int32.ofNat 36 then Int32.ofNat 36 else Int32.ofNat 36) ∧ (0 : Int32).toNatClampNeg + (if Int32.ofNat 36 < Int32.ofNat 36 then Int32.ofNat 36 else Int32.ofNat 36).toNatClampNeg ≤ 36 ∧ (0 : Int32).toNatClampNeg + (if Int32.ofNat 36 < Int32.ofNat 36 then Int32.ofNat 36 else Int32.ofNat 36).toNatClampNeg ≤ 36) then some (none, bw_cp μ 16 6 (0 : Int32).toNatClampNeg (0 : Int32).toNatClampNeg (if Int32.ofNat 36 < Int32.ofNat 36 then Int32.ofNat 36 else Int32.ofNat 36).toNatClampNeg) else none) = _
  rw [if_pos (by decide +kernel), show (0 : Int32).toNatClampNeg = 0 by decide +kernel, show (if Int32.ofNat 36 < Int32.ofNat 36 then Int32.ofNat 36 else Int32.ofNat 36).toNatClampNeg = 36 by decide +kernel]
set_option maxRecDepth 20000 in
theorem qX2_copyAll_17_7 (d : Nat) (μ : bwM) : bw_call (d + 1) 44 [.inr (.inr 17), .inr (.inr 7)] μ = some (none, bw_cp μ 17 7 0 0 3072) := by
  refine (bw_ex_go [] 12 0 _ _ _).trans ?_
  show (if ((0 : Int32) ≤ 0 ∧ (0 : Int32) ≤ 0) ∧ (0 ≤ (if Int32.ofNat 3072 < Int32.ofNat 3072 then Int32.ofNat 3072 else Int32.ofNat 3072) ∧ (0 : Int32).toNatClampNeg + (if Int32.ofNat 3072 < Int32.ofNat 3072 then Int32.ofNat 3072 else Int32.ofNat 3072).toNatClampNeg ≤ 3072 ∧ (0 : Int32).toNatClampNeg + (if Int32.ofNat 3072 < Int32.ofNat 3072 then Int32.ofNat 3072 else Int32.ofNat 3072).toNatClampNeg ≤ 3072) then some (none, bw_cp μ 17 7 (0 : Int32).toNatClampNeg (0 : Int32).toNatClampNeg (if Int32.ofNat 3072 < Int32.ofNat 3072 then Int32.ofNat 3072 else Int32.ofNat 3072).toNatClampNeg) else none) = _
  rw [if_pos (by decide +kernel), show (0 : Int32).toNatClampNeg = 0 by decide +kernel, show (if Int32.ofNat 3072 < Int32.ofNat 3072 then Int32.ofNat 3072 else Int32.ofNat 3072).toNatClampNeg = 3072 by decide +kernel]
set_option maxRecDepth 20000 in
theorem qX2_copyAll_18_8 (d : Nat) (μ : bwM) : bw_call (d + 1) 44 [.inr (.inr 18), .inr (.inr 8)] μ = some (none, bw_cp μ 18 8 0 0 12) := by
  refine (bw_ex_go [] 12 0 _ _ _).trans ?_
  show (if ((0 : Int32) ≤ 0 ∧ (0 : Int32) ≤ 0) ∧ (0 ≤ (if Int32.ofNat 12 < Int32.ofNat 12 then Int32.ofNat 12 else Int32.ofNat 12) ∧ (0 : Int32).toNatClampNeg + (if Int32.ofNat 12 < Int32.ofNat 12 then Int32.ofNat 12 else Int32.ofNat 12).toNatClampNeg ≤ 12 ∧ (0 : Int32).toNatClampNeg + (if Int32.ofNat 12 < Int32.ofNat 12 then Int32.ofNat 12 else Int32.ofNat 12).toNatClampNeg ≤ 12) then some (none, bw_cp μ 18 8 (0 : Int32).toNatClampNeg (0 : Int32).toNatClampNeg (if Int32.ofNat 12 < Int32.ofNat 12 then Int32.ofNat 12 else Int32.ofNat 12).toNatClampNeg) else none) = _
  rw [if_pos (by decide +kernel), show (0 : Int32).toNatClampNeg = 0 by decide +kernel, show (if Int32.ofNat 12 < Int32.ofNat 12 then Int32.ofNat 12 else Int32.ofNat 12).toNatClampNeg = 12 by decide +kernel]
set_option maxRecDepth 20000 in
theorem qX2_copyAll_19_9 (d : Nat) (μ : bwM) : bw_call (d + 1) 44 [.inr (.inr 19), .inr (.inr 9)] μ = some (none, bw_cp μ 19 9 0 0 12) := by
  refine (bw_ex_go [] 12 0 _ _ _).trans ?_
  show (if ((0 : Int32) ≤ 0 ∧ (0 : Int32) ≤ 0) ∧ (0 ≤ (if Int32.ofNat 12 < Int32.ofNat 12 then Int32.ofNat 12 else Int32.ofNat 12) ∧ (0 : Int32).toNatClampNeg + (if Int32.ofNat 12 < Int32.ofNat 12 then Int32.ofNat 12 else Int32.ofNat 12).toNatClampNeg ≤ 12 ∧ (0 : Int32).toNatClampNeg + (if Int32.ofNat 12 < Int32.ofNat 12 then Int32.ofNat 12 else Int32.ofNat 12).toNatClampNeg ≤ 12) then some (none, bw_cp μ 19 9 (0 : Int32).toNatClampNeg (0 : Int32).toNatClampNeg (if Int32.ofNat 12 < Int32.ofNat 12 then Int32.ofNat 12 else Int32.ofNat 12).toNatClampNeg) else none) = _
  rw [if_pos (by decide +kernel), show (0 : Int32).toNatClampNeg = 0 by decide +kernel, show (if Int32.ofNat 12 < Int32.ofNat 12 then Int32.ofNat 12 else Int32.ofNat 12).toNatClampNeg = 12 by decide +kernel]
set_option maxRecDepth 20000 in
theorem qX2_copyAll_20_10 (d : Nat) (μ : bwM) : bw_call (d + 1) 44 [.inr (.inr 20), .inr (.inr 10)] μ = some (none, bw_cp μ 20 10 0 0 48) := by
  refine (bw_ex_go [] 12 0 _ _ _).trans ?_
  show (if ((0 : Int32) ≤ 0 ∧ (0 : Int32) ≤ 0) ∧ (0 ≤ (if Int32.ofNat 48 < Int32.ofNat 48 then Int32.ofNat 48 else Int32.ofNat 48) ∧ (0 : Int32).toNatClampNeg + (if Int32.ofNat 48 < Int32.ofNat 48 then Int32.ofNat 48 else Int32.ofNat 48).toNatClampNeg ≤ 48 ∧ (0 : Int32).toNatClampNeg + (if Int32.ofNat 48 < Int32.ofNat 48 then Int32.ofNat 48 else Int32.ofNat 48).toNatClampNeg ≤ 48) then some (none, bw_cp μ 20 10 (0 : Int32).toNatClampNeg (0 : Int32).toNatClampNeg (if Int32.ofNat 48 < Int32.ofNat 48 then Int32.ofNat 48 else Int32.ofNat 48).toNatClampNeg) else none) = _
  rw [if_pos (by decide +kernel), show (0 : Int32).toNatClampNeg = 0 by decide +kernel, show (if Int32.ofNat 48 < Int32.ofNat 48 then Int32.ofNat 48 else Int32.ofNat 48).toNatClampNeg = 48 by decide +kernel]
set_option maxRecDepth 20000 in
theorem qX2_copyAll_21_11 (d : Nat) (μ : bwM) : bw_call (d + 1) 44 [.inr (.inr 21), .inr (.inr 11)] μ = some (none, bw_cp μ 21 11 0 0 288) := by
  refine (bw_ex_go [] 12 0 _ _ _).trans ?_
  show (if ((0 : Int32) ≤ 0 ∧ (0 : Int32) ≤ 0) ∧ (0 ≤ (if Int32.ofNat 288 < Int32.ofNat 288 then Int32.ofNat 288 else Int32.ofNat 288) ∧ (0 : Int32).toNatClampNeg + (if Int32.ofNat 288 < Int32.ofNat 288 then Int32.ofNat 288 else Int32.ofNat 288).toNatClampNeg ≤ 288 ∧ (0 : Int32).toNatClampNeg + (if Int32.ofNat 288 < Int32.ofNat 288 then Int32.ofNat 288 else Int32.ofNat 288).toNatClampNeg ≤ 288) then some (none, bw_cp μ 21 11 (0 : Int32).toNatClampNeg (0 : Int32).toNatClampNeg (if Int32.ofNat 288 < Int32.ofNat 288 then Int32.ofNat 288 else Int32.ofNat 288).toNatClampNeg) else none) = _
  rw [if_pos (by decide +kernel), show (0 : Int32).toNatClampNeg = 0 by decide +kernel, show (if Int32.ofNat 288 < Int32.ofNat 288 then Int32.ofNat 288 else Int32.ofNat 288).toNatClampNeg = 288 by decide +kernel]
end
section
/-! THE LAW'S ENTRY: what the tables' words say of the classes. -/
theorem bw_arr {args : Array Value} {s : State} {ty : FieldType} (harr : (Cond.arrayClass ty).before args s = true) : ∃ (cA : ClassId), ArrOfT s cA ty ∧ s.vm.findClass ("[" ++ ty.toString) = some cA := by
  obtain ⟨cA, kA, comp, hfind, hk, hkind⟩ := Cond.arrayClass_spec harr
  exact ⟨cA, fun n z => ⟨fun k h => (by cases h), kA, hk, comp, hkind⟩, hfind⟩
theorem bw_inst0 : lw_tbl[112]? = some (.instantiable RX0 4) := by decide +kernel
theorem bw_inst1 : lw_tbl[134]? = some (.instantiable RX1 11) := by decide +kernel
theorem bw_inst2 : lw_tbl[56]? = some (.instantiable RX2 11) := by decide +kernel
theorem bw_inst3 : lw_tbl[48]? = some (.instantiable RX3 7) := by decide +kernel
theorem bw_inst4 : lw_tbl[564]? = some (.instantiable RX4 31) := by decide +kernel
theorem bw_entry {args : Array Value} {s : State} (hts : ∀ w ∈ lw_tbl, w.before args s = true) : ∃ (D : va_G) (cI cJ cZ : ClassId), va_K D vwCl (bw_tys cI cJ cZ) s ∧ bw_Nst s := by
  have hws : ∀ w ∈ bw_ws, w.before args s = true := fun w h => hts w (List.mem_filter.mp h).1
  have hi : ∀ (i : Nat) (w : Cond), lw_tbl[i]? = some w → w.before args s = true := fun i w h => hts w (List.mem_of_getElem? h)
  obtain ⟨c0, i0, k0⟩ := u_known (C := RX0) (T := TX0) (N := 4) (n := 4) hts inX0 (hi _ _ bw_inst0)
  obtain ⟨c1, i1, k1⟩ := u_known (C := RX1) (T := TX1) (N := 11) (n := 11) hts inX1 (hi _ _ bw_inst1)
  obtain ⟨c2, i2, k2⟩ := u_known (C := RX2) (T := TX2) (N := 11) (n := 11) hts inX2 (hi _ _ bw_inst2)
  obtain ⟨c3, i3, k3⟩ := u_known (C := RX3) (T := TX3) (N := 7) (n := 7) hts inX3 (hi _ _ bw_inst3)
  obtain ⟨c4, i4, k4⟩ := u_known (C := RX4) (T := TX4) (N := 31) (n := 31) hts inX4 (hi _ _ bw_inst4)
  obtain ⟨cI, aI, fI⟩ := bw_arr (ty := .int) (hts _ (bw_sys_in _ (by simp [bw_sys])))
  obtain ⟨cJ, aJ, fJ⟩ := bw_arr (ty := .long) (hts _ (bw_sys_in _ (by simp [bw_sys])))
  obtain ⟨cZ, aZ, fZ⟩ := bw_arr (ty := .boolean) (hts _ (bw_sys_in _ (by simp [bw_sys])))
  refine ⟨(fun k => [c0, c1, c2, c3, c4].getD k 0, fun k => [i0, i1, i2, i3, i4].getD k i0), cI, cJ, cZ, ⟨fun k q hq => ?_, fun k q hq => ?_⟩, fun n i y hy => va_Nw.of rfl (hts _ hy)⟩
  · match k, hq with
    | 0, hq => cases hq; exact k0
    | 1, hq => cases hq; exact k1
    | 2, hq => cases hq; exact k2
    | 3, hq => cases hq; exact k3
    | 4, hq => cases hq; exact k4
    | k + 5, hq => simp [vwCl] at hq
  · match k, hq with
    | 0, hq => cases hq; exact ⟨aI, fI⟩
    | 1, hq => cases hq; exact ⟨aJ, fJ⟩
    | 2, hq => cases hq; exact ⟨aZ, fZ⟩
    | k + 3, hq => simp [bw_tys] at hq
end
section
/-! THE CLAIM OUT OF ONE WALK OF THE LAW'S BODY. Your part is whole_start (and what it stands on); all else here is the same for every law, but numbers. -/
def R_law : String := "BeliefWebLaw"
def lw_P (b : Addr) (xs : List Int32) (args : Array Value) (s : State) : Prop := args = #[.ref b] ∧ s.IntsAt b xs ∧ xs.length ≤ 2560 ∧ (Jvm.Cond.and given_1 narrow_1).before args s = true
def lw_Q (_ : Array Value) (s : State) (o : Outcome) (t : State) : Prop := o = .returned (some (.int 1)) ∧ Framed s o t [] 600000 7302250
def lw_Z (below : List Frame) (a : Array Value) (s : State) : State → Prop := fun t => ∃ o, t.status = .running ∧ Ended t below o ∧ lw_Q a s o t
/-- the law's own end, with 1 on the stack, nothing written that was there before, its room as the claim has it -/
theorem lw_ret {p : Program} {l : Launch} {e : Env} {s : State} {m : MethodId} {below : List Frame} {meth : Method} {c : Code} {b : Nat} (hx : p.tables.exec = Jvm.exec) (hb : c.code = code) (hr : meth.sig.returnType = ret) (hlocks : meth.locks = false) {pc : Nat} {H : Heap} {ls : Array Slot} (hdg : decode code pc = .ok (.ireturn, 1)) : W p l e room_1 s m #[Value.ref b] below meth c H [] 600000 7302250 (lw_Z below #[Value.ref b] s) (F0 m pc ls [.int 1]) := by
  intro T hT X
  obtain ⟨fs, hret, hrun, hended, hW, hframe⟩ := X.leave (v := some (.int 1)) (hlocks := hlocks) (fun h => by rw [hr] at h; cases h)
  have hmeth' : T.vm.method? m = some meth := X.method'
  refine ⟨T.setFrames fs, ?_, .returned (some (.int 1)), hrun, hended, rfl, ⟨_, rfl⟩, hW, hframe⟩
  jvm_step X.here [X.here.top, hx, hb, hdg, hmeth', hr, ret, narrow_b1]
  (try refine ⟨rfl, ?_⟩); (try refine ⟨rfl, ?_⟩)
  first | (intro acts; rw [hret _ acts rfl rfl rfl]) | rw [hret _ _ rfl rfl rfl]
  exact Steps.refl _
/-- what holds at the law's entry: the machine, the code, the tables' words (any of lw_tbl by 'hts w (by decide +kernel)'), the script of L ints xs at the cell b, what the Statement gives of the start (any of its parts by flat_of_before) -/
def lw_At (p : Program) (s : State) (m : MethodId) (meth : Method) (c : Code) (b L : Nat) (xs : Nat → Int32) : Prop :=
  p.tables.exec = Jvm.exec ∧ c.code = code ∧ meth.sig.returnType = ret ∧ c.maxLocals = 4 ∧ s.vm.findClass R_law = some m.cls ∧ (∀ w ∈ lw_tbl, w.before #[Value.ref b] s = true) ∧ va_X b L xs s s.heap ∧ b < s.heap.size ∧ meth.locks = false ∧ (Jvm.Cond.and given_1 narrow_1).before #[Value.ref b] s = true
def bw_mu0 : bwM := (fun _ _ => 0, fun _ _ => 0)
theorem dL_law_0 : decode cL_law 0 = .ok (.new 7, 3) := by decide +kernel
theorem dL_law_3 : decode cL_law 3 = .ok (.dup, 1) := by decide +kernel
theorem dL_law_4 : decode cL_law 4 = .ok (.invokespecial 9, 3) := by decide +kernel
theorem dL_law_7 : decode cL_law 7 = .ok (.astore_n 1, 1) := by decide +kernel
theorem dL_law_8 : decode cL_law 8 = .ok (.new 10, 3) := by decide +kernel
theorem dL_law_11 : decode cL_law 11 = .ok (.dup, 1) := by decide +kernel
theorem dL_law_12 : decode cL_law 12 = .ok (.invokespecial 12, 3) := by decide +kernel
theorem dL_law_15 : decode cL_law 15 = .ok (.astore_n 2, 1) := by decide +kernel
set_option maxHeartbeats 4000000 in
set_option maxRecDepth 100000 in
/-- the law from its entry to behind its constructors: 53 cells, all 0 -/
theorem bw_begin {p : Program} {e : Env} {s : State} {m : MethodId} {below : List Frame} {meth : Method} {c : Code} (l : Launch) {b L : Nat} {xs : Nat → Int32} (C0 : lw_At p s m meth c b L xs)
    (kk : ∀ (D : va_G) (cI cJ cZ : ClassId) (n0 n1 : Nat) (u v : Nat → Nat) (H : Heap) (locs : List Loc) (ls : Array Slot), va_K D vwCl (bw_tys cI cJ cZ) s → bw_Nst s → va_P D vwCl (vX3_init cI cJ cZ n0 u ++ vX4_init cI cJ cZ n1 v) H → va_D (fun q : Nat => s.heap.size ≤ q) (vX3_init cI cJ cZ n0 u ++ vX4_init cI cJ cZ n1 v) → va_S (fun q : Nat => s.heap.size ≤ q) s.heap H locs → lv_has ls 4 [(2, .ref n1), (1, .ref n0), (0, .ref b)] → W p l e room_1 s m #[Value.ref b] below meth c H locs 600000 7302250 (lw_Z below #[Value.ref b] s) (F0 m 16 ls [])) :
    W p l e room_1 s m #[Value.ref b] below meth c s.heap [] 0 0 (lw_Z below #[Value.ref b] s) (entryFrame m ([Value.ref b] : List Value).toArray 4) := by
  obtain ⟨hx, hb, hr, hml, hown, hts, hX, hbl, hlocks, hgv⟩ := id C0
  obtain ⟨D, cI, cJ, cZ, hK, hN⟩ := bw_entry hts
  have hown : s.vm.findClass RL = some m.cls := hown
  have hA : ∀ q : Nat, s.heap.size ≤ q → (fun q : Nat => s.heap.size ≤ q) q := fun _ h => h
  have hS : va_S (fun q : Nat => s.heap.size ≤ q) s.heap s.heap [] := va_S.rf
  have hP : va_P D vwCl [] s.heap := fun k q h => by simp at h
  have hD : va_D (fun q : Nat => s.heap.size ≤ q) [] := ⟨fun i j p q h => by simp at h, fun k q h => by simp at h⟩
  have hl := lv_entry ([.ref b]) (n := 4) (Nat.le_of_ble_eq_true rfl)
  rw [lg_entry_eq]
  generalize (lg_sl ([.ref b]) ++ List.replicate (4 - (lg_sl ([.ref b])).length) Slot.unset).toArray = ls at hl ⊢
  have hl : lv_has ls 4 [(0, .ref b)] := hl
  refine va_new (D := D) (ci := 3) (fs := [.null, .null, .null, .null, .int 0, .long 0, .long 0]) (C := RX3) (T := TX3) (N := 7) (Ts := lw_tbl) hx hb hts inX3 tyX3 tyX3_ok hown (hts (.classLink RL 7 RX3) (List.mem_of_getElem? (i := 47) (by decide +kernel))) (hts (.instantiable RX3 7) (List.mem_of_getElem? (i := 48) (by decide +kernel))) (hts (.initialized RX3) (List.mem_of_getElem? (i := 40) (by decide +kernel))) hK hP hD hS hA rfl (fun j hj => by rcases (show j = 0 ∨ j = 1 ∨ j = 2 ∨ j = 3 ∨ j = 4 ∨ j = 5 ∨ j = 6 by omega) with rfl | rfl | rfl | rfl | rfl | rfl | rfl <;> rfl) (Nat.le_of_ble_eq_true rfl) (Nat.le_of_ble_eq_true rfl) dL_law_0 (fun n0 H hP hD hS => ?_)
  have hP : va_P D vwCl [(n0, .inr (3, [.null, .null, .null, .null, .int 0, .long 0, .long 0]))] H := hP
  have hD : va_D (fun q : Nat => s.heap.size ≤ q) [(n0, .inr (3, [.null, .null, .null, .null, .int 0, .long 0, .long 0]))] := hD
  refine lv_dup hx hb dL_law_3 rfl ?_
  have hPc := hP.sub (ws' := [(n0, .inr (3, [.null, .null, .null, .null, .int 0, .long 0, .long 0]))]) [0] rfl
  have hDc := hD.sub (ws' := [(n0, .inr (3, [.null, .null, .null, .null, .int 0, .long 0, .long 0]))]) [0] (by decide) rfl
  have hFc := va_free (wc := [(n0, .inr (3, [.null, .null, .null, .null, .int 0, .long 0, .long 0]))]) hD hS hA [0] rfl
  refine va_callv (va_runI (As := []) (rest := [.ref n0]) (Ts := lw_tbl) (own := RL) (index := 9) (n := 0) (nL := 4) ⟨hx, hb, hml, hown, hts⟩ (iX3_init l D cI cJ cZ n0 H.size) (cwI 0 hts (fun w h => ⟨(List.mem_filter.mp (gX3_init w h).1).1, (gX3_init w h).2⟩) rfl rfl rfl (hts (.initialized RX3) (List.mem_of_getElem? (i := 40) (by decide +kernel))) (hts (.methodLink RL 9 yX3_init) (List.mem_of_getElem? (i := 49) (by decide +kernel))) (hts (.instanceMethod yX3_init) (List.mem_of_getElem? (i := 50) (by decide +kernel))) rfl (by decide +kernel) ⟨Nat.le_of_ble_eq_true rfl, Nat.le_of_ble_eq_true rfl⟩) ⟨fun a U g mk q => by obtain ⟨q0, q1, qP, qK, qD, qN⟩ := q; exact ⟨q0, q1, qP, va_K.moved (u := U) (U := U.calling g mk a) (Vm.Alike.refl U.vm) qK, qD, fun n i y hy => va_Nw.same (u := U) (U := U.calling g mk a) rfl rfl (qN n i y hy)⟩, fun U hU hW => ⟨rfl, by rw [hU], by rw [hU]; exact hPc, va_K.moved hW.alike hK, hDc.weaken (fun _ _ _ _ => trivial), fun n i y hy => va_Nw.warmM hW (hN n i y hy)⟩⟩ rfl rfl hl.1 rfl (lv_room (Nat.le_of_ble_eq_true rfl)) dL_law_4 ⟨Nat.le_of_ble_eq_true rfl, Nat.le_of_ble_eq_true rfl⟩) hS (fun q _ h => hFc q h) hFc (fun u t H1 locs ht hvm hw hB hz1 hk1 hS => ?_)
  obtain ⟨hP1, -, hD1⟩ := hB
  rw [ht] at hP1
  obtain ⟨hP, hD⟩ := va_join (wr := []) (w1 := vX3_init cI cJ cZ n0 u) hP hD [0] [] rfl rfl (by decide) (by decide) hk1 hFc hP1 hD1
  generalize H1 = H at hP hS ⊢
  refine lv_astore_n (lv' := [(1, .ref n0), (0, .ref b)]) hx hb dL_law_7 rfl hl (by decide) rfl (fun ls hl => ?_)
  refine va_new (D := D) (ci := 4) (fs := [.int 0, .int 0, .null, .null, .null, .null, .null, .null, .null, .null, .int 0, .null, .null, .null, .long 0, .long 0, .long 0, .null, .int 0, .null, .null, .null, .null, .null, .int 0, .int 0, .null, .null, .null, .null, .null]) (C := RX4) (T := TX4) (N := 31) (Ts := lw_tbl) hx hb hts inX4 tyX4 tyX4_ok hown (hts (.classLink RL 10 RX4) (List.mem_of_getElem? (i := 563) (by decide +kernel))) (hts (.instantiable RX4 31) (List.mem_of_getElem? (i := 564) (by decide +kernel))) (hts (.initialized RX4) (List.mem_of_getElem? (i := 44) (by decide +kernel))) hK hP hD hS hA rfl (fun j hj => by rcases (show j = 0 ∨ j = 1 ∨ j = 2 ∨ j = 3 ∨ j = 4 ∨ j = 5 ∨ j = 6 ∨ j = 7 ∨ j = 8 ∨ j = 9 ∨ j = 10 ∨ j = 11 ∨ j = 12 ∨ j = 13 ∨ j = 14 ∨ j = 15 ∨ j = 16 ∨ j = 17 ∨ j = 18 ∨ j = 19 ∨ j = 20 ∨ j = 21 ∨ j = 22 ∨ j = 23 ∨ j = 24 ∨ j = 25 ∨ j = 26 ∨ j = 27 ∨ j = 28 ∨ j = 29 ∨ j = 30 by omega) with rfl | rfl | rfl | rfl | rfl | rfl | rfl | rfl | rfl | rfl | rfl | rfl | rfl | rfl | rfl | rfl | rfl | rfl | rfl | rfl | rfl | rfl | rfl | rfl | rfl | rfl | rfl | rfl | rfl | rfl | rfl <;> rfl) (Nat.le_of_ble_eq_true rfl) (Nat.le_of_ble_eq_true rfl) dL_law_8 (fun n1 H hP hD hS => ?_)
  have hP : va_P D vwCl (vX3_init cI cJ cZ n0 u ++ [(n1, .inr (4, [.int 0, .int 0, .null, .null, .null, .null, .null, .null, .null, .null, .int 0, .null, .null, .null, .long 0, .long 0, .long 0, .null, .int 0, .null, .null, .null, .null, .null, .int 0, .int 0, .null, .null, .null, .null, .null]))]) H := hP
  have hD : va_D (fun q : Nat => s.heap.size ≤ q) (vX3_init cI cJ cZ n0 u ++ [(n1, .inr (4, [.int 0, .int 0, .null, .null, .null, .null, .null, .null, .null, .null, .int 0, .null, .null, .null, .long 0, .long 0, .long 0, .null, .int 0, .null, .null, .null, .null, .null, .int 0, .int 0, .null, .null, .null, .null, .null]))]) := hD
  refine lv_dup hx hb dL_law_11 rfl ?_
  have hPc := hP.sub (ws' := [(n1, .inr (4, [.int 0, .int 0, .null, .null, .null, .null, .null, .null, .null, .null, .int 0, .null, .null, .null, .long 0, .long 0, .long 0, .null, .int 0, .null, .null, .null, .null, .null, .int 0, .int 0, .null, .null, .null, .null, .null]))]) [30] rfl
  have hDc := hD.sub (ws' := [(n1, .inr (4, [.int 0, .int 0, .null, .null, .null, .null, .null, .null, .null, .null, .int 0, .null, .null, .null, .long 0, .long 0, .long 0, .null, .int 0, .null, .null, .null, .null, .null, .int 0, .int 0, .null, .null, .null, .null, .null]))]) [30] (by decide) rfl
  have hFc := va_free (wc := [(n1, .inr (4, [.int 0, .int 0, .null, .null, .null, .null, .null, .null, .null, .null, .int 0, .null, .null, .null, .long 0, .long 0, .long 0, .null, .int 0, .null, .null, .null, .null, .null, .int 0, .int 0, .null, .null, .null, .null, .null]))]) hD hS hA [30] rfl
  refine va_callv (va_runI (As := []) (rest := [.ref n1]) (Ts := lw_tbl) (own := RL) (index := 12) (n := 0) (nL := 4) ⟨hx, hb, hml, hown, hts⟩ (iX4_init l D cI cJ cZ n1 H.size) (cwI 0 hts (fun w h => ⟨(List.mem_filter.mp (gX4_init w h).1).1, (gX4_init w h).2⟩) rfl rfl rfl (hts (.initialized RX4) (List.mem_of_getElem? (i := 44) (by decide +kernel))) (hts (.methodLink RL 12 yX4_init) (List.mem_of_getElem? (i := 565) (by decide +kernel))) (hts (.instanceMethod yX4_init) (List.mem_of_getElem? (i := 566) (by decide +kernel))) rfl (by decide +kernel) ⟨Nat.le_of_ble_eq_true rfl, Nat.le_of_ble_eq_true rfl⟩) ⟨fun a U g mk q => by obtain ⟨q0, q1, qP, qK, qD, qN⟩ := q; exact ⟨q0, q1, qP, va_K.moved (u := U) (U := U.calling g mk a) (Vm.Alike.refl U.vm) qK, qD, fun n i y hy => va_Nw.same (u := U) (U := U.calling g mk a) rfl rfl (qN n i y hy)⟩, fun U hU hW => ⟨rfl, by rw [hU], by rw [hU]; exact hPc, va_K.moved hW.alike hK, hDc.weaken (fun _ _ _ _ => trivial), fun n i y hy => va_Nw.warmM hW (hN n i y hy)⟩⟩ rfl rfl hl.1 rfl (lv_room (Nat.le_of_ble_eq_true rfl)) dL_law_12 ⟨Nat.le_of_ble_eq_true rfl, Nat.le_of_ble_eq_true rfl⟩) hS (fun q _ h => hFc q h) hFc (fun v t H1 locs ht hvm hw hB hz1 hk1 hS => ?_)
  obtain ⟨hP1, -, hD1⟩ := hB
  rw [ht] at hP1
  obtain ⟨hP, hD⟩ := va_join (wr := vX3_init cI cJ cZ n0 u) (w1 := vX4_init cI cJ cZ n1 v) hP hD [30] [0, 1, 2, 3, 4, 5, 6, 7, 8, 9, 10, 11, 12, 13, 14, 15, 16, 17, 18, 19, 20, 21, 22, 23, 24, 25, 26, 27, 28, 29] rfl rfl (by decide) (by decide) hk1 hFc hP1 hD1
  generalize H1 = H at hP hS ⊢
  refine lv_astore_n (lv' := [(2, .ref n1), (1, .ref n0), (0, .ref b)]) hx hb dL_law_15 rfl hl (by decide) rfl (fun ls hl => ?_)
  refine W.widen (k := 600000) (n := 7302250) (by decide +kernel) (by decide +kernel) ?_
  exact kk D cI cJ cZ n0 n1 u v H locs ls hK hN hP hD hS hl
end
section
/-- the addresses of the cells by their numbers; 60 the script -/
def bw_ad (b n0 n1 : Nat) (u v : Nat → Nat) (o : Nat) : Nat := [n0, (u 28), (u 0), (u 1), (u 2), (u 3), (u 4), (u 5), (u 6), (u 7), (u 8), (u 9), (u 11), (u 12), (u 13), (u 14), (u 15), (u 16), (u 17), (u 18), (u 19), (u 20), (u 10), (u 21), (u 22), (u 23), (u 24), (u 25), (u 26), (u 27), n1, (v 0), (v 1), (v 2), (v 3), (v 4), (v 5), (v 6), (v 7), (v 8), (v 9), (v 10), (v 11), (v 12), (v 13), (v 14), (v 15), (v 16), (v 17), (v 18), (v 19), (v 20), (v 21)].getD o b
set_option maxHeartbeats 4000000 in
set_option maxRecDepth 100000 in
/-- THE CLAIM OUT OF A PURE STATEMENT of the abstract machine -/
theorem bw_whole (hpure : ∀ (L : Nat) (sx : Nat → Int32), L ≤ 2560 → ∃ μ', eL_law 60 L sx 16 [some (.inr (.inr 60)), some (.inr (.inr 0)), some (.inr (.inr 30)), none] [] bw_mu0 = some (some (.inl 1), μ')) {p : Program} {e : Env} {s : State} {m : MethodId} {below : List Frame} {meth : Method} {c : Code} (l : Launch) {b L : Nat} {xs : Nat → Int32} (hL : L ≤ 2560) (C0 : lw_At p s m meth c b L xs) : W p l e room_1 s m #[Value.ref b] below meth c s.heap [] 0 0 (lw_Z below #[Value.ref b] s) (entryFrame m ([Value.ref b] : List Value).toArray 4) := by
  obtain ⟨hx, hb, hr, hml, hown, hts, hX, hbl, hlocks, hgv⟩ := id C0
  obtain ⟨μ', hμ⟩ := hpure L xs hL
  obtain ⟨n, hn⟩ := bw_ex_iff.mp hμ
  refine bw_begin l C0 (fun D cI cJ cZ n0 n1 u v H locs ls hK hN hP hD hS hl => ?_)
  have hP2 : va_P D vwCl (bw_cells (bw_ad b n0 n1 u v) cI cJ cZ bw_mu0) H := hP.sub [0, 29, 1, 2, 3, 4, 5, 6, 7, 8, 9, 10, 12, 13, 14, 15, 16, 17, 18, 19, 20, 21, 11, 22, 23, 24, 25, 26, 27, 28, 30, 31, 32, 33, 34, 35, 36, 37, 38, 39, 40, 41, 42, 43, 44, 45, 46, 47, 48, 49, 50, 51, 52] rfl
  have hD2 : va_D (fun q : Nat => s.heap.size ≤ q) (bw_cells (bw_ad b n0 n1 u v) cI cJ cZ bw_mu0) := hD.sub [0, 29, 1, 2, 3, 4, 5, 6, 7, 8, 9, 10, 12, 13, 14, 15, 16, 17, 18, 19, 20, 21, 11, 22, 23, 24, 25, 26, 27, 28, 30, 31, 32, 33, 34, 35, 36, 37, 38, 39, 40, 41, 42, 43, 44, 45, 46, 47, 48, 49, 50, 51, 52] (by decide) rfl
  have hl2 : lv_has ls 4 (bw_lv (bw_ad b n0 n1 u v) 0 [some (.inr (.inr 60)), some (.inr (.inr 0)), some (.inr (.inr 30)), none]) := lv_sub hl [2, 1, 0] rfl
  refine bw_sound_run (own := 5) (cc := code) (nL := 4) (d := 60) (R := room_1) (sl := L + 1) (sx := xs) (rt := 3) (t := tLw) (ρ := (some (.inl 1), μ')) ⟨hx, hb, hml, hown, fun w h => hts w (List.mem_filter.mp h).1, hK, fun _ h => h, hN⟩ (bw_CS_all l _ D cI cJ cZ 60) (by decide) (by decide) ⟨Nat.le_refl _, Nat.le_refl _⟩ (Or.inr ⟨hX, hbl, Nat.not_le.mpr hbl⟩) ?_ ?_ ?_ kL_law n 16 _ [] bw_mu0 hn H locs ls hP2 hD2 hS hl2
  · intro x ν pc ls2 hd hrt hρ
    cases hρ
    intro H locs lsA hP1 hD1 hS1 hl1
    refine va_forget (fun q hq => hS1.2.2 q hq) ?_
    exact lw_ret hx hb hr hlocks hd
  · intro x ν pc ls2 hd hrt hρ
    cases hρ
  · intro ν pc ls2 hd hrt hρ
    cases hρ
end
section
/-! PURE: what the combinators are on results; numbers in range. -/
theorem bq_I {β : Type} (x : Int32) (μ : bwM) (f : β) (k : Int32 → bwM → β) : bw_bI (some (some (.inl x), μ)) f k = k x μ := rfl
theorem bq_L {β : Type} (x : Int64) (μ : bwM) (f : β) (k : Int64 → bwM → β) : bw_bL (some (some (.inr (.inl x)), μ)) f k = k x μ := rfl
theorem bq_V {β : Type} (μ : bwM) (f : β) (k : bwM → β) : bw_bV (some (none, μ)) f k = k μ := rfl
theorem bq_01 : ((0 : Int32) = 0 ∨ (0 : Int32) = 1) := Or.inl rfl
theorem bq_11 : ((1 : Int32) = 0 ∨ (1 : Int32) = 1) := Or.inr rfl
theorem bq_in {k n : Nat} (h : k < n) (hn : n < 2 ^ 31) : bw_in (nI k) n := ⟨nI_pos' (by omega), by rw [nI_clamp (by omega)]; exact h⟩
theorem bq_si1 (μ : bwM) (o j o' j' : Nat) (x : Int32) : (bw_si μ o j x).1 o' j' = if o' = o ∧ j' = j then x else μ.1 o' j' := rfl
theorem bq_si2 (μ : bwM) (o j : Nat) (x : Int32) : (bw_si μ o j x).2 = μ.2 := rfl
theorem bq_sl2 (μ : bwM) (o j o' j' : Nat) (x : Int64) : (bw_sl μ o j x).2 o' j' = if o' = o ∧ j' = j then x else μ.2 o' j' := rfl
theorem bq_sl1 (μ : bwM) (o j : Nat) (x : Int64) : (bw_sl μ o j x).1 = μ.1 := rfl
/-- Web.hasThing -/
theorem sW_hasThing (d : Nat) {w : Nat} (hw : w = 2 ∨ w = 12) (x : Int32) (μ : bwM) : bw_call (d + 1) 17 [.inr (.inr w), .inl x] μ = some (some (.inl (if 0 ≤ x ∧ x < μ.1 w 0 then 1 else 0)), μ) := by
  rw [qX2_hasThing d hw, if_pos bq_01, if_pos bq_11]
  by_cases h1 : x < 0
  · rw [if_pos h1, if_neg]
    rw [Int32.lt_iff_toInt_lt] at h1
    rw [Int32.le_iff_toInt_le]
    omega
  · rw [if_neg h1]
    by_cases h2 : μ.1 w 0 ≤ x
    · rw [if_pos h2, if_neg]
      rw [Int32.le_iff_toInt_le] at h2
      rw [Int32.lt_iff_toInt_lt]
      omega
    · rw [if_neg h2, if_pos]
      rw [Int32.lt_iff_toInt_lt] at h1
      rw [Int32.le_iff_toInt_le] at h2
      rw [Int32.le_iff_toInt_le, Int32.lt_iff_toInt_lt]
      omega
end

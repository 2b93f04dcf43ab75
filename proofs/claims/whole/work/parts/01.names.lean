-- ===== PART A: goes FIRST, ahead of the names: the tables' words, and 'selects' of the private methods out of them =====
/-- a private method of a class that the tables say can be made, by its rows of tables_1 -/
def lw_okq (q : MethodName × Nat) : Prop := (q.1.cls ≠ "java/lang/invoke/MethodHandle" ∧ q.1.cls ≠ "java/lang/invoke/VarHandle") ∧ Cond.instantiable q.1.cls q.2 ∈ tables_1 ∧ Cond.privateMethod q.1 ∈ tables_1 ∧ Cond.instanceMethod q.1 ∈ tables_1
theorem lw_p0 : lw_okq (⟨"BeliefWeb", "carryOut", "(IIIII)V"⟩, 7) := ⟨⟨by decide +kernel, by decide +kernel⟩, List.mem_of_getElem? (i := 9) (by decide +kernel), List.mem_of_getElem? (i := 239) (by decide +kernel), List.mem_of_getElem? (i := 240) (by decide +kernel)⟩
theorem lw_p1 : lw_okq (⟨"BeliefWeb$History", "repeat", "(ILBeliefWeb$Web;)V"⟩, 4) := ⟨⟨by decide +kernel, by decide +kernel⟩, List.mem_of_getElem? (i := 73) (by decide +kernel), List.mem_of_getElem? (i := 247) (by decide +kernel), List.mem_of_getElem? (i := 248) (by decide +kernel)⟩
theorem lw_p2 : lw_okq (⟨"BeliefWeb$History", "placeOf", "(I)I"⟩, 4) := ⟨⟨by decide +kernel, by decide +kernel⟩, List.mem_of_getElem? (i := 73) (by decide +kernel), List.mem_of_getElem? (i := 251) (by decide +kernel), List.mem_of_getElem? (i := 252) (by decide +kernel)⟩
theorem lw_p3 : lw_okq (⟨"BeliefWeb$Survey", "start", "(LBeliefWeb$Web;)V"⟩, 11) := ⟨⟨by decide +kernel, by decide +kernel⟩, List.mem_of_getElem? (i := 95) (by decide +kernel), List.mem_of_getElem? (i := 347) (by decide +kernel), List.mem_of_getElem? (i := 348) (by decide +kernel)⟩
theorem lw_p4 : lw_okq (⟨"BeliefWeb$Survey", "putParentsFirst", "(LBeliefWeb$Web;)V"⟩, 11) := ⟨⟨by decide +kernel, by decide +kernel⟩, List.mem_of_getElem? (i := 95) (by decide +kernel), List.mem_of_getElem? (i := 351) (by decide +kernel), List.mem_of_getElem? (i := 352) (by decide +kernel)⟩
theorem lw_p5 : lw_okq (⟨"BeliefWeb$Survey", "meet", "(LBeliefWeb$Web;J)V"⟩, 11) := ⟨⟨by decide +kernel, by decide +kernel⟩, List.mem_of_getElem? (i := 95) (by decide +kernel), List.mem_of_getElem? (i := 360) (by decide +kernel), List.mem_of_getElem? (i := 361) (by decide +kernel)⟩
theorem lw_p6 : lw_okq (⟨"BeliefWeb$Survey", "wholeChosen", "(LBeliefWeb$Web;)I"⟩, 11) := ⟨⟨by decide +kernel, by decide +kernel⟩, List.mem_of_getElem? (i := 95) (by decide +kernel), List.mem_of_getElem? (i := 364) (by decide +kernel), List.mem_of_getElem? (i := 365) (by decide +kernel)⟩
theorem lw_p7 : lw_okq (⟨"BeliefWeb$Survey", "isBefore", "(JII)Z"⟩, 11) := ⟨⟨by decide +kernel, by decide +kernel⟩, List.mem_of_getElem? (i := 95) (by decide +kernel), List.mem_of_getElem? (i := 368) (by decide +kernel), List.mem_of_getElem? (i := 369) (by decide +kernel)⟩
theorem lw_p8 : lw_okq (⟨"BeliefWeb", "tell", "(JJ)V"⟩, 7) := ⟨⟨by decide +kernel, by decide +kernel⟩, List.mem_of_getElem? (i := 9) (by decide +kernel), List.mem_of_getElem? (i := 381) (by decide +kernel), List.mem_of_getElem? (i := 382) (by decide +kernel)⟩
theorem lw_p9 : lw_okq (⟨"BeliefWeb", "trouble", "()I"⟩, 7) := ⟨⟨by decide +kernel, by decide +kernel⟩, List.mem_of_getElem? (i := 9) (by decide +kernel), List.mem_of_getElem? (i := 395) (by decide +kernel), List.mem_of_getElem? (i := 396) (by decide +kernel)⟩
theorem lw_p10 : lw_okq (⟨"BeliefWeb", "show", "(I)V"⟩, 7) := ⟨⟨by decide +kernel, by decide +kernel⟩, List.mem_of_getElem? (i := 9) (by decide +kernel), List.mem_of_getElem? (i := 428) (by decide +kernel), List.mem_of_getElem? (i := 429) (by decide +kernel)⟩
theorem lw_p11 : lw_okq (⟨"BeliefWeb", "gainSum", "(IJ)J"⟩, 7) := ⟨⟨by decide +kernel, by decide +kernel⟩, List.mem_of_getElem? (i := 9) (by decide +kernel), List.mem_of_getElem? (i := 501) (by decide +kernel), List.mem_of_getElem? (i := 502) (by decide +kernel)⟩
theorem lw_p12 : lw_okq (⟨"BeliefWebModel", "plainTable", "(I)V"⟩, 31) := ⟨⟨by decide +kernel, by decide +kernel⟩, List.mem_of_getElem? (i := 525) (by decide +kernel), List.mem_of_getElem? (i := 631) (by decide +kernel), List.mem_of_getElem? (i := 632) (by decide +kernel)⟩
theorem lw_p13 : lw_okq (⟨"BeliefWebModel", "isThing", "(I)Z"⟩, 31) := ⟨⟨by decide +kernel, by decide +kernel⟩, List.mem_of_getElem? (i := 525) (by decide +kernel), List.mem_of_getElem? (i := 639) (by decide +kernel), List.mem_of_getElem? (i := 640) (by decide +kernel)⟩
theorem lw_p14 : lw_okq (⟨"BeliefWebModel", "isParent", "(II)Z"⟩, 31) := ⟨⟨by decide +kernel, by decide +kernel⟩, List.mem_of_getElem? (i := 525) (by decide +kernel), List.mem_of_getElem? (i := 643) (by decide +kernel), List.mem_of_getElem? (i := 644) (by decide +kernel)⟩
theorem lw_p15 : lw_okq (⟨"BeliefWebModel", "reach", "(IZ)V"⟩, 31) := ⟨⟨by decide +kernel, by decide +kernel⟩, List.mem_of_getElem? (i := 525) (by decide +kernel), List.mem_of_getElem? (i := 647) (by decide +kernel), List.mem_of_getElem? (i := 648) (by decide +kernel)⟩
def lw_privs_1 : List (MethodName × Nat) := [(⟨"BeliefWeb", "carryOut", "(IIIII)V"⟩, 7), (⟨"BeliefWeb$History", "repeat", "(ILBeliefWeb$Web;)V"⟩, 4), (⟨"BeliefWeb$History", "placeOf", "(I)I"⟩, 4), (⟨"BeliefWeb$Survey", "start", "(LBeliefWeb$Web;)V"⟩, 11), (⟨"BeliefWeb$Survey", "putParentsFirst", "(LBeliefWeb$Web;)V"⟩, 11), (⟨"BeliefWeb$Survey", "meet", "(LBeliefWeb$Web;J)V"⟩, 11), (⟨"BeliefWeb$Survey", "wholeChosen", "(LBeliefWeb$Web;)I"⟩, 11), (⟨"BeliefWeb$Survey", "isBefore", "(JII)Z"⟩, 11), (⟨"BeliefWeb", "tell", "(JJ)V"⟩, 7), (⟨"BeliefWeb", "trouble", "()I"⟩, 7), (⟨"BeliefWeb", "show", "(I)V"⟩, 7), (⟨"BeliefWeb", "gainSum", "(IJ)J"⟩, 7), (⟨"BeliefWebModel", "plainTable", "(I)V"⟩, 31), (⟨"BeliefWebModel", "isThing", "(I)Z"⟩, 31), (⟨"BeliefWebModel", "isParent", "(II)Z"⟩, 31), (⟨"BeliefWebModel", "reach", "(IZ)V"⟩, 31)]
theorem lw_r1 : ∀ q ∈ lw_privs_1, lw_okq q := List.forall_mem_cons.mpr ⟨lw_p0, List.forall_mem_cons.mpr ⟨lw_p1, List.forall_mem_cons.mpr ⟨lw_p2, List.forall_mem_cons.mpr ⟨lw_p3, List.forall_mem_cons.mpr ⟨lw_p4, List.forall_mem_cons.mpr ⟨lw_p5, List.forall_mem_cons.mpr ⟨lw_p6, List.forall_mem_cons.mpr ⟨lw_p7, List.forall_mem_cons.mpr ⟨lw_p8, List.forall_mem_cons.mpr ⟨lw_p9, List.forall_mem_cons.mpr ⟨lw_p10, List.forall_mem_cons.mpr ⟨lw_p11, List.forall_mem_cons.mpr ⟨lw_p12, List.forall_mem_cons.mpr ⟨lw_p13, List.forall_mem_cons.mpr ⟨lw_p14, List.forall_mem_cons.mpr ⟨lw_p15, fun _ h => absurd h List.not_mem_nil⟩⟩⟩⟩⟩⟩⟩⟩⟩⟩⟩⟩⟩⟩⟩⟩
theorem lw_p16 : lw_okq (⟨"BeliefWebModel", "note", "(II)V"⟩, 31) := ⟨⟨by decide +kernel, by decide +kernel⟩, List.mem_of_getElem? (i := 525) (by decide +kernel), List.mem_of_getElem? (i := 651) (by decide +kernel), List.mem_of_getElem? (i := 652) (by decide +kernel)⟩
theorem lw_p17 : lw_okq (⟨"BeliefWebModel", "isWeight", "(III)Z"⟩, 31) := ⟨⟨by decide +kernel, by decide +kernel⟩, List.mem_of_getElem? (i := 525) (by decide +kernel), List.mem_of_getElem? (i := 663) (by decide +kernel), List.mem_of_getElem? (i := 664) (by decide +kernel)⟩
theorem lw_p18 : lw_okq (⟨"BeliefWebModel", "isValue", "(II)Z"⟩, 31) := ⟨⟨by decide +kernel, by decide +kernel⟩, List.mem_of_getElem? (i := 525) (by decide +kernel), List.mem_of_getElem? (i := 667) (by decide +kernel), List.mem_of_getElem? (i := 668) (by decide +kernel)⟩
theorem lw_p19 : lw_okq (⟨"BeliefWebModel", "rows", "(I)I"⟩, 31) := ⟨⟨by decide +kernel, by decide +kernel⟩, List.mem_of_getElem? (i := 525) (by decide +kernel), List.mem_of_getElem? (i := 671) (by decide +kernel), List.mem_of_getElem? (i := 672) (by decide +kernel)⟩
theorem lw_p20 : lw_okq (⟨"BeliefWebModel", "isSound", "(I)Z"⟩, 31) := ⟨⟨by decide +kernel, by decide +kernel⟩, List.mem_of_getElem? (i := 525) (by decide +kernel), List.mem_of_getElem? (i := 683) (by decide +kernel), List.mem_of_getElem? (i := 684) (by decide +kernel)⟩
theorem lw_p21 : lw_okq (⟨"BeliefWebModel", "isRough", "()Z"⟩, 31) := ⟨⟨by decide +kernel, by decide +kernel⟩, List.mem_of_getElem? (i := 525) (by decide +kernel), List.mem_of_getElem? (i := 695) (by decide +kernel), List.mem_of_getElem? (i := 696) (by decide +kernel)⟩
theorem lw_p22 : lw_okq (⟨"BeliefWebModel", "mayBe", "(II)Z"⟩, 31) := ⟨⟨by decide +kernel, by decide +kernel⟩, List.mem_of_getElem? (i := 525) (by decide +kernel), List.mem_of_getElem? (i := 703) (by decide +kernel), List.mem_of_getElem? (i := 704) (by decide +kernel)⟩
theorem lw_p23 : lw_okq (⟨"BeliefWebModel", "becomes", "(III)I"⟩, 31) := ⟨⟨by decide +kernel, by decide +kernel⟩, List.mem_of_getElem? (i := 525) (by decide +kernel), List.mem_of_getElem? (i := 707) (by decide +kernel), List.mem_of_getElem? (i := 708) (by decide +kernel)⟩
theorem lw_p24 : lw_okq (⟨"BeliefWebModel", "all", "()J"⟩, 31) := ⟨⟨by decide +kernel, by decide +kernel⟩, List.mem_of_getElem? (i := 525) (by decide +kernel), List.mem_of_getElem? (i := 731) (by decide +kernel), List.mem_of_getElem? (i := 732) (by decide +kernel)⟩
theorem lw_p25 : lw_okq (⟨"BeliefWebModel", "sum", "(IIII)J"⟩, 31) := ⟨⟨by decide +kernel, by decide +kernel⟩, List.mem_of_getElem? (i := 525) (by decide +kernel), List.mem_of_getElem? (i := 735) (by decide +kernel), List.mem_of_getElem? (i := 736) (by decide +kernel)⟩
theorem lw_p26 : lw_okq (⟨"BeliefWebModel", "firstWhole", "()V"⟩, 31) := ⟨⟨by decide +kernel, by decide +kernel⟩, List.mem_of_getElem? (i := 525) (by decide +kernel), List.mem_of_getElem? (i := 739) (by decide +kernel), List.mem_of_getElem? (i := 740) (by decide +kernel)⟩
theorem lw_p27 : lw_okq (⟨"BeliefWebModel", "weigh", "()V"⟩, 31) := ⟨⟨by decide +kernel, by decide +kernel⟩, List.mem_of_getElem? (i := 525) (by decide +kernel), List.mem_of_getElem? (i := 743) (by decide +kernel), List.mem_of_getElem? (i := 744) (by decide +kernel)⟩
theorem lw_p28 : lw_okq (⟨"BeliefWebModel", "nextWhole", "()Z"⟩, 31) := ⟨⟨by decide +kernel, by decide +kernel⟩, List.mem_of_getElem? (i := 525) (by decide +kernel), List.mem_of_getElem? (i := 747) (by decide +kernel), List.mem_of_getElem? (i := 748) (by decide +kernel)⟩
theorem lw_p29 : lw_okq (⟨"BeliefWebModel", "tell", "(JJ)I"⟩, 31) := ⟨⟨by decide +kernel, by decide +kernel⟩, List.mem_of_getElem? (i := 525) (by decide +kernel), List.mem_of_getElem? (i := 751) (by decide +kernel), List.mem_of_getElem? (i := 752) (by decide +kernel)⟩
theorem lw_p30 : lw_okq (⟨"BeliefWebModel", "refused", "()I"⟩, 31) := ⟨⟨by decide +kernel, by decide +kernel⟩, List.mem_of_getElem? (i := 525) (by decide +kernel), List.mem_of_getElem? (i := 762) (by decide +kernel), List.mem_of_getElem? (i := 763) (by decide +kernel)⟩
theorem lw_p31 : lw_okq (⟨"BeliefWebModel", "insert", "(II)I"⟩, 31) := ⟨⟨by decide +kernel, by decide +kernel⟩, List.mem_of_getElem? (i := 525) (by decide +kernel), List.mem_of_getElem? (i := 778) (by decide +kernel), List.mem_of_getElem? (i := 779) (by decide +kernel)⟩
def lw_privs_2 : List (MethodName × Nat) := [(⟨"BeliefWebModel", "note", "(II)V"⟩, 31), (⟨"BeliefWebModel", "isWeight", "(III)Z"⟩, 31), (⟨"BeliefWebModel", "isValue", "(II)Z"⟩, 31), (⟨"BeliefWebModel", "rows", "(I)I"⟩, 31), (⟨"BeliefWebModel", "isSound", "(I)Z"⟩, 31), (⟨"BeliefWebModel", "isRough", "()Z"⟩, 31), (⟨"BeliefWebModel", "mayBe", "(II)Z"⟩, 31), (⟨"BeliefWebModel", "becomes", "(III)I"⟩, 31), (⟨"BeliefWebModel", "all", "()J"⟩, 31), (⟨"BeliefWebModel", "sum", "(IIII)J"⟩, 31), (⟨"BeliefWebModel", "firstWhole", "()V"⟩, 31), (⟨"BeliefWebModel", "weigh", "()V"⟩, 31), (⟨"BeliefWebModel", "nextWhole", "()Z"⟩, 31), (⟨"BeliefWebModel", "tell", "(JJ)I"⟩, 31), (⟨"BeliefWebModel", "refused", "()I"⟩, 31), (⟨"BeliefWebModel", "insert", "(II)I"⟩, 31)]
theorem lw_r2 : ∀ q ∈ lw_privs_2, lw_okq q := List.forall_mem_cons.mpr ⟨lw_p16, List.forall_mem_cons.mpr ⟨lw_p17, List.forall_mem_cons.mpr ⟨lw_p18, List.forall_mem_cons.mpr ⟨lw_p19, List.forall_mem_cons.mpr ⟨lw_p20, List.forall_mem_cons.mpr ⟨lw_p21, List.forall_mem_cons.mpr ⟨lw_p22, List.forall_mem_cons.mpr ⟨lw_p23, List.forall_mem_cons.mpr ⟨lw_p24, List.forall_mem_cons.mpr ⟨lw_p25, List.forall_mem_cons.mpr ⟨lw_p26, List.forall_mem_cons.mpr ⟨lw_p27, List.forall_mem_cons.mpr ⟨lw_p28, List.forall_mem_cons.mpr ⟨lw_p29, List.forall_mem_cons.mpr ⟨lw_p30, List.forall_mem_cons.mpr ⟨lw_p31, fun _ h => absurd h List.not_mem_nil⟩⟩⟩⟩⟩⟩⟩⟩⟩⟩⟩⟩⟩⟩⟩⟩
theorem lw_p32 : lw_okq (⟨"BeliefWebModel", "leads", "(II)Z"⟩, 31) := ⟨⟨by decide +kernel, by decide +kernel⟩, List.mem_of_getElem? (i := 525) (by decide +kernel), List.mem_of_getElem? (i := 794) (by decide +kernel), List.mem_of_getElem? (i := 795) (by decide +kernel)⟩
theorem lw_p33 : lw_okq (⟨"BeliefWebModel", "passes", "(III)Z"⟩, 31) := ⟨⟨by decide +kernel, by decide +kernel⟩, List.mem_of_getElem? (i := 525) (by decide +kernel), List.mem_of_getElem? (i := 798) (by decide +kernel), List.mem_of_getElem? (i := 799) (by decide +kernel)⟩
theorem lw_p34 : lw_okq (⟨"BeliefWebModel", "isOption", "(I)Z"⟩, 31) := ⟨⟨by decide +kernel, by decide +kernel⟩, List.mem_of_getElem? (i := 525) (by decide +kernel), List.mem_of_getElem? (i := 810) (by decide +kernel), List.mem_of_getElem? (i := 811) (by decide +kernel)⟩
theorem lw_p35 : lw_okq (⟨"BeliefWebModel", "worthOf", "(III)J"⟩, 31) := ⟨⟨by decide +kernel, by decide +kernel⟩, List.mem_of_getElem? (i := 525) (by decide +kernel), List.mem_of_getElem? (i := 818) (by decide +kernel), List.mem_of_getElem? (i := 819) (by decide +kernel)⟩
theorem lw_p36 : lw_okq (⟨"BeliefWebModel", "greatest", "(II)J"⟩, 31) := ⟨⟨by decide +kernel, by decide +kernel⟩, List.mem_of_getElem? (i := 525) (by decide +kernel), List.mem_of_getElem? (i := 826) (by decide +kernel), List.mem_of_getElem? (i := 827) (by decide +kernel)⟩
theorem lw_p37 : lw_okq (⟨"BeliefWebModel", "gainOf", "(I)J"⟩, 31) := ⟨⟨by decide +kernel, by decide +kernel⟩, List.mem_of_getElem? (i := 525) (by decide +kernel), List.mem_of_getElem? (i := 834) (by decide +kernel), List.mem_of_getElem? (i := 835) (by decide +kernel)⟩
theorem lw_p38 : lw_okq (⟨"BeliefWebModel", "isKnown", "(I)Z"⟩, 31) := ⟨⟨by decide +kernel, by decide +kernel⟩, List.mem_of_getElem? (i := 525) (by decide +kernel), List.mem_of_getElem? (i := 838) (by decide +kernel), List.mem_of_getElem? (i := 839) (by decide +kernel)⟩
def lw_privs_3 : List (MethodName × Nat) := [(⟨"BeliefWebModel", "leads", "(II)Z"⟩, 31), (⟨"BeliefWebModel", "passes", "(III)Z"⟩, 31), (⟨"BeliefWebModel", "isOption", "(I)Z"⟩, 31), (⟨"BeliefWebModel", "worthOf", "(III)J"⟩, 31), (⟨"BeliefWebModel", "greatest", "(II)J"⟩, 31), (⟨"BeliefWebModel", "gainOf", "(I)J"⟩, 31), (⟨"BeliefWebModel", "isKnown", "(I)Z"⟩, 31)]
theorem lw_r3 : ∀ q ∈ lw_privs_3, lw_okq q := List.forall_mem_cons.mpr ⟨lw_p32, List.forall_mem_cons.mpr ⟨lw_p33, List.forall_mem_cons.mpr ⟨lw_p34, List.forall_mem_cons.mpr ⟨lw_p35, List.forall_mem_cons.mpr ⟨lw_p36, List.forall_mem_cons.mpr ⟨lw_p37, List.forall_mem_cons.mpr ⟨lw_p38, fun _ h => absurd h List.not_mem_nil⟩⟩⟩⟩⟩⟩⟩
def lw_privs : List (MethodName × Nat) := lw_privs_1 ++ (lw_privs_2 ++ (lw_privs_3))
def lw_tbl : List Cond := k2_sels lw_privs ++ tables_1
theorem lw_privs_ok : ∀ q ∈ lw_privs, lw_okq q := by
  show ∀ q ∈ lw_privs_1 ++ (lw_privs_2 ++ (lw_privs_3)), lw_okq q
  exact List.forall_mem_append.mpr ⟨lw_r1, List.forall_mem_append.mpr ⟨lw_r2, lw_r3⟩⟩
def RX0 : String := "BeliefWeb$History"
def TX0 : u_T := fun k => match k with
  | 0 => ("BeliefWeb$History", "start", "LBeliefWeb$Web;", true)
  | 1 => ("BeliefWeb$History", "acts", "[I", true)
  | 2 => ("BeliefWeb$History", "first", "I", false)
  | _ => ("BeliefWeb$History", "size", "I", false)
def tyX0 : Nat → FieldType := fun k => match k with
  | 0 => .object "BeliefWeb$Web"
  | 1 => .array .int
  | 2 => .int
  | _ => .int
abbrev wsX00 : List Cond := u_ws RX0 TX0 4
theorem nmX0 : ∀ a, a < 4 → ∀ b, b < 4 → a ≠ b → (TX0 a).2.1 ≠ (TX0 b).2.1 := by decide +kernel
theorem tyX0_ok : ∀ k, k < 4 → parseFieldDescriptor (TX0 k).2.2.1 = some (tyX0 k) := by decide +kernel
abbrev cX0_init : ByteArray := prog_2_method_1_code
def yX0_init : MethodName := ⟨RX0, "<init>", "()V"⟩
abbrev cX0_startFrom : ByteArray := prog_2_method_2_code
def yX0_startFrom : MethodName := ⟨RX0, "startFrom", "(LBeliefWeb$Web;)V"⟩
abbrev cX0_add : ByteArray := prog_2_method_3_code
def yX0_add : MethodName := ⟨RX0, "add", "(IIIII)V"⟩
abbrev cX0_takeBackLatest : ByteArray := prog_2_method_4_code
def yX0_takeBackLatest : MethodName := ⟨RX0, "takeBackLatest", "(LBeliefWeb$Web;)V"⟩
abbrev cX0_repeat : ByteArray := prog_2_method_5_code
def yX0_repeat : MethodName := ⟨RX0, "repeat", "(ILBeliefWeb$Web;)V"⟩
abbrev cX0_placeOf : ByteArray := prog_2_method_6_code
def yX0_placeOf : MethodName := ⟨RX0, "placeOf", "(I)I"⟩
def RX1 : String := "BeliefWeb$Survey"
def TX1 : u_T := fun k => match k with
  | 0 => ("BeliefWeb$Survey", "order", "[I", true)
  | 1 => ("BeliefWeb$Survey", "chosen", "[I", true)
  | 2 => ("BeliefWeb$Survey", "shares", "[J", true)
  | 3 => ("BeliefWeb$Survey", "rankedLikelihoods", "[J", true)
  | 4 => ("BeliefWeb$Survey", "rankedWholes", "[I", true)
  | 5 => ("BeliefWeb$Survey", "ranked", "I", false)
  | 6 => ("BeliefWeb$Survey", "wanted", "I", false)
  | 7 => ("BeliefWeb$Survey", "heldThing", "I", false)
  | 8 => ("BeliefWeb$Survey", "heldValue", "I", false)
  | 9 => ("BeliefWeb$Survey", "wholesMet", "I", false)
  | _ => ("BeliefWeb$Survey", "sum", "J", false)
def tyX1 : Nat → FieldType := fun k => match k with
  | 0 => .array .int
  | 1 => .array .int
  | 2 => .array .long
  | 3 => .array .long
  | 4 => .array .int
  | 5 => .int
  | 6 => .int
  | 7 => .int
  | 8 => .int
  | 9 => .int
  | _ => .long
abbrev wsX10 : List Cond := u_ws RX1 TX1 11
theorem nmX1 : ∀ a, a < 11 → ∀ b, b < 11 → a ≠ b → (TX1 a).2.1 ≠ (TX1 b).2.1 := by decide +kernel
theorem tyX1_ok : ∀ k, k < 11 → parseFieldDescriptor (TX1 k).2.2.1 = some (tyX1 k) := by decide +kernel
abbrev cX1_init : ByteArray := prog_3_method_1_code
def yX1_init : MethodName := ⟨RX1, "<init>", "()V"⟩
abbrev cX1_goOver : ByteArray := prog_3_method_2_code
def yX1_goOver : MethodName := ⟨RX1, "goOver", "(LBeliefWeb$Web;)V"⟩
abbrev cX1_goOverThoseWith : ByteArray := prog_3_method_3_code
def yX1_goOverThoseWith : MethodName := ⟨RX1, "goOverThoseWith", "(LBeliefWeb$Web;II)V"⟩
abbrev cX1_rank : ByteArray := prog_3_method_4_code
def yX1_rank : MethodName := ⟨RX1, "rank", "(LBeliefWeb$Web;I)V"⟩
abbrev cX1_start : ByteArray := prog_3_method_5_code
def yX1_start : MethodName := ⟨RX1, "start", "(LBeliefWeb$Web;)V"⟩
abbrev cX1_putParentsFirst : ByteArray := prog_3_method_6_code
def yX1_putParentsFirst : MethodName := ⟨RX1, "putParentsFirst", "(LBeliefWeb$Web;)V"⟩
abbrev cX1_spread : ByteArray := prog_3_method_7_code
def yX1_spread : MethodName := ⟨RX1, "spread", "(LBeliefWeb$Web;LBeliefWeb$Survey;IJ)J"⟩
abbrev cX1_meet : ByteArray := prog_3_method_8_code
def yX1_meet : MethodName := ⟨RX1, "meet", "(LBeliefWeb$Web;J)V"⟩
abbrev cX1_isBefore : ByteArray := prog_3_method_9_code
def yX1_isBefore : MethodName := ⟨RX1, "isBefore", "(JII)Z"⟩
abbrev cX1_wholeChosen : ByteArray := prog_3_method_10_code
def yX1_wholeChosen : MethodName := ⟨RX1, "wholeChosen", "(LBeliefWeb$Web;)I"⟩
abbrev cX1_worthSum : ByteArray := prog_3_method_11_code
def yX1_worthSum : MethodName := ⟨RX1, "worthSum", "(LBeliefWeb$Web;I)J"⟩
abbrev cX1_bestOption : ByteArray := prog_3_method_12_code
def yX1_bestOption : MethodName := ⟨RX1, "bestOption", "(LBeliefWeb$Web;)I"⟩
abbrev cX1_greatestWorthSum : ByteArray := prog_3_method_13_code
def yX1_greatestWorthSum : MethodName := ⟨RX1, "greatestWorthSum", "(LBeliefWeb$Web;)J"⟩
def RX2 : String := "BeliefWeb$Web"
def TX2 : u_T := fun k => match k with
  | 0 => ("BeliefWeb$Web", "things", "I", false)
  | 1 => ("BeliefWeb$Web", "options", "I", false)
  | 2 => ("BeliefWeb$Web", "values", "[I", true)
  | 3 => ("BeliefWeb$Web", "totals", "[I", true)
  | 4 => ("BeliefWeb$Web", "parentCounts", "[I", true)
  | 5 => ("BeliefWeb$Web", "parents", "[I", true)
  | 6 => ("BeliefWeb$Web", "weights", "[I", true)
  | 7 => ("BeliefWeb$Web", "seen", "[I", true)
  | 8 => ("BeliefWeb$Web", "done", "[I", true)
  | 9 => ("BeliefWeb$Web", "forces", "[I", true)
  | _ => ("BeliefWeb$Web", "worths", "[I", true)
def tyX2 : Nat → FieldType := fun k => match k with
  | 0 => .int
  | 1 => .int
  | 2 => .array .int
  | 3 => .array .int
  | 4 => .array .int
  | 5 => .array .int
  | 6 => .array .int
  | 7 => .array .int
  | 8 => .array .int
  | 9 => .array .int
  | _ => .array .int
abbrev wsX20 : List Cond := u_ws RX2 TX2 11
theorem nmX2 : ∀ a, a < 11 → ∀ b, b < 11 → a ≠ b → (TX2 a).2.1 ≠ (TX2 b).2.1 := by decide +kernel
theorem tyX2_ok : ∀ k, k < 11 → parseFieldDescriptor (TX2 k).2.2.1 = some (tyX2 k) := by decide +kernel
abbrev cX2_init : ByteArray := prog_4_method_1_code
def yX2_init : MethodName := ⟨RX2, "<init>", "()V"⟩
abbrev cX2_hasThing : ByteArray := prog_4_method_2_code
def yX2_hasThing : MethodName := ⟨RX2, "hasThing", "(I)Z"⟩
abbrev cX2_hasValue : ByteArray := prog_4_method_3_code
def yX2_hasValue : MethodName := ⟨RX2, "hasValue", "(II)Z"⟩
abbrev cX2_mayBeKnownAs : ByteArray := prog_4_method_4_code
def yX2_mayBeKnownAs : MethodName := ⟨RX2, "mayBeKnownAs", "(II)Z"⟩
abbrev cX2_hasWeight : ByteArray := prog_4_method_5_code
def yX2_hasWeight : MethodName := ⟨RX2, "hasWeight", "(III)Z"⟩
abbrev cX2_hasOption : ByteArray := prog_4_method_6_code
def yX2_hasOption : MethodName := ⟨RX2, "hasOption", "(I)Z"⟩
abbrev cX2_isFree : ByteArray := prog_4_method_7_code
def yX2_isFree : MethodName := ⟨RX2, "isFree", "(I)Z"⟩
abbrev cX2_allWholes : ByteArray := prog_4_method_8_code
def yX2_allWholes : MethodName := ⟨RX2, "allWholes", "()I"⟩
abbrev cX2_allTotals : ByteArray := prog_4_method_9_code
def yX2_allTotals : MethodName := ⟨RX2, "allTotals", "()J"⟩
abbrev cX2_arrows : ByteArray := prog_4_method_10_code
def yX2_arrows : MethodName := ⟨RX2, "arrows", "()I"⟩
abbrev cX2_rows : ByteArray := prog_4_method_11_code
def yX2_rows : MethodName := ⟨RX2, "rows", "(I)I"⟩
abbrev cX2_rowAt : ByteArray := prog_4_method_12_code
def yX2_rowAt : MethodName := ⟨RX2, "rowAt", "(I[I)I"⟩
abbrev cX2_isSound : ByteArray := prog_4_method_13_code
def yX2_isSound : MethodName := ⟨RX2, "isSound", "()Z"⟩
abbrev cX2_hasSoundTable : ByteArray := prog_4_method_14_code
def yX2_hasSoundTable : MethodName := ⟨RX2, "hasSoundTable", "(I)Z"⟩
abbrev cX2_factor : ByteArray := prog_4_method_15_code
def yX2_factor : MethodName := ⟨RX2, "factor", "(III)I"⟩
abbrev cX2_parentPlace : ByteArray := prog_4_method_16_code
def yX2_parentPlace : MethodName := ⟨RX2, "parentPlace", "(II)I"⟩
abbrev cX2_parentSet : ByteArray := prog_4_method_17_code
def yX2_parentSet : MethodName := ⟨RX2, "parentSet", "(I)I"⟩
abbrev cX2_ancestorsAnd : ByteArray := prog_4_method_18_code
def yX2_ancestorsAnd : MethodName := ⟨RX2, "ancestorsAnd", "(I)I"⟩
abbrev cX2_parentSetNow : ByteArray := prog_4_method_19_code
def yX2_parentSetNow : MethodName := ⟨RX2, "parentSetNow", "(I)I"⟩
abbrev cX2_childSetNow : ByteArray := prog_4_method_20_code
def yX2_childSetNow : MethodName := ⟨RX2, "childSetNow", "(I)I"⟩
abbrev cX2_hasOpenRoad : ByteArray := prog_4_method_21_code
def yX2_hasOpenRoad : MethodName := ⟨RX2, "hasOpenRoad", "(II)Z"⟩
abbrev cX2_addThing : ByteArray := prog_4_method_22_code
def yX2_addThing : MethodName := ⟨RX2, "addThing", "(II)V"⟩
abbrev cX2_carryOut : ByteArray := prog_4_method_23_code
def yX2_carryOut : MethodName := ⟨RX2, "carryOut", "(IIIII)V"⟩
abbrev cX2_addParent : ByteArray := prog_4_method_24_code
def yX2_addParent : MethodName := ⟨RX2, "addParent", "(II)V"⟩
abbrev cX2_dropParent : ByteArray := prog_4_method_25_code
def yX2_dropParent : MethodName := ⟨RX2, "dropParent", "(II)V"⟩
abbrev cX2_resetTable : ByteArray := prog_4_method_26_code
def yX2_resetTable : MethodName := ⟨RX2, "resetTable", "(I)V"⟩
abbrev cX2_setOptions : ByteArray := prog_4_method_27_code
def yX2_setOptions : MethodName := ⟨RX2, "setOptions", "(I)V"⟩
abbrev cX2_copyFrom : ByteArray := prog_4_method_28_code
def yX2_copyFrom : MethodName := ⟨RX2, "copyFrom", "(LBeliefWeb$Web;)V"⟩
abbrev cX2_copyAll : ByteArray := prog_4_method_29_code
def yX2_copyAll : MethodName := ⟨RX2, "copyAll", "([I[I)V"⟩
def RX3 : String := "BeliefWeb"
def TX3 : u_T := fun k => match k with
  | 0 => ("BeliefWeb", "web", "LBeliefWeb$Web;", true)
  | 1 => ("BeliefWeb", "history", "LBeliefWeb$History;", true)
  | 2 => ("BeliefWeb", "survey", "LBeliefWeb$Survey;", true)
  | 3 => ("BeliefWeb", "shown", "[I", true)
  | 4 => ("BeliefWeb", "shownThings", "I", false)
  | 5 => ("BeliefWeb", "tellUp", "J", false)
  | _ => ("BeliefWeb", "tellDown", "J", false)
def tyX3 : Nat → FieldType := fun k => match k with
  | 0 => .object "BeliefWeb$Web"
  | 1 => .object "BeliefWeb$History"
  | 2 => .object "BeliefWeb$Survey"
  | 3 => .array .int
  | 4 => .int
  | 5 => .long
  | _ => .long
abbrev wsX30 : List Cond := u_ws RX3 TX3 7
theorem nmX3 : ∀ a, a < 7 → ∀ b, b < 7 → a ≠ b → (TX3 a).2.1 ≠ (TX3 b).2.1 := by decide +kernel
theorem tyX3_ok : ∀ k, k < 7 → parseFieldDescriptor (TX3 k).2.2.1 = some (tyX3 k) := by decide +kernel
abbrev cX3_init : ByteArray := prog_1_method_1_code
def yX3_init : MethodName := ⟨RX3, "<init>", "()V"⟩
abbrev cX3_thing : ByteArray := prog_1_method_2_code
def yX3_thing : MethodName := ⟨RX3, "thing", "(II)I"⟩
abbrev cX3_arrow : ByteArray := prog_1_method_3_code
def yX3_arrow : MethodName := ⟨RX3, "arrow", "(II)I"⟩
abbrev cX3_cut : ByteArray := prog_1_method_4_code
def yX3_cut : MethodName := ⟨RX3, "cut", "(II)I"⟩
abbrev cX3_weight : ByteArray := prog_1_method_5_code
def yX3_weight : MethodName := ⟨RX3, "weight", "(IIII)I"⟩
abbrev cX3_told : ByteArray := prog_1_method_6_code
def yX3_told : MethodName := ⟨RX3, "told", "(III)I"⟩
abbrev cX3_about : ByteArray := prog_1_method_7_code
def yX3_about : MethodName := ⟨RX3, "about", "(II)I"⟩
abbrev cX3_parent : ByteArray := prog_1_method_8_code
def yX3_parent : MethodName := ⟨RX3, "parent", "(II)I"⟩
abbrev cX3_sound : ByteArray := prog_1_method_9_code
def yX3_sound : MethodName := ⟨RX3, "sound", "()I"⟩
abbrev cX3_see : ByteArray := prog_1_method_10_code
def yX3_see : MethodName := ⟨RX3, "see", "(II)I"⟩
abbrev cX3_act : ByteArray := prog_1_method_11_code
def yX3_act : MethodName := ⟨RX3, "act", "(II)I"⟩
abbrev cX3_force : ByteArray := prog_1_method_12_code
def yX3_force : MethodName := ⟨RX3, "force", "(III)I"⟩
abbrev cX3_chance : ByteArray := prog_1_method_13_code
def yX3_chance : MethodName := ⟨RX3, "chance", "()I"⟩
abbrev cX3_ask : ByteArray := prog_1_method_14_code
def yX3_ask : MethodName := ⟨RX3, "ask", "(II)I"⟩
abbrev cX3_both : ByteArray := prog_1_method_15_code
def yX3_both : MethodName := ⟨RX3, "both", "(IIII)I"⟩
abbrev cX3_up : ByteArray := prog_1_method_16_code
def yX3_up : MethodName := ⟨RX3, "up", "()J"⟩
abbrev cX3_down : ByteArray := prog_1_method_17_code
def yX3_down : MethodName := ⟨RX3, "down", "()J"⟩
abbrev cX3_most : ByteArray := prog_1_method_18_code
def yX3_most : MethodName := ⟨RX3, "most", "(I)I"⟩
abbrev cX3_likeliest : ByteArray := prog_1_method_19_code
def yX3_likeliest : MethodName := ⟨RX3, "likeliest", "(I)I"⟩
abbrev cX3_at : ByteArray := prog_1_method_20_code
def yX3_at : MethodName := ⟨RX3, "at", "(I)I"⟩
abbrev cX3_wholes : ByteArray := prog_1_method_21_code
def yX3_wholes : MethodName := ⟨RX3, "wholes", "()I"⟩
abbrev cX3_apart : ByteArray := prog_1_method_22_code
def yX3_apart : MethodName := ⟨RX3, "apart", "(II)I"⟩
abbrev cX3_options : ByteArray := prog_1_method_23_code
def yX3_options : MethodName := ⟨RX3, "options", "(I)I"⟩
abbrev cX3_worth : ByteArray := prog_1_method_24_code
def yX3_worth : MethodName := ⟨RX3, "worth", "(IIII)I"⟩
abbrev cX3_expected : ByteArray := prog_1_method_25_code
def yX3_expected : MethodName := ⟨RX3, "expected", "(I)I"⟩
abbrev cX3_best : ByteArray := prog_1_method_26_code
def yX3_best : MethodName := ⟨RX3, "best", "()I"⟩
abbrev cX3_gain : ByteArray := prog_1_method_27_code
def yX3_gain : MethodName := ⟨RX3, "gain", "(I)I"⟩
abbrev cX3_next : ByteArray := prog_1_method_28_code
def yX3_next : MethodName := ⟨RX3, "next", "()I"⟩
abbrev cX3_undo : ByteArray := prog_1_method_29_code
def yX3_undo : MethodName := ⟨RX3, "undo", "()I"⟩
abbrev cX3_count : ByteArray := prog_1_method_30_code
def yX3_count : MethodName := ⟨RX3, "count", "(I)I"⟩
abbrev cX3_carryOut : ByteArray := prog_1_method_31_code
def yX3_carryOut : MethodName := ⟨RX3, "carryOut", "(IIIII)V"⟩
abbrev cX3_trouble : ByteArray := prog_1_method_32_code
def yX3_trouble : MethodName := ⟨RX3, "trouble", "()I"⟩
abbrev cX3_tell : ByteArray := prog_1_method_33_code
def yX3_tell : MethodName := ⟨RX3, "tell", "(JJ)V"⟩
abbrev cX3_commonDivisor : ByteArray := prog_1_method_34_code
def yX3_commonDivisor : MethodName := ⟨RX3, "commonDivisor", "(JJ)J"⟩
abbrev cX3_show : ByteArray := prog_1_method_35_code
def yX3_show : MethodName := ⟨RX3, "show", "(I)V"⟩
abbrev cX3_gainSum : ByteArray := prog_1_method_36_code
def yX3_gainSum : MethodName := ⟨RX3, "gainSum", "(IJ)J"⟩
abbrev cX3_slot : ByteArray := prog_1_method_37_code
def yX3_slot : MethodName := ⟨RX3, "slot", "(II)I"⟩
abbrev cX3_weightSlot : ByteArray := prog_1_method_38_code
def yX3_weightSlot : MethodName := ⟨RX3, "weightSlot", "(III)I"⟩
abbrev cX3_worthSlot : ByteArray := prog_1_method_39_code
def yX3_worthSlot : MethodName := ⟨RX3, "worthSlot", "(III)I"⟩
abbrev cX3_parentSlot : ByteArray := prog_1_method_40_code
def yX3_parentSlot : MethodName := ⟨RX3, "parentSlot", "(II)I"⟩
abbrev cX3_isIn : ByteArray := prog_1_method_41_code
def yX3_isIn : MethodName := ⟨RX3, "isIn", "(II)Z"⟩
def RX4 : String := "BeliefWebModel"
def TX4 : u_T := fun k => match k with
  | 0 => ("BeliefWebModel", "code", "I", false)
  | 1 => ("BeliefWebModel", "things", "I", false)
  | 2 => ("BeliefWebModel", "values", "[I", true)
  | 3 => ("BeliefWebModel", "totals", "[I", true)
  | 4 => ("BeliefWebModel", "parents", "[I", true)
  | 5 => ("BeliefWebModel", "parent", "[I", true)
  | 6 => ("BeliefWebModel", "tables", "[I", true)
  | 7 => ("BeliefWebModel", "seen", "[I", true)
  | 8 => ("BeliefWebModel", "done", "[I", true)
  | 9 => ("BeliefWebModel", "forces", "[I", true)
  | 10 => ("BeliefWebModel", "options", "I", false)
  | 11 => ("BeliefWebModel", "worths", "[I", true)
  | 12 => ("BeliefWebModel", "reached", "[Z", true)
  | 13 => ("BeliefWebModel", "whole", "[I", true)
  | 14 => ("BeliefWebModel", "likelihood", "J", false)
  | 15 => ("BeliefWebModel", "up", "J", false)
  | 16 => ("BeliefWebModel", "down", "J", false)
  | 17 => ("BeliefWebModel", "shown", "[I", true)
  | 18 => ("BeliefWebModel", "shownMany", "I", false)
  | 19 => ("BeliefWebModel", "bestLikelihood", "[J", true)
  | 20 => ("BeliefWebModel", "bestWhole", "[I", true)
  | 21 => ("BeliefWebModel", "road", "[I", true)
  | 22 => ("BeliefWebModel", "tried", "[I", true)
  | 23 => ("BeliefWebModel", "on", "[Z", true)
  | 24 => ("BeliefWebModel", "bestOption", "I", false)
  | 25 => ("BeliefWebModel", "acts", "I", false)
  | 26 => ("BeliefWebModel", "actKind", "[I", true)
  | 27 => ("BeliefWebModel", "actWhich", "[I", true)
  | 28 => ("BeliefWebModel", "actA", "[I", true)
  | 29 => ("BeliefWebModel", "actB", "[I", true)
  | _ => ("BeliefWebModel", "actRow", "[I", true)
def tyX4 : Nat → FieldType := fun k => match k with
  | 0 => .int
  | 1 => .int
  | 2 => .array .int
  | 3 => .array .int
  | 4 => .array .int
  | 5 => .array .int
  | 6 => .array .int
  | 7 => .array .int
  | 8 => .array .int
  | 9 => .array .int
  | 10 => .int
  | 11 => .array .int
  | 12 => .array .boolean
  | 13 => .array .int
  | 14 => .long
  | 15 => .long
  | 16 => .long
  | 17 => .array .int
  | 18 => .int
  | 19 => .array .long
  | 20 => .array .int
  | 21 => .array .int
  | 22 => .array .int
  | 23 => .array .boolean
  | 24 => .int
  | 25 => .int
  | 26 => .array .int
  | 27 => .array .int
  | 28 => .array .int
  | 29 => .array .int
  | _ => .array .int
abbrev wsX40 : List Cond := u_ws RX4 TX4 31
theorem nmX4 : ∀ a, a < 31 → ∀ b, b < 31 → a ≠ b → (TX4 a).2.1 ≠ (TX4 b).2.1 := by decide +kernel
theorem tyX4_ok : ∀ k, k < 31 → parseFieldDescriptor (TX4 k).2.2.1 = some (tyX4 k) := by decide +kernel
abbrev cX4_init : ByteArray := prog_6_method_1_code
def yX4_init : MethodName := ⟨RX4, "<init>", "()V"⟩
abbrev cX4_isThing : ByteArray := prog_6_method_3_code
def yX4_isThing : MethodName := ⟨RX4, "isThing", "(I)Z"⟩
abbrev cX4_isValue : ByteArray := prog_6_method_4_code
def yX4_isValue : MethodName := ⟨RX4, "isValue", "(II)Z"⟩
abbrev cX4_rows : ByteArray := prog_6_method_5_code
def yX4_rows : MethodName := ⟨RX4, "rows", "(I)I"⟩
abbrev cX4_thing : ByteArray := prog_6_method_6_code
def yX4_thing : MethodName := ⟨RX4, "thing", "(II)I"⟩
abbrev cX4_plainTable : ByteArray := prog_6_method_7_code
def yX4_plainTable : MethodName := ⟨RX4, "plainTable", "(I)V"⟩
abbrev cX4_isParent : ByteArray := prog_6_method_8_code
def yX4_isParent : MethodName := ⟨RX4, "isParent", "(II)Z"⟩
abbrev cX4_reach : ByteArray := prog_6_method_9_code
def yX4_reach : MethodName := ⟨RX4, "reach", "(IZ)V"⟩
abbrev cX4_arrow : ByteArray := prog_6_method_10_code
def yX4_arrow : MethodName := ⟨RX4, "arrow", "(II)I"⟩
abbrev cX4_cut : ByteArray := prog_6_method_11_code
def yX4_cut : MethodName := ⟨RX4, "cut", "(II)I"⟩
abbrev cX4_isWeight : ByteArray := prog_6_method_12_code
def yX4_isWeight : MethodName := ⟨RX4, "isWeight", "(III)Z"⟩
abbrev cX4_weight : ByteArray := prog_6_method_13_code
def yX4_weight : MethodName := ⟨RX4, "weight", "(IIII)I"⟩
abbrev cX4_told : ByteArray := prog_6_method_14_code
def yX4_told : MethodName := ⟨RX4, "told", "(III)I"⟩
abbrev cX4_isSound : ByteArray := prog_6_method_15_code
def yX4_isSound : MethodName := ⟨RX4, "isSound", "(I)Z"⟩
abbrev cX4_about : ByteArray := prog_6_method_16_code
def yX4_about : MethodName := ⟨RX4, "about", "(II)I"⟩
abbrev cX4_parent : ByteArray := prog_6_method_17_code
def yX4_parent : MethodName := ⟨RX4, "parent", "(II)I"⟩
abbrev cX4_isRough : ByteArray := prog_6_method_18_code
def yX4_isRough : MethodName := ⟨RX4, "isRough", "()Z"⟩
abbrev cX4_sound : ByteArray := prog_6_method_19_code
def yX4_sound : MethodName := ⟨RX4, "sound", "()I"⟩
abbrev cX4_mayBe : ByteArray := prog_6_method_20_code
def yX4_mayBe : MethodName := ⟨RX4, "mayBe", "(II)Z"⟩
abbrev cX4_becomes : ByteArray := prog_6_method_21_code
def yX4_becomes : MethodName := ⟨RX4, "becomes", "(III)I"⟩
abbrev cX4_see : ByteArray := prog_6_method_22_code
def yX4_see : MethodName := ⟨RX4, "see", "(II)I"⟩
abbrev cX4_act : ByteArray := prog_6_method_23_code
def yX4_act : MethodName := ⟨RX4, "act", "(II)I"⟩
abbrev cX4_force : ByteArray := prog_6_method_24_code
def yX4_force : MethodName := ⟨RX4, "force", "(III)I"⟩
abbrev cX4_firstWhole : ByteArray := prog_6_method_25_code
def yX4_firstWhole : MethodName := ⟨RX4, "firstWhole", "()V"⟩
abbrev cX4_nextWhole : ByteArray := prog_6_method_26_code
def yX4_nextWhole : MethodName := ⟨RX4, "nextWhole", "()Z"⟩
abbrev cX4_weigh : ByteArray := prog_6_method_27_code
def yX4_weigh : MethodName := ⟨RX4, "weigh", "()V"⟩
abbrev cX4_sum : ByteArray := prog_6_method_28_code
def yX4_sum : MethodName := ⟨RX4, "sum", "(IIII)J"⟩
abbrev cX4_all : ByteArray := prog_6_method_29_code
def yX4_all : MethodName := ⟨RX4, "all", "()J"⟩
abbrev cX4_common : ByteArray := prog_6_method_30_code
def yX4_common : MethodName := ⟨RX4, "common", "(JJ)J"⟩
abbrev cX4_tell : ByteArray := prog_6_method_31_code
def yX4_tell : MethodName := ⟨RX4, "tell", "(JJ)I"⟩
abbrev cX4_up : ByteArray := prog_6_method_32_code
def yX4_up : MethodName := ⟨RX4, "up", "()J"⟩
abbrev cX4_down : ByteArray := prog_6_method_33_code
def yX4_down : MethodName := ⟨RX4, "down", "()J"⟩
abbrev cX4_chance : ByteArray := prog_6_method_34_code
def yX4_chance : MethodName := ⟨RX4, "chance", "()I"⟩
abbrev cX4_refused : ByteArray := prog_6_method_35_code
def yX4_refused : MethodName := ⟨RX4, "refused", "()I"⟩
abbrev cX4_ask : ByteArray := prog_6_method_36_code
def yX4_ask : MethodName := ⟨RX4, "ask", "(II)I"⟩
abbrev cX4_both : ByteArray := prog_6_method_37_code
def yX4_both : MethodName := ⟨RX4, "both", "(IIII)I"⟩
abbrev cX4_most : ByteArray := prog_6_method_38_code
def yX4_most : MethodName := ⟨RX4, "most", "(I)I"⟩
abbrev cX4_likeliest : ByteArray := prog_6_method_39_code
def yX4_likeliest : MethodName := ⟨RX4, "likeliest", "(I)I"⟩
abbrev cX4_insert : ByteArray := prog_6_method_40_code
def yX4_insert : MethodName := ⟨RX4, "insert", "(II)I"⟩
abbrev cX4_at : ByteArray := prog_6_method_41_code
def yX4_at : MethodName := ⟨RX4, "at", "(I)I"⟩
abbrev cX4_wholes : ByteArray := prog_6_method_42_code
def yX4_wholes : MethodName := ⟨RX4, "wholes", "()I"⟩
abbrev cX4_leads : ByteArray := prog_6_method_43_code
def yX4_leads : MethodName := ⟨RX4, "leads", "(II)Z"⟩
abbrev cX4_passes : ByteArray := prog_6_method_44_code
def yX4_passes : MethodName := ⟨RX4, "passes", "(III)Z"⟩
abbrev cX4_apart : ByteArray := prog_6_method_45_code
def yX4_apart : MethodName := ⟨RX4, "apart", "(II)I"⟩
abbrev cX4_options : ByteArray := prog_6_method_46_code
def yX4_options : MethodName := ⟨RX4, "options", "(I)I"⟩
abbrev cX4_isOption : ByteArray := prog_6_method_47_code
def yX4_isOption : MethodName := ⟨RX4, "isOption", "(I)Z"⟩
abbrev cX4_worth : ByteArray := prog_6_method_48_code
def yX4_worth : MethodName := ⟨RX4, "worth", "(IIII)I"⟩
abbrev cX4_worthOf : ByteArray := prog_6_method_49_code
def yX4_worthOf : MethodName := ⟨RX4, "worthOf", "(III)J"⟩
abbrev cX4_greatest : ByteArray := prog_6_method_50_code
def yX4_greatest : MethodName := ⟨RX4, "greatest", "(II)J"⟩
abbrev cX4_expected : ByteArray := prog_6_method_51_code
def yX4_expected : MethodName := ⟨RX4, "expected", "(I)I"⟩
abbrev cX4_best : ByteArray := prog_6_method_52_code
def yX4_best : MethodName := ⟨RX4, "best", "()I"⟩
abbrev cX4_isKnown : ByteArray := prog_6_method_53_code
def yX4_isKnown : MethodName := ⟨RX4, "isKnown", "(I)Z"⟩
abbrev cX4_gainOf : ByteArray := prog_6_method_54_code
def yX4_gainOf : MethodName := ⟨RX4, "gainOf", "(I)J"⟩
abbrev cX4_gain : ByteArray := prog_6_method_55_code
def yX4_gain : MethodName := ⟨RX4, "gain", "(I)I"⟩
abbrev cX4_next : ByteArray := prog_6_method_56_code
def yX4_next : MethodName := ⟨RX4, "next", "()I"⟩
abbrev cX4_note : ByteArray := prog_6_method_57_code
def yX4_note : MethodName := ⟨RX4, "note", "(II)V"⟩
abbrev cX4_undo : ByteArray := prog_6_method_58_code
def yX4_undo : MethodName := ⟨RX4, "undo", "()I"⟩
abbrev cX4_count : ByteArray := prog_6_method_59_code
def yX4_count : MethodName := ⟨RX4, "count", "(I)I"⟩
def RJ9 : String := "java/lang/Math"
def TJ9 : u_T := fun k => match k with
  | _ => ("", "", "", false)
def tyJ9 : Nat → FieldType := fun k => match k with
  | _ => .int
abbrev wsJ90 : List Cond := u_ws RJ9 TJ9 0
theorem nmJ9 : ∀ a, a < 0 → ∀ b, b < 0 → a ≠ b → (TJ9 a).2.1 ≠ (TJ9 b).2.1 := by decide +kernel
theorem tyJ9_ok : ∀ k, k < 0 → parseFieldDescriptor (TJ9 k).2.2.1 = some (tyJ9 k) := by decide +kernel
abbrev cJ9_abs_067f4 : ByteArray := prog_7_method_61_code
def yJ9_abs_067f4 : MethodName := ⟨RJ9, "abs", "(J)J"⟩
abbrev cJ9_min_7cf53 : ByteArray := prog_7_method_69_code
def yJ9_min_7cf53 : MethodName := ⟨RJ9, "min", "(II)I"⟩
def RJ10 : String := "java/lang/System"
def TJ10 : u_T := fun k => match k with
  | _ => ("", "", "", false)
def tyJ10 : Nat → FieldType := fun k => match k with
  | _ => .int
abbrev wsJ100 : List Cond := u_ws RJ10 TJ10 0
theorem nmJ10 : ∀ a, a < 0 → ∀ b, b < 0 → a ≠ b → (TJ10 a).2.1 ≠ (TJ10 b).2.1 := by decide +kernel
theorem tyJ10_ok : ∀ k, k < 0 → parseFieldDescriptor (TJ10 k).2.2.1 = some (tyJ10 k) := by decide +kernel
def RL : String := "BeliefWebLaw"
abbrev cL_law : ByteArray := code
def yL_law : MethodName := ⟨RL, "law", "([I)Z"⟩
abbrev vwCl : List vw_C := [(RX0, TX0, 4), (RX1, TX1, 11), (RX2, TX2, 11), (RX3, TX3, 7), (RX4, TX4, 31)]
theorem inX0 : ∀ w ∈ wsX00, w ∈ lw_tbl := by
  intro w h
  rw [show wsX00 = [124, 126, 128, 130].filterMap (fun i => lw_tbl[i]?) from by decide +kernel] at h
  obtain ⟨i, -, hi⟩ := List.mem_filterMap.mp h
  exact List.mem_of_getElem? hi
theorem inX1 : ∀ w ∈ wsX10, w ∈ lw_tbl := by
  intro w h
  rw [show wsX10 = [156, 158, 160, 162, 164, 166, 168, 170, 172, 174, 176].filterMap (fun i => lw_tbl[i]?) from by decide +kernel] at h
  obtain ⟨i, -, hi⟩ := List.mem_filterMap.mp h
  exact List.mem_of_getElem? hi
theorem inX2 : ∀ w ∈ wsX20, w ∈ lw_tbl := by
  intro w h
  rw [show wsX20 = [87, 89, 91, 93, 95, 97, 99, 101, 103, 105, 107].filterMap (fun i => lw_tbl[i]?) from by decide +kernel] at h
  obtain ⟨i, -, hi⟩ := List.mem_filterMap.mp h
  exact List.mem_of_getElem? hi
theorem inX3 : ∀ w ∈ wsX30, w ∈ lw_tbl := by
  intro w h
  rw [show wsX30 = [187, 189, 191, 193, 195, 197, 199].filterMap (fun i => lw_tbl[i]?) from by decide +kernel] at h
  obtain ⟨i, -, hi⟩ := List.mem_filterMap.mp h
  exact List.mem_of_getElem? hi
theorem inX4 : ∀ w ∈ wsX40, w ∈ lw_tbl := by
  intro w h
  rw [show wsX40 = [599, 601, 603, 605, 607, 609, 611, 613, 615, 617, 619, 621, 623, 625, 627, 629, 631, 633, 635, 637, 639, 641, 643, 645, 647, 649, 651, 653, 655, 657, 659].filterMap (fun i => lw_tbl[i]?) from by decide +kernel] at h
  obtain ⟨i, -, hi⟩ := List.mem_filterMap.mp h
  exact List.mem_of_getElem? hi

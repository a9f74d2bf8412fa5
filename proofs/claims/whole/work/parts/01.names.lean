-- ===== PART A: goes FIRST, ahead of the names: the tables' words, and 'selects' of the private methods out of them =====
/-- a private method of a class that the tables say can be made, by its rows of tables_1 -/
def lw_okq (q : MethodName × Nat) : Prop := (q.1.cls ≠ "java/lang/invoke/MethodHandle" ∧ q.1.cls ≠ "java/lang/invoke/VarHandle") ∧ Cond.instantiable q.1.cls q.2 ∈ tables_1 ∧ Cond.privateMethod q.1 ∈ tables_1 ∧ Cond.instanceMethod q.1 ∈ tables_1
theorem lw_p0 : lw_okq (⟨"DoubtTime", "layItems", "()V"⟩, 6) := ⟨⟨by decide +kernel, by decide +kernel⟩, List.mem_of_getElem? (i := 19) (by decide +kernel), List.mem_of_getElem? (i := 268) (by decide +kernel), List.mem_of_getElem? (i := 269) (by decide +kernel)⟩
theorem lw_p1 : lw_okq (⟨"DoubtTime$Item", "howManyNumbers", "()I"⟩, 3) := ⟨⟨by decide +kernel, by decide +kernel⟩, List.mem_of_getElem? (i := 42) (by decide +kernel), List.mem_of_getElem? (i := 302) (by decide +kernel), List.mem_of_getElem? (i := 303) (by decide +kernel)⟩
theorem lw_p2 : lw_okq (⟨"DoubtTime$Item", "takeNumber", "(LDoubtTime$Text;IC)Z"⟩, 3) := ⟨⟨by decide +kernel, by decide +kernel⟩, List.mem_of_getElem? (i := 42) (by decide +kernel), List.mem_of_getElem? (i := 306) (by decide +kernel), List.mem_of_getElem? (i := 307) (by decide +kernel)⟩
theorem lw_p3 : lw_okq (⟨"DoubtTime$Item", "areNumbersTold", "()Z"⟩, 3) := ⟨⟨by decide +kernel, by decide +kernel⟩, List.mem_of_getElem? (i := 42) (by decide +kernel), List.mem_of_getElem? (i := 312) (by decide +kernel), List.mem_of_getElem? (i := 313) (by decide +kernel)⟩
theorem lw_p4 : lw_okq (⟨"DoubtTime", "layItem", "()V"⟩, 6) := ⟨⟨by decide +kernel, by decide +kernel⟩, List.mem_of_getElem? (i := 19) (by decide +kernel), List.mem_of_getElem? (i := 333) (by decide +kernel), List.mem_of_getElem? (i := 334) (by decide +kernel)⟩
theorem lw_p5 : lw_okq (⟨"DoubtTime", "lookAround", "()V"⟩, 6) := ⟨⟨by decide +kernel, by decide +kernel⟩, List.mem_of_getElem? (i := 19) (by decide +kernel), List.mem_of_getElem? (i := 431) (by decide +kernel), List.mem_of_getElem? (i := 432) (by decide +kernel)⟩
theorem lw_p6 : lw_okq (⟨"DoubtTime$Masters", "widening", "(J)J"⟩, 6) := ⟨⟨by decide +kernel, by decide +kernel⟩, List.mem_of_getElem? (i := 68) (by decide +kernel), List.mem_of_getElem? (i := 447) (by decide +kernel), List.mem_of_getElem? (i := 448) (by decide +kernel)⟩
theorem lw_p7 : lw_okq (⟨"DoubtTime$Agreed", "findBegin", "()V"⟩, 5) := ⟨⟨by decide +kernel, by decide +kernel⟩, List.mem_of_getElem? (i := 164) (by decide +kernel), List.mem_of_getElem? (i := 456) (by decide +kernel), List.mem_of_getElem? (i := 457) (by decide +kernel)⟩
theorem lw_p8 : lw_okq (⟨"DoubtTime$Agreed", "leastEndOver", "(J)J"⟩, 5) := ⟨⟨by decide +kernel, by decide +kernel⟩, List.mem_of_getElem? (i := 164) (by decide +kernel), List.mem_of_getElem? (i := 468) (by decide +kernel), List.mem_of_getElem? (i := 469) (by decide +kernel)⟩
theorem lw_p9 : lw_okq (⟨"DoubtTime", "finishCommits", "()V"⟩, 6) := ⟨⟨by decide +kernel, by decide +kernel⟩, List.mem_of_getElem? (i := 19) (by decide +kernel), List.mem_of_getElem? (i := 493) (by decide +kernel), List.mem_of_getElem? (i := 494) (by decide +kernel)⟩
theorem lw_p10 : lw_okq (⟨"DoubtTime$Leap", "shift", "(J)J"⟩, 4) := ⟨⟨by decide +kernel, by decide +kernel⟩, List.mem_of_getElem? (i := 188) (by decide +kernel), List.mem_of_getElem? (i := 623) (by decide +kernel), List.mem_of_getElem? (i := 624) (by decide +kernel)⟩
theorem lw_p11 : lw_okq (⟨"DoubtTimeModel", "begin", "()V"⟩, 15) := ⟨⟨by decide +kernel, by decide +kernel⟩, List.mem_of_getElem? (i := 642) (by decide +kernel), List.mem_of_getElem? (i := 648) (by decide +kernel), List.mem_of_getElem? (i := 649) (by decide +kernel)⟩
theorem lw_p12 : lw_okq (⟨"DoubtTimeModel", "putLeap", "(JJJJ)V"⟩, 15) := ⟨⟨by decide +kernel, by decide +kernel⟩, List.mem_of_getElem? (i := 642) (by decide +kernel), List.mem_of_getElem? (i := 654) (by decide +kernel), List.mem_of_getElem? (i := 655) (by decide +kernel)⟩
theorem lw_p13 : lw_okq (⟨"DoubtTimeModel", "putMaster", "(IJJ)V"⟩, 15) := ⟨⟨by decide +kernel, by decide +kernel⟩, List.mem_of_getElem? (i := 642) (by decide +kernel), List.mem_of_getElem? (i := 660) (by decide +kernel), List.mem_of_getElem? (i := 661) (by decide +kernel)⟩
theorem lw_p14 : lw_okq (⟨"DoubtTimeModel", "take", "()V"⟩, 15) := ⟨⟨by decide +kernel, by decide +kernel⟩, List.mem_of_getElem? (i := 642) (by decide +kernel), List.mem_of_getElem? (i := 670) (by decide +kernel), List.mem_of_getElem? (i := 671) (by decide +kernel)⟩
theorem lw_p15 : lw_okq (⟨"DoubtTimeModel", "readText", "()I"⟩, 15) := ⟨⟨by decide +kernel, by decide +kernel⟩, List.mem_of_getElem? (i := 642) (by decide +kernel), List.mem_of_getElem? (i := 737) (by decide +kernel), List.mem_of_getElem? (i := 738) (by decide +kernel)⟩
def lw_privs_1 : List (MethodName × Nat) := [(⟨"DoubtTime", "layItems", "()V"⟩, 6), (⟨"DoubtTime$Item", "howManyNumbers", "()I"⟩, 3), (⟨"DoubtTime$Item", "takeNumber", "(LDoubtTime$Text;IC)Z"⟩, 3), (⟨"DoubtTime$Item", "areNumbersTold", "()Z"⟩, 3), (⟨"DoubtTime", "layItem", "()V"⟩, 6), (⟨"DoubtTime", "lookAround", "()V"⟩, 6), (⟨"DoubtTime$Masters", "widening", "(J)J"⟩, 6), (⟨"DoubtTime$Agreed", "findBegin", "()V"⟩, 5), (⟨"DoubtTime$Agreed", "leastEndOver", "(J)J"⟩, 5), (⟨"DoubtTime", "finishCommits", "()V"⟩, 6), (⟨"DoubtTime$Leap", "shift", "(J)J"⟩, 4), (⟨"DoubtTimeModel", "begin", "()V"⟩, 15), (⟨"DoubtTimeModel", "putLeap", "(JJJJ)V"⟩, 15), (⟨"DoubtTimeModel", "putMaster", "(IJJ)V"⟩, 15), (⟨"DoubtTimeModel", "take", "()V"⟩, 15), (⟨"DoubtTimeModel", "readText", "()I"⟩, 15)]
theorem lw_r1 : ∀ q ∈ lw_privs_1, lw_okq q := List.forall_mem_cons.mpr ⟨lw_p0, List.forall_mem_cons.mpr ⟨lw_p1, List.forall_mem_cons.mpr ⟨lw_p2, List.forall_mem_cons.mpr ⟨lw_p3, List.forall_mem_cons.mpr ⟨lw_p4, List.forall_mem_cons.mpr ⟨lw_p5, List.forall_mem_cons.mpr ⟨lw_p6, List.forall_mem_cons.mpr ⟨lw_p7, List.forall_mem_cons.mpr ⟨lw_p8, List.forall_mem_cons.mpr ⟨lw_p9, List.forall_mem_cons.mpr ⟨lw_p10, List.forall_mem_cons.mpr ⟨lw_p11, List.forall_mem_cons.mpr ⟨lw_p12, List.forall_mem_cons.mpr ⟨lw_p13, List.forall_mem_cons.mpr ⟨lw_p14, List.forall_mem_cons.mpr ⟨lw_p15, fun _ h => absurd h List.not_mem_nil⟩⟩⟩⟩⟩⟩⟩⟩⟩⟩⟩⟩⟩⟩⟩⟩
theorem lw_p16 : lw_okq (⟨"DoubtTimeModel", "readItem", "()Z"⟩, 15) := ⟨⟨by decide +kernel, by decide +kernel⟩, List.mem_of_getElem? (i := 642) (by decide +kernel), List.mem_of_getElem? (i := 741) (by decide +kernel), List.mem_of_getElem? (i := 742) (by decide +kernel)⟩
theorem lw_p17 : lw_okq (⟨"DoubtTimeModel", "takeNumber", "()J"⟩, 15) := ⟨⟨by decide +kernel, by decide +kernel⟩, List.mem_of_getElem? (i := 642) (by decide +kernel), List.mem_of_getElem? (i := 745) (by decide +kernel), List.mem_of_getElem? (i := 746) (by decide +kernel)⟩
theorem lw_p18 : lw_okq (⟨"DoubtTimeModel", "readMaster", "()Z"⟩, 15) := ⟨⟨by decide +kernel, by decide +kernel⟩, List.mem_of_getElem? (i := 642) (by decide +kernel), List.mem_of_getElem? (i := 755) (by decide +kernel), List.mem_of_getElem? (i := 756) (by decide +kernel)⟩
theorem lw_p19 : lw_okq (⟨"DoubtTimeModel", "takeSign", "(I)Z"⟩, 15) := ⟨⟨by decide +kernel, by decide +kernel⟩, List.mem_of_getElem? (i := 642) (by decide +kernel), List.mem_of_getElem? (i := 759) (by decide +kernel), List.mem_of_getElem? (i := 760) (by decide +kernel)⟩
theorem lw_p20 : lw_okq (⟨"DoubtTimeModel", "readLeap", "()Z"⟩, 15) := ⟨⟨by decide +kernel, by decide +kernel⟩, List.mem_of_getElem? (i := 642) (by decide +kernel), List.mem_of_getElem? (i := 765) (by decide +kernel), List.mem_of_getElem? (i := 766) (by decide +kernel)⟩
theorem lw_p21 : lw_okq (⟨"DoubtTimeModel", "heardMany", "()I"⟩, 15) := ⟨⟨by decide +kernel, by decide +kernel⟩, List.mem_of_getElem? (i := 642) (by decide +kernel), List.mem_of_getElem? (i := 774) (by decide +kernel), List.mem_of_getElem? (i := 775) (by decide +kernel)⟩
theorem lw_p22 : lw_okq (⟨"DoubtTimeModel", "isHeard", "(I)Z"⟩, 15) := ⟨⟨by decide +kernel, by decide +kernel⟩, List.mem_of_getElem? (i := 642) (by decide +kernel), List.mem_of_getElem? (i := 778) (by decide +kernel), List.mem_of_getElem? (i := 779) (by decide +kernel)⟩
theorem lw_p23 : lw_okq (⟨"DoubtTimeModel", "isStruck", "(I)Z"⟩, 15) := ⟨⟨by decide +kernel, by decide +kernel⟩, List.mem_of_getElem? (i := 642) (by decide +kernel), List.mem_of_getElem? (i := 782) (by decide +kernel), List.mem_of_getElem? (i := 783) (by decide +kernel)⟩
theorem lw_p24 : lw_okq (⟨"DoubtTimeModel", "note", "()V"⟩, 15) := ⟨⟨by decide +kernel, by decide +kernel⟩, List.mem_of_getElem? (i := 642) (by decide +kernel), List.mem_of_getElem? (i := 797) (by decide +kernel), List.mem_of_getElem? (i := 798) (by decide +kernel)⟩
theorem lw_p25 : lw_okq (⟨"DoubtTimeModel", "liarsNow", "()I"⟩, 15) := ⟨⟨by decide +kernel, by decide +kernel⟩, List.mem_of_getElem? (i := 642) (by decide +kernel), List.mem_of_getElem? (i := 809) (by decide +kernel), List.mem_of_getElem? (i := 810) (by decide +kernel)⟩
theorem lw_p26 : lw_okq (⟨"DoubtTimeModel", "find", "(J)V"⟩, 15) := ⟨⟨by decide +kernel, by decide +kernel⟩, List.mem_of_getElem? (i := 642) (by decide +kernel), List.mem_of_getElem? (i := 813) (by decide +kernel), List.mem_of_getElem? (i := 814) (by decide +kernel)⟩
theorem lw_p27 : lw_okq (⟨"DoubtTimeModel", "spanOf", "(IIJ)J"⟩, 15) := ⟨⟨by decide +kernel, by decide +kernel⟩, List.mem_of_getElem? (i := 642) (by decide +kernel), List.mem_of_getElem? (i := 817) (by decide +kernel), List.mem_of_getElem? (i := 818) (by decide +kernel)⟩
theorem lw_p28 : lw_okq (⟨"DoubtTimeModel", "manyAt", "(J)I"⟩, 15) := ⟨⟨by decide +kernel, by decide +kernel⟩, List.mem_of_getElem? (i := 642) (by decide +kernel), List.mem_of_getElem? (i := 822) (by decide +kernel), List.mem_of_getElem? (i := 823) (by decide +kernel)⟩
theorem lw_p29 : lw_okq (⟨"DoubtTimeModel", "sameTo", "(J)J"⟩, 15) := ⟨⟨by decide +kernel, by decide +kernel⟩, List.mem_of_getElem? (i := 642) (by decide +kernel), List.mem_of_getElem? (i := 826) (by decide +kernel), List.mem_of_getElem? (i := 827) (by decide +kernel)⟩
theorem lw_p30 : lw_okq (⟨"DoubtTimeModel", "closeOpen", "()I"⟩, 15) := ⟨⟨by decide +kernel, by decide +kernel⟩, List.mem_of_getElem? (i := 642) (by decide +kernel), List.mem_of_getElem? (i := 842) (by decide +kernel), List.mem_of_getElem? (i := 843) (by decide +kernel)⟩
theorem lw_p31 : lw_okq (⟨"DoubtTimeModel", "openMany", "()I"⟩, 15) := ⟨⟨by decide +kernel, by decide +kernel⟩, List.mem_of_getElem? (i := 642) (by decide +kernel), List.mem_of_getElem? (i := 846) (by decide +kernel), List.mem_of_getElem? (i := 847) (by decide +kernel)⟩
def lw_privs_2 : List (MethodName × Nat) := [(⟨"DoubtTimeModel", "readItem", "()Z"⟩, 15), (⟨"DoubtTimeModel", "takeNumber", "()J"⟩, 15), (⟨"DoubtTimeModel", "readMaster", "()Z"⟩, 15), (⟨"DoubtTimeModel", "takeSign", "(I)Z"⟩, 15), (⟨"DoubtTimeModel", "readLeap", "()Z"⟩, 15), (⟨"DoubtTimeModel", "heardMany", "()I"⟩, 15), (⟨"DoubtTimeModel", "isHeard", "(I)Z"⟩, 15), (⟨"DoubtTimeModel", "isStruck", "(I)Z"⟩, 15), (⟨"DoubtTimeModel", "note", "()V"⟩, 15), (⟨"DoubtTimeModel", "liarsNow", "()I"⟩, 15), (⟨"DoubtTimeModel", "find", "(J)V"⟩, 15), (⟨"DoubtTimeModel", "spanOf", "(IIJ)J"⟩, 15), (⟨"DoubtTimeModel", "manyAt", "(J)I"⟩, 15), (⟨"DoubtTimeModel", "sameTo", "(J)J"⟩, 15), (⟨"DoubtTimeModel", "closeOpen", "()I"⟩, 15), (⟨"DoubtTimeModel", "openMany", "()I"⟩, 15)]
theorem lw_r2 : ∀ q ∈ lw_privs_2, lw_okq q := List.forall_mem_cons.mpr ⟨lw_p16, List.forall_mem_cons.mpr ⟨lw_p17, List.forall_mem_cons.mpr ⟨lw_p18, List.forall_mem_cons.mpr ⟨lw_p19, List.forall_mem_cons.mpr ⟨lw_p20, List.forall_mem_cons.mpr ⟨lw_p21, List.forall_mem_cons.mpr ⟨lw_p22, List.forall_mem_cons.mpr ⟨lw_p23, List.forall_mem_cons.mpr ⟨lw_p24, List.forall_mem_cons.mpr ⟨lw_p25, List.forall_mem_cons.mpr ⟨lw_p26, List.forall_mem_cons.mpr ⟨lw_p27, List.forall_mem_cons.mpr ⟨lw_p28, List.forall_mem_cons.mpr ⟨lw_p29, List.forall_mem_cons.mpr ⟨lw_p30, List.forall_mem_cons.mpr ⟨lw_p31, fun _ h => absurd h List.not_mem_nil⟩⟩⟩⟩⟩⟩⟩⟩⟩⟩⟩⟩⟩⟩⟩⟩
theorem lw_p32 : lw_okq (⟨"DoubtTimeModel", "isGood", "()Z"⟩, 15) := ⟨⟨by decide +kernel, by decide +kernel⟩, List.mem_of_getElem? (i := 642) (by decide +kernel), List.mem_of_getElem? (i := 851) (by decide +kernel), List.mem_of_getElem? (i := 852) (by decide +kernel)⟩
theorem lw_p33 : lw_okq (⟨"DoubtTimeModel", "latest", "()J"⟩, 15) := ⟨⟨by decide +kernel, by decide +kernel⟩, List.mem_of_getElem? (i := 642) (by decide +kernel), List.mem_of_getElem? (i := 883) (by decide +kernel), List.mem_of_getElem? (i := 884) (by decide +kernel)⟩
theorem lw_p34 : lw_okq (⟨"DoubtTimeModel", "isCommit", "(I)Z"⟩, 15) := ⟨⟨by decide +kernel, by decide +kernel⟩, List.mem_of_getElem? (i := 642) (by decide +kernel), List.mem_of_getElem? (i := 891) (by decide +kernel), List.mem_of_getElem? (i := 892) (by decide +kernel)⟩
theorem lw_p35 : lw_okq (⟨"DoubtTimeModel", "safeNow", "()J"⟩, 15) := ⟨⟨by decide +kernel, by decide +kernel⟩, List.mem_of_getElem? (i := 642) (by decide +kernel), List.mem_of_getElem? (i := 904) (by decide +kernel), List.mem_of_getElem? (i := 905) (by decide +kernel)⟩
theorem lw_p36 : lw_okq (⟨"DoubtTimeModel", "smear", "(J)J"⟩, 15) := ⟨⟨by decide +kernel, by decide +kernel⟩, List.mem_of_getElem? (i := 642) (by decide +kernel), List.mem_of_getElem? (i := 926) (by decide +kernel), List.mem_of_getElem? (i := 927) (by decide +kernel)⟩
def lw_privs_3 : List (MethodName × Nat) := [(⟨"DoubtTimeModel", "isGood", "()Z"⟩, 15), (⟨"DoubtTimeModel", "latest", "()J"⟩, 15), (⟨"DoubtTimeModel", "isCommit", "(I)Z"⟩, 15), (⟨"DoubtTimeModel", "safeNow", "()J"⟩, 15), (⟨"DoubtTimeModel", "smear", "(J)J"⟩, 15)]
theorem lw_r3 : ∀ q ∈ lw_privs_3, lw_okq q := List.forall_mem_cons.mpr ⟨lw_p32, List.forall_mem_cons.mpr ⟨lw_p33, List.forall_mem_cons.mpr ⟨lw_p34, List.forall_mem_cons.mpr ⟨lw_p35, List.forall_mem_cons.mpr ⟨lw_p36, fun _ h => absurd h List.not_mem_nil⟩⟩⟩⟩⟩
def lw_privs : List (MethodName × Nat) := lw_privs_1 ++ (lw_privs_2 ++ (lw_privs_3))
def lw_tbl : List Cond := k2_sels lw_privs ++ tables_1
theorem lw_privs_ok : ∀ q ∈ lw_privs, lw_okq q := by
  show ∀ q ∈ lw_privs_1 ++ (lw_privs_2 ++ (lw_privs_3)), lw_okq q
  exact List.forall_mem_append.mpr ⟨lw_r1, List.forall_mem_append.mpr ⟨lw_r2, lw_r3⟩⟩

def RX0 : String := "DoubtTime$Agreed"
def TX0 : u_T := fun k => match k with
  | 0 => ("DoubtTime$Agreed", "begins", "[J", true)
  | 1 => ("DoubtTime$Agreed", "ends", "[J", true)
  | 2 => ("DoubtTime$Agreed", "heard", "I", false)
  | 3 => ("DoubtTime$Agreed", "most", "I", false)
  | _ => ("DoubtTime$Agreed", "begin", "J", false)
def tyX0 : Nat → FieldType := fun k => match k with
  | 0 => .array .long
  | 1 => .array .long
  | 2 => .int
  | 3 => .int
  | _ => .long
abbrev wsX00 : List Cond := u_ws RX0 TX0 5
theorem nmX0 : ∀ a, a < 5 → ∀ b, b < 5 → a ≠ b → (TX0 a).2.1 ≠ (TX0 b).2.1 := by decide +kernel
theorem tyX0_ok : ∀ k, k < 5 → parseFieldDescriptor (TX0 k).2.2.1 = some (tyX0 k) := by decide +kernel
abbrev cX0_init : ByteArray := prog_2_method_1_code
def yX0_init : MethodName := ⟨RX0, "<init>", "()V"⟩
abbrev cX0_look : ByteArray := prog_2_method_2_code
def yX0_look : MethodName := ⟨RX0, "look", "(LDoubtTime$Masters;I)V"⟩
abbrev cX0_findBegin : ByteArray := prog_2_method_3_code
def yX0_findBegin : MethodName := ⟨RX0, "findBegin", "()V"⟩
abbrev cX0_endOfRow : ByteArray := prog_2_method_4_code
def yX0_endOfRow : MethodName := ⟨RX0, "endOfRow", "()J"⟩
abbrev cX0_leastEndOver : ByteArray := prog_2_method_5_code
def yX0_leastEndOver : MethodName := ⟨RX0, "leastEndOver", "(J)J"⟩
abbrev cX0_howManyHold : ByteArray := prog_2_method_6_code
def yX0_howManyHold : MethodName := ⟨RX0, "howManyHold", "(J)I"⟩
abbrev cX0_isGood : ByteArray := prog_2_method_7_code
def yX0_isGood : MethodName := ⟨RX0, "isGood", "()Z"⟩
def RX1 : String := "DoubtTime$Commits"
def TX1 : u_T := fun k => match k with
  | 0 => ("DoubtTime$Commits", "key", "[I", true)
  | 1 => ("DoubtTime$Commits", "value", "[I", true)
  | 2 => ("DoubtTime$Commits", "stamp", "[J", true)
  | 3 => ("DoubtTime$Commits", "madeAt", "[I", true)
  | 4 => ("DoubtTime$Commits", "doneAt", "[I", true)
  | 5 => ("DoubtTime$Commits", "size", "I", false)
  | _ => ("DoubtTime$Commits", "done", "I", false)
def tyX1 : Nat → FieldType := fun k => match k with
  | 0 => .array .int
  | 1 => .array .int
  | 2 => .array .long
  | 3 => .array .int
  | 4 => .array .int
  | 5 => .int
  | _ => .int
abbrev wsX10 : List Cond := u_ws RX1 TX1 7
theorem nmX1 : ∀ a, a < 7 → ∀ b, b < 7 → a ≠ b → (TX1 a).2.1 ≠ (TX1 b).2.1 := by decide +kernel
theorem tyX1_ok : ∀ k, k < 7 → parseFieldDescriptor (TX1 k).2.2.1 = some (tyX1 k) := by decide +kernel
abbrev cX1_init : ByteArray := prog_3_method_1_code
def yX1_init : MethodName := ⟨RX1, "<init>", "()V"⟩
abbrev cX1_clear : ByteArray := prog_3_method_2_code
def yX1_clear : MethodName := ⟨RX1, "clear", "()V"⟩
abbrev cX1_copyFrom : ByteArray := prog_3_method_3_code
def yX1_copyFrom : MethodName := ⟨RX1, "copyFrom", "(LDoubtTime$Commits;)V"⟩
abbrev cX1_has : ByteArray := prog_3_method_4_code
def yX1_has : MethodName := ⟨RX1, "has", "(I)Z"⟩
abbrev cX1_isOpen : ByteArray := prog_3_method_5_code
def yX1_isOpen : MethodName := ⟨RX1, "isOpen", "(I)Z"⟩
abbrev cX1_howManyOpen : ByteArray := prog_3_method_6_code
def yX1_howManyOpen : MethodName := ⟨RX1, "howManyOpen", "()I"⟩
abbrev cX1_make : ByteArray := prog_3_method_7_code
def yX1_make : MethodName := ⟨RX1, "make", "(IIJI)V"⟩
abbrev cX1_finishBelow : ByteArray := prog_3_method_8_code
def yX1_finishBelow : MethodName := ⟨RX1, "finishBelow", "(JI)V"⟩
abbrev cX1_latestStamp : ByteArray := prog_3_method_9_code
def yX1_latestStamp : MethodName := ⟨RX1, "latestStamp", "()J"⟩
abbrev cX1_leastOpenStamp : ByteArray := prog_3_method_10_code
def yX1_leastOpenStamp : MethodName := ⟨RX1, "leastOpenStamp", "()J"⟩
abbrev cX1_valueAsOf : ByteArray := prog_3_method_11_code
def yX1_valueAsOf : MethodName := ⟨RX1, "valueAsOf", "(IJ)I"⟩
abbrev cX1_howManyStamped : ByteArray := prog_3_method_12_code
def yX1_howManyStamped : MethodName := ⟨RX1, "howManyStamped", "(IJJ)I"⟩
def RX2 : String := "DoubtTime$Item"
def TX2 : u_T := fun k => match k with
  | 0 => ("DoubtTime$Item", "numbers", "[J", true)
  | 1 => ("DoubtTime$Item", "kind", "C", false)
  | _ => ("DoubtTime$Item", "behind", "I", false)
def tyX2 : Nat → FieldType := fun k => match k with
  | 0 => .array .long
  | 1 => .char
  | _ => .int
abbrev wsX20 : List Cond := u_ws RX2 TX2 3
theorem nmX2 : ∀ a, a < 3 → ∀ b, b < 3 → a ≠ b → (TX2 a).2.1 ≠ (TX2 b).2.1 := by decide +kernel
theorem tyX2_ok : ∀ k, k < 3 → parseFieldDescriptor (TX2 k).2.2.1 = some (tyX2 k) := by decide +kernel
abbrev cX2_init : ByteArray := prog_4_method_1_code
def yX2_init : MethodName := ⟨RX2, "<init>", "()V"⟩
abbrev cX2_takeFrom : ByteArray := prog_4_method_2_code
def yX2_takeFrom : MethodName := ⟨RX2, "takeFrom", "(LDoubtTime$Text;I)Z"⟩
abbrev cX2_howManyNumbers : ByteArray := prog_4_method_3_code
def yX2_howManyNumbers : MethodName := ⟨RX2, "howManyNumbers", "()I"⟩
abbrev cX2_takeNumber : ByteArray := prog_4_method_4_code
def yX2_takeNumber : MethodName := ⟨RX2, "takeNumber", "(LDoubtTime$Text;IC)Z"⟩
abbrev cX2_areNumbersTold : ByteArray := prog_4_method_5_code
def yX2_areNumbersTold : MethodName := ⟨RX2, "areNumbersTold", "()Z"⟩
def RX3 : String := "DoubtTime$Leap"
def TX3 : u_T := fun k => match k with
  | 0 => ("DoubtTime$Leap", "at", "J", false)
  | 1 => ("DoubtTime$Leap", "ticks", "J", false)
  | 2 => ("DoubtTime$Leap", "window", "J", false)
  | _ => ("DoubtTime$Leap", "kind", "J", false)
def tyX3 : Nat → FieldType := fun k => match k with
  | 0 => .long
  | 1 => .long
  | 2 => .long
  | _ => .long
abbrev wsX30 : List Cond := u_ws RX3 TX3 4
theorem nmX3 : ∀ a, a < 4 → ∀ b, b < 4 → a ≠ b → (TX3 a).2.1 ≠ (TX3 b).2.1 := by decide +kernel
theorem tyX3_ok : ∀ k, k < 4 → parseFieldDescriptor (TX3 k).2.2.1 = some (tyX3 k) := by decide +kernel
abbrev cX3_init : ByteArray := prog_5_method_1_code
def yX3_init : MethodName := ⟨RX3, "<init>", "()V"⟩
abbrev cX3_clear : ByteArray := prog_5_method_2_code
def yX3_clear : MethodName := ⟨RX3, "clear", "()V"⟩
abbrev cX3_set : ByteArray := prog_5_method_3_code
def yX3_set : MethodName := ⟨RX3, "set", "(JJJJ)V"⟩
abbrev cX3_smear : ByteArray := prog_5_method_4_code
def yX3_smear : MethodName := ⟨RX3, "smear", "(J)J"⟩
abbrev cX3_shift : ByteArray := prog_5_method_5_code
def yX3_shift : MethodName := ⟨RX3, "shift", "(J)J"⟩
abbrev cX3_leastSmearedTo : ByteArray := prog_5_method_6_code
def yX3_leastSmearedTo : MethodName := ⟨RX3, "leastSmearedTo", "(J)J"⟩
def RX4 : String := "DoubtTime$Masters"
def TX4 : u_T := fun k => match k with
  | 0 => ("DoubtTime$Masters", "low", "[J", true)
  | 1 => ("DoubtTime$Masters", "high", "[J", true)
  | 2 => ("DoubtTime$Masters", "toldAt", "[I", true)
  | 3 => ("DoubtTime$Masters", "told", "I", false)
  | 4 => ("DoubtTime$Masters", "struck", "I", false)
  | _ => ("DoubtTime$Masters", "drift", "I", false)
def tyX4 : Nat → FieldType := fun k => match k with
  | 0 => .array .long
  | 1 => .array .long
  | 2 => .array .int
  | 3 => .int
  | 4 => .int
  | _ => .int
abbrev wsX40 : List Cond := u_ws RX4 TX4 6
theorem nmX4 : ∀ a, a < 6 → ∀ b, b < 6 → a ≠ b → (TX4 a).2.1 ≠ (TX4 b).2.1 := by decide +kernel
theorem tyX4_ok : ∀ k, k < 6 → parseFieldDescriptor (TX4 k).2.2.1 = some (tyX4 k) := by decide +kernel
abbrev cX4_init : ByteArray := prog_6_method_1_code
def yX4_init : MethodName := ⟨RX4, "<init>", "()V"⟩
abbrev cX4_clear : ByteArray := prog_6_method_2_code
def yX4_clear : MethodName := ⟨RX4, "clear", "()V"⟩
abbrev cX4_copyFrom : ByteArray := prog_6_method_3_code
def yX4_copyFrom : MethodName := ⟨RX4, "copyFrom", "(LDoubtTime$Masters;)V"⟩
abbrev cX4_hear : ByteArray := prog_6_method_4_code
def yX4_hear : MethodName := ⟨RX4, "hear", "(IJJI)V"⟩
abbrev cX4_hasTold : ByteArray := prog_6_method_5_code
def yX4_hasTold : MethodName := ⟨RX4, "hasTold", "(I)Z"⟩
abbrev cX4_isHeard : ByteArray := prog_6_method_6_code
def yX4_isHeard : MethodName := ⟨RX4, "isHeard", "(I)Z"⟩
abbrev cX4_howManyHeard : ByteArray := prog_6_method_7_code
def yX4_howManyHeard : MethodName := ⟨RX4, "howManyHeard", "()I"⟩
abbrev cX4_beginOf : ByteArray := prog_6_method_8_code
def yX4_beginOf : MethodName := ⟨RX4, "beginOf", "(II)J"⟩
abbrev cX4_endOf : ByteArray := prog_6_method_9_code
def yX4_endOf : MethodName := ⟨RX4, "endOf", "(II)J"⟩
abbrev cX4_widening : ByteArray := prog_6_method_10_code
def yX4_widening : MethodName := ⟨RX4, "widening", "(J)J"⟩
abbrev cX4_meets : ByteArray := prog_6_method_11_code
def yX4_meets : MethodName := ⟨RX4, "meets", "(IIJJ)Z"⟩
def RX5 : String := "DoubtTime$Past"
def TX5 : u_T := fun k => match k with
  | 0 => ("DoubtTime$Past", "states", "[LDoubtTime$State;", true)
  | 1 => ("DoubtTime$Past", "next", "I", false)
  | _ => ("DoubtTime$Past", "size", "I", false)
def tyX5 : Nat → FieldType := fun k => match k with
  | 0 => .array (.object "DoubtTime$State")
  | 1 => .int
  | _ => .int
abbrev wsX50 : List Cond := u_ws RX5 TX5 3
theorem nmX5 : ∀ a, a < 3 → ∀ b, b < 3 → a ≠ b → (TX5 a).2.1 ≠ (TX5 b).2.1 := by decide +kernel
theorem tyX5_ok : ∀ k, k < 3 → parseFieldDescriptor (TX5 k).2.2.1 = some (tyX5 k) := by decide +kernel
abbrev cX5_init : ByteArray := prog_7_method_1_code
def yX5_init : MethodName := ⟨RX5, "<init>", "()V"⟩
abbrev cX5_keep : ByteArray := prog_7_method_2_code
def yX5_keep : MethodName := ⟨RX5, "keep", "(LDoubtTime$State;)V"⟩
abbrev cX5_giveBack : ByteArray := prog_7_method_3_code
def yX5_giveBack : MethodName := ⟨RX5, "giveBack", "(LDoubtTime$State;)V"⟩
def RX6 : String := "DoubtTime$State"
def TX6 : u_T := fun k => match k with
  | 0 => ("DoubtTime$State", "masters", "LDoubtTime$Masters;", true)
  | 1 => ("DoubtTime$State", "commits", "LDoubtTime$Commits;", true)
  | _ => ("DoubtTime$State", "local", "I", false)
def tyX6 : Nat → FieldType := fun k => match k with
  | 0 => .object "DoubtTime$Masters"
  | 1 => .object "DoubtTime$Commits"
  | _ => .int
abbrev wsX60 : List Cond := u_ws RX6 TX6 3
theorem nmX6 : ∀ a, a < 3 → ∀ b, b < 3 → a ≠ b → (TX6 a).2.1 ≠ (TX6 b).2.1 := by decide +kernel
theorem tyX6_ok : ∀ k, k < 3 → parseFieldDescriptor (TX6 k).2.2.1 = some (tyX6 k) := by decide +kernel
abbrev cX6_init : ByteArray := prog_8_method_1_code
def yX6_init : MethodName := ⟨RX6, "<init>", "()V"⟩
abbrev cX6_clear : ByteArray := prog_8_method_2_code
def yX6_clear : MethodName := ⟨RX6, "clear", "()V"⟩
abbrev cX6_copyFrom : ByteArray := prog_8_method_3_code
def yX6_copyFrom : MethodName := ⟨RX6, "copyFrom", "(LDoubtTime$State;)V"⟩
def RX7 : String := "DoubtTime$Text"
def TX7 : u_T := fun k => match k with
  | 0 => ("DoubtTime$Text", "letters", "[C", true)
  | _ => ("DoubtTime$Text", "size", "I", false)
def tyX7 : Nat → FieldType := fun k => match k with
  | 0 => .array .char
  | _ => .int
abbrev wsX70 : List Cond := u_ws RX7 TX7 2
theorem nmX7 : ∀ a, a < 2 → ∀ b, b < 2 → a ≠ b → (TX7 a).2.1 ≠ (TX7 b).2.1 := by decide +kernel
theorem tyX7_ok : ∀ k, k < 2 → parseFieldDescriptor (TX7 k).2.2.1 = some (tyX7 k) := by decide +kernel
abbrev cX7_init : ByteArray := prog_9_method_1_code
def yX7_init : MethodName := ⟨RX7, "<init>", "()V"⟩
abbrev cX7_put : ByteArray := prog_9_method_2_code
def yX7_put : MethodName := ⟨RX7, "put", "(C)V"⟩
abbrev cX7_putAll : ByteArray := prog_9_method_3_code
def yX7_putAll : MethodName := ⟨RX7, "putAll", "(Ljava/lang/String;)V"⟩
abbrev cX7_letterAt : ByteArray := prog_9_method_4_code
def yX7_letterAt : MethodName := ⟨RX7, "letterAt", "(I)C"⟩
def RX8 : String := "DoubtTime"
def TX8 : u_T := fun k => match k with
  | 0 => ("DoubtTime", "text", "LDoubtTime$Text;", true)
  | 1 => ("DoubtTime", "item", "LDoubtTime$Item;", true)
  | 2 => ("DoubtTime", "now", "LDoubtTime$State;", true)
  | 3 => ("DoubtTime", "past", "LDoubtTime$Past;", true)
  | 4 => ("DoubtTime", "agreement", "LDoubtTime$Agreed;", true)
  | _ => ("DoubtTime", "theLeap", "LDoubtTime$Leap;", true)
def tyX8 : Nat → FieldType := fun k => match k with
  | 0 => .object "DoubtTime$Text"
  | 1 => .object "DoubtTime$Item"
  | 2 => .object "DoubtTime$State"
  | 3 => .object "DoubtTime$Past"
  | 4 => .object "DoubtTime$Agreed"
  | _ => .object "DoubtTime$Leap"
abbrev wsX80 : List Cond := u_ws RX8 TX8 6
theorem nmX8 : ∀ a, a < 6 → ∀ b, b < 6 → a ≠ b → (TX8 a).2.1 ≠ (TX8 b).2.1 := by decide +kernel
theorem tyX8_ok : ∀ k, k < 6 → parseFieldDescriptor (TX8 k).2.2.1 = some (tyX8 k) := by decide +kernel
abbrev cX8_init : ByteArray := prog_1_method_1_code
def yX8_init : MethodName := ⟨RX8, "<init>", "()V"⟩
abbrev cX8_write : ByteArray := prog_1_method_2_code
def yX8_write : MethodName := ⟨RX8, "write", "(I)I"⟩
abbrev cX8_wipe : ByteArray := prog_1_method_3_code
def yX8_wipe : MethodName := ⟨RX8, "wipe", "()I"⟩
abbrev cX8_fault : ByteArray := prog_1_method_4_code
def yX8_fault : MethodName := ⟨RX8, "fault", "()I"⟩
abbrev cX8_lay : ByteArray := prog_1_method_5_code
def yX8_lay : MethodName := ⟨RX8, "lay", "()I"⟩
abbrev cX8_layItems : ByteArray := prog_1_method_6_code
def yX8_layItems : MethodName := ⟨RX8, "layItems", "()V"⟩
abbrev cX8_layItem : ByteArray := prog_1_method_7_code
def yX8_layItem : MethodName := ⟨RX8, "layItem", "()V"⟩
abbrev cX8_tell : ByteArray := prog_1_method_8_code
def yX8_tell : MethodName := ⟨RX8, "tell", "(IJJ)I"⟩
abbrev cX8_strike : ByteArray := prog_1_method_9_code
def yX8_strike : MethodName := ⟨RX8, "strike", "(II)I"⟩
abbrev cX8_strikeLiars : ByteArray := prog_1_method_10_code
def yX8_strikeLiars : MethodName := ⟨RX8, "strikeLiars", "()I"⟩
abbrev cX8_drift : ByteArray := prog_1_method_11_code
def yX8_drift : MethodName := ⟨RX8, "drift", "(I)I"⟩
abbrev cX8_go : ByteArray := prog_1_method_12_code
def yX8_go : MethodName := ⟨RX8, "go", "(I)I"⟩
abbrev cX8_finishCommits : ByteArray := prog_1_method_13_code
def yX8_finishCommits : MethodName := ⟨RX8, "finishCommits", "()V"⟩
abbrev cX8_undo : ByteArray := prog_1_method_14_code
def yX8_undo : MethodName := ⟨RX8, "undo", "()I"⟩
abbrev cX8_span : ByteArray := prog_1_method_15_code
def yX8_span : MethodName := ⟨RX8, "span", "(II)J"⟩
abbrev cX8_agreed : ByteArray := prog_1_method_16_code
def yX8_agreed : MethodName := ⟨RX8, "agreed", "(I)J"⟩
abbrev cX8_good : ByteArray := prog_1_method_17_code
def yX8_good : MethodName := ⟨RX8, "good", "()I"⟩
abbrev cX8_in : ByteArray := prog_1_method_18_code
def yX8_in : MethodName := ⟨RX8, "in", "(J)I"⟩
abbrev cX8_liars : ByteArray := prog_1_method_19_code
def yX8_liars : MethodName := ⟨RX8, "liars", "()I"⟩
abbrev cX8_lookAround : ByteArray := prog_1_method_20_code
def yX8_lookAround : MethodName := ⟨RX8, "lookAround", "()V"⟩
abbrev cX8_commit : ByteArray := prog_1_method_21_code
def yX8_commit : MethodName := ⟨RX8, "commit", "(II)I"⟩
abbrev cX8_commitOf : ByteArray := prog_1_method_22_code
def yX8_commitOf : MethodName := ⟨RX8, "commitOf", "(II)J"⟩
abbrev cX8_waiting : ByteArray := prog_1_method_23_code
def yX8_waiting : MethodName := ⟨RX8, "waiting", "(I)I"⟩
abbrev cX8_safe : ByteArray := prog_1_method_24_code
def yX8_safe : MethodName := ⟨RX8, "safe", "()J"⟩
abbrev cX8_read : ByteArray := prog_1_method_25_code
def yX8_read : MethodName := ⟨RX8, "read", "(IJ)I"⟩
abbrev cX8_between : ByteArray := prog_1_method_26_code
def yX8_between : MethodName := ⟨RX8, "between", "(IJJ)I"⟩
abbrev cX8_leap : ByteArray := prog_1_method_27_code
def yX8_leap : MethodName := ⟨RX8, "leap", "(I)J"⟩
abbrev cX8_smeared : ByteArray := prog_1_method_28_code
def yX8_smeared : MethodName := ⟨RX8, "smeared", "(J)J"⟩
abbrev cX8_back : ByteArray := prog_1_method_29_code
def yX8_back : MethodName := ⟨RX8, "back", "(J)J"⟩
abbrev cX8_count : ByteArray := prog_1_method_30_code
def yX8_count : MethodName := ⟨RX8, "count", "(I)I"⟩
abbrev cX8_isMaster : ByteArray := prog_1_method_31_code
def yX8_isMaster : MethodName := ⟨RX8, "isMaster", "(J)Z"⟩
abbrev cX8_isKey : ByteArray := prog_1_method_32_code
def yX8_isKey : MethodName := ⟨RX8, "isKey", "(I)Z"⟩
abbrev cX8_isDrift : ByteArray := prog_1_method_33_code
def yX8_isDrift : MethodName := ⟨RX8, "isDrift", "(J)Z"⟩
abbrev cX8_isToldSpan : ByteArray := prog_1_method_34_code
def yX8_isToldSpan : MethodName := ⟨RX8, "isToldSpan", "(JJ)Z"⟩
abbrev cX8_isAsked : ByteArray := prog_1_method_35_code
def yX8_isAsked : MethodName := ⟨RX8, "isAsked", "(J)Z"⟩
abbrev cX8_isLeap : ByteArray := prog_1_method_36_code
def yX8_isLeap : MethodName := ⟨RX8, "isLeap", "(JJJJ)Z"⟩
def RX9 : String := "DoubtTimeModel"
def TX9 : u_T := fun k => match k with
  | 0 => ("DoubtTimeModel", "now", "[J", true)
  | 1 => ("DoubtTimeModel", "past", "[J", true)
  | 2 => ("DoubtTimeModel", "changes", "I", false)
  | 3 => ("DoubtTimeModel", "text", "[I", true)
  | 4 => ("DoubtTimeModel", "letters", "I", false)
  | 5 => ("DoubtTimeModel", "at", "I", false)
  | 6 => ("DoubtTimeModel", "made", "[J", true)
  | 7 => ("DoubtTimeModel", "leapRead", "[J", true)
  | 8 => ("DoubtTimeModel", "leapNow", "[J", true)
  | 9 => ("DoubtTimeModel", "low", "[J", true)
  | 10 => ("DoubtTimeModel", "high", "[J", true)
  | 11 => ("DoubtTimeModel", "spans", "I", false)
  | 12 => ("DoubtTimeModel", "most", "I", false)
  | 13 => ("DoubtTimeModel", "rowBegin", "J", false)
  | _ => ("DoubtTimeModel", "rowEnd", "J", false)
def tyX9 : Nat → FieldType := fun k => match k with
  | 0 => .array .long
  | 1 => .array .long
  | 2 => .int
  | 3 => .array .int
  | 4 => .int
  | 5 => .int
  | 6 => .array .long
  | 7 => .array .long
  | 8 => .array .long
  | 9 => .array .long
  | 10 => .array .long
  | 11 => .int
  | 12 => .int
  | 13 => .long
  | _ => .long
abbrev wsX90 : List Cond := u_ws RX9 TX9 15
theorem nmX9 : ∀ a, a < 15 → ∀ b, b < 15 → a ≠ b → (TX9 a).2.1 ≠ (TX9 b).2.1 := by decide +kernel
theorem tyX9_ok : ∀ k, k < 15 → parseFieldDescriptor (TX9 k).2.2.1 = some (tyX9 k) := by decide +kernel
abbrev cX9_init : ByteArray := prog_11_method_1_code
def yX9_init : MethodName := ⟨RX9, "<init>", "()V"⟩
abbrev cX9_within : ByteArray := prog_11_method_2_code
def yX9_within : MethodName := ⟨RX9, "within", "(JJJ)Z"⟩
abbrev cX9_begin : ByteArray := prog_11_method_3_code
def yX9_begin : MethodName := ⟨RX9, "begin", "()V"⟩
abbrev cX9_putMaster : ByteArray := prog_11_method_4_code
def yX9_putMaster : MethodName := ⟨RX9, "putMaster", "(IJJ)V"⟩
abbrev cX9_putLeap : ByteArray := prog_11_method_5_code
def yX9_putLeap : MethodName := ⟨RX9, "putLeap", "(JJJJ)V"⟩
abbrev cX9_take : ByteArray := prog_11_method_6_code
def yX9_take : MethodName := ⟨RX9, "take", "()V"⟩
abbrev cX9_takeNumber : ByteArray := prog_11_method_7_code
def yX9_takeNumber : MethodName := ⟨RX9, "takeNumber", "()J"⟩
abbrev cX9_takeSign : ByteArray := prog_11_method_8_code
def yX9_takeSign : MethodName := ⟨RX9, "takeSign", "(I)Z"⟩
abbrev cX9_readMaster : ByteArray := prog_11_method_9_code
def yX9_readMaster : MethodName := ⟨RX9, "readMaster", "()Z"⟩
abbrev cX9_readLeap : ByteArray := prog_11_method_10_code
def yX9_readLeap : MethodName := ⟨RX9, "readLeap", "()Z"⟩
abbrev cX9_readItem : ByteArray := prog_11_method_11_code
def yX9_readItem : MethodName := ⟨RX9, "readItem", "()Z"⟩
abbrev cX9_readText : ByteArray := prog_11_method_12_code
def yX9_readText : MethodName := ⟨RX9, "readText", "()I"⟩
abbrev cX9_write : ByteArray := prog_11_method_13_code
def yX9_write : MethodName := ⟨RX9, "write", "(I)I"⟩
abbrev cX9_wipe : ByteArray := prog_11_method_14_code
def yX9_wipe : MethodName := ⟨RX9, "wipe", "()I"⟩
abbrev cX9_fault : ByteArray := prog_11_method_15_code
def yX9_fault : MethodName := ⟨RX9, "fault", "()I"⟩
abbrev cX9_lay : ByteArray := prog_11_method_16_code
def yX9_lay : MethodName := ⟨RX9, "lay", "()I"⟩
abbrev cX9_note : ByteArray := prog_11_method_17_code
def yX9_note : MethodName := ⟨RX9, "note", "()V"⟩
abbrev cX9_undo : ByteArray := prog_11_method_18_code
def yX9_undo : MethodName := ⟨RX9, "undo", "()I"⟩
abbrev cX9_isMaster : ByteArray := prog_11_method_19_code
def yX9_isMaster : MethodName := ⟨RX9, "isMaster", "(I)Z"⟩
abbrev cX9_isStruck : ByteArray := prog_11_method_20_code
def yX9_isStruck : MethodName := ⟨RX9, "isStruck", "(I)Z"⟩
abbrev cX9_isHeard : ByteArray := prog_11_method_21_code
def yX9_isHeard : MethodName := ⟨RX9, "isHeard", "(I)Z"⟩
abbrev cX9_heardMany : ByteArray := prog_11_method_22_code
def yX9_heardMany : MethodName := ⟨RX9, "heardMany", "()I"⟩
abbrev cX9_tell : ByteArray := prog_11_method_23_code
def yX9_tell : MethodName := ⟨RX9, "tell", "(IJJ)I"⟩
abbrev cX9_strike : ByteArray := prog_11_method_24_code
def yX9_strike : MethodName := ⟨RX9, "strike", "(II)I"⟩
abbrev cX9_strikeLiars : ByteArray := prog_11_method_25_code
def yX9_strikeLiars : MethodName := ⟨RX9, "strikeLiars", "()I"⟩
abbrev cX9_drift : ByteArray := prog_11_method_26_code
def yX9_drift : MethodName := ⟨RX9, "drift", "(I)I"⟩
abbrev cX9_go : ByteArray := prog_11_method_27_code
def yX9_go : MethodName := ⟨RX9, "go", "(I)I"⟩
abbrev cX9_closeOpen : ByteArray := prog_11_method_28_code
def yX9_closeOpen : MethodName := ⟨RX9, "closeOpen", "()I"⟩
abbrev cX9_spanOf : ByteArray := prog_11_method_29_code
def yX9_spanOf : MethodName := ⟨RX9, "spanOf", "(IIJ)J"⟩
abbrev cX9_manyAt : ByteArray := prog_11_method_30_code
def yX9_manyAt : MethodName := ⟨RX9, "manyAt", "(J)I"⟩
abbrev cX9_sameTo : ByteArray := prog_11_method_31_code
def yX9_sameTo : MethodName := ⟨RX9, "sameTo", "(J)J"⟩
abbrev cX9_find : ByteArray := prog_11_method_32_code
def yX9_find : MethodName := ⟨RX9, "find", "(J)V"⟩
abbrev cX9_isGood : ByteArray := prog_11_method_33_code
def yX9_isGood : MethodName := ⟨RX9, "isGood", "()Z"⟩
abbrev cX9_span : ByteArray := prog_11_method_34_code
def yX9_span : MethodName := ⟨RX9, "span", "(II)J"⟩
abbrev cX9_agreed : ByteArray := prog_11_method_35_code
def yX9_agreed : MethodName := ⟨RX9, "agreed", "(I)J"⟩
abbrev cX9_good : ByteArray := prog_11_method_36_code
def yX9_good : MethodName := ⟨RX9, "good", "()I"⟩
abbrev cX9_in : ByteArray := prog_11_method_37_code
def yX9_in : MethodName := ⟨RX9, "in", "(J)I"⟩
abbrev cX9_liarsNow : ByteArray := prog_11_method_38_code
def yX9_liarsNow : MethodName := ⟨RX9, "liarsNow", "()I"⟩
abbrev cX9_liars : ByteArray := prog_11_method_39_code
def yX9_liars : MethodName := ⟨RX9, "liars", "()I"⟩
abbrev cX9_ones : ByteArray := prog_11_method_40_code
def yX9_ones : MethodName := ⟨RX9, "ones", "(I)I"⟩
abbrev cX9_openMany : ByteArray := prog_11_method_41_code
def yX9_openMany : MethodName := ⟨RX9, "openMany", "()I"⟩
abbrev cX9_latest : ByteArray := prog_11_method_42_code
def yX9_latest : MethodName := ⟨RX9, "latest", "()J"⟩
abbrev cX9_commit : ByteArray := prog_11_method_43_code
def yX9_commit : MethodName := ⟨RX9, "commit", "(II)I"⟩
abbrev cX9_isCommit : ByteArray := prog_11_method_44_code
def yX9_isCommit : MethodName := ⟨RX9, "isCommit", "(I)Z"⟩
abbrev cX9_commitOf : ByteArray := prog_11_method_45_code
def yX9_commitOf : MethodName := ⟨RX9, "commitOf", "(II)J"⟩
abbrev cX9_waiting : ByteArray := prog_11_method_46_code
def yX9_waiting : MethodName := ⟨RX9, "waiting", "(I)I"⟩
abbrev cX9_safeNow : ByteArray := prog_11_method_47_code
def yX9_safeNow : MethodName := ⟨RX9, "safeNow", "()J"⟩
abbrev cX9_safe : ByteArray := prog_11_method_48_code
def yX9_safe : MethodName := ⟨RX9, "safe", "()J"⟩
abbrev cX9_read : ByteArray := prog_11_method_49_code
def yX9_read : MethodName := ⟨RX9, "read", "(IJ)I"⟩
abbrev cX9_between : ByteArray := prog_11_method_50_code
def yX9_between : MethodName := ⟨RX9, "between", "(IJJ)I"⟩
abbrev cX9_leap : ByteArray := prog_11_method_51_code
def yX9_leap : MethodName := ⟨RX9, "leap", "(I)J"⟩
abbrev cX9_smear : ByteArray := prog_11_method_52_code
def yX9_smear : MethodName := ⟨RX9, "smear", "(J)J"⟩
abbrev cX9_smeared : ByteArray := prog_11_method_53_code
def yX9_smeared : MethodName := ⟨RX9, "smeared", "(J)J"⟩
abbrev cX9_back : ByteArray := prog_11_method_54_code
def yX9_back : MethodName := ⟨RX9, "back", "(J)J"⟩
abbrev cX9_count : ByteArray := prog_11_method_55_code
def yX9_count : MethodName := ⟨RX9, "count", "(I)I"⟩
def RJ6 : String := "java/lang/Integer"
def TJ6 : u_T := fun k => match k with
  | _ => ("", "", "", false)
def tyJ6 : Nat → FieldType := fun k => match k with
  | _ => .int
abbrev wsJ60 : List Cond := u_ws RJ6 TJ6 0
theorem nmJ6 : ∀ a, a < 0 → ∀ b, b < 0 → a ≠ b → (TJ6 a).2.1 ≠ (TJ6 b).2.1 := by decide +kernel
theorem tyJ6_ok : ∀ k, k < 0 → parseFieldDescriptor (TJ6 k).2.2.1 = some (tyJ6 k) := by decide +kernel
abbrev cJ6_bitCount_0f7a4 : ByteArray := prog_12_method_49_code
def yJ6_bitCount_0f7a4 : MethodName := ⟨RJ6, "bitCount", "(I)I"⟩
def RJ9 : String := "java/lang/Math"
def TJ9 : u_T := fun k => match k with
  | _ => ("", "", "", false)
def tyJ9 : Nat → FieldType := fun k => match k with
  | _ => .int
abbrev wsJ90 : List Cond := u_ws RJ9 TJ9 0
theorem nmJ9 : ∀ a, a < 0 → ∀ b, b < 0 → a ≠ b → (TJ9 a).2.1 ≠ (TJ9 b).2.1 := by decide +kernel
theorem tyJ9_ok : ∀ k, k < 0 → parseFieldDescriptor (TJ9 k).2.2.1 = some (tyJ9 k) := by decide +kernel
abbrev cJ9_max_f86c9 : ByteArray := prog_13_method_66_code
def yJ9_max_f86c9 : MethodName := ⟨RJ9, "max", "(JJ)J"⟩
abbrev cJ9_min_7cf53 : ByteArray := prog_13_method_69_code
def yJ9_min_7cf53 : MethodName := ⟨RJ9, "min", "(II)I"⟩
abbrev cJ9_min_f86c9 : ByteArray := prog_13_method_70_code
def yJ9_min_f86c9 : MethodName := ⟨RJ9, "min", "(JJ)J"⟩
def RJ0 : String := "java/lang/String"
def TJ0 : u_T := fun k => match k with
  | _ => ("", "", "", false)
def tyJ0 : Nat → FieldType := fun k => match k with
  | _ => .int
abbrev wsJ00 : List Cond := u_ws RJ0 TJ0 0
theorem nmJ0 : ∀ a, a < 0 → ∀ b, b < 0 → a ≠ b → (TJ0 a).2.1 ≠ (TJ0 b).2.1 := by decide +kernel
theorem tyJ0_ok : ∀ k, k < 0 → parseFieldDescriptor (TJ0 k).2.2.1 = some (tyJ0 k) := by decide +kernel
abbrev cJ0_length_8abf5 : ByteArray := prog_14_method_54_code
def yJ0_length_8abf5 : MethodName := ⟨RJ0, "length", "()I"⟩
abbrev cJ0_charAt_5068e : ByteArray := prog_14_method_56_code
def yJ0_charAt_5068e : MethodName := ⟨RJ0, "charAt", "(I)C"⟩
abbrev cJ0_coder_7d493 : ByteArray := prog_14_method_152_code
def yJ0_coder_7d493 : MethodName := ⟨RJ0, "coder", "()B"⟩
abbrev cJ0_isLatin1_aae02 : ByteArray := prog_14_method_154_code
def yJ0_isLatin1_aae02 : MethodName := ⟨RJ0, "isLatin1", "()Z"⟩
abbrev cJ0_checkIndex_df160 : ByteArray := prog_14_method_155_code
def yJ0_checkIndex_df160 : MethodName := ⟨RJ0, "checkIndex", "(II)V"⟩
def RJ1 : String := "java/lang/StringLatin1"
def TJ1 : u_T := fun k => match k with
  | _ => ("", "", "", false)
def tyJ1 : Nat → FieldType := fun k => match k with
  | _ => .int
abbrev wsJ10 : List Cond := u_ws RJ1 TJ1 0
theorem nmJ1 : ∀ a, a < 0 → ∀ b, b < 0 → a ≠ b → (TJ1 a).2.1 ≠ (TJ1 b).2.1 := by decide +kernel
theorem tyJ1_ok : ∀ k, k < 0 → parseFieldDescriptor (TJ1 k).2.2.1 = some (tyJ1 k) := by decide +kernel
abbrev cJ1_charAt_3b067 : ByteArray := prog_15_method_2_code
def yJ1_charAt_3b067 : MethodName := ⟨RJ1, "charAt", "([BI)C"⟩
def RJ2 : String := "java/lang/StringUTF16"
def TJ2 : u_T := fun k => match k with
  | _ => ("", "", "", false)
def tyJ2 : Nat → FieldType := fun k => match k with
  | _ => .int
abbrev wsJ20 : List Cond := u_ws RJ2 TJ2 0
theorem nmJ2 : ∀ a, a < 0 → ∀ b, b < 0 → a ≠ b → (TJ2 a).2.1 ≠ (TJ2 b).2.1 := by decide +kernel
theorem tyJ2_ok : ∀ k, k < 0 → parseFieldDescriptor (TJ2 k).2.2.1 = some (tyJ2 k) := by decide +kernel
abbrev cJ2_getChar_3b067 : ByteArray := prog_16_method_5_code
def yJ2_getChar_3b067 : MethodName := ⟨RJ2, "getChar", "([BI)C"⟩
abbrev cJ2_length_9d52b : ByteArray := prog_16_method_6_code
def yJ2_length_9d52b : MethodName := ⟨RJ2, "length", "([B)I"⟩
abbrev cJ2_charAt_3b067 : ByteArray := prog_16_method_83_code
def yJ2_charAt_3b067 : MethodName := ⟨RJ2, "charAt", "([BI)C"⟩
abbrev cJ2_checkIndex_2214a : ByteArray := prog_16_method_91_code
def yJ2_checkIndex_2214a : MethodName := ⟨RJ2, "checkIndex", "(I[B)V"⟩
def RJ10 : String := "java/lang/System"
def TJ10 : u_T := fun k => match k with
  | _ => ("", "", "", false)
def tyJ10 : Nat → FieldType := fun k => match k with
  | _ => .int
abbrev wsJ100 : List Cond := u_ws RJ10 TJ10 0
theorem nmJ10 : ∀ a, a < 0 → ∀ b, b < 0 → a ≠ b → (TJ10 a).2.1 ≠ (TJ10 b).2.1 := by decide +kernel
theorem tyJ10_ok : ∀ k, k < 0 → parseFieldDescriptor (TJ10 k).2.2.1 = some (tyJ10 k) := by decide +kernel
def RJ3 : String := "jdk/internal/util/Preconditions"
def TJ3 : u_T := fun k => match k with
  | _ => ("", "", "", false)
def tyJ3 : Nat → FieldType := fun k => match k with
  | _ => .int
abbrev wsJ30 : List Cond := u_ws RJ3 TJ3 0
theorem nmJ3 : ∀ a, a < 0 → ∀ b, b < 0 → a ≠ b → (TJ3 a).2.1 ≠ (TJ3 b).2.1 := by decide +kernel
theorem tyJ3_ok : ∀ k, k < 0 → parseFieldDescriptor (TJ3 k).2.2.1 = some (tyJ3 k) := by decide +kernel
abbrev cJ3_checkIndex_8e157 : ByteArray := prog_18_method_11_code
def yJ3_checkIndex_8e157 : MethodName := ⟨RJ3, "checkIndex", "(IILjava/util/function/BiFunction;)I"⟩
def RL : String := "DoubtTimeLaw"
abbrev cL_law : ByteArray := code
def yL_law : MethodName := ⟨RL, "law", "([I)Z"⟩
abbrev vwCl : List vw_C := [(RX0, TX0, 5), (RX1, TX1, 7), (RX2, TX2, 3), (RX3, TX3, 4), (RX4, TX4, 6), (RX5, TX5, 3), (RX6, TX6, 3), (RX7, TX7, 2), (RX8, TX8, 6), (RX9, TX9, 15)]
